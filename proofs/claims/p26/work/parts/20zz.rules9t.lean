noncomputable section
def zk_gv2 (N : zk_N) (act wth env te le lm : Nat) (r : zk_V) (q : zk_G) : List zk_G := match zk_as 95 q with
  | some ([st, a', w', t', l', m'], [len, _]) => match zk_eqNs [a', w', t', l', m'] [act, wth, te, le, lm] with
    | true => [(96, [st, env], [len, r])]
    | false => []
  | _ => []
def zk_gv1 (N : zk_N) (q : zk_G) : List zk_G := match zk_as 90 q with
  | some ([act, wth, env, te, le, lm], [i, _, d, r, _]) => match zk_eqi (zk_fci N i) 97 && zk_nz N d with
    | true => N.2.2.2.flatMap (zk_gv2 N act wth env te le lm r)
    | false => []
  | _ => []
theorem zk_gv1_ok {E : zk_E} {N : zk_N} (hN : zk_ok E N) (hc : zk_cl N) {q : zk_G} (hq : q ∈ N.2.2.2) : ∀ x ∈ zk_gv1 N q, zk_tru E N.1 x := by
  have ht := zk_tru_of hN hc q hq
  intro x hx
  unfold zk_gv1 at hx
  split at hx
  · rename_i act wth env te le lm i K d r fi hu
    have e := zk_as_of hu
    subst e
    obtain ⟨h1, h2, h3⟩ := ht
    split at hx
    · rename_i c
      simp only [Bool.and_eq_true] at c
      obtain ⟨c1, c2⟩ := c
      have c1 := zk_fci_of (n := 97) hN c1
      have c2 := zk_nz_ok hN c2
      simp only [List.map_cons, List.map_nil, zq_6, zq_7, zq_8, zq_9, zq_20, zq_21, zq_22, zq_25, zq_26, zq_28, zq_30, zq_40, zq_51, zq_52, zq_53, zq_54, zq_55, zq_64, zq_65, zq_68, zq_72, zq_73, zq_85, zq_74, zq_75, zq_76, zq_71, zq_86, zq_87, zq_80, zq_41, zq_42, zq_43, zq_94, zq_95, zq_47, zq_48, zq_96, zq_97, zq_88, zq_89, zq_90, zq_93, zq_61, zq_62, zq_1, zq_2, zq_3, zq_4, zq_5, zx_90] at h1
      rw [c1] at h1
      obtain ⟨-, -, hF⟩ := h1
      have hF : zx_F 97 [E.2 act, E.2 wth, E.2 env, E.2 te, E.2 le, E.2 lm] [] (zk_i E K).toNat = ([zk_i E d, zk_i E r, zk_i E fi], []) := hF
      obtain ⟨y, hy, hx⟩ := List.mem_flatMap.mp hx
      have hty := zk_tru_of hN hc y hy
      unfold zk_gv2 at hx
      split at hx
      · rename_i st a' w' t' l' m' len hh hu2
        have e2 := zk_as_of hu2
        subst e2
        obtain ⟨k1, k2, k3⟩ := hty
        split at hx
        · rename_i hb
          have hb := zk_eqNs_of hb
          cases hb
          simp only [List.map_cons, List.map_nil, zq_6, zq_7, zq_8, zq_9, zq_20, zq_21, zq_22, zq_25, zq_26, zq_28, zq_30, zq_40, zq_51, zq_52, zq_53, zq_54, zq_55, zq_64, zq_65, zq_68, zq_72, zq_73, zq_85, zq_74, zq_75, zq_76, zq_71, zq_86, zq_87, zq_80, zq_41, zq_42, zq_43, zq_94, zq_95, zq_47, zq_48, zq_96, zq_97, zq_88, zq_89, zq_90, zq_93, zq_61, zq_62, zq_1, zq_2, zq_3, zq_4, zq_5] at k1
          rw [List.mem_singleton.mp hx]
          refine ⟨?_, fun a ha => ?_, fun v hv => ?_⟩
          · simp only [List.map_cons, List.map_nil, zq_6, zq_7, zq_8, zq_9, zq_20, zq_21, zq_22, zq_25, zq_26, zq_28, zq_30, zq_40, zq_51, zq_52, zq_53, zq_54, zq_55, zq_64, zq_65, zq_68, zq_72, zq_73, zq_85, zq_74, zq_75, zq_76, zq_71, zq_86, zq_87, zq_80, zq_41, zq_42, zq_43, zq_94, zq_95, zq_47, zq_48, zq_96, zq_97, zq_88, zq_89, zq_90, zq_93, zq_61, zq_62, zq_1, zq_2, zq_3, zq_4, zq_5]
            intro _
            exact zy_law_gv k1 (congrArg Prod.fst hF) c2
          · simp only [List.mem_cons, List.not_mem_nil, or_false] at ha
            rcases ha with rfl | rfl
            · exact k2 _ (by simp)
            · exact h2 _ (by simp)
          · simp only [List.mem_cons, List.not_mem_nil, or_false] at hv
            rcases hv with rfl | rfl
            · exact k3 _ (by simp)
            · exact h3 _ (by simp)
        · cases hx
      · cases hx
    · cases hx
  · cases hx
def zk_rgv : zk_Rl := zk_nr fun N => some (zk_addGs N (N.2.2.2.flatMap (zk_gv1 N)))
theorem zk_rgv_ok : zk_Rok zk_rgv := zk_nr_ok fun E n => zk_add_gd (f := fun N => N.2.2.2.flatMap (zk_gv1 N)) fun N hN hc hn x hx => by
  obtain ⟨y, hy1, hy2⟩ := List.mem_flatMap.mp hx
  rw [← hn]
  exact zk_gv1_ok hN hc hy1 x hy2
/-! A LAW'S CONTENT: what is laid lies at the beginning of rows, in both -/
theorem zx_89_88 {S0 S1 : zx_Rw} {R : List zx_Rw} {g id K p0 p1 : Int} {v : List Int} (h : zx_89 (S0 :: S1 :: R) (g :: id :: K :: p0 :: p1 :: v)) : zx_88 (S0 :: S1 :: R) (g :: id :: K :: p0 :: p1 :: v) := by
  obtain ⟨h1, h2, h3, h4, h5⟩ := h
  exact ⟨h1, h2, K.toNat, by omega, h4, h5⟩
theorem zx_ly_self {L : List Int} {S0 S1 : zx_Rw} {p0 p1 : Int} (h : zx_ly L S0 S1 p0 p1) : zx_ly L S1 S1 p0 p1 := ⟨h.1, h.2.1, fun _ _ => rfl, h.2.2.2⟩
/-- what lies behind, copied to the beginning -/
theorem zx_ly_dn {L : List Int} {S0 S1 f : zx_Rw} {p0 p1 k : Int} (h : zx_ly L S0 S1 p0 p1) (hk : p1 ≤ k + p0) (h1 : ∀ j : Nat, (j : Int) < k → f j = f (p0.toNat + j)) (h2 : ∀ j : Nat, p0.toNat ≤ j → f j = S1 j) : zx_ly L f f 0 (p1 - p0) := by
  obtain ⟨a1, a2, -, a4⟩ := h
  refine ⟨Int.le_refl _, by omega, fun _ _ => rfl, fun i hi => ?_⟩
  rw [show (0 : Int).toNat + i = i by simp, h1 i (by omega), h2 _ (by omega)]
  exact a4 i hi
theorem zx_ly_sl {L : List Int} {S0 S : zx_Rw} {p0 p1 : Int} (h : zx_ly L S0 S p0 p1) : zx_sl S p0.toNat L.length = L := by
  obtain ⟨a1, a2, -, a4⟩ := h
  have key : ∀ (M : List Int) (k : Nat), (∀ i : Nat, i < M.length → S (k + i) = M.getD i 0) → zx_sl S k M.length = M := by
    intro M
    induction M with
    | nil => exact fun _ _ => rfl
    | cons x M ih =>
      intro k hM
      show S k :: zx_sl S (k + 1) M.length = x :: M
      have h0 := hM 0 (by simp)
      rw [Nat.add_zero] at h0
      have h0 : S k = x := by rw [h0]; rfl
      rw [h0, ih (k + 1) fun i hi => by
        have := hM (i + 1) (by simpa using hi)
        rw [show k + 1 + i = k + (i + 1) by omega, this]
        rfl]
  exact key L p0.toNat a4
def zk_a88 (q : zk_G) : Option (Nat × Nat × List Nat × zk_V × zk_V × zk_V × zk_V × zk_V × List zk_V) := match Nat.beq q.1 88 || Nat.beq q.1 89 with
  | true => match q.2 with
    | (S0 :: S1 :: R, g :: i :: K :: p0 :: p1 :: v) => some (S0, S1, R, g, i, K, p0, p1, v)
    | _ => none
  | false => none
theorem zk_a88_of {E : zk_E} {n : Nat} {q : zk_G} {S0 S1 : Nat} {R : List Nat} {g i K p0 p1 : zk_V} {v : List zk_V} (hq : zk_tru E n q) (h : zk_a88 q = some (S0, S1, R, g, i, K, p0, p1, v)) : zx_88 (E.2 S0 :: E.2 S1 :: R.map E.2) (zk_i E g :: zk_i E i :: zk_i E K :: zk_i E p0 :: zk_i E p1 :: v.map (zk_i E)) ∧ (∀ a ∈ S0 :: S1 :: R, a < n) ∧ ∀ w ∈ g :: i :: K :: p0 :: p1 :: v, zk_sv n w := by
  obtain ⟨k, rs, vs⟩ := q
  unfold zk_a88 at h
  simp only at h
  split at h
  · rename_i hk
    split at h
    · rename_i heq
      cases heq
      cases h
      obtain ⟨h1, h2, h3⟩ := hq
      refine ⟨?_, h2, h3⟩
      rw [Bool.or_eq_true] at hk
      rcases hk with hk | hk
      · have hk := Nat.eq_of_beq_eq_true hk
        subst hk
        exact h1
      · have hk := Nat.eq_of_beq_eq_true hk
        subst hk
        exact zx_89_88 h1
    · cases h
  · cases h
/-! copies -/
def zk_c88 (N : zk_N) (q : zk_G) : List zk_G := match zk_a88 q with
  | some (S0, S1, R, g, i, K, p0, p1, v) => match !Nat.beq S0 S1 && zk_eqE N p0 (zk_c 0) && zk_n2 N (zk_vsub (zk_c 200) K) with
    | true => [(88, S1 :: S1 :: R, g :: i :: zk_c 200 :: p0 :: p1 :: v)]
    | false => []
  | none => []
def zk_c9b (N : zk_N) (f g : Nat) (n : zk_V) (q : zk_G) : List zk_G := match zk_a88 q with
  | some (S0, S1, R, g', i, K, p0, p1, v) => match Nat.beq S0 S1 && Nat.beq S1 g && zk_eqE N p0 (zk_c 0) && zk_n2 N (zk_vsub n p1) with
    | true => [(88, f :: f :: R, g' :: i :: K :: p0 :: p1 :: v)]
    | false => []
  | none => []
def zk_c9a (N : zk_N) (q : zk_G) : List zk_G := match zk_as 9 q with
  | some ([f, g, _], [sp, dp, n]) => match zk_eqE N sp (zk_c 0) && zk_eqE N dp (zk_c 0) with
    | true => N.2.2.2.flatMap (zk_c9b N f g n)
    | false => []
  | _ => []
theorem zk_8sv {n : Nat} {S S' : Nat} {R : List Nat} {g i K K' p0 p0' p1 p1' : zk_V} {v : List zk_V} {f : Nat} (hf : f < n) (h2 : ∀ a ∈ S :: S' :: R, a < n) (h3 : ∀ w ∈ g :: i :: K :: p0 :: p1 :: v, zk_sv n w) (hK : zk_sv n K') (hp0 : zk_sv n p0') (hp1 : zk_sv n p1') : (∀ a ∈ f :: f :: R, a < n) ∧ ∀ w ∈ g :: i :: K' :: p0' :: p1' :: v, zk_sv n w := by
  refine ⟨fun a ha => ?_, fun w hw => ?_⟩
  · rcases List.mem_cons.mp ha with rfl | ha
    · exact hf
    · rcases List.mem_cons.mp ha with rfl | ha
      · exact hf
      · exact h2 _ (List.mem_cons_of_mem _ (List.mem_cons_of_mem _ ha))
  · simp only [List.mem_cons] at hw
    rcases hw with rfl | rfl | rfl | rfl | rfl | hw
    · exact h3 _ (by simp)
    · exact h3 _ (by simp)
    · exact hK
    · exact hp0
    · exact hp1
    · exact h3 _ (by simp [hw])
theorem zk_c88_ok {E : zk_E} {N : zk_N} (hN : zk_ok E N) (hc : zk_cl N) {q : zk_G} (hq : q ∈ N.2.2.2) : ∀ x ∈ zk_c88 N q, zk_tru E N.1 x := by
  have ht := zk_tru_of hN hc q hq
  intro x hx
  unfold zk_c88 at hx
  split at hx
  · rename_i S0 S1 R g i K p0 p1 v hu
    obtain ⟨⟨t1, t2, K', t3, t4, t5⟩, h2, h3⟩ := zk_a88_of ht hu
    split at hx
    · rename_i c
      simp only [Bool.and_eq_true] at c
      have c3 := zk_n2_ok hN c.2
      rw [zk_vsub_i, zk_c_i] at c3
      rw [List.mem_singleton.mp hx]
      obtain ⟨s1, s2⟩ := zk_8sv (h2 S1 (by simp)) h2 h3 (K' := zk_c 200) zk_c_sv (h3 p0 (by simp)) (h3 p1 (by simp))
      refine ⟨?_, s1, s2⟩
      show zx_88 (E.2 S1 :: E.2 S1 :: R.map E.2) (zk_i E g :: zk_i E i :: zk_i E (zk_c 200) :: zk_i E p0 :: zk_i E p1 :: v.map (zk_i E))
      exact ⟨t1, t2, K', by rw [zk_c_i]; omega, t4, zx_ly_self t5⟩
    · cases hx
  · cases hx
theorem zk_c9a_ok {E : zk_E} {N : zk_N} (hN : zk_ok E N) (hc : zk_cl N) {q : zk_G} (hq : q ∈ N.2.2.2) : ∀ x ∈ zk_c9a N q, zk_tru E N.1 x := by
  have ht := zk_tru_of hN hc q hq
  intro x hx
  unfold zk_c9a at hx
  split at hx
  · rename_i f g h' sp dp n hu
    have e := zk_as_of hu
    subst e
    obtain ⟨h1, h2, h3⟩ := ht
    simp only [List.map_cons, List.map_nil, zq_6, zq_7, zq_8, zq_9, zq_20, zq_21, zq_22, zq_25, zq_26, zq_28, zq_30, zq_40, zq_51, zq_52, zq_53, zq_54, zq_55, zq_64, zq_65, zq_68, zq_72, zq_73, zq_85, zq_74, zq_75, zq_76, zq_71, zq_86, zq_87, zq_80, zq_41, zq_42, zq_43, zq_94, zq_95, zq_47, zq_48, zq_96, zq_97, zq_88, zq_89, zq_90, zq_93, zq_61, zq_62, zq_1, zq_2, zq_3, zq_4, zq_5] at h1
    split at hx
    · rename_i c
      rw [Bool.and_eq_true] at c
      have c1 := zk_eqE_of hN c.1
      have c2 := zk_eqE_of hN c.2
      rw [zk_c_i] at c1 c2
      obtain ⟨y, hy, hx1⟩ := List.mem_flatMap.mp hx
      unfold zk_c9b at hx1
      split at hx1
      · rename_i S0 S1 R g' i K p0 p1 v hu2
        obtain ⟨⟨t1, t2, K', t3, t4, t5⟩, k2, k3⟩ := zk_a88_of (zk_tru_of hN hc y hy) hu2
        split at hx1
        · rename_i d
          simp only [Bool.and_eq_true] at d
          obtain ⟨⟨⟨d1, d2⟩, d3⟩, d4⟩ := d
          have d2 := Nat.eq_of_beq_eq_true d2
          have d3 := zk_eqE_of hN d3
          have d4 := zk_n2_ok hN d4
          rw [zk_vsub_i] at d4
          rw [zk_c_i] at d3
          subst d2
          rw [List.mem_singleton.mp hx1]
          obtain ⟨s1, s2⟩ := zk_8sv (h2 f (by simp)) k2 k3 (k3 K (by simp)) (k3 p0 (by simp)) (k3 p1 (by simp))
          refine ⟨?_, s1, s2⟩
          show zx_88 (E.2 f :: E.2 f :: R.map E.2) (zk_i E g' :: zk_i E i :: zk_i E K :: zk_i E p0 :: zk_i E p1 :: v.map (zk_i E))
          refine ⟨t1, t2, K', t3, t4, ?_⟩
          obtain ⟨a1, a2, a3, a4⟩ := t5
          refine ⟨a1, a2, fun _ _ => rfl, fun j hj => ?_⟩
          rw [← a4 j hj, h1, c1, c2, d3]
          show (if (0 : Int).toNat ≤ (0 : Int).toNat + j ∧ _ then _ else _) = _
          rw [if_pos (by constructor <;> (simp; try omega))]
          simp
        · cases hx1
      · cases hx1
    · cases hx
  · cases hx
def zk_r9c : zk_Rl := zk_nr fun N => some (zk_addGs N (N.2.2.2.flatMap fun q => zk_c88 N q ++ zk_c9a N q))
theorem zk_r9c_ok : zk_Rok zk_r9c := zk_nr_ok fun E n => zk_add_gd (f := fun N => N.2.2.2.flatMap fun q => zk_c88 N q ++ zk_c9a N q) fun N hN hc hn x hx => by
  obtain ⟨y, hy1, hy2⟩ := List.mem_flatMap.mp hx
  rw [← hn]
  rcases List.mem_append.mp hy2 with h | h
  · exact zk_c88_ok hN hc hy1 x h
  · exact zk_c9a_ok hN hc hy1 x h
/-! what was read, put at the beginning -/
def zk_45c (N : zk_N) (f f1 : Nat) (k off : zk_V) (q : zk_G) : List zk_G := match zk_a88 q with
  | some (_, S1, R, g, i, K, p0, p1, v) => match Nat.beq S1 f1 && zk_eqE N p0 off && zk_n2 N (zk_vsub (zk_vadd k off) p1) && zk_n2 N (zk_vsub (zk_c 200) K) with
    | true => [(88, f :: f :: R, g :: i :: zk_c 200 :: zk_c 0 :: zk_vsub p1 off :: v)]
    | false => []
  | none => []
def zk_45e (N : zk_N) (f lm tp : Nat) (g i n v : zk_V) (st : List zk_V) (q : zk_G) : List zk_G := match zk_as2 q with
  | some (lx, l', p, w) => match Nat.beq l' lm && zk_eqE N p (zk_c 0) && zk_eqE N w v with
    | true => [(48, [f, lx, tp], g :: i :: zk_c 0 :: zk_c 0 :: n :: st)]
    | false => []
  | none => []
def zk_45d (N : zk_N) (f f1 : Nat) (k off : zk_V) (q : zk_G) : List zk_G := match zk_as 48 q with
  | some ([S, lm, tp], g :: i :: p0 :: j :: n :: st) => match Nat.beq S f1 && zk_eqE N p0 off && zk_eqE N j (zk_c 1), zk_frt N 8 lm (zk_c 1) with
    | true, some v => match zk_n2 N (zk_vsub k v) with
      | true => N.2.2.2.flatMap (zk_45e N f lm tp g i n v st)
      | false => []
    | _, _ => []
  | _ => []
def zk_45b (N : zk_N) (f : Nat) (k off : zk_V) (q : zk_G) : List zk_G := match zk_as65 q with
  | some (x, f1, _, b) => match Nat.beq x f && zk_n2 N (zk_vsub off b) && zk_n2 N k with
    | true => N.2.2.2.flatMap (fun y => zk_45c N f f1 k off y ++ zk_45d N f f1 k off y)
    | false => []
  | none => []
def zk_45a (N : zk_N) (q : zk_G) : List zk_G := match zk_as 25 q with
  | some ([f], [k, off]) => N.2.2.2.flatMap (zk_45b N f k off)
  | _ => []
theorem zk_45a_ok {E : zk_E} {N : zk_N} (hN : zk_ok E N) (hc : zk_cl N) {q : zk_G} (hq : q ∈ N.2.2.2) : ∀ x ∈ zk_45a N q, zk_tru E N.1 x := by
  have ht := zk_tru_of hN hc q hq
  intro x hx
  unfold zk_45a at hx
  split at hx
  · rename_i f k off hu
    have e := zk_as_of hu
    subst e
    obtain ⟨h1, h2, h3⟩ := ht
    simp only [List.map_cons, List.map_nil, zq_6, zq_7, zq_8, zq_9, zq_20, zq_21, zq_22, zq_25, zq_26, zq_28, zq_30, zq_40, zq_51, zq_52, zq_53, zq_54, zq_55, zq_64, zq_65, zq_68, zq_72, zq_73, zq_85, zq_74, zq_75, zq_76, zq_71, zq_86, zq_87, zq_80, zq_41, zq_42, zq_43, zq_94, zq_95, zq_47, zq_48, zq_96, zq_97, zq_88, zq_89, zq_90, zq_93, zq_61, zq_62, zq_1, zq_2, zq_3, zq_4, zq_5] at h1
    obtain ⟨b1, b2, b3, b4⟩ := h1
    obtain ⟨y, hy, hx1⟩ := List.mem_flatMap.mp hx
    unfold zk_45b at hx1
    split at hx1
    · rename_i x' f1 a b hu2
      obtain ⟨t1, t2, t3, -, -⟩ := zk_as65_of (zk_tru_of hN hc y hy) hu2
      split at hx1
      · rename_i c
        simp only [Bool.and_eq_true] at c
        obtain ⟨⟨c1, c2⟩, c3⟩ := c
        have c1 := Nat.eq_of_beq_eq_true c1
        have c2 := zk_n2_ok hN c2
        rw [zk_vsub_i] at c2
        subst c1
        have hup : ∀ j : Nat, (zk_i E off).toNat ≤ j → E.2 x' j = E.2 f1 j := fun j hj => t1 j (Or.inr (by omega))
        obtain ⟨u, hu', hx2⟩ := List.mem_flatMap.mp hx1
        have htu := zk_tru_of hN hc u hu'
        rcases List.mem_append.mp hx2 with hx3 | hx3
        · unfold zk_45c at hx3
          split at hx3
          · rename_i S0 S1 R g i K p0 p1 v hu3
            obtain ⟨⟨s1, s2, K', s3, s4, s5⟩, k2, k3⟩ := zk_a88_of htu hu3
            split at hx3
            · rename_i d
              simp only [Bool.and_eq_true] at d
              obtain ⟨⟨⟨d1, d2⟩, d3⟩, d4⟩ := d
              have d1 := Nat.eq_of_beq_eq_true d1
              have d2 := zk_eqE_of hN d2
              have d3 := zk_n2_ok hN d3
              have d4 := zk_n2_ok hN d4
              rw [zk_vsub_i, zk_vadd_i] at d3
              rw [zk_vsub_i, zk_c_i] at d4
              subst d1
              rw [List.mem_singleton.mp hx3]
              obtain ⟨z1, z2⟩ := zk_8sv t2 k2 k3 (K' := zk_c 200) zk_c_sv (p0' := zk_c 0) zk_c_sv (zk_vsub_sv (k3 p1 (by simp)) (h3 off (by simp)))
              refine ⟨?_, z1, z2⟩
              show zx_88 (E.2 x' :: E.2 x' :: R.map E.2) (zk_i E g :: zk_i E i :: zk_i E (zk_c 200) :: zk_i E (zk_c 0) :: zk_i E (zk_vsub p1 off) :: v.map (zk_i E))
              rw [d2] at s5
              have r := zx_ly_dn s5 (by omega) b4 hup
              rw [zk_c_i, zk_c_i, zk_vsub_i]
              exact ⟨s1, s2, K', by omega, s4, r⟩
            · cases hx3
          · cases hx3
        · unfold zk_45d at hx3
          split at hx3
          · rename_i S lm tp g i p0 j n st hu3
            have e3 := zk_as_of hu3
            subst e3
            obtain ⟨s1, s2, s3⟩ := htu
            have s1 : zx_48 (E.2 S) (E.2 lm) [E.2 tp] (zk_i E g) (zk_i E i) (zk_i E p0) (zk_i E j) (zk_i E n) (st.map (zk_i E)) := s1
            obtain ⟨s4, s5, K', s6, s7⟩ := s1
            split at hx3
            · rename_i v d hv
              simp only [Bool.and_eq_true] at d
              obtain ⟨⟨d1, d2⟩, d3⟩ := d
              have d1 := Nat.eq_of_beq_eq_true d1
              have d2 := zk_eqE_of hN d2
              have d3 := zk_eqE_of hN d3
              have ev := zk_frt_of hN hv
              rw [zk_c_i] at d3 ev
              subst d1
              split at hx3
              · rename_i d4
                have d4 := zk_n2_ok hN d4
                rw [zk_vsub_i] at d4
                obtain ⟨w', hw', hx4⟩ := List.mem_flatMap.mp hx3
                unfold zk_45e at hx4
                split at hx4
                · rename_i lx l' p w hu4
                  obtain ⟨r1, r2, r3, r4, r5⟩ := zk_as2_of (zk_tru_of hN hc w' hw') hu4
                  split at hx4
                  · rename_i f4
                    simp only [Bool.and_eq_true] at f4
                    obtain ⟨⟨f1', f2⟩, f3⟩ := f4
                    have f1' := Nat.eq_of_beq_eq_true f1'
                    have f2 := zk_eqE_of hN f2
                    have f3 := zk_eqE_of hN f3
                    rw [zk_c_i] at f2
                    subst f1'
                    rw [List.mem_singleton.mp hx4]
                    refine ⟨?_, fun a ha => ?_, fun y hy => ?_⟩
                    · show zx_48 (E.2 x') (E.2 lx) [E.2 tp] (zk_i E g) (zk_i E i) (zk_i E (zk_c 0)) (zk_i E (zk_c 0)) (zk_i E n) (st.map (zk_i E))
                      rw [zk_c_i]
                      refine ⟨s4, s5, K', s6, ?_⟩
                      have el : E.2 lx (0 : Int).toNat = zk_i E v := by
                        rw [r1, f2, f3]
                        rfl
                      rw [d2, d3] at s7
                      have ev : E.2 l' (1 : Int).toNat = zk_i E v := ev
                      rw [ev] at s7
                      have r := zx_ly_dn s7 (by omega) b4 hup
                      rw [el]
                      rw [show zk_i E off + zk_i E v - zk_i E off = 0 + zk_i E v by omega] at r
                      exact r
                    · simp only [List.mem_cons, List.not_mem_nil, or_false] at ha
                      rcases ha with rfl | rfl | rfl
                      · exact t2
                      · exact r2
                      · exact s2 _ (by simp)
                    · simp only [List.mem_cons] at hy
                      rcases hy with rfl | rfl | rfl | rfl | rfl | hy
                      · exact s3 _ (by simp)
                      · exact s3 _ (by simp)
                      · exact zk_c_sv
                      · exact zk_c_sv
                      · exact s3 _ (by simp)
                      · exact s3 _ (by simp [hy])
                  · cases hx4
                · cases hx4
              · cases hx3
            · cases hx3
          · cases hx3
      · cases hx1
    · cases hx1
  · cases hx
def zk_r45 : zk_Rl := zk_nr fun N => some (zk_addGs N (N.2.2.2.flatMap (zk_45a N)))
theorem zk_r45_ok : zk_Rok zk_r45 := zk_nr_ok fun E n => zk_add_gd (f := fun N => N.2.2.2.flatMap (zk_45a N)) fun N hN hc hn x hx => by
  obtain ⟨y, hy1, hy2⟩ := List.mem_flatMap.mp hx
  rw [← hn]
  exact zk_45a_ok hN hc hy1 x hy2
end
