noncomputable section
/-! WHAT IS LAID: a turn more -/
def zk_pnk (l : List zx_Pc) : Bool := l.all fun p => zk_nk p.1 && p.2.2.1.all zk_nk
theorem zx_p1_nk {cl : zx_Cl} {ll : zx_Ll} {R : List zx_Rw} {P S : List Int} {k k' : Int} {q : Nat × List (List zx_I) × List Nat} (h : q.2.1.all zk_nk = true) : zx_p1 cl ll R P k S q = zx_p1 cl ll R P k' S q := by
  obtain ⟨d, xs, rs⟩ := q
  unfold zx_p1
  split
  · rename_i x l r heq
    cases heq
    rw [List.all_cons, Bool.and_eq_true] at h
    rw [zx_ev_nk (k' := k') h.1]
  · rename_i e xs i rs heq
    cases heq
    rw [List.all_cons, Bool.and_eq_true] at h
    rw [zx_ev_nk (k' := k') h.1, zx_evm_nk (k' := k') h.2]
  · rfl
theorem zx_ps_nk {cl : zx_Cl} {ll : zx_Ll} {R : List zx_Rw} {P S : List Int} {k k' : Int} : ∀ {l : List zx_Pc}, zk_pnk l = true → zx_ps cl ll R P k S l = zx_ps cl ll R P k' S l
  | [], _ => rfl
  | p :: l, h => by
    unfold zk_pnk at h
    rw [List.all_cons, Bool.and_eq_true, Bool.and_eq_true] at h
    unfold zx_ps
    rw [zx_ev_nk (k' := k') h.1.1, zx_p1_nk (k' := k') h.1.2, zx_ps_nk (k' := k') h.2]
/-- the turn: its number, how often, kind, rows, places, parameters, numbers -/
def zk_t9 (N : zk_N) (g id : Nat) (R : List Nat) (P : List zk_V) (k : zk_V) (S : List zk_V) (s : Nat) (p : zk_V) : Option (List zk_V × Nat × zk_V) := match zk_nost id && zk_eqE N (zk_hd0 S) (zk_c 0) && zk_n2 N p with
  | true => match zk_sevs N id R [] P k S (zx_dn id).2.2.2.1, zk_tps N g id R P k S (zx_pt g id).2 s p with
    | some S2, some r => some (S2, r)
    | _, _ => none
  | false => none
theorem zk_t9_of {E : zk_E} {N : zk_N} (h : zk_ok E N) {g id : Nat} {R : List Nat} {P S : List zk_V} {k p : zk_V} {s : Nat} {S2 : List zk_V} {s2 : Nat} {p2 : zk_V} (hw : zk_t9 N g id R P k S s p = some (S2, s2, p2)) {K : Nat} {S0 : zx_Rw} {p0 : Int} (hF : (zx_F id (R.map E.2) (P.map (zk_i E)) K).1 = S.map (zk_i E)) (hL : zx_ly (zx_L g id (R.map E.2) (P.map (zk_i E)) K) S0 (E.2 s) p0 (zk_i E p))
    (hk : zk_i E k = (K : Int) ∨ ((zx_dn id).2.2.2.1.all zk_nk = true ∧ zk_pnk (zx_pt g id).2 = true)) : (zx_F id (R.map E.2) (P.map (zk_i E)) (K + 1)).1 = S2.map (zk_i E) ∧ zx_ly (zx_L g id (R.map E.2) (P.map (zk_i E)) (K + 1)) S0 (E.2 s2) p0 (zk_i E p2) := by
  unfold zk_t9 at hw
  split at hw
  · rename_i c
    simp only [Bool.and_eq_true] at c
    obtain ⟨⟨c1, c2⟩, c3⟩ := c
    obtain ⟨n1, n2⟩ := zk_nost_of c1
    have c2 := zk_eqE_of h c2
    have c3 := zk_n2_ok h c3
    rw [zk_c_i] at c2
    split at hw
    · rename_i S2' r h1 h2
      cases hw
      have e1 := zk_sevs_of h h1
      have e2 := zk_tps_of h c3 h2
      have hd : (zx_F id (R.map E.2) (P.map (zk_i E)) K).1.getD 0 0 = 0 := by rw [hF, zk_hd0_m]; exact c2
      have eF : (zx_F id (R.map E.2) (P.map (zk_i E)) (K + 1)) = if (zx_F id (R.map E.2) (P.map (zk_i E)) K).1.getD 0 0 = 0 then ((zx_dn id).2.2.2.1.map (zx_ev (zx_G id) (R.map E.2) (zx_F id (R.map E.2) (P.map (zk_i E)) K).2 (P.map (zk_i E)) (K : Int) (zx_F id (R.map E.2) (P.map (zk_i E)) K).1), zx_sto (zx_G id) (R.map E.2) (zx_F id (R.map E.2) (P.map (zk_i E)) K).2 (P.map (zk_i E)) (K : Int) (zx_F id (R.map E.2) (P.map (zk_i E)) K).1 (zx_dn id).2.2.2.2 (zx_F id (R.map E.2) (P.map (zk_i E)) K).2) else zx_F id (R.map E.2) (P.map (zk_i E)) K := rfl
      have eL : zx_L g id (R.map E.2) (P.map (zk_i E)) (K + 1) = if (zx_F id (R.map E.2) (P.map (zk_i E)) K).1.getD 0 0 = 0 then zx_L g id (R.map E.2) (P.map (zk_i E)) K ++ zx_ps (zx_G id) (zx_LG g id) (R.map E.2) (P.map (zk_i E)) (K : Int) (zx_F id (R.map E.2) (P.map (zk_i E)) K).1 (zx_pt g id).2 else zx_L g id (R.map E.2) (P.map (zk_i E)) K := rfl
      rw [eF, eL, if_pos hd, if_pos hd, zx_F_M n1 n2, hF]
      have q1 : (zx_dn id).2.2.2.1.map (zx_ev (zx_G id) (R.map E.2) [] (P.map (zk_i E)) (K : Int) (S.map (zk_i E))) = S2.map (zk_i E) := by
        rw [e1]
        rcases hk with hk | ⟨hk, -⟩
        · rw [hk]
          rfl
        · exact zx_evm_nk hk
      have q2 : zx_ps (zx_G id) (zx_LG g id) (R.map E.2) (P.map (zk_i E)) (K : Int) (S.map (zk_i E)) (zx_pt g id).2 = zx_ps (zx_G id) (zx_LG g id) (R.map E.2) (P.map (zk_i E)) (zk_i E k) (S.map (zk_i E)) (zx_pt g id).2 := by
        rcases hk with hk | ⟨-, hk⟩
        · rw [hk]
        · exact zx_ps_nk hk
      refine ⟨q1, zx_ly_app hL ?_⟩
      rw [q2]
      exact e2
    · cases hw
  · cases hw
theorem zk_t9_lt {N : zk_N} (hc : zk_cl N) {g id : Nat} {R : List Nat} {P S : List zk_V} {k p : zk_V} {s : Nat} {r : List zk_V × Nat × zk_V} (hP : ∀ v ∈ P, zk_sv N.1 v) (hS : ∀ v ∈ S, zk_sv N.1 v) (hk : zk_sv N.1 k) (hs : s < N.1) (hp : zk_sv N.1 p) (hw : zk_t9 N g id R P k S s p = some r) : (∀ v ∈ r.1, zk_sv N.1 v) ∧ r.2.1 < N.1 ∧ zk_sv N.1 r.2.2 := by
  unfold zk_t9 at hw
  split at hw
  · split at hw
    · rename_i S2 r' h1 h2
      cases hw
      exact ⟨zk_sevs_sv hc hP hS hk h1, zk_tps_lt hc hs hp h2⟩
    · cases hw
  · cases hw
def zk_s89 (N : zk_N) (q : zk_G) : List zk_G := match zk_as 89 q with
  | some (S0 :: S1 :: R, g :: i :: K :: p0 :: p1 :: v) => match zk_le 0 (zk_fci N g) && zk_le 0 (zk_fci N i) && Nat.ble (zx_dn (zk_fci N i).toNat).1 v.length, zk_t9 N (zk_fci N g).toNat (zk_fci N i).toNat R (v.take (zx_dn (zk_fci N i).toNat).1) K (v.drop (zx_dn (zk_fci N i).toNat).1) S1 p1 with
    | true, some r => [(89, S0 :: r.2.1 :: R, g :: i :: zk_vadd K (zk_c 1) :: p0 :: r.2.2 :: (v.take (zx_dn (zk_fci N i).toNat).1 ++ r.1))]
    | _, _ => []
  | _ => []
def zk_s88 (N : zk_N) (q : zk_G) : List zk_G := match zk_as 88 q with
  | some (S0 :: S1 :: R, g :: i :: b :: p0 :: p1 :: v) => match zk_le 0 (zk_fci N g) && zk_le 0 (zk_fci N i) && Nat.ble (zx_dn (zk_fci N i).toNat).1 v.length && (zx_dn (zk_fci N i).toNat).2.2.2.1.all zk_nk && zk_pnk (zx_pt (zk_fci N g).toNat (zk_fci N i).toNat).2, zk_t9 N (zk_fci N g).toNat (zk_fci N i).toNat R (v.take (zx_dn (zk_fci N i).toNat).1) (zk_c 0) (v.drop (zx_dn (zk_fci N i).toNat).1) S1 p1 with
    | true, some r => [(88, S0 :: r.2.1 :: R, g :: i :: zk_vadd b (zk_c 1) :: p0 :: r.2.2 :: (v.take (zx_dn (zk_fci N i).toNat).1 ++ r.1))]
    | _, _ => []
  | _ => []
theorem zk_s8_sv {n : Nat} {S0 s : Nat} {R : List Nat} {g i K p0 p : zk_V} {v S : List zk_V} {m : Nat} (h2 : ∀ a ∈ S0 :: R, a < n) (hs : s < n) (h3 : ∀ w ∈ g :: i :: p0 :: v, zk_sv n w) (hK : zk_sv n K) (hp : zk_sv n p) (hS : ∀ w ∈ S, zk_sv n w) : (∀ a ∈ S0 :: s :: R, a < n) ∧ ∀ w ∈ g :: i :: K :: p0 :: p :: (v.take m ++ S), zk_sv n w := by
  refine ⟨fun a ha => ?_, fun w hw => ?_⟩
  · rcases List.mem_cons.mp ha with rfl | ha
    · exact h2 _ List.mem_cons_self
    · rcases List.mem_cons.mp ha with rfl | ha
      · exact hs
      · exact h2 _ (List.mem_cons_of_mem _ ha)
  · simp only [List.mem_cons, List.mem_append] at hw
    rcases hw with rfl | rfl | rfl | rfl | rfl | hw | hw
    · exact h3 _ (by simp)
    · exact h3 _ (by simp)
    · exact hK
    · exact h3 _ (by simp)
    · exact hp
    · exact h3 _ (by simp [List.mem_of_mem_take hw])
    · exact hS _ hw
theorem zk_s89_ok {E : zk_E} {N : zk_N} (hN : zk_ok E N) (hc : zk_cl N) {q : zk_G} (hq : q ∈ N.2.2.2) : ∀ x ∈ zk_s89 N q, zk_tru E N.1 x := by
  have ht := zk_tru_of hN hc q hq
  intro x hx
  unfold zk_s89 at hx
  split at hx
  · rename_i S0 S1 R g i K p0 p1 v hu
    have e := zk_as_of hu
    subst e
    obtain ⟨h1, h2, h3⟩ := ht
    split at hx
    · rename_i r c ht
      simp only [Bool.and_eq_true] at c
      obtain ⟨⟨c1, c2⟩, c3⟩ := c
      have c1 := zk_le_of c1
      have c2 := zk_le_of c2
      have c3 := Nat.le_of_ble_eq_true c3
      have hg := zk_fci_i hN c1
      have hi := zk_fci_i hN c2
      simp only [List.map_cons, zq_6, zq_7, zq_8, zq_9, zq_20, zq_21, zq_22, zq_25, zq_26, zq_28, zq_30, zq_40, zq_51, zq_52, zq_53, zq_54, zq_55, zq_64, zq_65, zq_68, zq_72, zq_73, zq_85, zq_74, zq_75, zq_76, zq_71, zq_86, zq_87, zq_80, zq_41, zq_42, zq_43, zq_94, zq_95, zq_47, zq_48, zq_96, zq_97, zq_88, zq_89, zq_90, zq_93, zq_61, zq_62, zq_1, zq_2, zq_3, zq_4, zq_5, zx_89] at h1
      rw [hg, hi, ← List.map_take, ← List.map_drop] at h1
      obtain ⟨t1, t2, t3, t4, t5⟩ := h1
      obtain ⟨S2, s2, p2⟩ := r
      obtain ⟨k1, k2⟩ := zk_t9_of hN ht t4 t5 (Or.inl (by omega))
      obtain ⟨l1, l2, l3⟩ := zk_t9_lt hc (fun w hw => h3 w (by simp [List.mem_of_mem_take hw])) (fun w hw => h3 w (by simp [List.mem_of_mem_drop hw])) (h3 K (by simp)) (h2 S1 (by simp)) (h3 p1 (by simp)) ht
      rw [List.mem_singleton.mp hx]
      refine ⟨?_, zk_s8_sv (fun a ha => h2 a ?_) l2 (fun w hw => h3 w ?_) (zk_vadd_sv (h3 K (by simp)) zk_c_sv) l3 l1⟩
      · simp only [List.map_cons, zq_6, zq_7, zq_8, zq_9, zq_20, zq_21, zq_22, zq_25, zq_26, zq_28, zq_30, zq_40, zq_51, zq_52, zq_53, zq_54, zq_55, zq_64, zq_65, zq_68, zq_72, zq_73, zq_85, zq_74, zq_75, zq_76, zq_71, zq_86, zq_87, zq_80, zq_41, zq_42, zq_43, zq_94, zq_95, zq_47, zq_48, zq_96, zq_97, zq_88, zq_89, zq_90, zq_93, zq_61, zq_62, zq_1, zq_2, zq_3, zq_4, zq_5, zx_89, zk_vadd_i, zk_c_i]
        rw [hg, hi, List.map_append]
        have el : (zx_dn (zk_fci N i).toNat).1 = ((v.take (zx_dn (zk_fci N i).toNat).1).map (zk_i E)).length := by
          rw [List.length_map, List.length_take]
          omega
        rw [List.take_left' el.symm, List.drop_left' el.symm, show (zk_i E K + 1).toNat = (zk_i E K).toNat + 1 by omega]
        exact ⟨t1, t2, by omega, k1, k2⟩
      · simp only [List.mem_cons] at ha ⊢
        rcases ha with h | h
        · exact Or.inl h
        · exact Or.inr (Or.inr h)
      · simp only [List.mem_cons] at hw ⊢
        rcases hw with h | h | h | h
        · exact Or.inl h
        · exact Or.inr (Or.inl h)
        · exact Or.inr (Or.inr (Or.inr (Or.inl h)))
        · exact Or.inr (Or.inr (Or.inr (Or.inr (Or.inr h))))
    · cases hx
  · cases hx
theorem zk_s88_ok {E : zk_E} {N : zk_N} (hN : zk_ok E N) (hc : zk_cl N) {q : zk_G} (hq : q ∈ N.2.2.2) : ∀ x ∈ zk_s88 N q, zk_tru E N.1 x := by
  have ht := zk_tru_of hN hc q hq
  intro x hx
  unfold zk_s88 at hx
  split at hx
  · rename_i S0 S1 R g i K p0 p1 v hu
    have e := zk_as_of hu
    subst e
    obtain ⟨h1, h2, h3⟩ := ht
    split at hx
    · rename_i r c ht
      simp only [Bool.and_eq_true] at c
      obtain ⟨⟨⟨⟨c1, c2⟩, c3⟩, c4⟩, c5⟩ := c
      have c1 := zk_le_of c1
      have c2 := zk_le_of c2
      have c3 := Nat.le_of_ble_eq_true c3
      have hg := zk_fci_i hN c1
      have hi := zk_fci_i hN c2
      simp only [List.map_cons, zq_6, zq_7, zq_8, zq_9, zq_20, zq_21, zq_22, zq_25, zq_26, zq_28, zq_30, zq_40, zq_51, zq_52, zq_53, zq_54, zq_55, zq_64, zq_65, zq_68, zq_72, zq_73, zq_85, zq_74, zq_75, zq_76, zq_71, zq_86, zq_87, zq_80, zq_41, zq_42, zq_43, zq_94, zq_95, zq_47, zq_48, zq_96, zq_97, zq_88, zq_89, zq_90, zq_93, zq_61, zq_62, zq_1, zq_2, zq_3, zq_4, zq_5, zx_88] at h1
      rw [hg, hi, ← List.map_take, ← List.map_drop] at h1
      obtain ⟨t1, t2, K0, t3, t4, t5⟩ := h1
      obtain ⟨S2, s2, p2⟩ := r
      obtain ⟨k1, k2⟩ := zk_t9_of hN ht t4 t5 (Or.inr ⟨c4, c5⟩)
      obtain ⟨l1, l2, l3⟩ := zk_t9_lt hc (fun w hw => h3 w (by simp [List.mem_of_mem_take hw])) (fun w hw => h3 w (by simp [List.mem_of_mem_drop hw])) zk_c_sv (h2 S1 (by simp)) (h3 p1 (by simp)) ht
      rw [List.mem_singleton.mp hx]
      refine ⟨?_, zk_s8_sv (fun a ha => h2 a ?_) l2 (fun w hw => h3 w ?_) (zk_vadd_sv (h3 K (by simp)) zk_c_sv) l3 l1⟩
      · simp only [List.map_cons, zq_6, zq_7, zq_8, zq_9, zq_20, zq_21, zq_22, zq_25, zq_26, zq_28, zq_30, zq_40, zq_51, zq_52, zq_53, zq_54, zq_55, zq_64, zq_65, zq_68, zq_72, zq_73, zq_85, zq_74, zq_75, zq_76, zq_71, zq_86, zq_87, zq_80, zq_41, zq_42, zq_43, zq_94, zq_95, zq_47, zq_48, zq_96, zq_97, zq_88, zq_89, zq_90, zq_93, zq_61, zq_62, zq_1, zq_2, zq_3, zq_4, zq_5, zx_88, zk_vadd_i, zk_c_i]
        rw [hg, hi, List.map_append]
        have el : (zx_dn (zk_fci N i).toNat).1 = ((v.take (zx_dn (zk_fci N i).toNat).1).map (zk_i E)).length := by
          rw [List.length_map, List.length_take]
          omega
        rw [List.take_left' el.symm, List.drop_left' el.symm]
        exact ⟨t1, t2, K0 + 1, by omega, k1, k2⟩
      · simp only [List.mem_cons] at ha ⊢
        rcases ha with h | h
        · exact Or.inl h
        · exact Or.inr (Or.inr h)
      · simp only [List.mem_cons] at hw ⊢
        rcases hw with h | h | h | h
        · exact Or.inl h
        · exact Or.inr (Or.inl h)
        · exact Or.inr (Or.inr (Or.inr (Or.inl h)))
        · exact Or.inr (Or.inr (Or.inr (Or.inr (Or.inr h))))
    · cases hx
  · cases hx
def zk_s98 (N : zk_N) (q : zk_G) : List zk_G := zk_s89 N q ++ zk_s88 N q
def zk_r98 : zk_Rl := zk_nr fun N => some (zk_addGs N (N.2.2.2.flatMap (zk_s98 N)))
theorem zk_r98_ok : zk_Rok zk_r98 := zk_nr_ok fun E n => zk_add_gd (f := fun N => N.2.2.2.flatMap (zk_s98 N)) fun N hN hc hn x hx => by
  obtain ⟨y, hy1, hy2⟩ := List.mem_flatMap.mp hx
  rw [← hn]
  rcases List.mem_append.mp hy2 with hy2 | hy2
  · exact zk_s89_ok hN hc hy1 x hy2
  · exact zk_s88_ok hN hc hy1 x hy2
end
