noncomputable section
/-! THE WORLD WITH ALL STATE ALIKE: its rules -/
def zk_kd (k : Nat) (N : zk_N) : List zk_G := N.2.2.2.filter fun q => Nat.beq q.1 k
theorem zk_kd_m {k : Nat} {N : zk_N} {q : zk_G} (h : q ∈ zk_kd k N) : q ∈ N.2.2.2 := (List.mem_filter.mp h).1
theorem zk_asmg {E : zk_E} {n : Nat} {d : zk_V} (h : 0 ≤ zk_i E d) (hs : zk_sv n d) : zk_gd E n fun N => zk_asm N d := fun N hN hc hn => by
  obtain ⟨N', a1, a2⟩ := zk_asm_ok hN h
  obtain ⟨a3, a4⟩ := zk_asm_cl hc (by rw [hn]; exact hs) a1
  exact ⟨N', a1, a2, a3, a4.trans hn⟩
theorem zk_eqsg {E : zk_E} {n : Nat} {d : zk_V} (h : zk_i E d = 0) (hs : zk_sv n d) : zk_gd E n fun N => zk_eqs N d := fun N hN hc hn => by
  obtain ⟨N', a1, a2⟩ := zk_eqs_ok hN h
  obtain ⟨a3, a4⟩ := zk_eqs_cl hc (by rw [hn]; exact hs) a1
  exact ⟨N', a1, a2, a3, a4.trans hn⟩
theorem zk_addFg {E : zk_E} {n : Nat} {d : zk_V} (h : 0 ≤ zk_i E d) (hs : zk_sv n d) : zk_gd E n fun N => some (zk_addF N d) := fun N hN hc hn => ⟨_, rfl, zk_addF_ok hN h, zk_addF_cl hc (by rw [hn]; exact hs), hn⟩
/-- a law or none -/
def zk_a95 (p : zk_G) (N : zk_N) : Option zk_N := match zk_as 95 p with
  | some ([_, _, _, _, _, _], [len, h]) => match zk_eqE N h (zk_c 0) with
    | true => zk_eqs N len
    | false => match zk_eqE N h (zk_c 1) with
      | true => zk_asm N (zk_vsub len (zk_c 1))
      | false => some N
  | _ => some N
theorem zk_a95_gd {E : zk_E} {n : Nat} {p : zk_G} (hp : zk_tru E n p) : zk_gd E n (zk_a95 p) := by
  intro N hN hc hn
  unfold zk_a95
  split
  · rename_i st a w t l m len h hu
    have e := zk_as_of hu
    subst e
    obtain ⟨h1, h2, h3⟩ := hp
    simp only [List.map_cons, List.map_nil, zq_6, zq_7, zq_8, zq_9, zq_20, zq_21, zq_22, zq_25, zq_26, zq_28, zq_30, zq_40, zq_51, zq_52, zq_53, zq_54, zq_55, zq_64, zq_65, zq_68, zq_72, zq_73, zq_85, zq_74, zq_75, zq_76, zq_71, zq_86, zq_87, zq_80, zq_41, zq_42, zq_43, zq_94, zq_95, zq_47, zq_48, zq_96, zq_97, zq_88, zq_89, zq_90, zq_93, zq_61, zq_62, zq_1, zq_2, zq_3, zq_4, zq_5] at h1
    obtain ⟨k3, k4⟩ := zy_law_len h1
    split
    · rename_i c
      have c := zk_eqE_of hN c
      rw [zk_c_i] at c
      exact zk_eqsg (k3 c) (h3 _ (by simp)) N hN hc hn
    · split
      · rename_i c
        have c := zk_eqE_of hN c
        rw [zk_c_i] at c
        refine zk_asmg ?_ (zk_vsub_sv (h3 _ (by simp)) zk_c_sv) N hN hc hn
        rw [zk_vsub_i, zk_c_i]
        have := k4 c
        omega
      · exact zk_id_gd N hN hc hn
  · exact zk_id_gd N hN hc hn
def zk_r95 : zk_Rl := zk_nr (zk_on (zk_kd 95) zk_a95)
theorem zk_r95_ok : zk_Rok zk_r95 := zk_nr_ok fun E n => zk_on_gd fun N h hc hn p hp => zk_a95_gd (zk_trs h hc hn p (zk_kd_m hp))
/-! boys lie in barns that are there -/
def zk_t41 (N : zk_N) (pl : Nat) (bo ba : zk_V) (h : zk_G) : List zk_G := match zk_as2 h with
  | some (f, g, p, v) => match Nat.beq g pl && zk_n2 N p && zk_n2 N (zk_vsub (zk_vsub ba (zk_c 1)) v) with
    | true => match zk_eqE N p bo with
      | true => [(41, [f], [zk_vadd bo (zk_c 1), ba])]
      | false => [(41, [f], [bo, ba])]
    | false => []
  | none => []
def zk_u41 (N : zk_N) (q : zk_G) : List zk_G := match zk_as 41 q with
  | some ([pl], [bo, ba]) => (zk_kd 2 N).flatMap (zk_t41 N pl bo ba)
  | _ => []
theorem zk_u41_ok {E : zk_E} {N : zk_N} (hN : zk_ok E N) (hc : zk_cl N) {q : zk_G} (hq : q ∈ N.2.2.2) : ∀ x ∈ zk_u41 N q, zk_tru E N.1 x := by
  have ht := zk_tru_of hN hc q hq
  intro x hx
  unfold zk_u41 at hx
  split at hx
  · rename_i pl bo ba hu
    have e := zk_as_of hu
    subst e
    obtain ⟨h1, h2, h3⟩ := ht
    simp only [List.map_cons, List.map_nil, zq_6, zq_7, zq_8, zq_9, zq_20, zq_21, zq_22, zq_25, zq_26, zq_28, zq_30, zq_40, zq_51, zq_52, zq_53, zq_54, zq_55, zq_64, zq_65, zq_68, zq_72, zq_73, zq_85, zq_74, zq_75, zq_76, zq_71, zq_86, zq_87, zq_80, zq_41, zq_42, zq_43, zq_94, zq_95, zq_47, zq_48, zq_96, zq_97, zq_88, zq_89, zq_90, zq_93, zq_61, zq_62, zq_1, zq_2, zq_3, zq_4, zq_5] at h1
    obtain ⟨y, hy, hx1⟩ := List.mem_flatMap.mp hx
    clear hx
    unfold zk_t41 at hx1
    split at hx1
    · rename_i f g p v e2
      obtain ⟨s1, s2, s3, s4, s5⟩ := zk_as2_of (zk_tru_of hN hc y (zk_kd_m hy)) e2
      split at hx1
      · rename_i c
        simp only [Bool.and_eq_true] at c
        obtain ⟨⟨c1, c2⟩, c3⟩ := c
        have c1 := Nat.eq_of_beq_eq_true c1
        have c2 := zk_n2_ok hN c2
        have c3 := zk_n2_ok hN c3
        rw [zk_vsub_i, zk_vsub_i, zk_c_i] at c3
        subst c1
        split at hx1
        · rename_i c4
          have c4 := zk_eqE_of hN c4
          rw [List.mem_singleton.mp hx1]
          refine ⟨?_, fun a ha => ?_, fun u hu => ?_⟩
          · simp only [List.map_cons, List.map_nil, zq_6, zq_7, zq_8, zq_9, zq_20, zq_21, zq_22, zq_25, zq_26, zq_28, zq_30, zq_40, zq_51, zq_52, zq_53, zq_54, zq_55, zq_64, zq_65, zq_68, zq_72, zq_73, zq_85, zq_74, zq_75, zq_76, zq_71, zq_86, zq_87, zq_80, zq_41, zq_42, zq_43, zq_94, zq_95, zq_47, zq_48, zq_96, zq_97, zq_88, zq_89, zq_90, zq_93, zq_61, zq_62, zq_1, zq_2, zq_3, zq_4, zq_5, zk_vadd_i, zk_c_i]
            intro j hj
            rw [s1]
            simp only
            split
            · omega
            · exact h1 j (by omega)
          · rw [List.mem_singleton.mp ha]
            exact s2
          · simp only [List.mem_cons, List.not_mem_nil, or_false] at hu
            rcases hu with rfl | rfl
            · exact zk_vadd_sv (h3 _ (by simp)) zk_c_sv
            · exact h3 _ (by simp)
        · rw [List.mem_singleton.mp hx1]
          refine ⟨?_, fun a ha => ?_, fun u hu => h3 u hu⟩
          · simp only [List.map_cons, List.map_nil, zq_6, zq_7, zq_8, zq_9, zq_20, zq_21, zq_22, zq_25, zq_26, zq_28, zq_30, zq_40, zq_51, zq_52, zq_53, zq_54, zq_55, zq_64, zq_65, zq_68, zq_72, zq_73, zq_85, zq_74, zq_75, zq_76, zq_71, zq_86, zq_87, zq_80, zq_41, zq_42, zq_43, zq_94, zq_95, zq_47, zq_48, zq_96, zq_97, zq_88, zq_89, zq_90, zq_93, zq_61, zq_62, zq_1, zq_2, zq_3, zq_4, zq_5]
            intro j hj
            rw [s1]
            simp only
            split
            · omega
            · exact h1 j hj
          · rw [List.mem_singleton.mp ha]
            exact s2
      · cases hx1
    · cases hx1
  · cases hx
def zk_w41 (pl : Nat) (bo ba : zk_V) (r : zk_G) (N : zk_N) : Option zk_N := match zk_as 1 r with
  | some ([a], [j, w]) => match Nat.beq a pl && zk_n2 N j && zk_n2 N (zk_vsub (zk_vsub bo (zk_c 1)) j) with
    | true => some (zk_addF N (zk_vsub (zk_vsub ba (zk_c 1)) w))
    | false => some N
  | _ => some N
def zk_v41 (q : zk_G) (N : zk_N) : Option zk_N := match zk_as 41 q with
  | some ([pl], [bo, ba]) => zk_on (zk_kd 1) (zk_w41 pl bo ba) N
  | _ => some N
theorem zk_v41_gd {E : zk_E} {n : Nat} {q : zk_G} (hq : zk_tru E n q) : zk_gd E n (zk_v41 q) := by
  intro N hN hc hn
  unfold zk_v41
  split
  · rename_i pl bo ba hu
    have e := zk_as_of hu
    subst e
    obtain ⟨h1, h2, h3⟩ := hq
    simp only [List.map_cons, List.map_nil, zq_6, zq_7, zq_8, zq_9, zq_20, zq_21, zq_22, zq_25, zq_26, zq_28, zq_30, zq_40, zq_51, zq_52, zq_53, zq_54, zq_55, zq_64, zq_65, zq_68, zq_72, zq_73, zq_85, zq_74, zq_75, zq_76, zq_71, zq_86, zq_87, zq_80, zq_41, zq_42, zq_43, zq_94, zq_95, zq_47, zq_48, zq_96, zq_97, zq_88, zq_89, zq_90, zq_93, zq_61, zq_62, zq_1, zq_2, zq_3, zq_4, zq_5] at h1
    refine zk_on_gd (E := E) (n := n) (h := zk_kd 1) (f := zk_w41 pl bo ba) (fun N0 hN0 hc0 hn0 r hr => ?_) N hN hc hn
    have hrt := zk_trs hN0 hc0 hn0 r (zk_kd_m hr)
    intro N1 hN1 hc1 hn1
    unfold zk_w41
    split
    · rename_i a j w hu2
      have e2 := zk_as_of hu2
      subst e2
      obtain ⟨g1, g2, g3⟩ := hrt
      simp only [List.map_cons, List.map_nil, zk_S] at g1
      split
      · rename_i c
        simp only [Bool.and_eq_true] at c
        obtain ⟨⟨c1, c2⟩, c3⟩ := c
        have c1 := Nat.eq_of_beq_eq_true c1
        have c2 := zk_n2_ok hN1 c2
        have c3 := zk_n2_ok hN1 c3
        rw [zk_vsub_i, zk_vsub_i, zk_c_i] at c3
        subst c1
        refine zk_addFg ?_ (zk_vsub_sv (zk_vsub_sv (h3 _ (by simp)) zk_c_sv) (g3 _ (by simp))) N1 hN1 hc1 hn1
        rw [zk_vsub_i, zk_vsub_i, zk_c_i]
        have := h1 (zk_i E j).toNat (by omega)
        rw [g1] at this
        omega
      · exact zk_id_gd N1 hN1 hc1 hn1
    · exact zk_id_gd N1 hN1 hc1 hn1
  · exact zk_id_gd N hN hc hn
def zk_x41 (N : zk_N) : Option zk_N := some (zk_addGs N ((zk_kd 41 N).flatMap (zk_u41 N)))
theorem zk_x41_gd {E : zk_E} {n : Nat} : zk_gd E n zk_x41 := zk_add_gd (f := fun N => (zk_kd 41 N).flatMap (zk_u41 N)) fun N hN hc hn x hx => by
  obtain ⟨y, hy1, hy2⟩ := List.mem_flatMap.mp hx
  rw [← hn]
  exact zk_u41_ok hN hc (zk_kd_m hy1) x hy2
def zk_r41 : zk_Rl := zk_nr (zk_sq zk_x41 (zk_on (zk_kd 41) zk_v41))
theorem zk_r41_ok : zk_Rok zk_r41 := zk_nr_ok fun E n => zk_sq_gd zk_x41_gd (zk_on_gd fun N h hc hn p hp => zk_v41_gd (zk_trs h hc hn p (zk_kd_m hp)))
/-! changes -/
def zk_ic (N : zk_N) (a v : zk_V) (al ah vl : Int) (vh : zk_V) : Bool := zk_n2 N (zk_vsub a (zk_c al)) && zk_n2 N (zk_vsub (zk_c ah) a) && zk_n2 N (zk_vsub v (zk_c vl)) && zk_n2 N (zk_vsub vh v)
def zk_ich (N : zk_N) (o a v ba : zk_V) : Bool := (zk_eqE N o (zk_c 0) && zk_ic N a v 0 4 0 (zk_c 99)) || (zk_eqE N o (zk_c 1) && zk_ic N a v 0 4 0 (zk_c 99)) || (zk_eqE N o (zk_c 2) && zk_ic N a v 0 4 0 (zk_c 9)) || (zk_eqE N o (zk_c 3) && zk_ic N a v 0 7 0 (zk_c 30)) || (zk_eqE N o (zk_c 4) && zk_ic N a v 0 7 (-1) (zk_vsub ba (zk_c 1))) || (zk_eqE N o (zk_c 5) && zk_ic N a v 0 5 0 (zk_c 99)) || (zk_eqE N o (zk_c 6) && zk_ic N a v 0 5 0 (zk_c 19)) || (zk_eqE N o (zk_c 7) && zk_ic N a v 0 0 0 (zk_c 9)) || (zk_eqE N o (zk_c 8) && zk_ic N a v 0 0 1 (zk_c 20))
theorem zk_ic_of {E : zk_E} {N : zk_N} (h : zk_ok E N) {a v vh : zk_V} {al ah vl : Int} (hi : zk_ic N a v al ah vl vh = true) : al ≤ zk_i E a ∧ zk_i E a ≤ ah ∧ vl ≤ zk_i E v ∧ zk_i E v ≤ zk_i E vh := by
  unfold zk_ic at hi
  simp only [Bool.and_eq_true] at hi
  obtain ⟨⟨⟨c1, c2⟩, c3⟩, c4⟩ := hi
  have c1 := zk_n2_ok h c1
  have c2 := zk_n2_ok h c2
  have c3 := zk_n2_ok h c3
  have c4 := zk_n2_ok h c4
  rw [zk_vsub_i, zk_c_i] at c1 c2 c3
  rw [zk_vsub_i] at c4
  omega
theorem zk_ich_of {E : zk_E} {N : zk_N} (h : zk_ok E N) {o a v ba : zk_V} (hi : zk_ich N o a v ba = true) : zx_ch (zk_i E o) (zk_i E a) (zk_i E v) (zk_i E ba) := by
  unfold zk_ich at hi
  simp only [Bool.or_eq_true, Bool.and_eq_true] at hi
  have f : ∀ (k al ah vl : Int) (vh : zk_V), zk_eqE N o (zk_c k) = true ∧ zk_ic N a v al ah vl vh = true → zk_i E o = k ∧ al ≤ zk_i E a ∧ zk_i E a ≤ ah ∧ vl ≤ zk_i E v ∧ zk_i E v ≤ zk_i E vh := fun k al ah vl vh hh => by
    have := zk_eqE_of h hh.1
    rw [zk_c_i] at this
    exact ⟨this, zk_ic_of h hh.2⟩
  unfold zx_ch
  rcases hi with (((((((hi | hi) | hi) | hi) | hi) | hi) | hi) | hi) | hi
  · have g := f _ _ _ _ _ hi
    rw [zk_c_i] at g
    exact Or.inl g
  · have g := f _ _ _ _ _ hi
    rw [zk_c_i] at g
    exact Or.inr (Or.inl g)
  · have g := f _ _ _ _ _ hi
    rw [zk_c_i] at g
    exact Or.inr (Or.inr (Or.inl g))
  · have g := f _ _ _ _ _ hi
    rw [zk_c_i] at g
    exact Or.inr (Or.inr (Or.inr (Or.inl g)))
  · have g := f _ _ _ _ _ hi
    rw [zk_vsub_i, zk_c_i] at g
    exact Or.inr (Or.inr (Or.inr (Or.inr (Or.inl g))))
  · have g := f _ _ _ _ _ hi
    rw [zk_c_i] at g
    exact Or.inr (Or.inr (Or.inr (Or.inr (Or.inr (Or.inl g)))))
  · have g := f _ _ _ _ _ hi
    rw [zk_c_i] at g
    exact Or.inr (Or.inr (Or.inr (Or.inr (Or.inr (Or.inr (Or.inl g))))))
  · have g := f _ _ _ _ _ hi
    rw [zk_c_i] at g
    exact Or.inr (Or.inr (Or.inr (Or.inr (Or.inr (Or.inr (Or.inr (Or.inl g)))))))
  · have g := f _ _ _ _ _ hi
    rw [zk_c_i] at g
    exact Or.inr (Or.inr (Or.inr (Or.inr (Or.inr (Or.inr (Or.inr (Or.inr g)))))))
/-- a store in each of four rows, at one place -/
def zk_s42d (N : zk_N) (f1 f2 f3 : Nat) (x : Nat) (ba p v1 v2 v3 : zk_V) (h : zk_G) : List zk_G := match zk_as2 h with
  | some (f4, g4, p4, v4) => match Nat.beq g4 x && zk_eqE N p p4 && zk_ich N v2 v1 v3 ba && zk_ich N v2 v1 v4 ba with
    | true => [(42, [f1, f2, f3, f4], [ba])]
    | false => []
  | none => []
def zk_s42c (N : zk_N) (f1 f2 : Nat) (w x : Nat) (ba p v1 v2 : zk_V) (h : zk_G) : List zk_G := match zk_as2 h with
  | some (f3, g3, p3, v3) => match Nat.beq g3 w && zk_eqE N p p3 with
    | true => (zk_kd 2 N).flatMap (zk_s42d N f1 f2 f3 x ba p v1 v2 v3)
    | false => []
  | none => []
def zk_s42b (N : zk_N) (f1 : Nat) (b w x : Nat) (ba p v1 : zk_V) (h : zk_G) : List zk_G := match zk_as2 h with
  | some (f2, g2, p2, v2) => match Nat.beq g2 b && zk_eqE N p p2 with
    | true => (zk_kd 2 N).flatMap (zk_s42c N f1 f2 w x ba p v1 v2)
    | false => []
  | none => []
def zk_s42a (N : zk_N) (a b w x : Nat) (ba : zk_V) (h : zk_G) : List zk_G := match zk_as2 h with
  | some (f1, g1, p, v1) => match Nat.beq g1 a with
    | true => (zk_kd 2 N).flatMap (zk_s42b N f1 b w x ba p v1)
    | false => []
  | none => []
def zk_s42 (N : zk_N) (q : zk_G) : List zk_G := match zk_as 42 q with
  | some ([a, b, w, x], [ba]) => (zk_kd 2 N).flatMap (zk_s42a N a b w x ba)
  | _ => []
theorem zk_s42_ok {E : zk_E} {N : zk_N} (hN : zk_ok E N) (hc : zk_cl N) {q : zk_G} (hq : q ∈ N.2.2.2) : ∀ x ∈ zk_s42 N q, zk_tru E N.1 x := by
  have ht := zk_tru_of hN hc q hq
  intro y hy
  unfold zk_s42 at hy
  split at hy
  · rename_i a b w x ba hu
    have e := zk_as_of hu
    subst e
    obtain ⟨h1, h2, h3⟩ := ht
    simp only [List.map_cons, List.map_nil, zq_6, zq_7, zq_8, zq_9, zq_20, zq_21, zq_22, zq_25, zq_26, zq_28, zq_30, zq_40, zq_51, zq_52, zq_53, zq_54, zq_55, zq_64, zq_65, zq_68, zq_72, zq_73, zq_85, zq_74, zq_75, zq_76, zq_71, zq_86, zq_87, zq_80, zq_41, zq_42, zq_43, zq_94, zq_95, zq_47, zq_48, zq_96, zq_97, zq_88, zq_89, zq_90, zq_93, zq_61, zq_62, zq_1, zq_2, zq_3, zq_4, zq_5] at h1
    obtain ⟨q1, m1, hy1⟩ := List.mem_flatMap.mp hy
    clear hy
    unfold zk_s42a at hy1
    split at hy1
    · rename_i f1 g1 p v1 e1
      obtain ⟨a1, a2, -, -, -⟩ := zk_as2_of (zk_tru_of hN hc q1 (zk_kd_m m1)) e1
      split at hy1
      · rename_i c1
        have c1 := Nat.eq_of_beq_eq_true c1
        subst c1
        obtain ⟨q2, m2, hy2⟩ := List.mem_flatMap.mp hy1
        clear hy1
        unfold zk_s42b at hy2
        split at hy2
        · rename_i f2 g2 p2 v2 e2
          obtain ⟨b1, b2, -, -, -⟩ := zk_as2_of (zk_tru_of hN hc q2 (zk_kd_m m2)) e2
          split at hy2
          · rename_i c2
            rw [Bool.and_eq_true] at c2
            have d2 := Nat.eq_of_beq_eq_true c2.1
            have w2 := zk_eqE_of hN c2.2
            subst d2
            obtain ⟨q3, m3, hy3⟩ := List.mem_flatMap.mp hy2
            clear hy2
            unfold zk_s42c at hy3
            split at hy3
            · rename_i f3 g3 p3 v3 e3
              obtain ⟨k1, k2, -, -, -⟩ := zk_as2_of (zk_tru_of hN hc q3 (zk_kd_m m3)) e3
              split at hy3
              · rename_i c3
                rw [Bool.and_eq_true] at c3
                have d3 := Nat.eq_of_beq_eq_true c3.1
                have w3 := zk_eqE_of hN c3.2
                subst d3
                obtain ⟨q4, m4, hy4⟩ := List.mem_flatMap.mp hy3
                clear hy3
                unfold zk_s42d at hy4
                split at hy4
                · rename_i f4 g4 p4 v4 e4
                  obtain ⟨l1, l2, -, -, -⟩ := zk_as2_of (zk_tru_of hN hc q4 (zk_kd_m m4)) e4
                  split at hy4
                  · rename_i c4
                    simp only [Bool.and_eq_true] at c4
                    obtain ⟨⟨⟨d4, c4⟩, i1⟩, i2⟩ := c4
                    have d4 := Nat.eq_of_beq_eq_true d4
                    have w4 := zk_eqE_of hN c4
                    have i1 := zk_ich_of hN i1
                    have i2 := zk_ich_of hN i2
                    subst d4
                    rw [List.mem_singleton.mp hy4]
                    refine ⟨?_, fun r hr => ?_, fun u hu => h3 u hu⟩
                    · simp only [List.map_cons, List.map_nil, zq_6, zq_7, zq_8, zq_9, zq_20, zq_21, zq_22, zq_25, zq_26, zq_28, zq_30, zq_40, zq_51, zq_52, zq_53, zq_54, zq_55, zq_64, zq_65, zq_68, zq_72, zq_73, zq_85, zq_74, zq_75, zq_76, zq_71, zq_86, zq_87, zq_80, zq_41, zq_42, zq_43, zq_94, zq_95, zq_47, zq_48, zq_96, zq_97, zq_88, zq_89, zq_90, zq_93, zq_61, zq_62, zq_1, zq_2, zq_3, zq_4, zq_5]
                      intro j
                      rw [a1, b1, k1, l1, ← w2, ← w3, ← w4]
                      simp only
                      split
                      · exact ⟨i1, i2⟩
                      · exact h1 j
                    · simp only [List.mem_cons, List.not_mem_nil, or_false] at hr
                      rcases hr with rfl | rfl | rfl | rfl
                      · exact a2
                      · exact b2
                      · exact k2
                      · exact l2
                  · cases hy4
                · cases hy4
              · cases hy3
            · cases hy3
          · cases hy2
        · cases hy2
      · cases hy1
    · cases hy1
  · cases hy
/-- all four moved alike -/
def zk_m42d (N : zk_N) (f1 f2 f3 : Nat) (x : Nat) (ba s d n : zk_V) (h : zk_G) : List zk_G := match zk_as 9 h with
  | some ([f4, g4, h4], [s4, d4, n4]) => match Nat.beq g4 x && Nat.beq h4 x && zk_eqE N s s4 && zk_eqE N d d4 && zk_eqE N n n4 with
    | true => [(42, [f1, f2, f3, f4], [ba])]
    | false => []
  | _ => []
def zk_m42c (N : zk_N) (f1 f2 : Nat) (w x : Nat) (ba s d n : zk_V) (h : zk_G) : List zk_G := match zk_as 9 h with
  | some ([f3, g3, h3], [s3, d3, n3]) => match Nat.beq g3 w && Nat.beq h3 w && zk_eqE N s s3 && zk_eqE N d d3 && zk_eqE N n n3 with
    | true => (zk_kd 9 N).flatMap (zk_m42d N f1 f2 f3 x ba s d n)
    | false => []
  | _ => []
def zk_m42b (N : zk_N) (f1 : Nat) (b w x : Nat) (ba s d n : zk_V) (h : zk_G) : List zk_G := match zk_as 9 h with
  | some ([f2, g2, h2], [s2, d2, n2]) => match Nat.beq g2 b && Nat.beq h2 b && zk_eqE N s s2 && zk_eqE N d d2 && zk_eqE N n n2 with
    | true => (zk_kd 9 N).flatMap (zk_m42c N f1 f2 w x ba s d n)
    | false => []
  | _ => []
def zk_m42a (N : zk_N) (a b w x : Nat) (ba : zk_V) (h : zk_G) : List zk_G := match zk_as 9 h with
  | some ([f1, g1, h1], [s, d, n]) => match Nat.beq g1 a && Nat.beq h1 a with
    | true => (zk_kd 9 N).flatMap (zk_m42b N f1 b w x ba s d n)
    | false => []
  | _ => []
def zk_m42 (N : zk_N) (q : zk_G) : List zk_G := match zk_as 42 q with
  | some ([a, b, w, x], [ba]) => (zk_kd 9 N).flatMap (zk_m42a N a b w x ba)
  | _ => []
theorem zk_m42_ok {E : zk_E} {N : zk_N} (hN : zk_ok E N) (hc : zk_cl N) {q : zk_G} (hq : q ∈ N.2.2.2) : ∀ x ∈ zk_m42 N q, zk_tru E N.1 x := by
  have ht := zk_tru_of hN hc q hq
  intro y hy
  unfold zk_m42 at hy
  split at hy
  · rename_i a b w x ba hu
    have e := zk_as_of hu
    subst e
    obtain ⟨h1, h2, h3⟩ := ht
    simp only [List.map_cons, List.map_nil, zq_6, zq_7, zq_8, zq_9, zq_20, zq_21, zq_22, zq_25, zq_26, zq_28, zq_30, zq_40, zq_51, zq_52, zq_53, zq_54, zq_55, zq_64, zq_65, zq_68, zq_72, zq_73, zq_85, zq_74, zq_75, zq_76, zq_71, zq_86, zq_87, zq_80, zq_41, zq_42, zq_43, zq_94, zq_95, zq_47, zq_48, zq_96, zq_97, zq_88, zq_89, zq_90, zq_93, zq_61, zq_62, zq_1, zq_2, zq_3, zq_4, zq_5] at h1
    obtain ⟨q1, m1, hy1⟩ := List.mem_flatMap.mp hy
    clear hy
    unfold zk_m42a at hy1
    split at hy1
    · rename_i f1 g1 k1 s d n e1
      have e1 := zk_as_of e1
      have t1 := zk_tru_of hN hc q1 (zk_kd_m m1)
      subst e1
      obtain ⟨a1, a2, -⟩ := t1
      simp only [List.map_cons, List.map_nil, zq_6, zq_7, zq_8, zq_9, zq_20, zq_21, zq_22, zq_25, zq_26, zq_28, zq_30, zq_40, zq_51, zq_52, zq_53, zq_54, zq_55, zq_64, zq_65, zq_68, zq_72, zq_73, zq_85, zq_74, zq_75, zq_76, zq_71, zq_86, zq_87, zq_80, zq_41, zq_42, zq_43, zq_94, zq_95, zq_47, zq_48, zq_96, zq_97, zq_88, zq_89, zq_90, zq_93, zq_61, zq_62, zq_1, zq_2, zq_3, zq_4, zq_5] at a1
      split at hy1
      · rename_i c1
        rw [Bool.and_eq_true] at c1
        have d1 := Nat.eq_of_beq_eq_true c1.1
        have d1' := Nat.eq_of_beq_eq_true c1.2
        subst d1 d1'
        obtain ⟨q2, m2, hy2⟩ := List.mem_flatMap.mp hy1
        clear hy1
        unfold zk_m42b at hy2
        split at hy2
        · rename_i f2 g2 k2 s2 d2 n2 e2
          have e2 := zk_as_of e2
          have t2 := zk_tru_of hN hc q2 (zk_kd_m m2)
          subst e2
          obtain ⟨b1, b2, -⟩ := t2
          simp only [List.map_cons, List.map_nil, zq_6, zq_7, zq_8, zq_9, zq_20, zq_21, zq_22, zq_25, zq_26, zq_28, zq_30, zq_40, zq_51, zq_52, zq_53, zq_54, zq_55, zq_64, zq_65, zq_68, zq_72, zq_73, zq_85, zq_74, zq_75, zq_76, zq_71, zq_86, zq_87, zq_80, zq_41, zq_42, zq_43, zq_94, zq_95, zq_47, zq_48, zq_96, zq_97, zq_88, zq_89, zq_90, zq_93, zq_61, zq_62, zq_1, zq_2, zq_3, zq_4, zq_5] at b1
          split at hy2
          · rename_i c2
            simp only [Bool.and_eq_true] at c2
            obtain ⟨⟨⟨⟨u1, u2⟩, u3⟩, u4⟩, u5⟩ := c2
            have u1 := Nat.eq_of_beq_eq_true u1
            have u2 := Nat.eq_of_beq_eq_true u2
            have u3 := zk_eqE_of hN u3
            have u4 := zk_eqE_of hN u4
            have u5 := zk_eqE_of hN u5
            subst u1 u2
            rw [← u3, ← u4, ← u5] at b1
            obtain ⟨q3, m3, hy3⟩ := List.mem_flatMap.mp hy2
            clear hy2
            unfold zk_m42c at hy3
            split at hy3
            · rename_i f3 g3 k3 s3 d3 n3 e3
              have e3 := zk_as_of e3
              have t3 := zk_tru_of hN hc q3 (zk_kd_m m3)
              subst e3
              obtain ⟨r1, r2, -⟩ := t3
              simp only [List.map_cons, List.map_nil, zq_6, zq_7, zq_8, zq_9, zq_20, zq_21, zq_22, zq_25, zq_26, zq_28, zq_30, zq_40, zq_51, zq_52, zq_53, zq_54, zq_55, zq_64, zq_65, zq_68, zq_72, zq_73, zq_85, zq_74, zq_75, zq_76, zq_71, zq_86, zq_87, zq_80, zq_41, zq_42, zq_43, zq_94, zq_95, zq_47, zq_48, zq_96, zq_97, zq_88, zq_89, zq_90, zq_93, zq_61, zq_62, zq_1, zq_2, zq_3, zq_4, zq_5] at r1
              split at hy3
              · rename_i c3
                simp only [Bool.and_eq_true] at c3
                obtain ⟨⟨⟨⟨u1, u2⟩, u3⟩, u4⟩, u5⟩ := c3
                have u1 := Nat.eq_of_beq_eq_true u1
                have u2 := Nat.eq_of_beq_eq_true u2
                have u3 := zk_eqE_of hN u3
                have u4 := zk_eqE_of hN u4
                have u5 := zk_eqE_of hN u5
                subst u1 u2
                rw [← u3, ← u4, ← u5] at r1
                obtain ⟨q4, m4, hy4⟩ := List.mem_flatMap.mp hy3
                clear hy3
                unfold zk_m42d at hy4
                split at hy4
                · rename_i f4 g4 k4 s4 d4 n4 e4
                  have e4 := zk_as_of e4
                  have t4 := zk_tru_of hN hc q4 (zk_kd_m m4)
                  subst e4
                  obtain ⟨o1, o2, -⟩ := t4
                  simp only [List.map_cons, List.map_nil, zq_6, zq_7, zq_8, zq_9, zq_20, zq_21, zq_22, zq_25, zq_26, zq_28, zq_30, zq_40, zq_51, zq_52, zq_53, zq_54, zq_55, zq_64, zq_65, zq_68, zq_72, zq_73, zq_85, zq_74, zq_75, zq_76, zq_71, zq_86, zq_87, zq_80, zq_41, zq_42, zq_43, zq_94, zq_95, zq_47, zq_48, zq_96, zq_97, zq_88, zq_89, zq_90, zq_93, zq_61, zq_62, zq_1, zq_2, zq_3, zq_4, zq_5] at o1
                  split at hy4
                  · rename_i c4
                    simp only [Bool.and_eq_true] at c4
                    obtain ⟨⟨⟨⟨u1, u2⟩, u3⟩, u4⟩, u5⟩ := c4
                    have u1 := Nat.eq_of_beq_eq_true u1
                    have u2 := Nat.eq_of_beq_eq_true u2
                    have u3 := zk_eqE_of hN u3
                    have u4 := zk_eqE_of hN u4
                    have u5 := zk_eqE_of hN u5
                    subst u1 u2
                    rw [← u3, ← u4, ← u5] at o1
                    rw [List.mem_singleton.mp hy4]
                    refine ⟨?_, fun r hr => ?_, fun u hu => h3 u hu⟩
                    · simp only [List.map_cons, List.map_nil, zq_6, zq_7, zq_8, zq_9, zq_20, zq_21, zq_22, zq_25, zq_26, zq_28, zq_30, zq_40, zq_51, zq_52, zq_53, zq_54, zq_55, zq_64, zq_65, zq_68, zq_72, zq_73, zq_85, zq_74, zq_75, zq_76, zq_71, zq_86, zq_87, zq_80, zq_41, zq_42, zq_43, zq_94, zq_95, zq_47, zq_48, zq_96, zq_97, zq_88, zq_89, zq_90, zq_93, zq_61, zq_62, zq_1, zq_2, zq_3, zq_4, zq_5]
                      intro j
                      rw [a1, b1, r1, o1]
                      simp only
                      split
                      · exact h1 _
                      · exact h1 j
                    · simp only [List.mem_cons, List.not_mem_nil, or_false] at hr
                      rcases hr with rfl | rfl | rfl | rfl
                      · exact a2 _ (by simp)
                      · exact b2 _ (by simp)
                      · exact r2 _ (by simp)
                      · exact o2 _ (by simp)
                  · cases hy4
                · cases hy4
              · cases hy3
            · cases hy3
          · cases hy2
        · cases hy2
      · cases hy1
    · cases hy1
  · cases hy
def zk_x42m (N : zk_N) : Option zk_N := some (zk_addGs N ((zk_kd 42 N).flatMap (zk_m42 N)))
theorem zk_x42m_gd {E : zk_E} {n : Nat} : zk_gd E n zk_x42m := zk_add_gd (f := fun N => (zk_kd 42 N).flatMap (zk_m42 N)) fun N hN hc hn x hx => by
  obtain ⟨y, hy1, hy2⟩ := List.mem_flatMap.mp hx
  rw [← hn]
  exact zk_m42_ok hN hc (zk_kd_m hy1) x hy2
def zk_x42s (N : zk_N) : Option zk_N := some (zk_addGs N ((zk_kd 42 N).flatMap (zk_s42 N)))
theorem zk_x42s_gd {E : zk_E} {n : Nat} : zk_gd E n zk_x42s := zk_add_gd (f := fun N => (zk_kd 42 N).flatMap (zk_s42 N)) fun N hN hc hn x hx => by
  obtain ⟨y, hy1, hy2⟩ := List.mem_flatMap.mp hx
  rw [← hn]
  exact zk_s42_ok hN hc (zk_kd_m hy1) x hy2
def zk_r42t : zk_Rl := zk_nr (zk_sq zk_x42m zk_x42s)
theorem zk_r42t_ok : zk_Rok zk_r42t := zk_nr_ok fun E n => zk_sq_gd zk_x42m_gd zk_x42s_gd
end
