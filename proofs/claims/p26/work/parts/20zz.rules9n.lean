noncomputable section
/-! THE WORLD WITH ALL STATE ALIKE: rows joined -/
def zk_alk (N : zk_N) (a b : Nat) : Bool := Nat.beq a b || N.2.2.2.any fun h => match zk_as8 h with
  | some (f, g) => (Nat.beq f a && Nat.beq g b) || (Nat.beq f b && Nat.beq g a)
  | none => false
theorem zk_alk_of {E : zk_E} {N : zk_N} (h : zk_ok E N) (hc : zk_cl N) {a b : Nat} (ha : zk_alk N a b = true) : E.2 a = E.2 b := by
  unfold zk_alk at ha
  rw [Bool.or_eq_true, List.any_eq_true] at ha
  rcases ha with ha | ⟨q, hq, ha⟩
  · rw [Nat.eq_of_beq_eq_true ha]
  · split at ha
    · rename_i f g e
      obtain ⟨k, -, -⟩ := zk_as8_of (zk_tru_of h hc q hq) e
      simp only [Bool.or_eq_true, Bool.and_eq_true] at ha
      rcases ha with ha | ha
      · rw [← Nat.eq_of_beq_eq_true ha.1, ← Nat.eq_of_beq_eq_true ha.2, k]
      · rw [← Nat.eq_of_beq_eq_true ha.1, ← Nat.eq_of_beq_eq_true ha.2, k]
    · cases ha
def zk_oth (f a b : Nat) : List Nat := match Nat.beq a f with
  | true => [b]
  | false => match Nat.beq b f with
    | true => [a]
    | false => []
theorem zk_oth_of {f a b w : Nat} (h : w ∈ zk_oth f a b) : (a = f ∧ w = b) ∨ (b = f ∧ w = a) := by
  unfold zk_oth at h
  split at h
  · rename_i c
    exact Or.inl ⟨Nat.eq_of_beq_eq_true c, List.mem_singleton.mp h⟩
  · split at h
    · rename_i c
      exact Or.inr ⟨Nat.eq_of_beq_eq_true c, List.mem_singleton.mp h⟩
    · cases h
/-- rows that are another below a place, by one fact -/
def zk_nb1 (N : zk_N) (k : zk_V) (f : Nat) (h : zk_G) : List Nat := match zk_as8 h with
  | some (a, b) => zk_oth f a b
  | none => match zk_as68 h with
    | some (a, b, p, q, m) => match zk_oth f a b with
      | [] => []
      | w :: l => match zk_eqE N p (zk_c 0) && zk_eqE N q (zk_c 0) && zk_n2 N (zk_vsub m k) with
        | true => w :: l
        | false => []
    | none => match zk_as 9 h with
      | some ([a, b, _], [s, d, m]) => match Nat.beq a f && zk_eqE N s (zk_c 0) && zk_eqE N d (zk_c 0) && zk_n2 N (zk_vsub m k) with
        | true => [b]
        | false => []
      | _ => []
theorem zk_nb1_of {E : zk_E} {N : zk_N} (h : zk_ok E N) (hc : zk_cl N) {k : zk_V} {f w : Nat} {q : zk_G} (hq : q ∈ N.2.2.2) (hw : w ∈ zk_nb1 N k f q) : ∀ j : Nat, (j : Int) < zk_i E k → E.2 f j = E.2 w j := by
  have ht := zk_tru_of h hc q hq
  unfold zk_nb1 at hw
  split at hw
  · rename_i a b e
    obtain ⟨k1, -, -⟩ := zk_as8_of ht e
    intro j _
    rcases zk_oth_of hw with ⟨rfl, rfl⟩ | ⟨rfl, rfl⟩
    · rw [k1]
    · rw [k1]
  · split at hw
    · rename_i a b p q' m e
      obtain ⟨k1, -⟩ := zk_as68_of ht e
      split at hw
      · cases hw
      · rename_i w' l ho
        split at hw
        · rename_i c
          simp only [Bool.and_eq_true] at c
          have c1 := zk_eqE_of h c.1.1
          have c2 := zk_eqE_of h c.1.2
          have c3 := zk_n2_ok h c.2
          rw [zk_c_i] at c1 c2
          rw [zk_vsub_i] at c3
          rw [← ho] at hw
          intro j hj
          have g := k1 j (by omega)
          rw [c1, c2, show (0 : Int).toNat + j = j by simp] at g
          rcases zk_oth_of hw with ⟨rfl, rfl⟩ | ⟨rfl, rfl⟩
          · exact g
          · exact g.symm
        · cases hw
    · split at hw
      · rename_i a b c0 s d m hu
        have e := zk_as_of hu
        subst e
        obtain ⟨k1, -⟩ := ht
        simp only [List.map_cons, List.map_nil, zq_6, zq_7, zq_8, zq_9, zq_20, zq_21, zq_22, zq_25, zq_26, zq_28, zq_30, zq_40, zq_51, zq_52, zq_53, zq_54, zq_55, zq_64, zq_65, zq_68, zq_72, zq_73, zq_85, zq_74, zq_75, zq_76, zq_71, zq_86, zq_87, zq_80, zq_41, zq_42, zq_43, zq_94, zq_95, zq_47, zq_48, zq_96, zq_97, zq_88, zq_89, zq_90, zq_93, zq_61, zq_62, zq_1, zq_2, zq_3, zq_4, zq_5] at k1
        split at hw
        · rename_i c
          simp only [Bool.and_eq_true] at c
          obtain ⟨⟨⟨c1, c2⟩, c3⟩, c4⟩ := c
          have c1 := Nat.eq_of_beq_eq_true c1
          have c2 := zk_eqE_of h c2
          have c3 := zk_eqE_of h c3
          have c4 := zk_n2_ok h c4
          rw [zk_c_i] at c2 c3
          rw [zk_vsub_i] at c4
          rw [List.mem_singleton.mp hw]
          subst c1
          intro j hj
          rw [k1, c2, c3]
          simp only
          rw [if_pos (by simp; omega)]
          congr 1
          simp
        · cases hw
      · cases hw
def zk_nbr (N : zk_N) (k : zk_V) (f : Nat) : List Nat := N.2.2.2.flatMap (zk_nb1 N k f)
/-- alike below a place -/
def zk_pp (N : zk_N) (k : zk_V) : Nat → Nat → Nat → Bool
  | 0, f, g => Nat.beq f g || (zk_nbr N k f).any (Nat.beq g)
  | t + 1, f, g => Nat.beq f g || (zk_nbr N k f).any (Nat.beq g) || (zk_nbr N k f).any fun w => zk_pp N k t w g
theorem zk_pp_of {E : zk_E} {N : zk_N} (h : zk_ok E N) (hc : zk_cl N) {k : zk_V} : ∀ {t f g : Nat}, zk_pp N k t f g = true → ∀ j : Nat, (j : Int) < zk_i E k → E.2 f j = E.2 g j
  | 0, f, g, hp => by
    unfold zk_pp at hp
    rw [Bool.or_eq_true, List.any_eq_true] at hp
    rcases hp with hp | ⟨w, hw, hp⟩
    · rw [Nat.eq_of_beq_eq_true hp]
      exact fun _ _ => rfl
    · obtain ⟨q, hq, hw⟩ := List.mem_flatMap.mp hw
      rw [Nat.eq_of_beq_eq_true hp]
      exact zk_nb1_of h hc hq hw
  | t + 1, f, g, hp => by
    unfold zk_pp at hp
    rw [Bool.or_eq_true, Bool.or_eq_true, List.any_eq_true, List.any_eq_true] at hp
    rcases hp with (hp | ⟨w, hw, hp⟩) | ⟨w, hw, hp⟩
    · rw [Nat.eq_of_beq_eq_true hp]
      exact fun _ _ => rfl
    · obtain ⟨q, hq, hw⟩ := List.mem_flatMap.mp hw
      rw [Nat.eq_of_beq_eq_true hp]
      exact zk_nb1_of h hc hq hw
    · obtain ⟨q, hq, hw⟩ := List.mem_flatMap.mp hw
      exact fun j hj => (zk_nb1_of h hc hq hw j hj).trans (zk_pp_of h hc hp j hj)
/-- rows that are another from a place on, by one fact -/
def zk_nq1 (N : zk_N) (k : zk_V) (f : Nat) (h : zk_G) : List Nat := match zk_as8 h with
  | some (a, b) => zk_oth f a b
  | none => match zk_as65 h with
    | some (a, b, lo, hi) => match zk_oth f a b with
      | [] => []
      | w :: l => match zk_n2 N lo && zk_n2 N (zk_vsub k hi) with
        | true => w :: l
        | false => []
    | none => match zk_as 9 h with
      | some ([a, _, b], [_, d, m]) => match Nat.beq a f && zk_n2 N d && zk_n2 N (zk_vsub (zk_vsub k d) m) with
        | true => [b]
        | false => []
      | _ => []
theorem zk_nq1_of {E : zk_E} {N : zk_N} (h : zk_ok E N) (hc : zk_cl N) {k : zk_V} {f w : Nat} {q : zk_G} (hq : q ∈ N.2.2.2) (hw : w ∈ zk_nq1 N k f q) : ∀ j : Nat, zk_i E k ≤ (j : Int) → E.2 f j = E.2 w j := by
  have ht := zk_tru_of h hc q hq
  unfold zk_nq1 at hw
  split at hw
  · rename_i a b e
    obtain ⟨k1, -, -⟩ := zk_as8_of ht e
    intro j _
    rcases zk_oth_of hw with ⟨rfl, rfl⟩ | ⟨rfl, rfl⟩
    · rw [k1]
    · rw [k1]
  · split at hw
    · rename_i a b lo hi e
      obtain ⟨k1, -⟩ := zk_as65_of ht e
      split at hw
      · cases hw
      · rename_i w' l ho
        split at hw
        · rename_i c
          rw [Bool.and_eq_true] at c
          have c1 := zk_n2_ok h c.1
          have c3 := zk_n2_ok h c.2
          rw [zk_vsub_i] at c3
          rw [← ho] at hw
          intro j hj
          have g := k1 j (Or.inr (by omega))
          rcases zk_oth_of hw with ⟨rfl, rfl⟩ | ⟨rfl, rfl⟩
          · exact g
          · exact g.symm
        · cases hw
    · split at hw
      · rename_i a b0 b s d m hu
        have e := zk_as_of hu
        subst e
        obtain ⟨k1, -⟩ := ht
        simp only [List.map_cons, List.map_nil, zq_6, zq_7, zq_8, zq_9, zq_20, zq_21, zq_22, zq_25, zq_26, zq_28, zq_30, zq_40, zq_51, zq_52, zq_53, zq_54, zq_55, zq_64, zq_65, zq_68, zq_72, zq_73, zq_85, zq_74, zq_75, zq_76, zq_71, zq_86, zq_87, zq_80, zq_41, zq_42, zq_43, zq_94, zq_95, zq_47, zq_48, zq_96, zq_97, zq_88, zq_89, zq_90, zq_93, zq_61, zq_62, zq_1, zq_2, zq_3, zq_4, zq_5] at k1
        split at hw
        · rename_i c
          simp only [Bool.and_eq_true] at c
          obtain ⟨⟨c1, c2⟩, c3⟩ := c
          have c1 := Nat.eq_of_beq_eq_true c1
          have c2 := zk_n2_ok h c2
          have c3 := zk_n2_ok h c3
          rw [zk_vsub_i, zk_vsub_i] at c3
          rw [List.mem_singleton.mp hw]
          subst c1
          intro j hj
          rw [k1]
          simp only
          rw [if_neg (by omega)]
        · cases hw
      · cases hw
def zk_nqr (N : zk_N) (k : zk_V) (f : Nat) : List Nat := N.2.2.2.flatMap (zk_nq1 N k f)
/-- alike from a place on -/
def zk_qq (N : zk_N) (k : zk_V) : Nat → Nat → Nat → Bool
  | 0, f, g => Nat.beq f g || (zk_nqr N k f).any (Nat.beq g)
  | t + 1, f, g => Nat.beq f g || (zk_nqr N k f).any (Nat.beq g) || (zk_nqr N k f).any fun w => zk_qq N k t w g
theorem zk_qq_of {E : zk_E} {N : zk_N} (h : zk_ok E N) (hc : zk_cl N) {k : zk_V} : ∀ {t f g : Nat}, zk_qq N k t f g = true → ∀ j : Nat, zk_i E k ≤ (j : Int) → E.2 f j = E.2 g j
  | 0, f, g, hp => by
    unfold zk_qq at hp
    rw [Bool.or_eq_true, List.any_eq_true] at hp
    rcases hp with hp | ⟨w, hw, hp⟩
    · rw [Nat.eq_of_beq_eq_true hp]
      exact fun _ _ => rfl
    · obtain ⟨q, hq, hw⟩ := List.mem_flatMap.mp hw
      rw [Nat.eq_of_beq_eq_true hp]
      exact zk_nq1_of h hc hq hw
  | t + 1, f, g, hp => by
    unfold zk_qq at hp
    rw [Bool.or_eq_true, Bool.or_eq_true, List.any_eq_true, List.any_eq_true] at hp
    rcases hp with (hp | ⟨w, hw, hp⟩) | ⟨w, hw, hp⟩
    · rw [Nat.eq_of_beq_eq_true hp]
      exact fun _ _ => rfl
    · obtain ⟨q, hq, hw⟩ := List.mem_flatMap.mp hw
      rw [Nat.eq_of_beq_eq_true hp]
      exact zk_nq1_of h hc hq hw
    · obtain ⟨q, hq, hw⟩ := List.mem_flatMap.mp hw
      exact fun j hj => (zk_nq1_of h hc hq hw j hj).trans (zk_qq_of h hc hp j hj)
/-- a number: told, or a cell's -/
def zk_jk (hp : List zk_C) (kd u v : Nat) : Option zk_V := match kd with
  | 0 => some (zk_c (Int.ofNat u))
  | _ => match zk_get hp u with
    | some c => match zk_get c.2.2 v with
      | some t => some t.2.2
      | none => none
    | none => none
def zk_jn2 (X Y : Nat) (kd : Nat) (k : zk_V) (N : zk_N) : Option zk_N := match zk_alk N X Y || !(Nat.blt X N.1 && Nat.blt Y N.1 && zk_svB N.1 k) with
  | true => some N
  | false => match kd with
    | 2 => match zk_pp N k 4 X Y with
      | true => some (zk_addGs N [(68, [X, Y], [zk_c 0, zk_c 0, k])])
      | false => some N
    | _ => match zk_n2 N k && zk_pp N k 4 X Y && zk_qq N k 4 X Y with
      | true => some (zk_addGs N [(8, [X, Y], [])])
      | false => some N
theorem zk_jn2_gd {E : zk_E} {n X Y kd : Nat} {k : zk_V} : zk_gd E n (zk_jn2 X Y kd k) := by
  intro N hN hc hn
  unfold zk_jn2
  split
  · exact zk_id_gd N hN hc hn
  · rename_i c
    simp only [Bool.or_eq_false_iff, Bool.not_eq_false', Bool.and_eq_true] at c
    obtain ⟨-, ⟨c1, c2⟩, c3⟩ := c
    have c1 := Nat.blt_eq.mp c1
    have c2 := Nat.blt_eq.mp c2
    have c3 := zk_svB_of c3
    split
    · split
      · rename_i hp
        have hp := zk_pp_of hN hc hp
        obtain ⟨k1, k2⟩ := zk_addGs_ok hN hc (L := [(68, [X, Y], [zk_c 0, zk_c 0, k])]) (fun g hg => by
          rw [List.mem_singleton.mp hg]
          refine ⟨?_, fun a ha => ?_, fun v hv => ?_⟩
          · simp only [List.map_cons, List.map_nil, zq_6, zq_7, zq_8, zq_9, zq_20, zq_21, zq_22, zq_25, zq_26, zq_28, zq_30, zq_40, zq_51, zq_52, zq_53, zq_54, zq_55, zq_64, zq_65, zq_68, zq_72, zq_73, zq_85, zq_74, zq_75, zq_76, zq_71, zq_86, zq_87, zq_80, zq_41, zq_42, zq_43, zq_94, zq_95, zq_47, zq_48, zq_96, zq_97, zq_88, zq_89, zq_90, zq_93, zq_61, zq_62, zq_1, zq_2, zq_3, zq_4, zq_5, zk_c_i]
            intro j hj
            rw [show (0 : Int).toNat + j = j by simp]
            exact hp j (by omega)
          · simp only [List.mem_cons, List.not_mem_nil, or_false] at ha
            rcases ha with rfl | rfl
            · exact c1
            · exact c2
          · simp only [List.mem_cons, List.not_mem_nil, or_false] at hv
            rcases hv with rfl | rfl | rfl
            · exact zk_c_sv
            · exact zk_c_sv
            · exact c3)
        exact ⟨_, rfl, k1, k2, hn⟩
      · exact zk_id_gd N hN hc hn
    · split
      · rename_i hp
        simp only [Bool.and_eq_true] at hp
        have h1 := zk_pp_of hN hc hp.1.2
        have h2 := zk_qq_of hN hc hp.2
        obtain ⟨k1, k2⟩ := zk_addGs_ok hN hc (L := [(8, [X, Y], [])]) (fun g hg => by
          rw [List.mem_singleton.mp hg]
          refine ⟨?_, fun a ha => ?_, fun v hv => absurd hv List.not_mem_nil⟩
          · simp only [List.map_cons, List.map_nil, zq_6, zq_7, zq_8, zq_9, zq_20, zq_21, zq_22, zq_25, zq_26, zq_28, zq_30, zq_40, zq_51, zq_52, zq_53, zq_54, zq_55, zq_64, zq_65, zq_68, zq_72, zq_73, zq_85, zq_74, zq_75, zq_76, zq_71, zq_86, zq_87, zq_80, zq_41, zq_42, zq_43, zq_94, zq_95, zq_47, zq_48, zq_96, zq_97, zq_88, zq_89, zq_90, zq_93, zq_61, zq_62, zq_1, zq_2, zq_3, zq_4, zq_5]
            funext j
            by_cases hj : (j : Int) < zk_i E k
            · exact h1 j hj
            · exact h2 j (by omega)
          · simp only [List.mem_cons, List.not_mem_nil, or_false] at ha
            rcases ha with rfl | rfl
            · exact c1
            · exact c2)
        exact ⟨_, rfl, k1, k2, hn⟩
      · exact zk_id_gd N hN hc hn
def zk_jn1 (hp : List zk_C) (q : Nat × Nat × Nat × Nat × Nat) (N : zk_N) : Option zk_N := match zk_row hp (3, q.1, [], 0), zk_row hp (3, q.2.1, [], 0), zk_jk hp q.2.2.1 q.2.2.2.1 q.2.2.2.2 with
  | some (_, _, _, X), some (_, _, _, Y), some k => zk_jn2 X Y q.2.2.1 k N
  | _, _, _ => some N
theorem zk_jn1_gd {E : zk_E} {n : Nat} {hp : List zk_C} {q : Nat × Nat × Nat × Nat × Nat} : zk_gd E n (zk_jn1 hp q) := by
  intro N hN hc hn
  unfold zk_jn1
  split
  · exact zk_jn2_gd N hN hc hn
  · exact zk_id_gd N hN hc hn
def zk_rjn (L : List (Nat × Nat × Nat × Nat × Nat)) : zk_Rl := fun z => match zk_ea (zk_jn1 z.2.1) L z.1 with
  | some N => some [N]
  | none => some []
theorem zk_rjn_ok (L : List (Nat × Nat × Nat × Nat × Nat)) : zk_Rok (zk_rjn L) := by
  refine zk_Rs_ok fun z L' hz E h hc hcs hl hs => ?_
  obtain ⟨N', a1, a2, a3, a4⟩ := zk_ea_gd (f := zk_jn1 z.2.1) (l := L) (E := E) (n := z.1.1) (fun q _ => zk_jn1_gd) z.1 h hc rfl
  unfold zk_rjn at hz
  rw [a1] at hz
  cases hz
  exact ⟨N', List.mem_cons_self, a2, a3, a4⟩
/-! reads carried over -/
def zk_br2 (f o : Nat) (p : zk_V) (r : zk_G) (N : zk_N) : Option zk_N := match zk_as 1 r with
  | some ([a], [j, w]) => match Nat.beq a f && zk_n2 N p && zk_n2 N j && (zk_nz N (zk_vsub p j) || zk_nz N (zk_vsub j p)) with
    | true => match zk_mem1 o j N.2.2.2 with
      | some u => match zk_eqv u w with
        | true => some N
        | false => zk_eqs N (zk_vsub u w)
      | none => some (zk_addGs N [(1, [o], [j, w])])
    | false => some N
  | _ => some N
def zk_br1 (g : zk_G) (N : zk_N) : Option zk_N := match zk_as2 g with
  | some (f, o, p, _) => zk_on (zk_kd 1) (zk_br2 f o p) N
  | none => some N
theorem zk_br1_gd {E : zk_E} {n : Nat} {g : zk_G} (hg : zk_tru E n g) : zk_gd E n (zk_br1 g) := by
  intro N hN hc hn
  unfold zk_br1
  split
  · rename_i f o p v e
    obtain ⟨s1, s2, s3, s4, s5⟩ := zk_as2_of hg e
    refine zk_on_gd (E := E) (n := n) (h := zk_kd 1) (f := zk_br2 f o p) (fun N0 hN0 hc0 hn0 r hr => ?_) N hN hc hn
    have hrt := zk_trs hN0 hc0 hn0 r (zk_kd_m hr)
    intro N1 hN1 hc1 hn1
    unfold zk_br2
    split
    · rename_i a j w hu2
      have e2 := zk_as_of hu2
      subst e2
      obtain ⟨g1, g2, g3⟩ := hrt
      simp only [List.map_cons, List.map_nil, zk_S] at g1
      split
      · rename_i c
        simp only [Bool.and_eq_true, Bool.or_eq_true] at c
        obtain ⟨⟨⟨c1, c2⟩, c3⟩, c4⟩ := c
        have c1 := Nat.eq_of_beq_eq_true c1
        have c2 := zk_n2_ok hN1 c2
        have c3 := zk_n2_ok hN1 c3
        subst c1
        have hne : zk_i E p ≠ zk_i E j := by
          rcases c4 with c4 | c4
          · have := zk_nz_ok hN1 c4
            rw [zk_vsub_i] at this
            omega
          · have := zk_nz_ok hN1 c4
            rw [zk_vsub_i] at this
            omega
        have eo : E.2 o (zk_i E j).toNat = zk_i E w := by
          rw [s1] at g1
          simp only at g1
          rw [if_neg (by omega)] at g1
          exact g1
        split
        · rename_i u hm
          have eu := zk_mem1_i hN1 hm
          split
          · exact zk_id_gd N1 hN1 hc1 hn1
          · refine zk_eqsg ?_ (zk_vsub_sv ?_ (g3 _ (by simp))) N1 hN1 hc1 hn1
            · rw [zk_vsub_i]
              omega
            · rw [← hn1]
              exact zk_mem1_sv hc1 hm
        · obtain ⟨k1, k2⟩ := zk_addGs_ok hN1 hc1 (L := [(1, [o], [j, w])]) (fun x hx => by
            rw [List.mem_singleton.mp hx]
            refine ⟨?_, fun b hb => ?_, fun b hb => ?_⟩
            · simp only [List.map_cons, List.map_nil, zk_S]
              exact eo
            · rw [List.mem_singleton.mp hb, hn1]
              exact s3
            · rw [hn1]
              exact g3 b hb)
          exact ⟨_, rfl, k1, k2, hn1⟩
      · exact zk_id_gd N1 hN1 hc1 hn1
    · exact zk_id_gd N1 hN1 hc1 hn1
  · exact zk_id_gd N hN hc hn
def zk_rbr : zk_Rl := zk_nr (zk_on (zk_kd 2) zk_br1)
theorem zk_rbr_ok : zk_Rok zk_rbr := zk_nr_ok fun E n => zk_on_gd fun N h hc hn p hp => zk_br1_gd (zk_trs h hc hn p (zk_kd_m hp))
def zk_sr2 (f g : Nat) (k : zk_V) (r : zk_G) (N : zk_N) : Option zk_N := match zk_as 1 r with
  | some ([a], [j, w]) => match Nat.beq a f && zk_n2 N j && zk_n2 N (zk_vsub (zk_vsub k j) (zk_c 1)) with
    | true => match zk_mem1 g j N.2.2.2 with
      | some _ => some N
      | none => some (zk_addGs N [(1, [g], [j, w])])
    | false => some N
  | _ => some N
theorem zk_sr2_gd {E : zk_E} {n f g : Nat} {k : zk_V} (hg : g < n) (hh : ∀ j : Nat, (j : Int) < zk_i E k → E.2 f j = E.2 g j) {r : zk_G} (hr : zk_tru E n r) : zk_gd E n (zk_sr2 f g k r) := by
  intro N hN hc hn
  unfold zk_sr2
  split
  · rename_i a j w hu
    have e := zk_as_of hu
    subst e
    obtain ⟨g1, g2, g3⟩ := hr
    simp only [List.map_cons, List.map_nil, zk_S] at g1
    split
    · rename_i c
      simp only [Bool.and_eq_true] at c
      obtain ⟨⟨c1, c2⟩, c3⟩ := c
      have c1 := Nat.eq_of_beq_eq_true c1
      have c2 := zk_n2_ok hN c2
      have c3 := zk_n2_ok hN c3
      rw [zk_vsub_i, zk_vsub_i, zk_c_i] at c3
      subst c1
      split
      · exact zk_id_gd N hN hc hn
      · obtain ⟨k1, k2⟩ := zk_addGs_ok hN hc (L := [(1, [g], [j, w])]) (fun x hx => by
          rw [List.mem_singleton.mp hx]
          refine ⟨?_, fun b hb => ?_, fun b hb => ?_⟩
          · simp only [List.map_cons, List.map_nil, zk_S]
            rw [← hh _ (by omega)]
            exact g1
          · rw [List.mem_singleton.mp hb, hn]
            exact hg
          · rw [hn]
            exact g3 b hb)
        exact ⟨_, rfl, k1, k2, hn⟩
    · exact zk_id_gd N hN hc hn
  · exact zk_id_gd N hN hc hn
def zk_sr1 (q : zk_G) (N : zk_N) : Option zk_N := match zk_as68 q with
  | some (f, g, a, b, k) => match zk_eqE N a (zk_c 0) && zk_eqE N b (zk_c 0) with
    | true => zk_sq (zk_on (zk_kd 1) (zk_sr2 f g k)) (zk_on (zk_kd 1) (zk_sr2 g f k)) N
    | false => some N
  | none => some N
theorem zk_sr1_gd {E : zk_E} {n : Nat} {q : zk_G} (hq : zk_tru E n q) : zk_gd E n (zk_sr1 q) := by
  intro N hN hc hn
  unfold zk_sr1
  split
  · rename_i f g a b k e
    obtain ⟨s1, s2, s3, s4, s5, s6⟩ := zk_as68_of hq e
    split
    · rename_i c
      rw [Bool.and_eq_true] at c
      have c1 := zk_eqE_of hN c.1
      have c2 := zk_eqE_of hN c.2
      rw [zk_c_i] at c1 c2
      have hh : ∀ j : Nat, (j : Int) < zk_i E k → E.2 f j = E.2 g j := fun j hj => by
        have := s1 j (by omega)
        rw [c1, c2, show (0 : Int).toNat + j = j by simp] at this
        exact this
      exact zk_sq_gd (zk_on_gd fun N0 hN0 hc0 hn0 r hr => zk_sr2_gd s3 hh (zk_trs hN0 hc0 hn0 r (zk_kd_m hr))) (zk_on_gd fun N0 hN0 hc0 hn0 r hr => zk_sr2_gd s2 (fun j hj => (hh j hj).symm) (zk_trs hN0 hc0 hn0 r (zk_kd_m hr))) N hN hc hn
    · exact zk_id_gd N hN hc hn
  · exact zk_id_gd N hN hc hn
def zk_r6r : zk_Rl := zk_nr (zk_on (zk_kd 68) zk_sr1)
theorem zk_r6r_ok : zk_Rok zk_r6r := zk_nr_ok fun E n => zk_on_gd fun N h hc hn p hp => zk_sr1_gd (zk_trs h hc hn p (zk_kd_m hp))
/-- the same wrapped, the same -/
def zk_b7 (x w : zk_V) (q : zk_G) (N : zk_N) : Option zk_N := match zk_as 7 q with
  | some ([], [x', w']) => match !(zk_eqv w w') && zk_eqE N x x' && zk_in N w && zk_in N w' with
    | true => zk_eqs N (zk_vsub w w')
    | false => some N
  | _ => some N
def zk_a7 (q : zk_G) (N : zk_N) : Option zk_N := match zk_as 7 q with
  | some ([], [x, w]) => zk_on (zk_kd 7) (zk_b7 x w) N
  | _ => some N
theorem zk_a7_gd {E : zk_E} {n : Nat} {q : zk_G} (hq : zk_tru E n q) : zk_gd E n (zk_a7 q) := by
  intro N hN hc hn
  unfold zk_a7
  split
  · rename_i x w hu
    have e := zk_as_of hu
    subst e
    obtain ⟨h1, -, h3⟩ := hq
    simp only [List.map_cons, List.map_nil, zq_6, zq_7, zq_8, zq_9, zq_20, zq_21, zq_22, zq_25, zq_26, zq_28, zq_30, zq_40, zq_51, zq_52, zq_53, zq_54, zq_55, zq_64, zq_65, zq_68, zq_72, zq_73, zq_85, zq_74, zq_75, zq_76, zq_71, zq_86, zq_87, zq_80, zq_41, zq_42, zq_43, zq_94, zq_95, zq_47, zq_48, zq_96, zq_97, zq_88, zq_89, zq_90, zq_93, zq_61, zq_62, zq_1, zq_2, zq_3, zq_4, zq_5] at h1
    refine zk_on_gd (E := E) (n := n) (h := zk_kd 7) (f := zk_b7 x w) (fun N0 hN0 hc0 hn0 r hr => ?_) N hN hc hn
    have hrt := zk_trs hN0 hc0 hn0 r (zk_kd_m hr)
    intro N1 hN1 hc1 hn1
    unfold zk_b7
    split
    · rename_i x' w' hu2
      have e2 := zk_as_of hu2
      subst e2
      obtain ⟨g1, -, g3⟩ := hrt
      simp only [List.map_cons, List.map_nil, zq_6, zq_7, zq_8, zq_9, zq_20, zq_21, zq_22, zq_25, zq_26, zq_28, zq_30, zq_40, zq_51, zq_52, zq_53, zq_54, zq_55, zq_64, zq_65, zq_68, zq_72, zq_73, zq_85, zq_74, zq_75, zq_76, zq_71, zq_86, zq_87, zq_80, zq_41, zq_42, zq_43, zq_94, zq_95, zq_47, zq_48, zq_96, zq_97, zq_88, zq_89, zq_90, zq_93, zq_61, zq_62, zq_1, zq_2, zq_3, zq_4, zq_5] at g1
      split
      · rename_i c
        simp only [Bool.and_eq_true] at c
        obtain ⟨⟨⟨-, c2⟩, c3⟩, c4⟩ := c
        have c2 := zk_eqE_of hN1 c2
        have c3 := zk_in_ok hN1 c3
        have c4 := zk_in_ok hN1 c4
        refine zk_eqsg ?_ (zk_vsub_sv (h3 _ (by simp)) (g3 _ (by simp))) N1 hN1 hc1 hn1
        rw [zk_vsub_i, ← c3, ← c4, ← h1, ← g1, c2]
        omega
      · exact zk_id_gd N1 hN1 hc1 hn1
    · exact zk_id_gd N1 hN1 hc1 hn1
  · exact zk_id_gd N hN hc hn
def zk_r7 : zk_Rl := zk_nr (zk_on (zk_kd 7) zk_a7)
theorem zk_r7_ok : zk_Rok zk_r7 := zk_nr_ok fun E n => zk_on_gd fun N h hc hn p hp => zk_a7_gd (zk_trs h hc hn p (zk_kd_m hp))
end
