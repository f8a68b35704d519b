noncomputable section
/-! PIECES FROM 0 ON: copied, alike with the same, changed behind -/
/-- copied -/
def zk_a68 (N : zk_N) (q : zk_G) : List zk_G := match zk_as9 q with
  | some (f, g, _, a, b, n) => match zk_eqE N a (zk_c 0) && zk_eqE N b (zk_c 0) && zk_svB N.1 n with
    | true => [(68, [f, g], [zk_c 0, zk_c 0, n])]
    | false => []
  | none => []
theorem zk_a68_ok {E : zk_E} {N : zk_N} (hN : zk_ok E N) (hc : zk_cl N) {q : zk_G} (hq : q ∈ N.2.2.2) : ∀ x ∈ zk_a68 N q, zk_tru E N.1 x := by
  intro x hx
  unfold zk_a68 at hx
  split at hx
  · rename_i f g h a b n he
    obtain ⟨t1, t2, t3, -⟩ := zk_as9_of (zk_tru_of hN hc q hq) he
    split at hx
    · rename_i c
      simp only [Bool.and_eq_true] at c
      have c1 := zk_eqE_of hN c.1.1
      have c2 := zk_eqE_of hN c.1.2
      have c3 := zk_svB_of c.2
      rw [zk_c_i] at c1 c2
      rw [List.mem_singleton.mp hx]
      refine ⟨?_, fun r hr => ?_, fun u hu => ?_⟩
      · simp only [List.map_cons, List.map_nil, zq_6, zq_7, zq_8, zq_9, zq_20, zq_21, zq_22, zq_25, zq_26, zq_28, zq_30, zq_40, zq_51, zq_52, zq_53, zq_54, zq_55, zq_64, zq_65, zq_68, zq_72, zq_73, zq_85, zq_74, zq_75, zq_76, zq_71, zq_86, zq_87, zq_80, zq_41, zq_42, zq_43, zq_94, zq_95, zq_47, zq_48, zq_96, zq_97, zq_88, zq_89, zq_90, zq_93, zq_61, zq_62, zq_1, zq_2, zq_3, zq_4, zq_5, zk_c_i]
        intro j hj
        rw [t1, c1, c2]
        simp only [Int.toNat_zero, Nat.zero_add, Nat.zero_le, true_and, Nat.sub_zero]
        rw [if_pos hj]
      · simp only [List.mem_cons, List.not_mem_nil, or_false] at hr
        rcases hr with rfl | rfl
        · exact t2
        · exact t3
      · simp only [List.mem_cons, List.not_mem_nil, or_false] at hu
        rcases hu with rfl | rfl | rfl
        · exact zk_c_sv
        · exact zk_c_sv
        · exact c3
    · cases hx
  · cases hx
/-- the other side's row written behind the piece -/
def zk_b68 (N : zk_N) (f g : Nat) (m : zk_V) (q : zk_G) : List zk_G := match zk_as2 q with
  | some (g', g0, p, _) => match Nat.beq g0 g && zk_n2 N (zk_vsub p m) with
    | true => [(68, [f, g'], [zk_c 0, zk_c 0, m])]
    | false => []
  | none => []
/-- both alike with the same -/
def zk_h8 (h h' : Nat) (q : zk_G) : Bool := match zk_as8 q with
  | some (a, b) => (Nat.beq a h && Nat.beq b h') || (Nat.beq a h' && Nat.beq b h)
  | none => false
theorem zk_h8_of {E : zk_E} {N : zk_N} (hN : zk_ok E N) (hc : zk_cl N) {h h' : Nat} (hh : (zk_o9 8 N).any (zk_h8 h h') = true) : E.2 h = E.2 h' := by
  obtain ⟨q, hq, hh⟩ := List.any_eq_true.mp hh
  unfold zk_h8 at hh
  split at hh
  · rename_i a b e
    obtain ⟨k, -, -⟩ := zk_as8_of (zk_tru_of hN hc q (zk_o9_m hq)) e
    simp only [Bool.or_eq_true, Bool.and_eq_true] at hh
    rcases hh with hh | hh
    · rw [← Nat.eq_of_beq_eq_true hh.1, ← Nat.eq_of_beq_eq_true hh.2, k]
    · rw [← Nat.eq_of_beq_eq_true hh.1, ← Nat.eq_of_beq_eq_true hh.2, k]
  · cases hh
def zk_d68 (N : zk_N) (f h : Nat) (m : zk_V) (q : zk_G) : List zk_G := match zk_as68 q with
  | some (g, h', a, b, k) => match !(Nat.beq f g) && (Nat.beq h h' || (zk_o9 8 N).any (zk_h8 h h')) && zk_eqE N a (zk_c 0) && zk_eqE N b (zk_c 0) && zk_n2 N (zk_vsub k m) with
    | true => [(68, [f, g], [zk_c 0, zk_c 0, m])]
    | false => []
  | none => []
def zk_e68 (N : zk_N) (q : zk_G) : List zk_G := match zk_as68 q with
  | some (f, g, a, b, m) => match zk_eqE N a (zk_c 0) && zk_eqE N b (zk_c 0) with
    | true => (zk_o2 N g).flatMap (zk_b68 N f g m) ++ (zk_o9 68 N).flatMap (zk_d68 N f g m)
    | false => []
  | none => []
theorem zk_e68_ok {E : zk_E} {N : zk_N} (hN : zk_ok E N) (hc : zk_cl N) {q : zk_G} (hq : q ∈ N.2.2.2) : ∀ x ∈ zk_e68 N q, zk_tru E N.1 x := by
  intro x hx
  unfold zk_e68 at hx
  split at hx
  · rename_i f g a b m he
    obtain ⟨t1, t2, t3, t4, t5, t6⟩ := zk_as68_of (zk_tru_of hN hc q hq) he
    split at hx
    · rename_i c
      rw [Bool.and_eq_true] at c
      have c1 := zk_eqE_of hN c.1
      have c2 := zk_eqE_of hN c.2
      rw [zk_c_i] at c1 c2
      have tt : ∀ j : Nat, j < (zk_i E m).toNat → E.2 f j = E.2 g j := fun j hj => by
        have := t1 j hj
        rw [c1, c2] at this
        simpa using this
      have fin : ∀ g' : Nat, g' < N.1 → (∀ j : Nat, j < (zk_i E m).toNat → E.2 f j = E.2 g' j) → zk_tru E N.1 (68, [f, g'], [zk_c 0, zk_c 0, m]) := fun g' hg' h => by
        refine ⟨?_, fun r hr => ?_, fun u hu => ?_⟩
        · simp only [List.map_cons, List.map_nil, zq_6, zq_7, zq_8, zq_9, zq_20, zq_21, zq_22, zq_25, zq_26, zq_28, zq_30, zq_40, zq_51, zq_52, zq_53, zq_54, zq_55, zq_64, zq_65, zq_68, zq_72, zq_73, zq_85, zq_74, zq_75, zq_76, zq_71, zq_86, zq_87, zq_80, zq_41, zq_42, zq_43, zq_94, zq_95, zq_47, zq_48, zq_96, zq_97, zq_88, zq_89, zq_90, zq_93, zq_61, zq_62, zq_1, zq_2, zq_3, zq_4, zq_5, zk_c_i]
          intro j hj
          simp only [Int.toNat_zero, Nat.zero_add]
          exact h j hj
        · simp only [List.mem_cons, List.not_mem_nil, or_false] at hr
          rcases hr with rfl | rfl
          · exact t2
          · exact hg'
        · simp only [List.mem_cons, List.not_mem_nil, or_false] at hu
          rcases hu with rfl | rfl | rfl
          · exact zk_c_sv
          · exact zk_c_sv
          · exact t6
      rcases List.mem_append.mp hx with hx1 | hx1
      · obtain ⟨y, hy, hx2⟩ := List.mem_flatMap.mp hx1
        have hy := zk_o2_m hy
        clear hx hx1
        unfold zk_b68 at hx2
        split at hx2
        · rename_i g' g0 p v e1
          obtain ⟨s1, s2, -⟩ := zk_as2_of (zk_tru_of hN hc y hy) e1
          split at hx2
          · rename_i d
            rw [Bool.and_eq_true] at d
            have d1 := Nat.eq_of_beq_eq_true d.1
            have d2 := zk_n2_ok hN d.2
            rw [zk_vsub_i] at d2
            subst d1
            rw [List.mem_singleton.mp hx2]
            refine fin g' s2 fun j hj => ?_
            rw [s1]
            simp only
            rw [if_neg (by omega)]
            exact tt j hj
          · cases hx2
        · cases hx2
      · obtain ⟨y, hy, hx2⟩ := List.mem_flatMap.mp hx1
        have hy := zk_o9_m hy
        clear hx hx1
        unfold zk_d68 at hx2
        split at hx2
        · rename_i g' h' a' b' k e1
          obtain ⟨s1, s2, -⟩ := zk_as68_of (zk_tru_of hN hc y hy) e1
          split at hx2
          · rename_i d
            simp only [Bool.and_eq_true, Bool.or_eq_true] at d
            obtain ⟨⟨⟨⟨-, d1⟩, d2⟩, d3⟩, d4⟩ := d
            have d2 := zk_eqE_of hN d2
            have d3 := zk_eqE_of hN d3
            have d4 := zk_n2_ok hN d4
            rw [zk_c_i] at d2 d3
            rw [zk_vsub_i] at d4
            have eh : E.2 g = E.2 h' := by
              rcases d1 with d1 | d1
              · rw [Nat.eq_of_beq_eq_true d1]
              · exact zk_h8_of hN hc d1
            rw [List.mem_singleton.mp hx2]
            refine fin g' s2 fun j hj => ?_
            have := s1 j (by omega)
            rw [d2, d3] at this
            rw [tt j hj, eh]
            simpa using this.symm
          · cases hx2
        · cases hx2
    · cases hx
  · cases hx
def zk_g68 (N : zk_N) (q : zk_G) : List zk_G := zk_a68 N q ++ zk_e68 N q
def zk_re68 : zk_Rl := zk_nr fun N => some (zk_addGs N ((zk_o9 9 N).flatMap (zk_g68 N) ++ (zk_o9 68 N).flatMap (zk_g68 N)))
theorem zk_re68_ok : zk_Rok zk_re68 := zk_nr_ok fun E n => zk_add_gd (f := fun N => (zk_o9 9 N).flatMap (zk_g68 N) ++ (zk_o9 68 N).flatMap (zk_g68 N)) fun N hN hc hn x hx => by
  obtain ⟨y, hy1, hy2⟩ : ∃ y, y ∈ N.2.2.2 ∧ x ∈ zk_g68 N y := by
    rcases List.mem_append.mp hx with hx | hx
    · obtain ⟨y, hy1, hy2⟩ := List.mem_flatMap.mp hx
      exact ⟨y, zk_o9_m hy1, hy2⟩
    · obtain ⟨y, hy1, hy2⟩ := List.mem_flatMap.mp hx
      exact ⟨y, zk_o9_m hy1, hy2⟩
  rw [← hn]
  rcases List.mem_append.mp hy2 with hy2 | hy2
  · exact zk_a68_ok hN hc hy1 x hy2
  · exact zk_e68_ok hN hc hy1 x hy2
end
