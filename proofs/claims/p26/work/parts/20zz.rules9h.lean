noncomputable section
/-! ALIKE BUT FOR A PIECE: written within it; written twice at a place; rows alike with the same -/
def zk_h65 (N : zk_N) (a b : zk_G) : List zk_G := match zk_as65 a with
  | some (g, h, lo, hi) => match zk_as2 b with
    | some (f, g', p, _) => match Nat.beq g' g && zk_n2 N lo && zk_n2 N (zk_vsub p lo) && zk_n2 N (zk_vsub (zk_vsub hi p) (zk_c 1)) with
      | true => [(65, [f, h], [lo, hi])]
      | false => []
    | none => match zk_as8 b with
      | some (f, g') => match Nat.beq g' g && !(Nat.beq f g) with
        | true => [(65, [f, h], [lo, hi])]
        | false => []
      | none => []
  | none => []
theorem zk_h65_ok {E : zk_E} {N : zk_N} (hN : zk_ok E N) (hc : zk_cl N) {a b : zk_G} (ha : a ∈ N.2.2.2) (hb : b ∈ N.2.2.2) : ∀ x ∈ zk_h65 N a b, zk_tru E N.1 x := by
  intro x hx
  unfold zk_h65 at hx
  split at hx
  · rename_i g h lo hi e1
    obtain ⟨s1, s2, s3, s4, s5⟩ := zk_as65_of (zk_tru_of hN hc a ha) e1
    have fin : ∀ f : Nat, f < N.1 → (∀ j : Nat, (j < (zk_i E lo).toNat ∨ (zk_i E hi).toNat ≤ j) → E.2 f j = E.2 g j) → zk_tru E N.1 (65, [f, h], [lo, hi]) := fun f hf hh => by
      refine ⟨?_, fun r hr => ?_, fun u hu => ?_⟩
      · simp only [List.map_cons, List.map_nil, zq_6, zq_7, zq_8, zq_9, zq_20, zq_21, zq_22, zq_25, zq_26, zq_28, zq_30, zq_40, zq_51, zq_52, zq_53, zq_54, zq_55, zq_64, zq_65, zq_68, zq_72, zq_73, zq_85, zq_74, zq_75, zq_76, zq_71, zq_86, zq_87, zq_80, zq_41, zq_42, zq_43, zq_94, zq_95, zq_47, zq_48, zq_96, zq_97, zq_88, zq_89, zq_90, zq_93, zq_61, zq_62, zq_1, zq_2, zq_3, zq_4, zq_5]
        exact fun j hj => (hh j hj).trans (s1 j hj)
      · simp only [List.mem_cons, List.not_mem_nil, or_false] at hr
        rcases hr with rfl | rfl
        · exact hf
        · exact s3
      · simp only [List.mem_cons, List.not_mem_nil, or_false] at hu
        rcases hu with rfl | rfl
        · exact s4
        · exact s5
    split at hx
    · rename_i f g' p v e2
      obtain ⟨u1, u2, u3, u4, u5⟩ := zk_as2_of (zk_tru_of hN hc b hb) e2
      split at hx
      · rename_i c
        simp only [Bool.and_eq_true] at c
        obtain ⟨⟨⟨c1, c2⟩, c3⟩, c4⟩ := c
        have c1 := Nat.eq_of_beq_eq_true c1
        have c2 := zk_n2_ok hN c2
        have c3 := zk_n2_ok hN c3
        have c4 := zk_n2_ok hN c4
        rw [zk_vsub_i] at c3
        rw [zk_vsub_i, zk_vsub_i, zk_c_i] at c4
        subst c1
        rw [List.mem_singleton.mp hx]
        refine fin f u2 fun j hj => ?_
        rw [u1]
        simp only
        rw [if_neg (by omega)]
      · cases hx
    · split at hx
      · rename_i f g' e2
        obtain ⟨u1, u2, u3⟩ := zk_as8_of (zk_tru_of hN hc b hb) e2
        split at hx
        · rename_i c
          rw [Bool.and_eq_true] at c
          have c1 := Nat.eq_of_beq_eq_true c.1
          subst c1
          rw [List.mem_singleton.mp hx]
          exact fin f u2 fun j _ => by rw [u1]
        · cases hx
      · cases hx
  · cases hx
def zk_r65 : zk_Rl := zk_nr fun N => some (zk_addGs N (N.2.2.2.flatMap fun a => N.2.2.2.flatMap (zk_h65 N a)))
theorem zk_r65_ok : zk_Rok zk_r65 := zk_nr_ok fun E n => zk_add_gd (f := fun N => N.2.2.2.flatMap fun a => N.2.2.2.flatMap (zk_h65 N a)) fun N hN hc hn x hx => by
  obtain ⟨a, ha, hx⟩ := List.mem_flatMap.mp hx
  obtain ⟨b, hb, hx⟩ := List.mem_flatMap.mp hx
  rw [← hn]
  exact zk_h65_ok hN hc ha hb x hx
/-- written twice at one place -/
def zk_ov (N : zk_N) (a b : zk_G) : List zk_G := match zk_as2 a, zk_as2 b with
  | some (f, g, p, v), some (g', h, p', _) => match Nat.beq g' g && zk_eqE N p p' with
    | true => [(2, [f, h], [p, v])]
    | false => []
  | _, _ => []
theorem zk_ov_ok {E : zk_E} {N : zk_N} (hN : zk_ok E N) (hc : zk_cl N) {a b : zk_G} (ha : a ∈ N.2.2.2) (hb : b ∈ N.2.2.2) : ∀ x ∈ zk_ov N a b, zk_tru E N.1 x := by
  intro x hx
  unfold zk_ov at hx
  split at hx
  · rename_i f g p v g' h p' v' e1 e2
    obtain ⟨s1, s2, s3, s4, s5⟩ := zk_as2_of (zk_tru_of hN hc a ha) e1
    obtain ⟨u1, u2, u3, u4, u5⟩ := zk_as2_of (zk_tru_of hN hc b hb) e2
    split at hx
    · rename_i c
      rw [Bool.and_eq_true] at c
      have c1 := Nat.eq_of_beq_eq_true c.1
      have c2 := zk_eqE_of hN c.2
      subst c1
      rw [List.mem_singleton.mp hx]
      refine ⟨?_, fun r hr => ?_, fun u hu => ?_⟩
      · simp only [List.map_cons, List.map_nil, zk_S]
        rw [s1]
        funext j
        by_cases hj : j = (zk_i E p).toNat
        · rw [if_pos hj, if_pos hj]
        · rw [if_neg hj, if_neg hj, u1]
          simp only
          rw [if_neg (by rw [← c2]; exact hj)]
      · simp only [List.mem_cons, List.not_mem_nil, or_false] at hr
        rcases hr with rfl | rfl
        · exact s2
        · exact u3
      · simp only [List.mem_cons, List.not_mem_nil, or_false] at hu
        rcases hu with rfl | rfl
        · exact s4
        · exact s5
    · cases hx
  · cases hx
def zk_rov : zk_Rl := zk_nr fun N => some (zk_addGs N (N.2.2.2.flatMap fun a => N.2.2.2.flatMap (zk_ov N a)))
theorem zk_rov_ok : zk_Rok zk_rov := zk_nr_ok fun E n => zk_add_gd (f := fun N => N.2.2.2.flatMap fun a => N.2.2.2.flatMap (zk_ov N a)) fun N hN hc hn x hx => by
  obtain ⟨a, ha, hx⟩ := List.mem_flatMap.mp hx
  obtain ⟨b, hb, hx⟩ := List.mem_flatMap.mp hx
  rw [← hn]
  exact zk_ov_ok hN hc ha hb x hx
/-- alike with the same -/
def zk_e8 (a b : zk_G) : List zk_G := match zk_as8 a, zk_as8 b with
  | some (f, h), some (g, h') => match Nat.beq h h' && !(Nat.beq f g) with
    | true => [(8, [f, g], [])]
    | false => []
  | _, _ => []
theorem zk_e8_ok {E : zk_E} {n : Nat} {a b : zk_G} (ha : zk_tru E n a) (hb : zk_tru E n b) : ∀ x ∈ zk_e8 a b, zk_tru E n x := by
  intro x hx
  unfold zk_e8 at hx
  split at hx
  · rename_i f h g h' e1 e2
    obtain ⟨s1, s2, s3⟩ := zk_as8_of ha e1
    obtain ⟨u1, u2, u3⟩ := zk_as8_of hb e2
    split at hx
    · rename_i c
      rw [Bool.and_eq_true] at c
      have c1 := Nat.eq_of_beq_eq_true c.1
      subst c1
      rw [List.mem_singleton.mp hx]
      refine ⟨?_, fun r hr => ?_, fun u hu => absurd hu List.not_mem_nil⟩
      · simp only [List.map_cons, List.map_nil, zq_6, zq_7, zq_8, zq_9, zq_20, zq_21, zq_22, zq_25, zq_26, zq_28, zq_30, zq_40, zq_51, zq_52, zq_53, zq_54, zq_55, zq_64, zq_65, zq_68, zq_72, zq_73, zq_85, zq_74, zq_75, zq_76, zq_71, zq_86, zq_87, zq_80, zq_41, zq_42, zq_43, zq_94, zq_95, zq_47, zq_48, zq_96, zq_97, zq_88, zq_89, zq_90, zq_93, zq_61, zq_62, zq_1, zq_2, zq_3, zq_4, zq_5]
        exact s1.trans u1.symm
      · simp only [List.mem_cons, List.not_mem_nil, or_false] at hr
        rcases hr with rfl | rfl
        · exact s2
        · exact u2
    · cases hx
  · cases hx
def zk_re8 : zk_Rl := zk_nr fun N => some (zk_addGs N ((zk_o9 8 N).flatMap fun a => (zk_o9 8 N).flatMap (zk_e8 a)))
theorem zk_re8_ok : zk_Rok zk_re8 := zk_nr_ok fun E n => zk_add_gd (f := fun N => (zk_o9 8 N).flatMap fun a => (zk_o9 8 N).flatMap (zk_e8 a)) fun N hN hc hn x hx => by
  obtain ⟨a, ha, hx⟩ := List.mem_flatMap.mp hx
  obtain ⟨b, hb, hx⟩ := List.mem_flatMap.mp hx
  exact zk_e8_ok (zk_trs hN hc hn a (zk_o9_m ha)) (zk_trs hN hc hn b (zk_o9_m hb)) x hx
/-- a row is as it is (field j) -/
def zk_rr8 (j : Nat) : zk_Rl := fun z => match zk_rowf z j with
  | some f => some [zk_addGs z.1 [(8, [f, f], [])]]
  | _ => none
theorem zk_rr8_ok (j : Nat) : zk_Rok (zk_rr8 j) := by
  refine zk_Rs_ok fun z L hz E h hc hcs hl hs => ?_
  unfold zk_rr8 at hz
  split at hz
  · rename_i f hf
    cases hz
    obtain ⟨k1, k2⟩ := zk_addGs_ok h hc (L := [(8, [f, f], [])]) (fun g hg => by
      rw [List.mem_singleton.mp hg]
      refine ⟨?_, fun a ha => ?_, fun v hv => absurd hv List.not_mem_nil⟩
      · simp only [List.map_cons, List.map_nil, zq_6, zq_7, zq_8, zq_9, zq_20, zq_21, zq_22, zq_25, zq_26, zq_28, zq_30, zq_40, zq_51, zq_52, zq_53, zq_54, zq_55, zq_64, zq_65, zq_68, zq_72, zq_73, zq_85, zq_74, zq_75, zq_76, zq_71, zq_86, zq_87, zq_80, zq_41, zq_42, zq_43, zq_94, zq_95, zq_47, zq_48, zq_96, zq_97, zq_88, zq_89, zq_90, zq_93, zq_61, zq_62, zq_1, zq_2, zq_3, zq_4, zq_5]
      · simp only [List.mem_cons, List.not_mem_nil, or_false] at ha
        rcases ha with rfl | rfl
        · exact zk_rowf_lt hcs hf
        · exact zk_rowf_lt hcs hf)
    exact ⟨_, List.mem_cons_self, k1, k2, rfl⟩
  · cases hz
end
