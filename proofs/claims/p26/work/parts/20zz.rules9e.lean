noncomputable section
/-! ROWS ALIKE: facts told of the other row, bounds, pieces -/
def zk_as8 (q : zk_G) : Option (Nat × Nat) := match zk_as 8 q with
  | some ([f, g], []) => some (f, g)
  | _ => none
theorem zk_as8_of {E : zk_E} {n : Nat} {q : zk_G} (hq : zk_tru E n q) {f g : Nat} (h : zk_as8 q = some (f, g)) : E.2 f = E.2 g ∧ f < n ∧ g < n := by
  unfold zk_as8 at h
  split at h
  · rename_i hu
    cases h
    have e := zk_as_of hu
    subst e
    obtain ⟨h1, h2, h3⟩ := hq
    simp only [List.map_cons, List.map_nil, zq_6, zq_7, zq_8, zq_9, zq_20, zq_21, zq_22, zq_25, zq_26, zq_28, zq_30, zq_40, zq_51, zq_52, zq_53, zq_54, zq_55, zq_64, zq_65, zq_68, zq_72, zq_73, zq_85, zq_74, zq_75, zq_76, zq_71, zq_86, zq_87, zq_80, zq_41, zq_42, zq_43, zq_94, zq_95, zq_47, zq_48, zq_96, zq_97, zq_88, zq_89, zq_90, zq_93, zq_61, zq_62, zq_1, zq_2, zq_3, zq_4, zq_5] at h1
    exact ⟨h1, h2 _ (by simp), h2 _ (by simp)⟩
  · cases h
def zk_rpl (a b : Nat) (r : Nat) : Nat := match Nat.beq r b with
  | true => a
  | false => r
theorem zk_rpl_i {E : zk_E} {a b r : Nat} (h : E.2 a = E.2 b) : E.2 (zk_rpl a b r) = E.2 r := by
  unfold zk_rpl
  split
  · rename_i hb
    rw [h, Nat.eq_of_beq_eq_true hb]
  · rfl
def zk_rp9 (a b : Nat) (q : zk_G) : List zk_G := match (Nat.beq q.1 90 || Nat.beq q.1 93) && q.2.1.any (fun r => Nat.beq r b) with
  | true => [(q.1, q.2.1.map (zk_rpl a b), q.2.2)]
  | false => []
def zk_e90 (h : zk_G) (N : zk_N) : Option zk_N := match zk_as8 h with
  | some (a, b) => match Nat.beq a b with
    | true => some N
    | false => some (zk_addGs N (N.2.2.2.flatMap (zk_rp9 a b)))
  | none => some N
theorem zk_e90_gd {E : zk_E} {n : Nat} {h : zk_G} (hh : zk_tru E n h) : zk_gd E n (zk_e90 h) := by
  intro N hN hc hn
  unfold zk_e90
  split
  · rename_i a b he
    obtain ⟨t1, t2, t3⟩ := zk_as8_of hh he
    split
    · exact ⟨N, rfl, hN, hc, hn⟩
    · refine zk_add_gd (f := fun N => N.2.2.2.flatMap (zk_rp9 a b)) (fun N1 hN1 hc1 hn1 x hx => ?_) N hN hc hn
      obtain ⟨q, hq, hx⟩ := List.mem_flatMap.mp hx
      obtain ⟨s1, s2, s3⟩ := zk_trs hN1 hc1 hn1 q hq
      unfold zk_rp9 at hx
      split at hx
      · rw [List.mem_singleton.mp hx]
        have e : (q.2.1.map (zk_rpl a b)).map E.2 = q.2.1.map E.2 := by
          rw [List.map_map]
          exact List.map_congr_left fun r _ => zk_rpl_i t1
        refine ⟨?_, fun r hr => ?_, s3⟩
        · show zk_S q.1 ((q.2.1.map (zk_rpl a b)).map E.2) (q.2.2.map (zk_i E))
          rw [e]
          exact s1
        · obtain ⟨r0, hr0, rfl⟩ := List.mem_map.mp hr
          unfold zk_rpl
          split
          · exact t2
          · exact s2 _ hr0
      · cases hx
  · exact ⟨N, rfl, hN, hc, hn⟩
def zk_re90 : zk_Rl := zk_nr (zk_on (fun N => N.2.2.2) zk_e90)
theorem zk_re90_ok : zk_Rok zk_re90 := zk_nr_ok fun _ _ => zk_on_gd fun N h hc hn q hq => zk_e90_gd (zk_trs h hc hn q hq)
/-- bounds of a row's elements, known -/
def zk_bd3 (f : Nat) : List zk_G → Option (zk_V × zk_V)
  | [] => none
  | q :: l => match zk_as 3 q with
    | some ([g], [a, b]) => match Nat.beq g f with
      | true => some (a, b)
      | false => zk_bd3 f l
    | _ => zk_bd3 f l
theorem zk_bd3_of {f : Nat} {a b : zk_V} : ∀ {l : List zk_G}, zk_bd3 f l = some (a, b) → (3, [f], [a, b]) ∈ l
  | [], h => by cases h
  | q :: l, h => by
    have up : zk_bd3 f l = some (a, b) → (3, [f], [a, b]) ∈ q :: l := fun h => List.mem_cons_of_mem _ (zk_bd3_of h)
    unfold zk_bd3 at h
    split at h
    · rename_i g a' b' hu
      have e := zk_as_of hu
      split at h
      · rename_i hg
        have hg := Nat.eq_of_beq_eq_true hg
        subst hg
        cases h
        rw [e]
        exact List.mem_cons_self
      · exact up h
    · exact up h
/-- what is alike has the other's bounds: the row of cell q.1 the bounds of the row of cell q.2 -/
def zk_b8f (hp : List zk_C) (q : Nat × Nat) (N : zk_N) : Option zk_N := match zk_row hp (3, q.1, [], 0), zk_row hp (3, q.2, [], 0) with
  | some (_, _, _, f), some (_, _, _, g) => match (zk_al8 N f g || zk_al8 N g f) && Nat.blt f N.1, zk_bd3 g N.2.2.2 with
    | true, some b => some (zk_addGs N [(3, [f], [b.1, b.2])])
    | _, _ => some N
  | _, _ => some N
theorem zk_b8f_gd {E : zk_E} {n : Nat} {hp : List zk_C} {q : Nat × Nat} : zk_gd E n (zk_b8f hp q) := by
  intro N hN hc hn
  unfold zk_b8f
  split
  · rename_i k1 d1 l1 f k2 d2 l2 g e1 e2
    split
    · rename_i b h1 h2
      rw [Bool.and_eq_true, Bool.or_eq_true] at h1
      obtain ⟨h1, h3⟩ := h1
      have h3 := Nat.blt_eq.mp h3
      have e : E.2 f = E.2 g := by
        rcases h1 with h1 | h1
        · exact zk_al8_of hN h1
        · exact (zk_al8_of hN h1).symm
      have hm := zk_bd3_of (a := b.1) (b := b.2) h2
      obtain ⟨t1, -, t3⟩ := zk_tru_of hN hc _ hm
      obtain ⟨b1, b2⟩ := zk_addGs_ok hN hc (L := [(3, [f], [b.1, b.2])]) (fun x hx => by
        rw [List.mem_singleton.mp hx]
        refine ⟨?_, fun a ha => by rw [List.mem_singleton.mp ha]; exact h3, t3⟩
        simp only [List.map_cons, List.map_nil, zk_S] at t1 ⊢
        rw [e]
        exact t1)
      exact ⟨_, rfl, b1, b2, hn⟩
    · exact ⟨N, rfl, hN, hc, hn⟩
  · exact ⟨N, rfl, hN, hc, hn⟩
def zk_rb8 (L : List (Nat × Nat)) : zk_Rl := fun z => match zk_ea (zk_b8f z.2.1) L z.1 with
  | some N => some [N]
  | none => some []
theorem zk_rb8_ok (L : List (Nat × Nat)) : zk_Rok (zk_rb8 L) := by
  refine zk_Rs_ok fun z L' hz E h hc hcs hl hs => ?_
  obtain ⟨N', a1, a2, a3, a4⟩ := zk_ea_gd (f := zk_b8f z.2.1) (l := L) (E := E) (n := z.1.1) (fun q _ => zk_b8f_gd) z.1 h hc rfl
  unfold zk_rb8 at hz
  rw [a1] at hz
  cases hz
  exact ⟨N', List.mem_cons_self, a2, a3, a4⟩
/-- pieces from 0 on: written alike on both sides -/
def zk_k68 (N : zk_N) (f g : Nat) (m : zk_V) (a b : zk_G) : List zk_G := match zk_as2 a, zk_as2 b with
  | some (f', f0, p, v), some (g', g0, p', v') => match Nat.beq f0 f && Nat.beq g0 g && zk_eqE N p p' && zk_eqE N v v' && zk_n2 N p with
    | true => match zk_eqE N p m with
      | true => [(68, [f', g'], [zk_c 0, zk_c 0, zk_vadd m (zk_c 1)])]
      | false => [(68, [f', g'], [zk_c 0, zk_c 0, m])]
    | false => []
  | _, _ => []
/-- the other side's row changed behind the piece alone -/
def zk_l68 (N : zk_N) (f g : Nat) (m : zk_V) (q : zk_G) : List zk_G := match zk_as 26 q with
  | some ([g', g0], [k]) => match Nat.beq g0 g && zk_n2 N (zk_vsub k m) with
    | true => [(68, [f, g'], [zk_c 0, zk_c 0, m])]
    | false => []
  | _ => []
/-- stores over a row; facts of a kind -/
def zk_o2 (N : zk_N) (f : Nat) : List zk_G := N.2.2.2.filter fun q => Nat.beq q.1 2 && (match q.2.1 with
  | [_, g] => Nat.beq g f
  | _ => false)
theorem zk_o2_m {N : zk_N} {f : Nat} {q : zk_G} (h : q ∈ zk_o2 N f) : q ∈ N.2.2.2 := (List.mem_filter.mp h).1
def zk_o9 (k : Nat) (N : zk_N) : List zk_G := N.2.2.2.filter fun q => Nat.beq q.1 k
theorem zk_o9_m {k : Nat} {N : zk_N} {q : zk_G} (h : q ∈ zk_o9 k N) : q ∈ N.2.2.2 := (List.mem_filter.mp h).1
def zk_m68 (N : zk_N) (q : zk_G) : List zk_G := match zk_as68 q with
  | some (f, g, a, b, m) => match zk_eqE N a (zk_c 0) && zk_eqE N b (zk_c 0) with
    | true => ((zk_o2 N f).flatMap fun x => (zk_o2 N g).flatMap (zk_k68 N f g m x)) ++ (zk_o9 26 N).flatMap (zk_l68 N f g m)
    | false => []
  | none => []
theorem zk_m68_ok {E : zk_E} {N : zk_N} (hN : zk_ok E N) (hc : zk_cl N) {q : zk_G} (hq : q ∈ N.2.2.2) : ∀ x ∈ zk_m68 N q, zk_tru E N.1 x := by
  intro x hx
  unfold zk_m68 at hx
  split at hx
  · rename_i f g a b m he
    obtain ⟨t1, t2, t3, t4, t5, t6⟩ := zk_as68_of (zk_tru_of hN hc q hq) he
    split at hx
    · rename_i c
      rw [Bool.and_eq_true] at c
      have c1 := zk_eqE_of hN c.1
      have c2 := zk_eqE_of hN c.2
      rw [zk_c_i] at c1 c2
      have tt : ∀ j : Nat, j < (zk_i E m).toNat → E.2 f j = E.2 g j := fun j hj => by
        have := t1 j hj
        rw [c1, c2] at this
        simpa using this
      rcases List.mem_append.mp hx with hx1 | hx1
      · obtain ⟨y, hy, hx2⟩ := List.mem_flatMap.mp hx1
        obtain ⟨w, hw, hx3⟩ := List.mem_flatMap.mp hx2
        have hy := zk_o2_m hy
        have hw := zk_o2_m hw
        clear hx hx1 hx2
        unfold zk_k68 at hx3
        split at hx3
        · rename_i f' f0 p v g' g0 p' v' e1 e2
          obtain ⟨s1, s2, s3, s4, s5⟩ := zk_as2_of (zk_tru_of hN hc y hy) e1
          obtain ⟨u1, u2, u3, u4, u5⟩ := zk_as2_of (zk_tru_of hN hc w hw) e2
          split at hx3
          · rename_i d
            simp only [Bool.and_eq_true] at d
            obtain ⟨⟨⟨⟨d1, d2⟩, d3⟩, d4⟩, d5⟩ := d
            have d1 := Nat.eq_of_beq_eq_true d1
            have d2 := Nat.eq_of_beq_eq_true d2
            have d3 := zk_eqE_of hN d3
            have d4 := zk_eqE_of hN d4
            have d5 := zk_n2_ok hN d5
            subst d1 d2
            have sv : ∀ k : zk_V, zk_sv N.1 k → ∀ u ∈ [zk_c 0, zk_c 0, k], zk_sv N.1 u := fun k hk u hu => by
              simp only [List.mem_cons, List.not_mem_nil, or_false] at hu
              rcases hu with rfl | rfl | rfl
              · exact zk_c_sv
              · exact zk_c_sv
              · exact hk
            have ln : ∀ r ∈ [f', g'], r < N.1 := fun r hr => by
              simp only [List.mem_cons, List.not_mem_nil, or_false] at hr
              rcases hr with rfl | rfl
              · exact s2
              · exact u2
            split at hx3
            · rename_i hpm
              have hpm := zk_eqE_of hN hpm
              rw [List.mem_singleton.mp hx3]
              refine ⟨?_, ln, sv _ (zk_vadd_sv t6 zk_c_sv)⟩
              simp only [List.map_cons, List.map_nil, zq_6, zq_7, zq_8, zq_9, zq_20, zq_21, zq_22, zq_25, zq_26, zq_28, zq_30, zq_40, zq_51, zq_52, zq_53, zq_54, zq_55, zq_64, zq_65, zq_68, zq_72, zq_73, zq_85, zq_74, zq_75, zq_76, zq_71, zq_86, zq_87, zq_80, zq_41, zq_42, zq_43, zq_94, zq_95, zq_47, zq_48, zq_96, zq_97, zq_88, zq_89, zq_90, zq_93, zq_61, zq_62, zq_1, zq_2, zq_3, zq_4, zq_5, zk_vadd_i, zk_c_i]
              intro j hj
              rw [s1, u1, d3, d4]
              simp only [Int.toNat_zero, Nat.zero_add]
              split
              · rfl
              · exact tt j (by omega)
            · rw [List.mem_singleton.mp hx3]
              refine ⟨?_, ln, sv _ t6⟩
              simp only [List.map_cons, List.map_nil, zq_6, zq_7, zq_8, zq_9, zq_20, zq_21, zq_22, zq_25, zq_26, zq_28, zq_30, zq_40, zq_51, zq_52, zq_53, zq_54, zq_55, zq_64, zq_65, zq_68, zq_72, zq_73, zq_85, zq_74, zq_75, zq_76, zq_71, zq_86, zq_87, zq_80, zq_41, zq_42, zq_43, zq_94, zq_95, zq_47, zq_48, zq_96, zq_97, zq_88, zq_89, zq_90, zq_93, zq_61, zq_62, zq_1, zq_2, zq_3, zq_4, zq_5, zk_c_i]
              intro j hj
              rw [s1, u1, d3, d4]
              simp only [Int.toNat_zero, Nat.zero_add]
              split
              · rfl
              · exact tt j hj
          · cases hx3
        · cases hx3
      · obtain ⟨y, hy, hx2⟩ := List.mem_flatMap.mp hx1
        have hy := zk_o9_m hy
        clear hx hx1
        unfold zk_l68 at hx2
        split at hx2
        · rename_i g' g0 k hu
          have e := zk_as_of hu
          subst e
          obtain ⟨s1, s2, s3⟩ := zk_tru_of hN hc _ hy
          simp only [List.map_cons, List.map_nil, zq_6, zq_7, zq_8, zq_9, zq_20, zq_21, zq_22, zq_25, zq_26, zq_28, zq_30, zq_40, zq_51, zq_52, zq_53, zq_54, zq_55, zq_64, zq_65, zq_68, zq_72, zq_73, zq_85, zq_74, zq_75, zq_76, zq_71, zq_86, zq_87, zq_80, zq_41, zq_42, zq_43, zq_94, zq_95, zq_47, zq_48, zq_96, zq_97, zq_88, zq_89, zq_90, zq_93, zq_61, zq_62, zq_1, zq_2, zq_3, zq_4, zq_5] at s1
          split at hx2
          · rename_i d
            rw [Bool.and_eq_true] at d
            have d1 := Nat.eq_of_beq_eq_true d.1
            have d2 := zk_n2_ok hN d.2
            rw [zk_vsub_i] at d2
            subst d1
            rw [List.mem_singleton.mp hx2]
            refine ⟨?_, fun r hr => ?_, fun u hu => ?_⟩
            · simp only [List.map_cons, List.map_nil, zq_6, zq_7, zq_8, zq_9, zq_20, zq_21, zq_22, zq_25, zq_26, zq_28, zq_30, zq_40, zq_51, zq_52, zq_53, zq_54, zq_55, zq_64, zq_65, zq_68, zq_72, zq_73, zq_85, zq_74, zq_75, zq_76, zq_71, zq_86, zq_87, zq_80, zq_41, zq_42, zq_43, zq_94, zq_95, zq_47, zq_48, zq_96, zq_97, zq_88, zq_89, zq_90, zq_93, zq_61, zq_62, zq_1, zq_2, zq_3, zq_4, zq_5, zk_c_i]
              intro j hj
              simp only [Int.toNat_zero, Nat.zero_add]
              rw [s1 j (by omega)]
              exact tt j hj
            · simp only [List.mem_cons, List.not_mem_nil, or_false] at hr
              rcases hr with rfl | rfl
              · exact t2
              · exact s2 _ (by simp)
            · simp only [List.mem_cons, List.not_mem_nil, or_false] at hu
              rcases hu with rfl | rfl | rfl
              · exact zk_c_sv
              · exact zk_c_sv
              · exact t6
          · cases hx2
        · cases hx2
    · cases hx
  · cases hx
def zk_rm68 : zk_Rl := zk_nr fun N => some (zk_addGs N ((zk_o9 68 N).flatMap (zk_m68 N)))
theorem zk_rm68_ok : zk_Rok zk_rm68 := zk_nr_ok fun E n => zk_add_gd (f := fun N => (zk_o9 68 N).flatMap (zk_m68 N)) fun N hN hc hn x hx => by
  obtain ⟨y, hy1, hy2⟩ := List.mem_flatMap.mp hx
  rw [← hn]
  exact zk_m68_ok hN hc (zk_o9_m hy1) x hy2
/-- a row written, and written back: as it was -/
def zk_w8 (N : zk_N) (a b : zk_G) : List zk_G := match zk_as2 a, zk_as65 b with
  | some (f, g, p, v), some (g', h, lo, hi) => match Nat.beq g g' && zk_eqE N p lo && zk_eqE N hi (zk_vadd lo (zk_c 1)) && zk_n2 N lo, zk_frd N h p N.2.2.2 with
    | true, some w => match zk_eqE N v w with
      | true => [(8, [f, h], [])]
      | false => []
    | _, _ => []
  | _, _ => []
theorem zk_w8_ok {E : zk_E} {N : zk_N} (hN : zk_ok E N) (hc : zk_cl N) {a b : zk_G} (ha : a ∈ N.2.2.2) (hb : b ∈ N.2.2.2) : ∀ x ∈ zk_w8 N a b, zk_tru E N.1 x := by
  intro x hx
  unfold zk_w8 at hx
  split at hx
  · rename_i f g p v g' h lo hi e1 e2
    obtain ⟨s1, s2, s3, s4, s5⟩ := zk_as2_of (zk_tru_of hN hc a ha) e1
    obtain ⟨u1, u2, u3, u4, u5⟩ := zk_as65_of (zk_tru_of hN hc b hb) e2
    split at hx
    · rename_i w c hw
      simp only [Bool.and_eq_true] at c
      obtain ⟨⟨⟨c1, c2⟩, c3⟩, c4⟩ := c
      have c1 := Nat.eq_of_beq_eq_true c1
      have c2 := zk_eqE_of hN c2
      have c3 := zk_eqE_of hN c3
      have c4 := zk_n2_ok hN c4
      rw [zk_vadd_i, zk_c_i] at c3
      subst c1
      have hr := zk_frd_of hN (fun q hq => hq) hw
      split at hx
      · rename_i hv
        have hv := zk_eqE_of hN hv
        rw [List.mem_singleton.mp hx]
        refine ⟨?_, fun r hr => ?_, fun u hu => absurd hu List.not_mem_nil⟩
        · simp only [List.map_cons, List.map_nil, zq_6, zq_7, zq_8, zq_9, zq_20, zq_21, zq_22, zq_25, zq_26, zq_28, zq_30, zq_40, zq_51, zq_52, zq_53, zq_54, zq_55, zq_64, zq_65, zq_68, zq_72, zq_73, zq_85, zq_74, zq_75, zq_76, zq_71, zq_86, zq_87, zq_80, zq_41, zq_42, zq_43, zq_94, zq_95, zq_47, zq_48, zq_96, zq_97, zq_88, zq_89, zq_90, zq_93, zq_61, zq_62, zq_1, zq_2, zq_3, zq_4, zq_5]
          rw [s1]
          funext j
          split
          · rename_i hj
            rw [hj, hv, ← hr]
          · rename_i hj
            exact u1 j (by omega)
        · simp only [List.mem_cons, List.not_mem_nil, or_false] at hr
          rcases hr with rfl | rfl
          · exact s2
          · exact u3
      · cases hx
    · cases hx
  · cases hx
def zk_rw8 : zk_Rl := zk_nr fun N => some (zk_addGs N ((zk_o9 65 N).flatMap fun b => (zk_o9 2 N).flatMap fun a => zk_w8 N a b))
theorem zk_rw8_ok : zk_Rok zk_rw8 := zk_nr_ok fun E n => zk_add_gd (f := fun N => (zk_o9 65 N).flatMap fun b => (zk_o9 2 N).flatMap fun a => zk_w8 N a b) fun N hN hc hn x hx => by
  obtain ⟨b, hb, hx⟩ := List.mem_flatMap.mp hx
  obtain ⟨a, ha, hx⟩ := List.mem_flatMap.mp hx
  rw [← hn]
  exact zk_w8_ok hN hc (zk_o9_m ha) (zk_o9_m hb) x hx
end
