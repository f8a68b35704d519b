noncomputable section
/-! OPERANDS, the others (wip/p41/theory2.py) -/
set_option maxRecDepth 8000 in
set_option maxHeartbeats 8000000 in
theorem zy_opS_p {f g : zx_Rw} {n : Int} (H : zy_H f g n) {c r iL iO jL jO : Nat} (hc : zx_dn c = zy_cO iL iO) (hc0 : zx_pt 0 c = zy_cPO_0 iL iO) (hr : zx_dn r = zy_rO jL jO) (hr1 : zx_pt 1 r = zy_rPO_1 jL jO) (hr2 : zx_pt 2 r = zy_rPO_2 jL jO) (i1 : iL < c) (i2 : iO < c) (j1 : jL < r) (j2 : jO < r) (c2 : 2 < c) (r3 : 3 < r) {hh : Nat} (hh1 : 1 ≤ hh) (hL : ∀ x, 0 ≤ x → zy_T f n hh (zy_s iL f n x 130 1) (zy_s iL f n x 130 2) (zy_l 0 iL f n x 130) (zy_s jL g n x 130 1) (zy_s jL g n x 130 2) (zy_s jL g n x 130 3) (zy_l 1 jL g n x 130) (zy_l 2 jL g n x 130)) (hO : ∀ x, 0 ≤ x → zy_T f n hh (zy_s iO f n x 0 1) (zy_s iO f n x 0 2) (zy_l 0 iO f n x 0) (zy_s jO g n x 0 1) (zy_s jO g n x 0 2) (zy_s jO g n x 0 3) (zy_l 1 jO g n x 0) (zy_l 2 jO g n x 0)) (a : Int) (ha : 0 ≤ a) (hb : a + 1 ≤ n) (hb2 : ¬ n ≤ a) (hnm : ¬ 0 ≤ zx_nm (f a.toNat)) (hgn : ¬ 0 ≤ zx_nm (g a.toNat)) (hg40 : g a.toNat = 40 ↔ f a.toNat = 40) (h40 : f a.toNat = 40) : ∃ cg ca rg ra rl, (zx_F c [f] [n, a] 0).1 = [0, cg, ca] ∧ (zx_F r [g] [n, a] 0).1 = [0, rg, ra, rl] ∧ zy_T f n hh cg ca (zx_L 0 c [f] [n, a] 0) rg ra rl (zx_L 1 r [g] [n, a] 0) (zx_L 2 r [g] [n, a] 0) := by
  have g40 := hg40.mpr h40
  have z1 : ¬ (48 ≤ f a.toNat) := by omega
  have T := hL (a + 1) (by omega)
  unfold zy_s at T
  generalize hu : (zx_F iL [f] [n, a + 1] 130).1.getD 1 0 = u at T
  generalize hv : (zx_F iL [f] [n, a + 1] 130).1.getD 2 0 = v' at T
  generalize hu' : (zx_F jL [g] [n, a + 1] 130).1.getD 1 0 = u' at T
  generalize hv' : (zx_F jL [g] [n, a + 1] 130).1.getD 2 0 = w' at T
  generalize hw' : (zx_F jL [g] [n, a + 1] 130).1.getD 3 0 = l' at T
  have cl : zx_L 0 c [f] [n, a] 0 = zy_l 0 iL f n (a + 1) 130 := by
    rw [zy_cO_L0 hc0 c2 i1 i2]
    simp only [↓reduceIte, zy_o86, zy_10, zy_00, ne_eq, not_true_eq_false, not_false_eq_true, and_self, and_true, true_and, and_false, false_and, List.append_nil, List.nil_append, List.getD_cons_succ, List.getD_cons_zero, Int.reduceLE, Int.reduceEq, Int.reduceNeg, hb, z1, hnm, h40, zy_n40, zy_l]
  have rl1 : zx_L 1 r [g] [n, a] 0 = zy_l 1 jL g n (a + 1) 130 := by
    rw [zy_rO_L1 hr1 r3 j1 j2]
    simp only [↓reduceIte, zy_o86, zy_10, zy_00, ne_eq, not_true_eq_false, not_false_eq_true, and_self, and_true, true_and, and_false, false_and, List.append_nil, List.nil_append, List.getD_cons_succ, List.getD_cons_zero, Int.reduceLE, Int.reduceEq, Int.reduceNeg, hb2, hgn, g40, zy_n40, zy_l]
  have rl2 : zx_L 2 r [g] [n, a] 0 = zy_l 2 jL g n (a + 1) 130 := by
    rw [zy_rO_L2 hr2 r3 j1 j2]
    simp only [↓reduceIte, zy_o86, zy_10, zy_00, ne_eq, not_true_eq_false, not_false_eq_true, and_self, and_true, true_and, and_false, false_and, List.append_nil, List.nil_append, List.getD_cons_succ, List.getD_cons_zero, Int.reduceLE, Int.reduceEq, Int.reduceNeg, hb2, hgn, g40, zy_n40, zy_l]
  have cc : (u ≠ 0 ∧ v' + 1 ≤ n ∧ f v'.toNat = 41 → (zx_F c [f] [n, a] 0).1 = [0, 1, v' + 1]) ∧ (¬ (u ≠ 0 ∧ v' + 1 ≤ n ∧ f v'.toNat = 41) → (zx_F c [f] [n, a] 0).1 = [0, 0, v']) := by
    rw [zy_cO_F hc c2 i1 i2]
    refine ⟨fun h => ?_, fun h => ?_⟩
    · obtain ⟨p1, p2, p3⟩ := h
      simp only [↓reduceIte, zy_o86, zy_10, zy_00, ne_eq, not_true_eq_false, not_false_eq_true, and_self, and_true, true_and, and_false, false_and, List.append_nil, List.nil_append, List.getD_cons_succ, List.getD_cons_zero, Int.reduceLE, Int.reduceEq, Int.reduceNeg, hb, z1, hnm, h40, zy_n40, hu, hv, p1, p2, p3]
    · by_cases p1 : u = 0
      · simp only [↓reduceIte, zy_o86, zy_10, zy_00, ne_eq, not_true_eq_false, not_false_eq_true, and_self, and_true, true_and, and_false, false_and, List.append_nil, List.nil_append, List.getD_cons_succ, List.getD_cons_zero, Int.reduceLE, Int.reduceEq, Int.reduceNeg, hb, z1, hnm, h40, zy_n40, hu, hv, p1]
      · by_cases p2 : v' + 1 ≤ n
        · have p3 : ¬ f v'.toNat = 41 := fun p3 => h ⟨p1, p2, p3⟩
          simp only [↓reduceIte, zy_o86, zy_10, zy_00, ne_eq, not_true_eq_false, not_false_eq_true, and_self, and_true, true_and, and_false, false_and, List.append_nil, List.nil_append, List.getD_cons_succ, List.getD_cons_zero, Int.reduceLE, Int.reduceEq, Int.reduceNeg, hb, z1, hnm, h40, zy_n40, hu, hv, p1, p2, p3]
        · simp only [↓reduceIte, zy_o86, zy_10, zy_00, ne_eq, not_true_eq_false, not_false_eq_true, and_self, and_true, true_and, and_false, false_and, List.append_nil, List.nil_append, List.getD_cons_succ, List.getD_cons_zero, Int.reduceLE, Int.reduceEq, Int.reduceNeg, hb, z1, hnm, h40, zy_n40, hu, hv, p1, p2]
  have rr : (u' ≠ 0 ∧ w' + 1 ≤ n ∧ g w'.toNat = 41 → (zx_F r [g] [n, a] 0).1 = [0, 1, w' + 1, l']) ∧ (¬ (u' ≠ 0 ∧ w' + 1 ≤ n ∧ g w'.toNat = 41) → (zx_F r [g] [n, a] 0).1 = [0, 0, w', l']) := by
    rw [zy_rO_F hr r3 j1 j2]
    refine ⟨fun h => ?_, fun h => ?_⟩
    · obtain ⟨p1, p2, p3⟩ := h
      simp only [↓reduceIte, zy_o86, zy_10, zy_00, ne_eq, not_true_eq_false, not_false_eq_true, and_self, and_true, true_and, and_false, false_and, List.append_nil, List.nil_append, List.getD_cons_succ, List.getD_cons_zero, Int.reduceLE, Int.reduceEq, Int.reduceNeg, hb2, hgn, g40, zy_n40, hu', hv', hw', p1, p2, p3]
    · by_cases p1 : u' = 0
      · simp only [↓reduceIte, zy_o86, zy_10, zy_00, ne_eq, not_true_eq_false, not_false_eq_true, and_self, and_true, true_and, and_false, false_and, List.append_nil, List.nil_append, List.getD_cons_succ, List.getD_cons_zero, Int.reduceLE, Int.reduceEq, Int.reduceNeg, hb2, hgn, g40, zy_n40, hu', hv', hw', p1]
      · by_cases p2 : w' + 1 ≤ n
        · have p3 : ¬ g w'.toNat = 41 := fun p3 => h ⟨p1, p2, p3⟩
          simp only [↓reduceIte, zy_o86, zy_10, zy_00, ne_eq, not_true_eq_false, not_false_eq_true, and_self, and_true, true_and, and_false, false_and, List.append_nil, List.nil_append, List.getD_cons_succ, List.getD_cons_zero, Int.reduceLE, Int.reduceEq, Int.reduceNeg, hb2, hgn, g40, zy_n40, hu', hv', hw', p1, p2, p3]
        · simp only [↓reduceIte, zy_o86, zy_10, zy_00, ne_eq, not_true_eq_false, not_false_eq_true, and_self, and_true, true_and, and_false, false_and, List.append_nil, List.nil_append, List.getD_cons_succ, List.getD_cons_zero, Int.reduceLE, Int.reduceEq, Int.reduceNeg, hb2, hgn, g40, zy_n40, hu', hv', hw', p1, p2]
  clear hu hv hu' hv' hw'
  rw [cl, rl1, rl2]
  clear cl rl1 rl2
  generalize zy_l 0 iL f n (a + 1) 130 = CL at T ⊢
  generalize zy_l 1 jL g n (a + 1) 130 = AL at T ⊢
  generalize zy_l 2 jL g n (a + 1) 130 = WL at T ⊢
  obtain ⟨t1, t2, t3⟩ := T
  subst t1
  rcases t3 with ⟨t3, t4, t5, t6, t7⟩ | ⟨t3, t4⟩
  · by_cases hcl : v' + 1 ≤ n ∧ f v'.toNat = 41
    · have hcg : g v'.toNat = 41 := by
        obtain ⟨m1, m2, m3⟩ := H v' t2 hcl.1
        rw [m3, if_pos (by rw [hcl.2]; decide)]
        exact hcl.2
      refine ⟨1, v' + 1, 1, v' + 1, l', cc.1 ⟨by rw [t4]; decide, hcl⟩, rr.1 ⟨by rw [t3]; decide, hcl.1, hcg⟩, rfl, Int.le_add_one t2, Or.inl ⟨rfl, rfl, ?_, ?_, ?_⟩⟩
      · exact t5
      · exact t6
      · exact t7
    · have hcg : ¬ (v' + 1 ≤ n ∧ g v'.toNat = 41) := fun h => by
        obtain ⟨m1, m2, m3⟩ := H v' t2 h.1
        have h2 := h.2
        rw [m3] at h2
        refine hcl ⟨h.1, ?_⟩
        clear t5 t6 t7 cc rr
        split at h2 <;> omega
      exact ⟨_, _, _, _, _, cc.2 (fun h => hcl h.2), rr.2 (fun h => hcg h.2), rfl, t2, Or.inr ⟨rfl, Or.inl rfl⟩⟩
  · refine ⟨_, _, _, _, _, cc.2 (fun h => ?_), rr.2 (fun h => h.1 t3), rfl, t2, Or.inr ⟨rfl, Or.inl rfl⟩⟩
    rcases t4 with t4 | ⟨-, t4⟩
    · exact h.1 t4
    · have := t4.2.2.1
      have := t4.2.2.2
      have := h.2.2
      omega
end
