noncomputable section
/-! OPERANDS, the first (wip/p41/theory2.py) -/
set_option maxRecDepth 8000 in
set_option maxHeartbeats 40000000 in
theorem zy_op0 {f g : zx_Rw} {n : Int} (H : zy_H f g n) {c r : Nat} (hc : zx_dn c = zy_cZ) (hc0 : zx_pt 0 c = zy_cPZ_0) (hr : zx_dn r = zy_rZ) (hr1 : zx_pt 1 r = zy_rPZ_1) (hr2 : zx_pt 2 r = zy_rPZ_2) (c2 : 2 < c) (r3 : 3 < r) : ∀ a, 0 ≤ a → zy_T f n 1 (zy_s c f n a 0 1) (zy_s c f n a 0 2) (zy_l 0 c f n a 0) (zy_s r g n a 0 1) (zy_s r g n a 0 2) (zy_s r g n a 0 3) (zy_l 1 r g n a 0) (zy_l 2 r g n a 0) := fun a ha => by
  suffices key : ∃ cg ca rg ra rl, (zx_F c [f] [n, a] 0).1 = [0, cg, ca] ∧ (zx_F r [g] [n, a] 0).1 = [0, rg, ra, rl] ∧ zy_T f n 1 cg ca (zx_L 0 c [f] [n, a] 0) rg ra rl (zx_L 1 r [g] [n, a] 0) (zx_L 2 r [g] [n, a] 0) by
    obtain ⟨cg, ca, rg, ra, rl, e1, e2, e3⟩ := key
    unfold zy_s
    rw [e1, e2]
    exact e3
  obtain ⟨d, x, v, fg, n1, n2, l1, l2, n3, n4, n5, n6, n7⟩ := zy_fig H ha
  have rf : (a + 1 ≤ n → ¬ 0 ≤ zx_nm (g a.toNat) ∧ g a.toNat ≠ 33 ∧ g a.toNat ≠ 45 ∧ g a.toNat ≠ 40) → (zx_F r [g] [n, a] 0).1 = [0, fg, x, 1] ∧ zx_L 1 r [g] [n, a] 0 = [1] ∧ zx_L 2 r [g] [n, a] 0 = [v] := fun h => by
    rw [zy_rZ_F hr r3, zy_rZ_L1 hr1 r3, zy_rZ_L2 hr2 r3]
    by_cases hb : n ≤ a
    · refine ⟨?_, ?_, ?_⟩
      · simp only [↓reduceIte, zy_o86, zy_10, zy_00, ne_eq, not_true_eq_false, not_false_eq_true, and_self, and_true, true_and, and_false, false_and, List.append_nil, List.nil_append, List.getD_cons_succ, List.getD_cons_zero, Int.reduceLE, Int.reduceEq, Int.reduceNeg, hb, n2]
      · simp only [↓reduceIte, zy_o86, zy_10, zy_00, ne_eq, not_true_eq_false, not_false_eq_true, and_self, and_true, true_and, and_false, false_and, List.append_nil, List.nil_append, List.getD_cons_succ, List.getD_cons_zero, Int.reduceLE, Int.reduceEq, Int.reduceNeg, hb, l1]
      · simp only [↓reduceIte, zy_o86, zy_10, zy_00, ne_eq, not_true_eq_false, not_false_eq_true, and_self, and_true, true_and, and_false, false_and, List.append_nil, List.nil_append, List.getD_cons_succ, List.getD_cons_zero, Int.reduceLE, Int.reduceEq, Int.reduceNeg, hb, l2]
    · obtain ⟨q1, q2, q3, q4⟩ := h (by omega)
      refine ⟨?_, ?_, ?_⟩
      · simp only [↓reduceIte, zy_o86, zy_10, zy_00, ne_eq, not_true_eq_false, not_false_eq_true, and_self, and_true, true_and, and_false, false_and, List.append_nil, List.nil_append, List.getD_cons_succ, List.getD_cons_zero, Int.reduceLE, Int.reduceEq, Int.reduceNeg, hb, q1, q2, q3, q4, n2]
      · simp only [↓reduceIte, zy_o86, zy_10, zy_00, ne_eq, not_true_eq_false, not_false_eq_true, and_self, and_true, true_and, and_false, false_and, List.append_nil, List.nil_append, List.getD_cons_succ, List.getD_cons_zero, Int.reduceLE, Int.reduceEq, Int.reduceNeg, hb, q1, q2, q3, q4, l1]
      · simp only [↓reduceIte, zy_o86, zy_10, zy_00, ne_eq, not_true_eq_false, not_false_eq_true, and_self, and_true, true_and, and_false, false_and, List.append_nil, List.nil_append, List.getD_cons_succ, List.getD_cons_zero, Int.reduceLE, Int.reduceEq, Int.reduceNeg, hb, q1, q2, q3, q4, l2]
  by_cases hb : a + 1 ≤ n
  · obtain ⟨k1, k2, k3⟩ := H a ha hb
    have hb2 : ¬ n ≤ a := by omega
    by_cases hdg : 48 ≤ f a.toNat ∧ f a.toNat ≤ 57
    · have eg : g a.toNat = f a.toNat := by
        rw [k3, if_pos (by omega)]
      obtain ⟨q1, q2⟩ := hdg
      have ec : (zx_F c [f] [n, a] 0).1 = [0, 1, x] := by
        rw [zy_cZ_F hc c2]
        simp only [↓reduceIte, zy_o86, zy_10, zy_00, ne_eq, not_true_eq_false, not_false_eq_true, and_self, and_true, true_and, and_false, false_and, List.append_nil, List.nil_append, List.getD_cons_succ, List.getD_cons_zero, Int.reduceLE, Int.reduceEq, Int.reduceNeg, hb, q1, q2, n1]
      have el : zx_L 0 c [f] [n, a] 0 = [v] := by
        rw [zy_cZ_L0 hc0 c2]
        simp only [↓reduceIte, zy_o86, zy_10, zy_00, ne_eq, not_true_eq_false, not_false_eq_true, and_self, and_true, true_and, and_false, false_and, List.append_nil, List.nil_append, List.getD_cons_succ, List.getD_cons_zero, Int.reduceLE, Int.reduceEq, Int.reduceNeg, hb, q1, q2, n1]
      obtain ⟨r1, r2, r3'⟩ := rf (fun _ => by rw [eg]; exact ⟨zy_nm_n (by omega), by omega, by omega, by omega⟩)
      refine ⟨1, x, fg, x, 1, ec, r1, rfl, n3, ?_⟩
      rw [el, r2, r3']
      rcases n5 ⟨ha, hb, q1, q2⟩ with h | ⟨h, h'⟩
      · refine Or.inl ⟨h, rfl, rfl, ?_, zy_gd_push n6⟩
        have o2 : zy_ok2 1 v := Or.inl ⟨rfl, n6, n7⟩
        have := zy_rel_one o2
        rw [show zy_st2 1 v = v from if_pos rfl] at this
        exact this
      · exact Or.inr ⟨h, Or.inr ⟨rfl, h'⟩⟩
    · have hnd : ¬ zy_D f n a := fun h => hdg ⟨h.2.2.1, h.2.2.2⟩
      obtain ⟨ex, efg⟩ := n4 hnd
      have hd2 : 48 ≤ f a.toNat → ¬ f a.toNat ≤ 57 := fun h h' => hdg ⟨h, h'⟩
      by_cases hnm : 0 ≤ zx_nm (f a.toNat)
      · obtain ⟨v1, -, v2, v3, v4, v5⟩ := zy_nm_v hnm
        have eg : g a.toNat = f a.toNat := by
          rw [k3, if_pos v1]
        have ec : (zx_F c [f] [n, a] 0).1 = [0, 1, a + 1] ∧ zx_L 0 c [f] [n, a] 0 = [10000 + zx_nm (f a.toNat)] := by
          rw [zy_cZ_F hc c2, zy_cZ_L0 hc0 c2]
          by_cases q1 : 48 ≤ f a.toNat
          · have q2 := hd2 q1
            exact ⟨by simp only [↓reduceIte, zy_o86, zy_10, zy_00, ne_eq, not_true_eq_false, not_false_eq_true, and_self, and_true, true_and, and_false, false_and, List.append_nil, List.nil_append, List.getD_cons_succ, List.getD_cons_zero, Int.reduceLE, Int.reduceEq, Int.reduceNeg, hb, q1, q2, hnm], by simp only [↓reduceIte, zy_o86, zy_10, zy_00, ne_eq, not_true_eq_false, not_false_eq_true, and_self, and_true, true_and, and_false, false_and, List.append_nil, List.nil_append, List.getD_cons_succ, List.getD_cons_zero, Int.reduceLE, Int.reduceEq, Int.reduceNeg, hb, q1, q2, hnm]⟩
          · exact ⟨by simp only [↓reduceIte, zy_o86, zy_10, zy_00, ne_eq, not_true_eq_false, not_false_eq_true, and_self, and_true, true_and, and_false, false_and, List.append_nil, List.nil_append, List.getD_cons_succ, List.getD_cons_zero, Int.reduceLE, Int.reduceEq, Int.reduceNeg, hb, q1, hnm], by simp only [↓reduceIte, zy_o86, zy_10, zy_00, ne_eq, not_true_eq_false, not_false_eq_true, and_self, and_true, true_and, and_false, false_and, List.append_nil, List.nil_append, List.getD_cons_succ, List.getD_cons_zero, Int.reduceLE, Int.reduceEq, Int.reduceNeg, hb, q1, hnm]⟩
        have er : (zx_F r [g] [n, a] 0).1 = [0, 1, a + 1, 1] ∧ zx_L 1 r [g] [n, a] 0 = [2] ∧ zx_L 2 r [g] [n, a] 0 = [zx_nm (f a.toNat)] := by
          rw [zy_rZ_F hr r3, zy_rZ_L1 hr1 r3, zy_rZ_L2 hr2 r3]
          have q1 : 0 ≤ zx_nm (g a.toNat) := by rw [eg]; exact hnm
          exact ⟨by simp only [↓reduceIte, zy_o86, zy_10, zy_00, ne_eq, not_true_eq_false, not_false_eq_true, and_self, and_true, true_and, and_false, false_and, List.append_nil, List.nil_append, List.getD_cons_succ, List.getD_cons_zero, Int.reduceLE, Int.reduceEq, Int.reduceNeg, hb2, q1], by simp only [↓reduceIte, zy_o86, zy_10, zy_00, ne_eq, not_true_eq_false, not_false_eq_true, and_self, and_true, true_and, and_false, false_and, List.append_nil, List.nil_append, List.getD_cons_succ, List.getD_cons_zero, Int.reduceLE, Int.reduceEq, Int.reduceNeg, hb2, q1], by simp only [↓reduceIte, zy_o86, zy_10, zy_00, ne_eq, not_true_eq_false, not_false_eq_true, and_self, and_true, true_and, and_false, false_and, List.append_nil, List.nil_append, List.getD_cons_succ, List.getD_cons_zero, Int.reduceLE, Int.reduceEq, Int.reduceNeg, hb2, q1, eg, hnm]⟩
        refine ⟨1, a + 1, 1, a + 1, 1, ec.1, er.1, rfl, by omega, ?_⟩
        rw [ec.2, er.2.1, er.2.2]
        refine Or.inl ⟨rfl, rfl, rfl, ?_, zy_gd_push (by omega)⟩
        have o2 : zy_ok2 2 (zx_nm (f a.toNat)) := Or.inr (Or.inl ⟨rfl, hnm, v5⟩)
        have := zy_rel_one o2
        rw [show zy_st2 2 (zx_nm (f a.toNat)) = 10000 + zx_nm (f a.toNat) from by unfold zy_st2; rw [if_neg (by decide), if_pos rfl]] at this
        exact this
      · have hgn : ¬ 0 ≤ zx_nm (g a.toNat) := by
          rw [k3]
          split
          · exact hnm
          · exact zy_nm_n (by omega)
        have hg40 : g a.toNat = 40 ↔ f a.toNat = 40 := by rw [k3]; split <;> omega
        have hg33 : g a.toNat = 33 ↔ f a.toNat = 33 := by rw [k3]; split <;> omega
        have hg45 : g a.toNat = 45 ↔ f a.toNat = 45 := by rw [k3]; split <;> omega
        have ec : (zx_F c [f] [n, a] 0).1 = [0, 0, a] := by
          rw [zy_cZ_F hc c2]
          by_cases q1 : 48 ≤ f a.toNat
          · have q2 := hd2 q1
            simp only [↓reduceIte, zy_o86, zy_10, zy_00, ne_eq, not_true_eq_false, not_false_eq_true, and_self, and_true, true_and, and_false, false_and, List.append_nil, List.nil_append, List.getD_cons_succ, List.getD_cons_zero, Int.reduceLE, Int.reduceEq, Int.reduceNeg, hb, q1, q2, hnm]
          · simp only [↓reduceIte, zy_o86, zy_10, zy_00, ne_eq, not_true_eq_false, not_false_eq_true, and_self, and_true, true_and, and_false, false_and, List.append_nil, List.nil_append, List.getD_cons_succ, List.getD_cons_zero, Int.reduceLE, Int.reduceEq, Int.reduceNeg, hb, q1, hnm]
        by_cases h40 : g a.toNat = 40
        · skip
          have er : (zx_F r [g] [n, a] 0).1 = [0, 0, a, 0] := by
            rw [zy_rZ_F hr r3]
            simp only [↓reduceIte, zy_o86, zy_10, zy_00, ne_eq, not_true_eq_false, not_false_eq_true, and_self, and_true, true_and, and_false, false_and, List.append_nil, List.nil_append, List.getD_cons_succ, List.getD_cons_zero, Int.reduceLE, Int.reduceEq, Int.reduceNeg, hb2, hgn, h40, zy_n40]
          exact ⟨0, a, 0, a, 0, ec, er, rfl, ha, Or.inr ⟨rfl, Or.inl rfl⟩⟩
        · by_cases h33 : g a.toNat = 33
          · skip
            have er : (zx_F r [g] [n, a] 0).1 = [0, 0, a, 0] := by
              rw [zy_rZ_F hr r3]
              simp only [↓reduceIte, zy_o86, zy_10, zy_00, ne_eq, not_true_eq_false, not_false_eq_true, and_self, and_true, true_and, and_false, false_and, List.append_nil, List.nil_append, List.getD_cons_succ, List.getD_cons_zero, Int.reduceLE, Int.reduceEq, Int.reduceNeg, hb2, hgn, h33, zy_n33, zy_n45]
            exact ⟨0, a, 0, a, 0, ec, er, rfl, ha, Or.inr ⟨rfl, Or.inl rfl⟩⟩
          · by_cases h45 : g a.toNat = 45
            · skip
              have er : (zx_F r [g] [n, a] 0).1 = [0, 0, a, 0] := by
                rw [zy_rZ_F hr r3]
                simp only [↓reduceIte, zy_o86, zy_10, zy_00, ne_eq, not_true_eq_false, not_false_eq_true, and_self, and_true, true_and, and_false, false_and, List.append_nil, List.nil_append, List.getD_cons_succ, List.getD_cons_zero, Int.reduceLE, Int.reduceEq, Int.reduceNeg, hb2, hgn, h45, zy_n33, zy_n45]
              exact ⟨0, a, 0, a, 0, ec, er, rfl, ha, Or.inr ⟨rfl, Or.inl rfl⟩⟩
            · exact ⟨0, a, fg, x, 1, ec, (rf (fun _ => ⟨hgn, h33, h45, h40⟩)).1, ex.symm, ha, Or.inr ⟨efg, Or.inl rfl⟩⟩
  · have ec : (zx_F c [f] [n, a] 0).1 = [0, 0, a] := by
      rw [zy_cZ_F hc c2]
      simp only [↓reduceIte, zy_o86, zy_10, zy_00, ne_eq, not_true_eq_false, not_false_eq_true, and_self, and_true, true_and, and_false, false_and, List.append_nil, List.nil_append, List.getD_cons_succ, List.getD_cons_zero, Int.reduceLE, Int.reduceEq, Int.reduceNeg, hb]
    obtain ⟨ex, efg⟩ := n4 (fun h => hb h.2.1)
    exact ⟨0, a, fg, x, 1, ec, (rf (fun h => absurd h hb)).1, ex.symm, ha, Or.inr ⟨efg, Or.inl rfl⟩⟩
end
