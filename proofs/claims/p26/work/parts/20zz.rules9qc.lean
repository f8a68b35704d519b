noncomputable section
set_option maxRecDepth 8000 in
set_option maxHeartbeats 8000000 in
theorem zy_opS_n {f g : zx_Rw} {n : Int} (H : zy_H f g n) {c r iL iO jL jO : Nat} (hc : zx_dn c = zy_cO iL iO) (hc0 : zx_pt 0 c = zy_cPO_0 iL iO) (hr : zx_dn r = zy_rO jL jO) (hr1 : zx_pt 1 r = zy_rPO_1 jL jO) (hr2 : zx_pt 2 r = zy_rPO_2 jL jO) (i1 : iL < c) (i2 : iO < c) (j1 : jL < r) (j2 : jO < r) (c2 : 2 < c) (r3 : 3 < r) {hh : Nat} (hh1 : 1 ≤ hh) (hL : ∀ x, 0 ≤ x → zy_T f n hh (zy_s iL f n x 130 1) (zy_s iL f n x 130 2) (zy_l 0 iL f n x 130) (zy_s jL g n x 130 1) (zy_s jL g n x 130 2) (zy_s jL g n x 130 3) (zy_l 1 jL g n x 130) (zy_l 2 jL g n x 130)) (hO : ∀ x, 0 ≤ x → zy_T f n hh (zy_s iO f n x 0 1) (zy_s iO f n x 0 2) (zy_l 0 iO f n x 0) (zy_s jO g n x 0 1) (zy_s jO g n x 0 2) (zy_s jO g n x 0 3) (zy_l 1 jO g n x 0) (zy_l 2 jO g n x 0)) (a : Int) (ha : 0 ≤ a) (hb : a + 1 ≤ n) (hb2 : ¬ n ≤ a) (hnm : ¬ 0 ≤ zx_nm (f a.toNat)) (hgn : ¬ 0 ≤ zx_nm (g a.toNat)) (hg33 : g a.toNat = 33 ↔ f a.toNat = 33) (hg45 : g a.toNat = 45 ↔ f a.toNat = 45) (h40 : ¬ f a.toNat = 40) (hneg : f a.toNat = 33 ∨ f a.toNat = 45) : ∃ cg ca rg ra rl, (zx_F c [f] [n, a] 0).1 = [0, cg, ca] ∧ (zx_F r [g] [n, a] 0).1 = [0, rg, ra, rl] ∧ zy_T f n hh cg ca (zx_L 0 c [f] [n, a] 0) rg ra rl (zx_L 1 r [g] [n, a] 0) (zx_L 2 r [g] [n, a] 0) := by
  have T := hO (a + 1) (by omega)
  unfold zy_s at T
  have z1 : ¬ (48 ≤ f a.toNat) := by omega
  obtain ⟨s, sm, s5, s6, s7, s8, s9, s10⟩ : ∃ s m : Int, (f a.toNat = 33 → s = -33 ∧ m = 3) ∧ (f a.toNat = 45 → s = -126 ∧ m = 4) ∧ zy_ok2 m 0 ∧ zy_st2 m 0 = s ∧ (s = -33 ∨ s = -126) ∧ (m = 3 ∨ m = 4) := by
    rcases hneg with h | h
    · exact ⟨-33, 3, fun _ => ⟨rfl, rfl⟩, fun h' => by omega, Or.inr (Or.inr (Or.inl rfl)), rfl, Or.inl rfl, Or.inl rfl⟩
    · exact ⟨-126, 4, fun h' => by omega, fun _ => ⟨rfl, rfl⟩, Or.inr (Or.inr (Or.inr (Or.inl rfl))), rfl, Or.inr rfl, Or.inr rfl⟩
  have ec : (zx_F c [f] [n, a] 0).1 = [0, (zx_F iO [f] [n, a + 1] 0).1.getD 1 0, (zx_F iO [f] [n, a + 1] 0).1.getD 2 0] ∧ zx_L 0 c [f] [n, a] 0 = zy_l 0 iO f n (a + 1) 0 ++ [s] := by
    rw [zy_cO_F hc c2 i1 i2, zy_cO_L0 hc0 c2 i1 i2]
    rcases hneg with h | h
    · have hs := (s5 h).1
      exact ⟨by simp only [↓reduceIte, zy_o86, zy_10, zy_00, ne_eq, not_true_eq_false, not_false_eq_true, and_self, and_true, true_and, and_false, false_and, List.append_nil, List.nil_append, List.getD_cons_succ, List.getD_cons_zero, Int.reduceLE, Int.reduceEq, Int.reduceNeg, hb, z1, hnm, h40, h, zy_n33, zy_n45], by simp only [↓reduceIte, zy_o86, zy_10, zy_00, ne_eq, not_true_eq_false, not_false_eq_true, and_self, and_true, true_and, and_false, false_and, List.append_nil, List.nil_append, List.getD_cons_succ, List.getD_cons_zero, Int.reduceLE, Int.reduceEq, Int.reduceNeg, hb, z1, hnm, h40, h, zy_n33, zy_n45, zy_l, hs]⟩
    · have hs := (s6 h).1
      exact ⟨by simp only [↓reduceIte, zy_o86, zy_10, zy_00, ne_eq, not_true_eq_false, not_false_eq_true, and_self, and_true, true_and, and_false, false_and, List.append_nil, List.nil_append, List.getD_cons_succ, List.getD_cons_zero, Int.reduceLE, Int.reduceEq, Int.reduceNeg, hb, z1, hnm, h40, h, zy_n33, zy_n45], by simp only [↓reduceIte, zy_o86, zy_10, zy_00, ne_eq, not_true_eq_false, not_false_eq_true, and_self, and_true, true_and, and_false, false_and, List.append_nil, List.nil_append, List.getD_cons_succ, List.getD_cons_zero, Int.reduceLE, Int.reduceEq, Int.reduceNeg, hb, z1, hnm, h40, h, zy_n33, zy_n45, zy_l, hs]⟩
  have er : (zx_F r [g] [n, a] 0).1 = [0, (zx_F jO [g] [n, a + 1] 0).1.getD 1 0, (zx_F jO [g] [n, a + 1] 0).1.getD 2 0, (zx_F jO [g] [n, a + 1] 0).1.getD 3 0 + 1] ∧ zx_L 1 r [g] [n, a] 0 = zy_l 1 jO g n (a + 1) 0 ++ [sm] ∧ zx_L 2 r [g] [n, a] 0 = zy_l 2 jO g n (a + 1) 0 ++ [0] := by
    rw [zy_rO_F hr r3 j1 j2, zy_rO_L1 hr1 r3 j1 j2, zy_rO_L2 hr2 r3 j1 j2]
    rcases hneg with h | h
    · have hs := (s5 h).2
      have h := hg33.mpr h
      exact ⟨by simp only [↓reduceIte, zy_o86, zy_10, zy_00, ne_eq, not_true_eq_false, not_false_eq_true, and_self, and_true, true_and, and_false, false_and, List.append_nil, List.nil_append, List.getD_cons_succ, List.getD_cons_zero, Int.reduceLE, Int.reduceEq, Int.reduceNeg, hb2, hgn, h, zy_n33, zy_n45], by simp only [↓reduceIte, zy_o86, zy_10, zy_00, ne_eq, not_true_eq_false, not_false_eq_true, and_self, and_true, true_and, and_false, false_and, List.append_nil, List.nil_append, List.getD_cons_succ, List.getD_cons_zero, Int.reduceLE, Int.reduceEq, Int.reduceNeg, hb2, hgn, h, zy_n33, zy_n45, zy_l, hs], by simp only [↓reduceIte, zy_o86, zy_10, zy_00, ne_eq, not_true_eq_false, not_false_eq_true, and_self, and_true, true_and, and_false, false_and, List.append_nil, List.nil_append, List.getD_cons_succ, List.getD_cons_zero, Int.reduceLE, Int.reduceEq, Int.reduceNeg, hb2, hgn, h, zy_n33, zy_n45, zy_l]⟩
    · have hs := (s6 h).2
      have h := hg45.mpr h
      exact ⟨by simp only [↓reduceIte, zy_o86, zy_10, zy_00, ne_eq, not_true_eq_false, not_false_eq_true, and_self, and_true, true_and, and_false, false_and, List.append_nil, List.nil_append, List.getD_cons_succ, List.getD_cons_zero, Int.reduceLE, Int.reduceEq, Int.reduceNeg, hb2, hgn, h, zy_n33, zy_n45], by simp only [↓reduceIte, zy_o86, zy_10, zy_00, ne_eq, not_true_eq_false, not_false_eq_true, and_self, and_true, true_and, and_false, false_and, List.append_nil, List.nil_append, List.getD_cons_succ, List.getD_cons_zero, Int.reduceLE, Int.reduceEq, Int.reduceNeg, hb2, hgn, h, zy_n33, zy_n45, zy_l, hs], by simp only [↓reduceIte, zy_o86, zy_10, zy_00, ne_eq, not_true_eq_false, not_false_eq_true, and_self, and_true, true_and, and_false, false_and, List.append_nil, List.nil_append, List.getD_cons_succ, List.getD_cons_zero, Int.reduceLE, Int.reduceEq, Int.reduceNeg, hb2, hgn, h, zy_n33, zy_n45, zy_l]⟩
  refine ⟨_, _, _, _, _, ec.1, er.1, ?_⟩
  rw [ec.2, er.2.1, er.2.2]
  clear ec er
  generalize zy_l 0 iO f n (a + 1) 0 = CL at T ⊢
  generalize zy_l 1 jO g n (a + 1) 0 = AL at T ⊢
  generalize zy_l 2 jO g n (a + 1) 0 = WL at T ⊢
  generalize (zx_F iO [f] [n, a + 1] 0).1.getD 1 0 = cg at T ⊢
  generalize (zx_F iO [f] [n, a + 1] 0).1.getD 2 0 = ca at T ⊢
  generalize (zx_F jO [g] [n, a + 1] 0).1.getD 1 0 = rg at T ⊢
  generalize (zx_F jO [g] [n, a + 1] 0).1.getD 2 0 = ra at T ⊢
  generalize (zx_F jO [g] [n, a + 1] 0).1.getD 3 0 = rl at T ⊢
  obtain ⟨t1, t2, t3⟩ := T
  refine ⟨t1, t2, t3.imp (fun q => ⟨q.1, q.2.1, ?_, ?_, zy_gd_un q.2.2.2.2 s9⟩) id⟩
  · rw [q.2.2.1, List.length_append]
    simp
  · have := zy_rel_one s7
    rw [s8] at this
    exact zy_rel_app q.2.2.2.1 this
end
