noncomputable section
/-! WHICH LAMP MORE KEEPS IT LONGEST (wip/p41/mk9zd.py) -/
theorem zy_gh_0 {L : zx_Rw} {st : Int} {mc : Int} {mb : Int} : zx_F 119 [L] [st, mc, mb] 0 = ([(0 : Int), st, (-1 : Int), (100 : Int)], []) := rfl
set_option maxRecDepth 20000 in
theorem zy_gh_s {k : Nat} {L : zx_Rw} {st : Int} {mc : Int} {mb : Int} {c : Int} {b : Int} {hr : Int} (h : zx_F 119 [L] [st, mc, mb] k = ([0, c, b, hr], [])) : zx_F 119 [L] [st, mc, mb] (k + 1) =
  (([(if (if (k : Int) ≤ (98 : Int) then (1 : Int) else 0) = 0 then (1 : Int) else (if (if ((zx_G 119 115 [L] [c, b, mc, mb] 5).1.getD 1 0) = (-1 : Int) then (1 : Int) else 0) = 0 then (0 : Int) else (1 : Int))), (if (if (k : Int) ≤ (98 : Int) then (1 : Int) else 0) = 0 then c else (if (if ((zx_G 119 115 [L] [c, b, mc, mb] 5).1.getD 1 0) = (-1 : Int) then (1 : Int) else 0) = 0 then ((zx_G 119 115 [L] [c, b, mc, mb] 5).1.getD 1 0) else c)), (if (if (k : Int) ≤ (98 : Int) then (1 : Int) else 0) = 0 then b else (if (if ((zx_G 119 115 [L] [c, b, mc, mb] 5).1.getD 1 0) = (-1 : Int) then (1 : Int) else 0) = 0 then c else b)), (if (if (k : Int) ≤ (98 : Int) then (1 : Int) else 0) = 0 then hr else (if (if ((zx_G 119 115 [L] [c, b, mc, mb] 5).1.getD 1 0) = (-1 : Int) then (1 : Int) else 0) = 0 then hr else ((k : Int) + (1 : Int))))], [])) := by
  rw [zy_turn h]
  rfl
theorem zy_xx_0 {br : zx_Rw} {la : zx_Rw} {c : Int} {b : Int} {n : Int} {mc : Int} : zx_F 120 [br, la] [c, b, n, mc] 0 = ([(0 : Int), (-2 : Int), (0 : Int)], []) := rfl
set_option maxRecDepth 20000 in
theorem zy_xx_s {k : Nat} {br : zx_Rw} {la : zx_Rw} {c : Int} {b : Int} {n : Int} {mc : Int} {x : Int} {y : Int} (h : zx_F 120 [br, la] [c, b, n, mc] k = ([0, x, y], [])) : zx_F 120 [br, la] [c, b, n, mc] (k + 1) =
  (([(if (if (k : Int) ≤ (3 : Int) then (1 : Int) else 0) = 0 then (1 : Int) else (0 : Int)), (if (if (k : Int) ≤ (3 : Int) then (1 : Int) else 0) = 0 then x else (if (if (if (if (if (if (if (0 : Int) ≤ ((zx_G 120 113 [] [c, (k : Int)] 0).1.getD 1 0) then (1 : Int) else 0) = 0 then (1 : Int) else 0) = 0 then (1 : Int) else 0) ≠ 0 ∧ (if (if (if ((zx_G 120 113 [] [c, (k : Int)] 0).1.getD 1 0) = b then (1 : Int) else 0) = 0 then (1 : Int) else 0) = 0 then (1 : Int) else 0) ≠ 0 then (1 : Int) else 0) = 0 then (1 : Int) else 0) ≠ 0 ∧ (if (if (if (if x = (-2 : Int) then (1 : Int) else 0) = 0 then (1 : Int) else 0) ≠ 0 ∧ (if (if ((if (if (0 : Int) ≤ ((zx_G 120 113 [] [c, (k : Int)] 0).1.getD 1 0) then (1 : Int) else 0) = 0 then (0 : Int) else (zx_op 7 (((zx_G 120 109 [br, la] [((zx_G 120 113 [] [c, (k : Int)] 0).1.getD 1 0), n] 8).1.getD 1 0) + (if (if (1 : Int) ≤ ((br (n).toNat) - ((zx_G 120 114 [] [((zx_G 120 113 [] [c, (k : Int)] 0).1.getD 1 0), mc] 0).1.getD 1 0)) then (1 : Int) else 0) = 0 then (0 : Int) else ((br (n).toNat) - ((zx_G 120 114 [] [((zx_G 120 113 [] [c, (k : Int)] 0).1.getD 1 0), mc] 0).1.getD 1 0)))) (0 : Int))) + (1 : Int)) ≤ y then (1 : Int) else 0) = 0 then (1 : Int) else 0) ≠ 0 then (1 : Int) else 0) = 0 then (1 : Int) else 0) ≠ 0 then (1 : Int) else 0) = 0 then x else ((zx_G 120 113 [] [c, (k : Int)] 0).1.getD 1 0))), (if (if (k : Int) ≤ (3 : Int) then (1 : Int) else 0) = 0 then (0 : Int) else (if (if (if (if (if (if (if (0 : Int) ≤ ((zx_G 120 113 [] [c, (k : Int)] 0).1.getD 1 0) then (1 : Int) else 0) = 0 then (1 : Int) else 0) = 0 then (1 : Int) else 0) ≠ 0 ∧ (if (if (if ((zx_G 120 113 [] [c, (k : Int)] 0).1.getD 1 0) = b then (1 : Int) else 0) = 0 then (1 : Int) else 0) = 0 then (1 : Int) else 0) ≠ 0 then (1 : Int) else 0) = 0 then (1 : Int) else 0) ≠ 0 ∧ (if (if (if (if x = (-2 : Int) then (1 : Int) else 0) = 0 then (1 : Int) else 0) ≠ 0 ∧ (if (if ((if (if (0 : Int) ≤ ((zx_G 120 113 [] [c, (k : Int)] 0).1.getD 1 0) then (1 : Int) else 0) = 0 then (0 : Int) else (zx_op 7 (((zx_G 120 109 [br, la] [((zx_G 120 113 [] [c, (k : Int)] 0).1.getD 1 0), n] 8).1.getD 1 0) + (if (if (1 : Int) ≤ ((br (n).toNat) - ((zx_G 120 114 [] [((zx_G 120 113 [] [c, (k : Int)] 0).1.getD 1 0), mc] 0).1.getD 1 0)) then (1 : Int) else 0) = 0 then (0 : Int) else ((br (n).toNat) - ((zx_G 120 114 [] [((zx_G 120 113 [] [c, (k : Int)] 0).1.getD 1 0), mc] 0).1.getD 1 0)))) (0 : Int))) + (1 : Int)) ≤ y then (1 : Int) else 0) = 0 then (1 : Int) else 0) ≠ 0 then (1 : Int) else 0) = 0 then (1 : Int) else 0) ≠ 0 then (1 : Int) else 0) = 0 then y else (if (if (0 : Int) ≤ ((zx_G 120 113 [] [c, (k : Int)] 0).1.getD 1 0) then (1 : Int) else 0) = 0 then (0 : Int) else (zx_op 7 (((zx_G 120 109 [br, la] [((zx_G 120 113 [] [c, (k : Int)] 0).1.getD 1 0), n] 8).1.getD 1 0) + (if (if (1 : Int) ≤ ((br (n).toNat) - ((zx_G 120 114 [] [((zx_G 120 113 [] [c, (k : Int)] 0).1.getD 1 0), mc] 0).1.getD 1 0)) then (1 : Int) else 0) = 0 then (0 : Int) else ((br (n).toNat) - ((zx_G 120 114 [] [((zx_G 120 113 [] [c, (k : Int)] 0).1.getD 1 0), mc] 0).1.getD 1 0)))) (0 : Int)))))], [])) := by
  rw [zy_turn h]
  rfl
theorem zy_gx_0 {br : zx_Rw} {la : zx_Rw} {ba : zx_Rw} {i : Int} {n : Int} {mc : Int} : zx_F 121 [br, la, ba] [i, n, mc] 0 = ([(0 : Int), (ba (i).toNat), (-1 : Int), (100 : Int)], []) := rfl
set_option maxRecDepth 20000 in
theorem zy_gx_s {k : Nat} {br : zx_Rw} {la : zx_Rw} {ba : zx_Rw} {i : Int} {n : Int} {mc : Int} {c : Int} {b : Int} {hr : Int} (h : zx_F 121 [br, la, ba] [i, n, mc] k = ([0, c, b, hr], [])) : zx_F 121 [br, la, ba] [i, n, mc] (k + 1) =
  (([(if (if (k : Int) ≤ (99 : Int) then (1 : Int) else 0) = 0 then (1 : Int) else (0 : Int)), (if (if (k : Int) ≤ (99 : Int) then (1 : Int) else 0) = 0 then c else (if (if c ≤ (-1 : Int) then (1 : Int) else 0) = 0 then ((zx_G 121 120 [br, la] [c, b, n, mc] 5).1.getD 1 0) else c)), (if (if (k : Int) ≤ (99 : Int) then (1 : Int) else 0) = 0 then b else (if (if c ≤ (-1 : Int) then (1 : Int) else 0) = 0 then c else b)), (if (if (k : Int) ≤ (99 : Int) then (1 : Int) else 0) = 0 then hr else (if (if c ≤ (-1 : Int) then (1 : Int) else 0) = 0 then hr else (if (if hr = (100 : Int) then (1 : Int) else 0) = 0 then hr else (k : Int))))], [])) := by
  rw [zy_turn h]
  rfl
theorem zy_tcc_0 {L : zx_Rw} {bc : zx_Rw} {i : Int} {mb : Int} : zx_F 122 [L, bc] [i, mb] 0 = ([(0 : Int), (0 : Int), (0 : Int)], []) := rfl
set_option maxRecDepth 20000 in
theorem zy_tcc_s {k : Nat} {L : zx_Rw} {bc : zx_Rw} {i : Int} {mb : Int} {x : Int} {y : Int} (h : zx_F 122 [L, bc] [i, mb] k = ([0, x, y], [])) : zx_F 122 [L, bc] [i, mb] (k + 1) =
  (([(if (if (k : Int) ≤ (99 : Int) then (1 : Int) else 0) = 0 then (1 : Int) else (0 : Int)), (if (if (if (k : Int) ≤ (99 : Int) then (1 : Int) else 0) ≠ 0 ∧ (if (y + (1 : Int)) ≤ ((zx_G 122 119 [L] [(bc (i).toNat), (k : Int), mb] 101).1.getD 3 0) then (1 : Int) else 0) ≠ 0 then (1 : Int) else 0) = 0 then x else (k : Int)), (if (if (if (k : Int) ≤ (99 : Int) then (1 : Int) else 0) ≠ 0 ∧ (if (y + (1 : Int)) ≤ ((zx_G 122 119 [L] [(bc (i).toNat), (k : Int), mb] 101).1.getD 3 0) then (1 : Int) else 0) ≠ 0 then (1 : Int) else 0) = 0 then y else ((zx_G 122 119 [L] [(bc (i).toNat), (k : Int), mb] 101).1.getD 3 0))], [])) := by
  rw [zy_turn h]
  rfl
theorem zy_trr_0 {br : zx_Rw} {la : zx_Rw} {ba : zx_Rw} {i : Int} {n : Int} : zx_F 123 [br, la, ba] [i, n] 0 = ([(0 : Int), (-2 : Int), (0 : Int)], []) := rfl
set_option maxRecDepth 20000 in
theorem zy_trr_s {k : Nat} {br : zx_Rw} {la : zx_Rw} {ba : zx_Rw} {i : Int} {n : Int} {x : Int} {y : Int} (h : zx_F 123 [br, la, ba] [i, n] k = ([0, x, y], [])) : zx_F 123 [br, la, ba] [i, n] (k + 1) =
  (([(if (if (k : Int) ≤ (99 : Int) then (1 : Int) else 0) = 0 then (1 : Int) else (0 : Int)), (if (if (if (k : Int) ≤ (99 : Int) then (1 : Int) else 0) ≠ 0 ∧ (if (if (if (0 : Int) ≤ x then (1 : Int) else 0) ≠ 0 ∧ (if ((zx_G 123 121 [br, la, ba] [i, n, (k : Int)] 101).1.getD 3 0) ≤ y then (1 : Int) else 0) ≠ 0 then (1 : Int) else 0) = 0 then (1 : Int) else 0) ≠ 0 then (1 : Int) else 0) = 0 then x else (k : Int)), (if (if (if (k : Int) ≤ (99 : Int) then (1 : Int) else 0) ≠ 0 ∧ (if (if (if (0 : Int) ≤ x then (1 : Int) else 0) ≠ 0 ∧ (if ((zx_G 123 121 [br, la, ba] [i, n, (k : Int)] 101).1.getD 3 0) ≤ y then (1 : Int) else 0) ≠ 0 then (1 : Int) else 0) = 0 then (1 : Int) else 0) ≠ 0 then (1 : Int) else 0) = 0 then y else ((zx_G 123 121 [br, la, ba] [i, n, (k : Int)] 101).1.getD 3 0))], [])) := by
  rw [zy_turn h]
  rfl
theorem zy_goh {L z : zx_Rw} {st mc mb : Int} : ∀ K : Nat, ∃ d c b hr f, zx_F 117 [L, z] [st, mc, mb] K = ([d, c, b, hr], [f]) ∧ zx_F 119 [L] [st, mc, mb] K = ([d, c, b, hr], [])
  | 0 => ⟨0, st, -1, 100, z, zy_gc_0, zy_gh_0⟩
  | K + 1 => by
    obtain ⟨d, c, b, hr, f, e1, e2⟩ := zy_goh (L := L) (z := z) (st := st) (mc := mc) (mb := mb) K
    have g1 : ∀ P k, zx_G 117 115 [L] P k = zx_F 115 [L] P k := fun P k => zx_G_F (by decide) _ _ _
    have g2 : ∀ P k, zx_G 119 115 [L] P k = zx_F 115 [L] P k := fun P k => zx_G_F (by decide) _ _ _
    by_cases hd : d = 0
    · subst hd
      have f1 := zy_gc_s e1
      have f2 := zy_gh_s e2
      simp only [g1, g2, zy_if, zy_if0, zy_ne, zy_ne0, Int.add_zero] at f1 f2
      generalize (zx_F 115 [L] [c, b, mc, mb] 5).1.getD 1 0 = x at f1 f2
      by_cases hk : (K : Int) ≤ 98
      · by_cases ho : x = -1
        · exact ⟨_, _, _, _, _, by simpa [hk, ho] using f1, by simpa [hk, ho] using f2⟩
        · exact ⟨_, _, _, _, _, by simpa [hk, ho, zx_wr1] using f1, by simpa [hk, ho] using f2⟩
      · exact ⟨_, _, _, _, _, by simpa [hk] using f1, by simpa [hk] using f2⟩
    · exact ⟨d, c, b, hr, f, zy_stay e1 hd, zy_stay e2 hd⟩
/-- the light of a cell with one lamp more -/
theorem zy_lrK {br la la' : zx_Rw} {x n : Int} (hl : ∀ j : Nat, (j : Int) < n → la' j = la j) : ∀ K : Nat, (K : Int) ≤ n → ∃ s, zx_F 109 [br, la] [x, n] K = ([0, s], []) ∧ zx_F 109 [br, la'] [x, n + 1] K = ([0, s], [])
  | 0, _ => ⟨0, zy_lr_0, zy_lr_0⟩
  | K + 1, hK => by
    obtain ⟨s, e1, e2⟩ := zy_lrK hl K (by omega)
    have f1 := zy_lr_s e1
    have f2 := zy_lr_s e2
    simp only [zy_if, Int.toNat_natCast] at f1 f2
    have h1 : (K : Int) + 1 ≤ n := by omega
    have h2 : (K : Int) + 1 ≤ n + 1 := by omega
    simp only [if_pos h1] at f1
    simp only [if_pos h2, hl K (by omega)] at f2
    exact ⟨_, f1, f2⟩
theorem zy_lrx {br la la' : zx_Rw} {x n mc : Int} (hn : 0 ≤ n ∧ n ≤ 6) (hl : ∀ j : Nat, (j : Int) < n → la' j = la j) (hm : la' n.toNat = mc) : zy_lv9 br la' (n + 1) x = zx_op 7 (zy_lv9 br la n x + (if (1 : Int) ≤ br n.toNat - (zx_F 114 [] [x, mc] 0).1.getD 1 0 then br n.toNat - (zx_F 114 [] [x, mc] 0).1.getD 1 0 else 0)) 0 := by
  have en : ((n.toNat : Nat) : Int) = n := Int.toNat_of_nonneg hn.1
  obtain ⟨s, e1, e2⟩ := zy_lrK (br := br) (x := x) hl n.toNat (by omega)
  have f1 := zy_lr_s e1
  have f2 := zy_lr_s e2
  simp only [zy_if, Int.toNat_natCast] at f1 f2
  have h1 : ¬ ((n.toNat : Nat) : Int) + 1 ≤ n := by omega
  have h2 : ((n.toNat : Nat) : Int) + 1 ≤ n + 1 := by omega
  simp only [if_neg h1] at f1
  simp only [if_pos h2, hm] at f2
  have f3 := zy_lr_s f2
  have h3 : ¬ ((n.toNat + 1 : Nat) : Int) + 1 ≤ n + 1 := by push_cast; omega
  simp only [zy_if] at f3
  simp only [if_neg h3] at f3
  have r1 : zx_F 109 [br, la] [x, n] 8 = _ := zx_F_st (K := n.toNat + 1) (K' := 8) (by rw [f1]; show (1 : Int) ≠ 0; decide) (by omega)
  have r2 : zx_F 109 [br, la'] [x, n + 1] 8 = _ := zx_F_st (K := n.toNat + 1 + 1) (K' := 8) (by rw [f3]; show (1 : Int) ≠ 0; decide) (by omega)
  unfold zy_lv9
  rw [r1, r2, f1, f3, zy_ap_0]
  simp only [zy_if, List.getD_cons_succ, List.getD_cons_zero]
  have a1 := zy_ab (x := zx_op 83 mc 10) (y := zx_op 83 x 10)
  have a2 := zy_ab (x := zx_op 82 mc 10) (y := zx_op 82 x 10)
  rw [zy_if, zy_if] at a1 a2
  rw [a1, a2]
theorem zy_xxK {br la la' : zx_Rw} {c b n mc : Int} (hn : 0 ≤ n ∧ n ≤ 6) (hl : ∀ j : Nat, (j : Int) < n → la' j = la j) (hm : la' n.toNat = mc) : ∀ K : Nat, ∃ d x y, zx_F 116 [br, la'] [c, b, n + 1] K = ([d, x, y], []) ∧ zx_F 120 [br, la] [c, b, n, mc] K = ([d, x, y], [])
  | 0 => ⟨0, -2, 0, zy_nr_0, zy_xx_0⟩
  | K + 1 => by
    obtain ⟨d, x, y, e1, e2⟩ := zy_xxK (br := br) (c := c) (b := b) hn hl hm K
    have g1 : ∀ P k, zx_G 116 113 [] P k = zx_F 113 [] P k := fun P k => zx_G_F (by decide) _ _ _
    have g2 : ∀ P k, zx_G 120 113 [] P k = zx_F 113 [] P k := fun P k => zx_G_F (by decide) _ _ _
    have g3 : ∀ P k, zx_G 120 114 [] P k = zx_F 114 [] P k := fun P k => zx_G_F (by decide) _ _ _
    have g4 : ∀ P k, zx_G 116 109 [br, la'] P k = zx_F 109 [br, la'] P k := fun P k => zx_G_F (by decide) _ _ _
    have g5 : ∀ P k, zx_G 120 109 [br, la] P k = zx_F 109 [br, la] P k := fun P k => zx_G_F (by decide) _ _ _
    by_cases hd : d = 0
    · subst hd
      have f1 := zy_nr_s e1
      have f2 := zy_xx_s e2
      simp only [g1, g2, g3, g4, g5, zy_if, zy_if0, zy_ne, zy_ne0] at f1 f2
      generalize (zx_F 113 [] [c, (K : Int)] 0).1.getD 1 0 = nx at f1 f2
      have hx := zy_lrx (br := br) (x := nx) hn hl hm
      unfold zy_lv9 at hx
      rw [← hx] at f2
      exact ⟨_, _, _, f1, f2⟩
    · exact ⟨d, x, y, zy_stay e1 hd, zy_stay e2 hd⟩
theorem zy_gxK {br la la' ba z : zx_Rw} {i n mc : Int} (hn : 0 ≤ n ∧ n ≤ 6) (hl : ∀ j : Nat, (j : Int) < n → la' j = la j) (hm : la' n.toNat = mc) : ∀ K : Nat, ∃ d c b hr f, zx_F 118 [br, la', ba, z] [i, n + 1] K = ([d, c, b, hr], [f]) ∧ zx_F 121 [br, la, ba] [i, n, mc] K = ([d, c, b, hr], [])
  | 0 => ⟨0, ba i.toNat, -1, 100, z, zy_gr_0, zy_gx_0⟩
  | K + 1 => by
    obtain ⟨d, c, b, hr, f, e1, e2⟩ := zy_gxK (br := br) (ba := ba) (z := z) (i := i) hn hl hm K
    have g1 : ∀ P k, zx_G 118 116 [br, la'] P k = zx_F 116 [br, la'] P k := fun P k => zx_G_F (by decide) _ _ _
    have g2 : ∀ P k, zx_G 121 120 [br, la] P k = zx_F 120 [br, la] P k := fun P k => zx_G_F (by decide) _ _ _
    by_cases hd : d = 0
    · subst hd
      have f1 := zy_gr_s e1
      have f2 := zy_gx_s e2
      simp only [g1, g2, zy_if, zy_if0, zy_ne, zy_ne0] at f1 f2
      obtain ⟨d5, x5, y5, r1, r2⟩ := zy_xxK (br := br) (c := c) (b := b) hn hl hm 5
      rw [r1] at f1
      rw [r2] at f2
      simp only [List.getD_cons_succ, List.getD_cons_zero] at f1 f2
      by_cases hk : (K : Int) ≤ 99
      · by_cases hc : c ≤ -1
        · by_cases ho : hr = 100
          · exact ⟨_, _, _, _, _, by simpa [hk, hc, ho, zx_wr1] using f1, by simpa [hk, hc, ho] using f2⟩
          · exact ⟨_, _, _, _, _, by simpa [hk, hc, ho, zx_wr1] using f1, by simpa [hk, hc, ho] using f2⟩
        · exact ⟨_, _, _, _, _, by simpa [hk, hc, zx_wr1] using f1, by simpa [hk, hc] using f2⟩
      · exact ⟨_, _, _, _, _, by simpa [hk] using f1, by simpa [hk] using f2⟩
    · exact ⟨d, c, b, hr, f, zy_stay e1 hd, zy_stay e2 hd⟩
/-- the class's light with one lamp more is the reference's -/
theorem zy_lt_x {L br la la' : zx_Rw} {n mc : Int} (h : zy_lt L br la n) (hn : 0 ≤ n ∧ n ≤ 6) (hb : br n.toNat ≤ 19) (hl : ∀ j : Nat, (j : Int) < n → la' j = la j) (hm : la' n.toNat = mc) : zy_ltg L mc (br n.toNat) br la' (n + 1) := fun x h0 h1 => by
  obtain ⟨l1, l2, l3⟩ := h x h0 h1
  have hx := zy_lrx (br := br) (x := x) hn hl hm
  have ha := zy_apt_b (a := x) (b := mc)
  refine ⟨?_, ?_, ?_⟩
  · rw [hx]
    unfold zy_cl
    rw [l1]
  · rw [hx, zy_op7 (by split <;> omega) (by split <;> omega)]
    split <;> omega
  · rw [hx, zy_op7 (by split <;> omega) (by split <;> omega)]
    split <;> omega
/-- so many hours on both sides -/
theorem zy_h101 {L br la la' ba : zx_Rw} {n st mc i : Int} (h : zy_ltg L mc (br n.toNat) br la' (n + 1)) (hn : 0 ≤ n ∧ n ≤ 6) (hl : ∀ j : Nat, (j : Int) < n → la' j = la j) (hm : la' n.toNat = mc) (hs : 0 ≤ st ∧ st ≤ 99) (hba : ba i.toNat = st) : (zx_F 119 [L] [st, mc, br n.toNat] 101).1.getD 3 0 = (zx_F 121 [br, la, ba] [i, n, mc] 101).1.getD 3 0 ∧ 1 ≤ (zx_F 119 [L] [st, mc, br n.toNat] 101).1.getD 3 0 := by
  obtain ⟨d1, c1, b1, h1, f1, r1, r2⟩ := zy_goh (L := L) (z := fun _ => st) (st := st) (mc := mc) (mb := br n.toNat) 101
  obtain ⟨d2, c2, b2, h2, f2, r3, r4⟩ := zy_gxK (br := br) (ba := ba) (z := fun _ => 0) (i := i) hn hl hm 101
  obtain ⟨D, C, B, H, F, D', C', B', O, F', g1, g2, g⟩ := zy_goK (z := fun _ => st) (z' := fun _ => 0) h hs rfl hba 101
  rw [r1] at g1
  rw [r3] at g2
  have a1 : h1 = H := congrArg (fun x => x.1.getD 3 0) g1
  have a4 : h2 = O := congrArg (fun x => x.1.getD 3 0) g2
  rw [r2, r4]
  show h1 = h2 ∧ 1 ≤ h1
  rw [a1, a4]
  rcases g with ⟨-, -, k3, -⟩ | ⟨-, k2, k3, -⟩ | ⟨-, -, k3, k4, k5, k6, k7, -⟩
  · omega
  · omega
  · have := k7 (by omega)
    omega
theorem zy_stK {L bc br la ba : zx_Rw} {n i : Int} (hn : 0 ≤ n ∧ n ≤ 6) (hs : 0 ≤ bc i.toNat ∧ bc i.toNat ≤ 99) (hba : ba i.toNat = bc i.toNat) (hb : br n.toNat ≤ 19) (h : zy_lt L br la n) : ∀ K : Nat, ∃ d x y x' y', zx_F 122 [L, bc] [i, br n.toNat] K = ([d, x, y], []) ∧ zx_F 123 [br, la, ba] [i, n] K = ([d, x', y'], []) ∧ ((K = 0 ∧ d = 0 ∧ x = 0 ∧ y = 0 ∧ x' = -2) ∨ (1 ≤ K ∧ x = x' ∧ y = y' ∧ 0 ≤ x))
  | 0 => ⟨0, 0, 0, -2, 0, zy_tcc_0, zy_trr_0, Or.inl ⟨rfl, rfl, rfl, rfl, rfl⟩⟩
  | K + 1 => by
    obtain ⟨d, x, y, x', y', e1, e2, g⟩ := zy_stK hn hs hba hb h K
    have g1 : ∀ P k, zx_G 122 119 [L] P k = zx_F 119 [L] P k := fun P k => zx_G_F (by decide) _ _ _
    have g2 : ∀ P k, zx_G 123 121 [br, la, ba] P k = zx_F 121 [br, la, ba] P k := fun P k => zx_G_F (by decide) _ _ _
    by_cases hd : d = 0
    · subst hd
      have f1 := zy_tcc_s e1
      have f2 := zy_trr_s e2
      simp only [g1, g2, zy_if, zy_if0, zy_ne, zy_ne0] at f1 f2
      have hl : ∀ j : Nat, (j : Int) < n → (fun j : Nat => if (j : Int) < n then la j else (K : Int)) j = la j := fun j hj => if_pos hj
      have hm : (fun j : Nat => if (j : Int) < n then la j else (K : Int)) n.toNat = (K : Int) := if_neg (by omega)
      obtain ⟨q1, q2⟩ := zy_h101 (i := i) (ba := ba) (zy_lt_x h hn hb hl hm) hn hl hm hs hba
      rw [q1] at f1 q2
      generalize (zx_F 121 [br, la, ba] [i, n, (K : Int)] 101).1.getD 3 0 = H at f1 f2 q2
      by_cases hk : (K : Int) ≤ 99
      · rcases g with ⟨k1, -, k3, k4, k5⟩ | ⟨k1, k2, k3, k4⟩
        · subst k1 k3 k4 k5
          have hu : (1 : Int) ≤ H := q2
          exact ⟨0, 0, H, 0, H, by simpa [hu] using f1, by simpa using f2, Or.inr ⟨by omega, rfl, rfl, by decide⟩⟩
        · subst k2 k3
          by_cases hu : y + 1 ≤ H
          · have hw : ¬ H ≤ y := by omega
            exact ⟨0, (K : Int), H, (K : Int), H, by simpa [hk, hu] using f1, by simpa [hk, hw, k4] using f2, Or.inr ⟨by omega, rfl, rfl, by omega⟩⟩
          · have hw : H ≤ y := by omega
            exact ⟨0, x, y, x, y, by simpa [hk, hu] using f1, by simpa [hk, hw, k4] using f2, Or.inr ⟨by omega, rfl, rfl, k4⟩⟩
      · rcases g with ⟨k1, -⟩ | ⟨k1, k2, k3, k4⟩
        · omega
        · exact ⟨1, x, y, x', y', by simpa [hk] using f1, by simpa [hk] using f2, Or.inr ⟨by omega, k2, k3, k4⟩⟩
    · rcases g with ⟨-, k2, -⟩ | ⟨k1, k2, k3, k4⟩
      · exact absurd k2 hd
      · exact ⟨d, x, y, x', y', zy_stay e1 hd, zy_stay e2 hd, Or.inr ⟨by omega, k2, k3, k4⟩⟩
theorem zy_stE {L bc br la ba : zx_Rw} {n i d x y d' x' y' : Int} {K1 K2 : Nat} (hn : 0 ≤ n ∧ n ≤ 6) (hs : 0 ≤ bc i.toNat ∧ bc i.toNat ≤ 99) (hba : ba i.toNat = bc i.toNat) (hb : br n.toNat ≤ 19) (h : zy_lt L br la n) (h1 : zx_F 122 [L, bc] [i, br n.toNat] K1 = ([d, x, y], [])) (hd : d ≠ 0) (h2 : zx_F 123 [br, la, ba] [i, n] K2 = ([d', x', y'], [])) (hd' : d' ≠ 0) : x' = x ∧ y' = y := by
  have e1 : zx_F 122 [L, bc] [i, br n.toNat] (max K1 K2) = ([d, x, y], []) := by
    rw [zx_F_st (K := K1) (by rw [h1]; exact hd) (by omega), h1]
  have e2 : zx_F 123 [br, la, ba] [i, n] (max K1 K2) = ([d', x', y'], []) := by
    rw [zx_F_st (K := K2) (by rw [h2]; exact hd') (by omega), h2]
  obtain ⟨D, X, Y, X', Y', g1, g2, g⟩ := zy_stK (i := i) hn hs hba hb h (max K1 K2)
  rw [e1] at g1
  rw [e2] at g2
  have a0 : d = D := congrArg (fun p => p.1.getD 0 0) g1
  have a1 : x = X := congrArg (fun p => p.1.getD 1 0) g1
  have a2 : y = Y := congrArg (fun p => p.1.getD 2 0) g1
  have a3 : x' = X' := congrArg (fun p => p.1.getD 1 0) g2
  have a4 : y' = Y' := congrArg (fun p => p.1.getD 2 0) g2
  rcases g with ⟨-, k, -⟩ | ⟨-, k2, k3, -⟩
  · exact absurd (a0.trans k) hd
  · exact ⟨by omega, by omega⟩
/-! the rules -/
def zk_gh3 (N : zk_N) (br ba lo : Nat) (K bi k1 mc d c b o : zk_V) (q : zk_G) : List zk_G := match zk_as 26 q with
  | some ([g, l0], [m]) => match Nat.beq g lo && zk_n2 N (zk_vsub m k1) with
    | true => [(90, [br, l0, ba], [zk_c 121, K, bi, k1, mc, d, c, b, o])]
    | false => []
  | _ => []
def zk_gh2 (N : zk_N) (br la ba : Nat) (K bi k1 d c b o : zk_V) (q : zk_G) : List zk_G := match zk_as 2 q with
  | some ([l', lo], [j, mc]) => match Nat.beq l' la && zk_eqE N j k1 && zk_n2 N k1 && zk_n2 N (zk_vsub (zk_c 6) k1) with
    | true => N.2.2.2.flatMap (zk_gh3 N br ba lo K bi k1 mc d c b o)
    | false => []
  | _ => []
def zk_gh1 (N : zk_N) (q : zk_G) : List zk_G := match zk_as 90 q with
  | some ([L, _, _], [i, K, st, mc, mb, d, c, b, hr]) => match zk_eqi (zk_fci N i) 117 with
    | true => [(90, [L], [zk_c 119, K, st, mc, mb, d, c, b, hr])]
    | false => []
  | some ([br, la, ba, _, _], [i, K, bi, n1, d, c, b, o]) => match zk_eqi (zk_fci N i) 118 with
    | true => N.2.2.2.flatMap (zk_gh2 N br la ba K bi (zk_vsub n1 (zk_c 1)) d c b o)
    | false => []
  | _ => []
theorem zk_gh1_ok {E : zk_E} {N : zk_N} (hN : zk_ok E N) (hc : zk_cl N) {q : zk_G} (hq : q ∈ N.2.2.2) : ∀ x ∈ zk_gh1 N q, zk_tru E N.1 x := by
  obtain ⟨t1, t2, t3⟩ := zk_tru_of hN hc q hq
  intro x hx
  unfold zk_gh1 at hx
  split at hx
  · rename_i L z f i K st mc mb d c b hr hu
    have e := zk_as_of hu
    subst e
    split at hx
    · rename_i cd
      have c1 := zk_fci_of (n := 117) hN cd
      simp only [List.map_cons, List.map_nil, zq_6, zq_7, zq_8, zq_9, zq_20, zq_21, zq_22, zq_25, zq_26, zq_28, zq_30, zq_40, zq_51, zq_52, zq_53, zq_54, zq_55, zq_64, zq_65, zq_68, zq_72, zq_73, zq_85, zq_74, zq_75, zq_76, zq_71, zq_86, zq_87, zq_80, zq_41, zq_42, zq_43, zq_94, zq_95, zq_47, zq_48, zq_96, zq_97, zq_88, zq_89, zq_90, zq_93, zq_61, zq_62, zq_1, zq_2, zq_3, zq_4, zq_5, zx_90] at t1
      rw [c1] at t1
      obtain ⟨-, p2, tF⟩ := t1
      have tF : zx_F 117 [E.2 L, E.2 z] [zk_i E st, zk_i E mc, zk_i E mb] (zk_i E K).toNat = ([zk_i E d, zk_i E c, zk_i E b, zk_i E hr], [E.2 f]) := tF
      obtain ⟨d', c', b', h', f', e1, e2⟩ := zy_goh (L := E.2 L) (z := E.2 z) (st := zk_i E st) (mc := zk_i E mc) (mb := zk_i E mb) (zk_i E K).toNat
      rw [tF] at e1
      have e3 : ([zk_i E d, zk_i E c, zk_i E b, zk_i E hr] : List Int) = [d', c', b', h'] := congrArg (fun p => p.1) e1
      rw [← e3] at e2
      rw [List.mem_singleton.mp hx]
      refine ⟨?_, fun a ha => ?_, fun v hv => ?_⟩
      · simp only [List.map_cons, List.map_nil, zq_6, zq_7, zq_8, zq_9, zq_20, zq_21, zq_22, zq_25, zq_26, zq_28, zq_30, zq_40, zq_51, zq_52, zq_53, zq_54, zq_55, zq_64, zq_65, zq_68, zq_72, zq_73, zq_85, zq_74, zq_75, zq_76, zq_71, zq_86, zq_87, zq_80, zq_41, zq_42, zq_43, zq_94, zq_95, zq_47, zq_48, zq_96, zq_97, zq_88, zq_89, zq_90, zq_93, zq_61, zq_62, zq_1, zq_2, zq_3, zq_4, zq_5, zx_90]
        rw [zk_c_i]
        exact ⟨by decide, p2, e2⟩
      · rw [List.mem_singleton.mp ha]
        exact t2 _ (by simp)
      · rcases List.mem_cons.mp hv with rfl | hv
        · exact zk_c_sv
        · exact t3 _ (List.mem_cons_of_mem _ hv)
    · cases hx
  · rename_i br la ba z f i K bi n1 d c b o hu
    have e := zk_as_of hu
    subst e
    split at hx
    · rename_i cd
      have c1 := zk_fci_of (n := 118) hN cd
      simp only [List.map_cons, List.map_nil, zq_6, zq_7, zq_8, zq_9, zq_20, zq_21, zq_22, zq_25, zq_26, zq_28, zq_30, zq_40, zq_51, zq_52, zq_53, zq_54, zq_55, zq_64, zq_65, zq_68, zq_72, zq_73, zq_85, zq_74, zq_75, zq_76, zq_71, zq_86, zq_87, zq_80, zq_41, zq_42, zq_43, zq_94, zq_95, zq_47, zq_48, zq_96, zq_97, zq_88, zq_89, zq_90, zq_93, zq_61, zq_62, zq_1, zq_2, zq_3, zq_4, zq_5, zx_90] at t1
      rw [c1] at t1
      obtain ⟨-, p2, tF⟩ := t1
      have tF : zx_F 118 [E.2 br, E.2 la, E.2 ba, E.2 z] [zk_i E bi, zk_i E n1] (zk_i E K).toNat = ([zk_i E d, zk_i E c, zk_i E b, zk_i E o], [E.2 f]) := tF
      obtain ⟨y, hy, hx1⟩ := List.mem_flatMap.mp hx
      obtain ⟨u1, u2, u3⟩ := zk_tru_of hN hc y hy
      unfold zk_gh2 at hx1
      split at hx1
      · rename_i l' lo j mc hu2
        have e2 := zk_as_of hu2
        subst e2
        split at hx1
        · rename_i cc
          simp only [Bool.and_eq_true] at cc
          obtain ⟨⟨⟨k1, k2⟩, k3⟩, k4⟩ := cc
          have k1 := Nat.eq_of_beq_eq_true k1
          have k2 := zk_eqE_of hN k2
          have k3 := zk_n2_ok hN k3
          have k4 := zk_n2_ok hN k4
          rw [zk_vsub_i, zk_c_i] at k2 k3
          rw [zk_vsub_i, zk_c_i, zk_vsub_i, zk_c_i] at k4
          simp only [List.map_cons, List.map_nil, zk_S] at u1
          rw [k1] at u1
          obtain ⟨w, hw, hx2⟩ := List.mem_flatMap.mp hx1
          obtain ⟨v1, v2, v3⟩ := zk_tru_of hN hc w hw
          unfold zk_gh3 at hx2
          split at hx2
          · rename_i g l0 m hu3
            have e3 := zk_as_of hu3
            subst e3
            split at hx2
            · rename_i cc2
              rw [Bool.and_eq_true] at cc2
              have m1 := Nat.eq_of_beq_eq_true cc2.1
              have m2 := zk_n2_ok hN cc2.2
              rw [zk_vsub_i, zk_vsub_i, zk_c_i] at m2
              simp only [List.map_cons, List.map_nil, zq_6, zq_7, zq_8, zq_9, zq_20, zq_21, zq_22, zq_25, zq_26, zq_28, zq_30, zq_40, zq_51, zq_52, zq_53, zq_54, zq_55, zq_64, zq_65, zq_68, zq_72, zq_73, zq_85, zq_74, zq_75, zq_76, zq_71, zq_86, zq_87, zq_80, zq_41, zq_42, zq_43, zq_94, zq_95, zq_47, zq_48, zq_96, zq_97, zq_88, zq_89, zq_90, zq_93, zq_61, zq_62, zq_1, zq_2, zq_3, zq_4, zq_5] at v1
              rw [m1] at v1
              have hl : ∀ j : Nat, (j : Int) < zk_i E n1 - 1 → E.2 la j = E.2 l0 j := fun j2 hj => by
                rw [u1]
                show (if j2 = (zk_i E j).toNat then zk_i E mc else E.2 lo j2) = _
                rw [if_neg (by omega)]
                exact v1 j2 (by omega)
              have hm : E.2 la (zk_i E n1 - 1).toNat = zk_i E mc := by
                rw [u1]
                exact if_pos (by rw [k2])
              obtain ⟨d', c', b', h', f', e1, e2⟩ := zy_gxK (br := E.2 br) (ba := E.2 ba) (z := E.2 z) (i := zk_i E bi) (n := zk_i E n1 - 1) ⟨k3, by omega⟩ hl hm (zk_i E K).toNat
              rw [show zk_i E n1 - 1 + 1 = zk_i E n1 by omega, tF] at e1
              have e3 : ([zk_i E d, zk_i E c, zk_i E b, zk_i E o] : List Int) = [d', c', b', h'] := congrArg (fun p => p.1) e1
              rw [← e3] at e2
              rw [List.mem_singleton.mp hx2]
              refine ⟨?_, fun a ha => ?_, fun v hv => ?_⟩
              · simp only [List.map_cons, List.map_nil, zq_6, zq_7, zq_8, zq_9, zq_20, zq_21, zq_22, zq_25, zq_26, zq_28, zq_30, zq_40, zq_51, zq_52, zq_53, zq_54, zq_55, zq_64, zq_65, zq_68, zq_72, zq_73, zq_85, zq_74, zq_75, zq_76, zq_71, zq_86, zq_87, zq_80, zq_41, zq_42, zq_43, zq_94, zq_95, zq_47, zq_48, zq_96, zq_97, zq_88, zq_89, zq_90, zq_93, zq_61, zq_62, zq_1, zq_2, zq_3, zq_4, zq_5, zx_90]
                rw [zk_c_i, zk_vsub_i, zk_c_i]
                exact ⟨by decide, p2, e2⟩
              · simp only [List.mem_cons, List.not_mem_nil, or_false] at ha
                rcases ha with rfl | rfl | rfl
                · exact t2 _ (by simp)
                · exact v2 _ (by simp)
                · exact t2 _ (by simp)
              · simp only [List.mem_cons, List.not_mem_nil, or_false] at hv
                rcases hv with rfl | rfl | rfl | rfl | rfl | rfl | rfl | rfl | rfl
                · exact zk_c_sv
                · exact t3 _ (by simp)
                · exact t3 _ (by simp)
                · exact zk_vsub_sv (t3 _ (by simp)) zk_c_sv
                · exact u3 _ (by simp)
                · exact t3 _ (by simp)
                · exact t3 _ (by simp)
                · exact t3 _ (by simp)
                · exact t3 _ (by simp)
            · cases hx2
          · cases hx2
        · cases hx1
      · cases hx1
    · cases hx
  · cases hx
def zk_rgh : zk_Rl := zk_nr fun N => some (zk_addGs N (N.2.2.2.flatMap (zk_gh1 N)))
theorem zk_rgh_ok : zk_Rok zk_rgh := zk_nr_ok fun E n => zk_add_gd (f := fun N => N.2.2.2.flatMap (zk_gh1 N)) fun N hN hc hn x hx => by
  obtain ⟨y, hy1, hy2⟩ := List.mem_flatMap.mp hx
  rw [← hn]
  exact zk_gh1_ok hN hc hy1 x hy2
theorem zy_lrc {b w l : zx_Rw} {x n : Int} (hb : ∀ j : Nat, (j : Int) < n → b j = w j) : ∀ K : Nat, ∃ d s, zx_F 109 [b, l] [x, n] K = ([d, s], []) ∧ zx_F 109 [w, l] [x, n] K = ([d, s], [])
  | 0 => ⟨0, 0, zy_lr_0, zy_lr_0⟩
  | K + 1 => by
    obtain ⟨d, s, e1, e2⟩ := zy_lrc hb K
    by_cases hd : d = 0
    · subst hd
      have f1 := zy_lr_s e1
      have f2 := zy_lr_s e2
      simp only [zy_if, Int.toNat_natCast] at f1 f2
      by_cases hk : (K : Int) + 1 ≤ n
      · rw [hb K (by omega)] at f1
        exact ⟨_, _, f1, f2⟩
      · simp only [if_neg hk] at f1 f2
        exact ⟨_, _, f1, f2⟩
    · exact ⟨d, s, zy_stay e1 hd, zy_stay e2 hd⟩
theorem zy_ltc {L b w l : zx_Rw} {n : Int} (hb : ∀ j : Nat, (j : Int) < n → b j = w j) (h : zy_lt L w l n) : zy_lt L b l n := fun x h0 h1 => by
  obtain ⟨d, s, e1, e2⟩ := zy_lrc (l := l) (x := x) hb 8
  have h2 := h x h0 h1
  unfold zy_lv9 at h2 ⊢
  rw [e2] at h2
  rw [e1]
  exact h2
def zk_sk1 (bc ba : Nat) (q : zk_G) : Bool := match zk_as 8 q with
  | some ([a, b], []) => (Nat.beq a bc && Nat.beq b ba) || (Nat.beq a ba && Nat.beq b bc)
  | _ => false
theorem zk_sk1_of {E : zk_E} {N : zk_N} (hN : zk_ok E N) {bc ba : Nat} (h : (Nat.beq bc ba || N.2.2.2.any (zk_sk1 bc ba)) = true) : E.2 bc = E.2 ba := by
  rw [Bool.or_eq_true] at h
  rcases h with h | h
  · rw [Nat.eq_of_beq_eq_true h]
  · obtain ⟨q, hq, h⟩ := List.any_eq_true.mp h
    have t := hN.2.2 q hq
    unfold zk_sk1 at h
    split at h
    · rename_i a b hu
      have e := zk_as_of hu
      subst e
      have t : E.2 a = E.2 b := t
      rw [Bool.or_eq_true, Bool.and_eq_true, Bool.and_eq_true] at h
      rcases h with ⟨h1, h2⟩ | ⟨h1, h2⟩
      · rw [← Nat.eq_of_beq_eq_true h1, ← Nat.eq_of_beq_eq_true h2, t]
      · rw [← Nat.eq_of_beq_eq_true h1, ← Nat.eq_of_beq_eq_true h2, t]
    · cases h
def zk_sk3 (N : zk_N) (b l L : Nat) (la mb : zk_V) (q : zk_G) : Bool := match zk_as 2 q with
  | some ([b', w], [j, v]) => Nat.beq b' b && zk_eqE N j la && zk_eqE N v mb && N.2.2.2.any (zk_go4 N L w l la)
  | _ => false
theorem zk_sk3_of {E : zk_E} {N : zk_N} (hN : zk_ok E N) (hc : zk_cl N) {b l L : Nat} {la mb : zk_V} (h0 : 0 ≤ zk_i E la) (h : N.2.2.2.any (zk_sk3 N b l L la mb) = true) : zy_lt (E.2 L) (E.2 b) (E.2 l) (zk_i E la) ∧ E.2 b (zk_i E la).toNat = zk_i E mb := by
  obtain ⟨q, hq, h⟩ := List.any_eq_true.mp h
  have t := hN.2.2 q hq
  unfold zk_sk3 at h
  split at h
  · rename_i b' w j v hu
    have e := zk_as_of hu
    subst e
    simp only [Bool.and_eq_true] at h
    obtain ⟨⟨⟨h1, h2⟩, h3⟩, h4⟩ := h
    have h1 := Nat.eq_of_beq_eq_true h1
    have h2 := zk_eqE_of hN h2
    have h3 := zk_eqE_of hN h3
    have h4 := zk_go4_of hN hc h4
    simp only [List.map_cons, List.map_nil, zk_S] at t
    rw [h1, h2, h3] at t
    refine ⟨zy_ltc (fun j hj => ?_) h4, ?_⟩
    · rw [t]
      show (if j = (zk_i E la).toNat then zk_i E mb else E.2 w j) = _
      rw [if_neg (by omega)]
    · rw [t]
      exact if_pos rfl
  · cases h
def zk_sk2 (b l ba : Nat) (bi la x' y' : zk_V) (q : zk_G) (N : zk_N) : Option zk_N := match zk_as 90 q with
  | some ([L, bc], [i, _, bi2, mb, d, x, y]) => match zk_eqi (zk_fci N i) 122 && zk_nz N d && zk_eqE N bi bi2 && zk_n2 N la && zk_n2 N (zk_vsub (zk_c 6) la) && zk_n2 N (zk_vsub (zk_c 19) mb) && (Nat.beq bc ba || N.2.2.2.any (zk_sk1 bc ba)) && N.2.2.2.any (zk_sk3 N b l L la mb), zk_eb bc N.2.2.2 with
    | true, some bd => match zk_le 0 bd.1 && zk_le bd.2 99 with
      | true => zk_sq (fun N => zk_eqs N (zk_vsub x' x)) (fun N => zk_eqs N (zk_vsub y' y)) N
      | false => some N
    | _, _ => some N
  | _ => some N
def zk_sk0 (q : zk_G) (N : zk_N) : Option zk_N := match zk_as 90 q with
  | some ([b, l, ba], [i, _, bi, la, d, x, y]) => match zk_eqi (zk_fci N i) 123 && zk_nz N d with
    | true => zk_on (zk_kd 90) (zk_sk2 b l ba bi la x y) N
    | false => some N
  | _ => some N
theorem zk_sk0_gd {E : zk_E} {n : Nat} {q : zk_G} (hq : zk_tru E n q) : zk_gd E n (zk_sk0 q) := by
  intro N hN hc hn
  unfold zk_sk0
  split
  · rename_i b l ba i K bi la d' x' y' hu
    have e := zk_as_of hu
    subst e
    obtain ⟨t1, -, t3⟩ := hq
    split
    · rename_i cd
      rw [Bool.and_eq_true] at cd
      have c1 := zk_fci_of (n := 123) hN cd.1
      have c2 := zk_nz_ok hN cd.2
      simp only [List.map_cons, List.map_nil, zq_6, zq_7, zq_8, zq_9, zq_20, zq_21, zq_22, zq_25, zq_26, zq_28, zq_30, zq_40, zq_51, zq_52, zq_53, zq_54, zq_55, zq_64, zq_65, zq_68, zq_72, zq_73, zq_85, zq_74, zq_75, zq_76, zq_71, zq_86, zq_87, zq_80, zq_41, zq_42, zq_43, zq_94, zq_95, zq_47, zq_48, zq_96, zq_97, zq_88, zq_89, zq_90, zq_93, zq_61, zq_62, zq_1, zq_2, zq_3, zq_4, zq_5, zx_90] at t1
      rw [c1] at t1
      obtain ⟨-, -, tF⟩ := t1
      have tF : zx_F 123 [E.2 b, E.2 l, E.2 ba] [zk_i E bi, zk_i E la] (zk_i E K).toNat = ([zk_i E d', zk_i E x', zk_i E y'], []) := tF
      refine zk_on_gd (E := E) (n := n) (h := zk_kd 90) (f := zk_sk2 b l ba bi la x' y') (fun N0 hN0 hc0 hn0 r hr' => ?_) N hN hc hn
      have hrt := zk_trs hN0 hc0 hn0 r (zk_kd_m hr')
      intro N1 hN1 hc1 hn1
      unfold zk_sk2
      split
      · rename_i L bc i2 K2 bi2 mb d x y hu2
        have e2 := zk_as_of hu2
        subst e2
        obtain ⟨g1, -, g3⟩ := hrt
        split
        · rename_i bd cc hbd
          simp only [Bool.and_eq_true] at cc
          obtain ⟨⟨⟨⟨⟨⟨⟨k1, k2⟩, k3⟩, k4⟩, k5⟩, k6⟩, k7⟩, k8⟩ := cc
          have k1 := zk_fci_of (n := 122) hN1 k1
          have k2 := zk_nz_ok hN1 k2
          have k3 := zk_eqE_of hN1 k3
          have k4 := zk_n2_ok hN1 k4
          have k5 := zk_n2_ok hN1 k5
          have k6 := zk_n2_ok hN1 k6
          have k7 := zk_sk1_of hN1 k7
          obtain ⟨k8, k9⟩ := zk_sk3_of hN1 hc1 k4 k8
          rw [zk_vsub_i, zk_c_i] at k5 k6
          split
          · rename_i cb
            rw [Bool.and_eq_true] at cb
            have b1 := zk_le_of cb.1
            have b2 := zk_le_of cb.2
            have hb := zk_eb_ok hN1 hbd (zk_i E bi).toNat
            simp only [List.map_cons, List.map_nil, zq_6, zq_7, zq_8, zq_9, zq_20, zq_21, zq_22, zq_25, zq_26, zq_28, zq_30, zq_40, zq_51, zq_52, zq_53, zq_54, zq_55, zq_64, zq_65, zq_68, zq_72, zq_73, zq_85, zq_74, zq_75, zq_76, zq_71, zq_86, zq_87, zq_80, zq_41, zq_42, zq_43, zq_94, zq_95, zq_47, zq_48, zq_96, zq_97, zq_88, zq_89, zq_90, zq_93, zq_61, zq_62, zq_1, zq_2, zq_3, zq_4, zq_5, zx_90] at g1
            rw [k1] at g1
            obtain ⟨-, -, gF⟩ := g1
            have gF : zx_F 122 [E.2 L, E.2 bc] [zk_i E bi2, zk_i E mb] (zk_i E K2).toNat = ([zk_i E d, zk_i E x, zk_i E y], []) := gF
            rw [← k3, ← k9] at gF
            obtain ⟨r1, r2⟩ := zy_stE ⟨k4, by omega⟩ ⟨by omega, by omega⟩ (congrFun k7 _).symm (by omega) k8 gF k2 tF c2
            refine zk_sq_gd (zk_eqsg ?_ (zk_vsub_sv (t3 _ (by simp)) (g3 _ (by simp)))) (zk_eqsg ?_ (zk_vsub_sv (t3 _ (by simp)) (g3 _ (by simp)))) N1 hN1 hc1 hn1
            · rw [zk_vsub_i, r1]
              omega
            · rw [zk_vsub_i, r2]
              omega
          · exact zk_id_gd N1 hN1 hc1 hn1
        · exact zk_id_gd N1 hN1 hc1 hn1
      · exact zk_id_gd N1 hN1 hc1 hn1
    · exact zk_id_gd N hN hc hn
  · exact zk_id_gd N hN hc hn
def zk_rst9 : zk_Rl := zk_nr (zk_on (zk_kd 90) zk_sk0)
theorem zk_rst9_ok : zk_Rok zk_rst9 := zk_nr_ok fun E n => zk_on_gd fun N h hc hn p hp => zk_sk0_gd (zk_trs h hc hn p (zk_kd_m hp))

end
