/-! theory -/
theorem zy_mc_0 {f : zx_Rw} {xy : Int} {hr : Int} : zx_F 119 [f] [xy, hr] 0 = ([(0 : Int), (-1 : Int)], []) := rfl
set_option maxRecDepth 20000 in
theorem zy_mc_s {k : Nat} {f : zx_Rw} {xy : Int} {hr : Int} {s : Int} (h : zx_F 119 [f] [xy, hr] k = ([0, s], [])) : zx_F 119 [f] [xy, hr] (k + 1) =
  (([(if (if (if (k : Int) ≤ (99 : Int) then (1 : Int) else 0) ≠ 0 ∧ (if ((k : Int) + (1 : Int)) ≤ hr then (1 : Int) else 0) ≠ 0 then (1 : Int) else 0) = 0 then (1 : Int) else (if (if ((zx_G 119 114 [] [xy, (f ((k : Int)).toNat)] 0).1.getD 1 0) ≤ (k : Int) then (1 : Int) else 0) = 0 then (0 : Int) else (1 : Int))), (if (if (if (if (k : Int) ≤ (99 : Int) then (1 : Int) else 0) ≠ 0 ∧ (if ((k : Int) + (1 : Int)) ≤ hr then (1 : Int) else 0) ≠ 0 then (1 : Int) else 0) ≠ 0 ∧ (if ((zx_G 119 114 [] [xy, (f ((k : Int)).toNat)] 0).1.getD 1 0) ≤ (k : Int) then (1 : Int) else 0) ≠ 0 then (1 : Int) else 0) = 0 then s else (k : Int))], [])) := by
  rw [zy_turn h]
  rfl
theorem zy_mr_0 {g : zx_Rw} {xy : Int} : zx_F 120 [g] [xy] 0 = ([(0 : Int), (-1 : Int)], []) := rfl
set_option maxRecDepth 20000 in
theorem zy_mr_s {k : Nat} {g : zx_Rw} {xy : Int} {s : Int} (h : zx_F 120 [g] [xy] k = ([0, s], [])) : zx_F 120 [g] [xy] (k + 1) =
  (([(if (if (if (k : Int) ≤ (99 : Int) then (1 : Int) else 0) ≠ 0 ∧ (if (0 : Int) ≤ (g ((k : Int)).toNat) then (1 : Int) else 0) ≠ 0 then (1 : Int) else 0) = 0 then (1 : Int) else (if (if ((zx_G 120 114 [] [xy, (g ((k : Int)).toNat)] 0).1.getD 1 0) ≤ (k : Int) then (1 : Int) else 0) = 0 then (0 : Int) else (1 : Int))), (if (if (if (if (k : Int) ≤ (99 : Int) then (1 : Int) else 0) ≠ 0 ∧ (if (0 : Int) ≤ (g ((k : Int)).toNat) then (1 : Int) else 0) ≠ 0 then (1 : Int) else 0) ≠ 0 ∧ (if ((zx_G 120 114 [] [xy, (g ((k : Int)).toNat)] 0).1.getD 1 0) ≤ (k : Int) then (1 : Int) else 0) ≠ 0 then (1 : Int) else 0) = 0 then s else (k : Int))], [])) := by
  rw [zy_turn h]
  rfl
theorem zy_uc_0 {f : zx_Rw} {z : zx_Rw} {hr : Int} : zx_F 121 [f, z] [hr] 0 = ([(0 : Int), (0 : Int)], [z]) := rfl
set_option maxRecDepth 20000 in
theorem zy_uc_s {k : Nat} {f : zx_Rw} {z : zx_Rw} {g : zx_Rw} {hr : Int} {s : Int} (h : zx_F 121 [f, z] [hr] k = ([0, s], [g])) : zx_F 121 [f, z] [hr] (k + 1) =
  (let m0 : List zx_Rw := if (if (if (k : Int) ≤ (99 : Int) then (1 : Int) else 0) ≠ 0 ∧ (if ((k : Int) + (1 : Int)) ≤ hr then (1 : Int) else 0) ≠ 0 then (1 : Int) else 0) = 0 then [g] else zx_wr [g] 0 (f ((k : Int)).toNat) (1 : Int)
  ([(if (if (if (k : Int) ≤ (99 : Int) then (1 : Int) else 0) ≠ 0 ∧ (if ((k : Int) + (1 : Int)) ≤ hr then (1 : Int) else 0) ≠ 0 then (1 : Int) else 0) = 0 then (1 : Int) else (0 : Int)), (if (if (if (k : Int) ≤ (99 : Int) then (1 : Int) else 0) ≠ 0 ∧ (if ((k : Int) + (1 : Int)) ≤ hr then (1 : Int) else 0) ≠ 0 then (1 : Int) else 0) = 0 then s else (zx_op 7 (s + (zx_op 7 ((1 : Int) - (g ((f ((k : Int)).toNat)).toNat)) (0 : Int))) (0 : Int)))], m0)) := by
  rw [zy_turn h]
  rfl
theorem zy_mt_0 {f : zx_Rw} {h0 : Int} : zx_F 122 [f] [h0] 0 = ([(0 : Int), (0 : Int)], []) := rfl
set_option maxRecDepth 20000 in
theorem zy_mt_s {k : Nat} {f : zx_Rw} {h0 : Int} {s : Int} (h : zx_F 122 [f] [h0] k = ([0, s], [])) : zx_F 122 [f] [h0] (k + 1) =
  (([(if (if (if ((k : Int) + (1 : Int)) ≤ h0 then (1 : Int) else 0) ≠ 0 ∧ (if s = (0 : Int) then (1 : Int) else 0) ≠ 0 then (1 : Int) else 0) = 0 then (1 : Int) else (0 : Int)), (if (if (if ((k : Int) + (1 : Int)) ≤ h0 then (1 : Int) else 0) ≠ 0 ∧ (if s = (0 : Int) then (1 : Int) else 0) ≠ 0 then (1 : Int) else 0) = 0 then s else (if (if (f ((k : Int)).toNat) = (f (h0).toNat) then (1 : Int) else 0) = 0 then (0 : Int) else (1 : Int)))], [])) := by
  rw [zy_turn h]
  rfl
theorem zy_ur_0 {f : zx_Rw}  : zx_F 123 [f] [] 0 = ([(0 : Int), (0 : Int)], []) := rfl
set_option maxRecDepth 20000 in
theorem zy_ur_s {k : Nat} {f : zx_Rw} {s : Int} (h : zx_F 123 [f] [] k = ([0, s], [])) : zx_F 123 [f] [] (k + 1) =
  (([(if (if (if (k : Int) ≤ (99 : Int) then (1 : Int) else 0) ≠ 0 ∧ (if (0 : Int) ≤ (f ((k : Int)).toNat) then (1 : Int) else 0) ≠ 0 then (1 : Int) else 0) = 0 then (1 : Int) else (0 : Int)), (if (if (if (k : Int) ≤ (99 : Int) then (1 : Int) else 0) ≠ 0 ∧ (if (0 : Int) ≤ (f ((k : Int)).toNat) then (1 : Int) else 0) ≠ 0 then (1 : Int) else 0) = 0 then s else (if (if ((zx_G 123 122 [f] [(k : Int)] 101).1.getD 1 0) = (0 : Int) then (1 : Int) else 0) = 0 then s else (zx_op 7 (s + (1 : Int)) (0 : Int))))], [])) := by
  rw [zy_turn h]
  rfl
/-- the class's cells and the reference's -/
def zy_cl9 (f f' : zx_Rw) (hr : Int) : Prop := (∀ j : Nat, (j : Int) < hr → j < 100 → (0 ≤ f j ∧ f j ≤ 99) ∧ f' j = f j) ∧ ∀ j : Nat, hr ≤ (j : Int) → j < 100 → f' j ≤ -1
theorem zy_me {f f' : zx_Rw} {hr xy : Int} (h : zy_cl9 f f' hr) : ∀ K : Nat, ∃ d s, zx_F 119 [f] [xy, hr] K = ([d, s], []) ∧ zx_F 120 [f'] [xy] K = ([d, s], [])
  | 0 => ⟨0, -1, zy_mc_0, zy_mr_0⟩
  | K + 1 => by
    obtain ⟨d, s, e1, e2⟩ := zy_me (xy := xy) h K
    have g1 : ∀ P k, zx_G 119 114 [] P k = zx_F 114 [] P k := fun P k => zx_G_F (by decide) _ _ _
    have g2 : ∀ P k, zx_G 120 114 [] P k = zx_F 114 [] P k := fun P k => zx_G_F (by decide) _ _ _
    by_cases hd : d = 0
    · subst hd
      have f1 := zy_mc_s e1
      have f2 := zy_mr_s e2
      simp only [g1, g2, zy_if, zy_if0, zy_ne, zy_ne0, Int.toNat_natCast] at f1 f2
      refine ⟨_, _, f1, ?_⟩
      rw [f2]
      by_cases hk : (K : Int) ≤ 99
      · by_cases hh : (K : Int) + 1 ≤ hr
        · obtain ⟨h1, h2⟩ := h.1 K (by omega) (by omega)
          rw [h2]
          simp only [hk, hh, h1.1, and_self, if_true]
        · have h1 := h.2 K (by omega) (by omega)
          have h2 : ¬ 0 ≤ f' K := by omega
          simp only [hk, hh, h2, and_false, false_and, if_false]
      · simp only [hk, false_and, if_false]
    · exact ⟨d, s, zy_stay e1 hd, zy_stay e2 hd⟩
theorem zy_mtK {f : zx_Rw} {h0 : Nat} : ∀ K : Nat, ∃ d s, zx_F 122 [f] [(h0 : Int)] K = ([d, s], []) ∧ ((d = 0 ∧ K ≤ h0 ∧ s = 0 ∧ ∀ i, i < K → f i ≠ f h0) ∨ (d = 0 ∧ K ≤ h0 ∧ s = 1 ∧ ∃ i, i < h0 ∧ f i = f h0) ∨ (d = 1 ∧ s = 0 ∧ ∀ i, i < h0 → f i ≠ f h0) ∨ (d = 1 ∧ s = 1 ∧ ∃ i, i < h0 ∧ f i = f h0))
  | 0 => ⟨0, 0, zy_mt_0, Or.inl ⟨rfl, Nat.zero_le _, rfl, fun i hi => absurd hi (Nat.not_lt_zero _)⟩⟩
  | K + 1 => by
    obtain ⟨d, s, e, h⟩ := zy_mtK (f := f) (h0 := h0) K
    rcases h with ⟨h1, h2, h3, h4⟩ | ⟨h1, h2, h3, h4⟩ | ⟨h1, h2⟩ | ⟨h1, h2⟩
    · subst h1 h3
      have e2 := zy_mt_s e
      simp only [zy_if, zy_if0, zy_ne, zy_ne0, Int.toNat_natCast, and_true] at e2
      by_cases hk : (K : Int) + 1 ≤ (h0 : Int)
      · by_cases hf : f K = f h0
        · have e2 : zx_F 122 [f] [(h0 : Int)] (K + 1) = ([0, 1], []) := by simpa [hk, hf] using e2
          exact ⟨_, _, e2, Or.inr (Or.inl ⟨rfl, by omega, rfl, K, by omega, hf⟩)⟩
        · have e2 : zx_F 122 [f] [(h0 : Int)] (K + 1) = ([0, 0], []) := by simpa [hk, hf] using e2
          refine ⟨_, _, e2, Or.inl ⟨rfl, by omega, rfl, fun i hi => ?_⟩⟩
          by_cases hi2 : i = K
          · rw [hi2]
            exact hf
          · exact h4 i (by omega)
      · have e2 : zx_F 122 [f] [(h0 : Int)] (K + 1) = ([1, 0], []) := by simpa [hk] using e2
        exact ⟨_, _, e2, Or.inr (Or.inr (Or.inl ⟨rfl, rfl, fun i hi => h4 i (by omega)⟩))⟩
    · subst h1 h3
      have e2 := zy_mt_s e
      have e2 : zx_F 122 [f] [(h0 : Int)] (K + 1) = ([1, 1], []) := by simpa using e2
      exact ⟨_, _, e2, Or.inr (Or.inr (Or.inr ⟨rfl, rfl, h4⟩))⟩
    · subst h1
      exact ⟨_, _, zy_stay e (by decide), Or.inr (Or.inr (Or.inl ⟨rfl, h2⟩))⟩
    · subst h1
      exact ⟨_, _, zy_stay e (by decide), Or.inr (Or.inr (Or.inr ⟨rfl, h2⟩))⟩
theorem zy_mtE {f : zx_Rw} {h0 : Nat} (hh : h0 ≤ 99) : ((zx_F 122 [f] [(h0 : Int)] 101).1.getD 1 0 = 0 ∧ ∀ i, i < h0 → f i ≠ f h0) ∨ ((zx_F 122 [f] [(h0 : Int)] 101).1.getD 1 0 = 1 ∧ ∃ i, i < h0 ∧ f i = f h0) := by
  obtain ⟨d, s, e, h⟩ := zy_mtK (f := f) (h0 := h0) 101
  rw [e]
  rcases h with ⟨-, h, -⟩ | ⟨-, h, -⟩ | ⟨-, h⟩ | ⟨-, h⟩
  · omega
  · omega
  · exact Or.inl h
  · exact Or.inr h
/-- the cells seen -/
def zy_sn9 (f g : zx_Rw) (K : Nat) : Prop := ∀ x : Nat, x < 100 → ((g x = 1 ∧ ∃ j, j < K ∧ f j = (x : Int)) ∨ (g x = 0 ∧ ∀ j, j < K → f j ≠ (x : Int)))
theorem zy_un {f f' z : zx_Rw} {hr : Int} (h : zy_cl9 f f' hr) (hz : ∀ x : Nat, x < 100 → z x = 0) : ∀ K : Nat, ∃ d s g, zx_F 121 [f, z] [hr] K = ([d, s], [g]) ∧ zx_F 123 [f'] [] K = ([d, s], []) ∧ ((d = 0 ∧ (K : Int) ≤ hr ∧ K ≤ 100 ∨ d = 0 ∧ K = 0) ∧ 0 ≤ s ∧ s ≤ (K : Int) ∧ zy_sn9 f g K ∨ d ≠ 0)
  | 0 => ⟨0, 0, z, zy_uc_0, zy_ur_0, Or.inl ⟨Or.inr ⟨rfl, rfl⟩, by decide, by decide, fun x hx => Or.inr ⟨hz x hx, fun j hj => absurd hj (Nat.not_lt_zero _)⟩⟩⟩
  | K + 1 => by
    obtain ⟨d, s, g, e1, e2, hc⟩ := zy_un h hz K
    have g2 : ∀ P k, zx_G 123 122 [f'] P k = zx_F 122 [f'] P k := fun P k => zx_G_F (by decide) _ _ _
    rcases hc with ⟨hd, s0, s1, hs⟩ | hd
    · have hd0 : d = 0 := by omega
      subst hd0
      have f1 := zy_uc_s e1
      have f2 := zy_ur_s e2
      simp only [g2, zy_if, zy_if0, zy_ne, zy_ne0, Int.toNat_natCast] at f1 f2
      by_cases hk : (K : Int) ≤ 99
      · by_cases hh : (K : Int) + 1 ≤ hr
        · obtain ⟨⟨h1, h1'⟩, h2⟩ := h.1 K (by omega) (by omega)
          have hm := zy_mtE (f := f') (h0 := K) (by omega)
          generalize (zx_F 122 [f'] [(K : Int)] 101).1.getD 1 0 = mt at f2 hm
          have h3 : 0 ≤ f' K := by omega
          have hx := hs (f K).toNat (by omega)
          have ex : (((f K).toNat : Nat) : Int) = f K := Int.toNat_of_nonneg h1
          rw [ex] at hx
          have up : ∀ x : Nat, zy_up g (f K) 1 x = if x = (f K).toNat then 1 else g x := fun x => rfl
          have hs' : zy_sn9 f (zy_up g (f K) 1) (K + 1) := by
            intro x hx2
            rw [up]
            by_cases hxe : x = (f K).toNat
            · rw [if_pos hxe]
              exact Or.inl ⟨rfl, K, by omega, by omega⟩
            · rw [if_neg hxe]
              rcases hs x hx2 with ⟨q1, j, q2, q3⟩ | ⟨q1, q2⟩
              · exact Or.inl ⟨q1, j, by omega, q3⟩
              · refine Or.inr ⟨q1, fun j hj => ?_⟩
                by_cases hjk : j = K
                · rw [hjk]
                  omega
                · exact q2 j (by omega)
          rcases hx with ⟨x1, j, x2, x3⟩ | ⟨x1, x2⟩
          · have hmt : mt = 1 := by
              rcases hm with ⟨-, m2⟩ | ⟨m1, -⟩
              · refine absurd ?_ (m2 j x2)
                rw [(h.1 j (by omega) (by omega)).2, h2, x3]
              · exact m1
            have f1 : zx_F 121 [f, z] [hr] (K + 1) = ([0, s], [zy_up g (f K) 1]) := by
              simp only [hk, hh, x1, and_self, if_true, zx_wr1] at f1
              rw [zy_op7 (s := 1 - 1) (by decide) (by decide), zy_op7 (by omega) (by omega)] at f1
              rw [f1]
              simp
            have f2 : zx_F 123 [f'] [] (K + 1) = ([0, s], []) := by
              simpa [hk, h3, hmt] using f2
            exact ⟨_, _, _, f1, f2, Or.inl ⟨Or.inl ⟨rfl, by push_cast; omega, by omega⟩, s0, by push_cast; omega, hs'⟩⟩
          · have hmt : mt = 0 := by
              rcases hm with ⟨m1, -⟩ | ⟨-, i, m2, m3⟩
              · exact m1
              · refine absurd ?_ (x2 i m2)
                rw [← (h.1 i (by omega) (by omega)).2, m3, h2]
            have f1 : zx_F 121 [f, z] [hr] (K + 1) = ([0, s + 1], [zy_up g (f K) 1]) := by
              simp only [hk, hh, x1, and_self, if_true, zx_wr1] at f1
              rw [zy_op7 (s := 1 - 0) (by decide) (by decide), zy_op7 (by omega) (by omega)] at f1
              rw [f1]
              simp
            have f2 : zx_F 123 [f'] [] (K + 1) = ([0, s + 1], []) := by
              simp only [hk, h3, hmt, and_self, if_true] at f2
              rw [zy_op7 (by omega) (by omega)] at f2
              exact f2
            exact ⟨_, _, _, f1, f2, Or.inl ⟨Or.inl ⟨rfl, by push_cast; omega, by omega⟩, by omega, by push_cast; omega, hs'⟩⟩
        · have h1 := h.2 K (by omega) (by omega)
          have h2 : ¬ 0 ≤ f' K := by omega
          have f1 : zx_F 121 [f, z] [hr] (K + 1) = ([1, s], [g]) := by simpa [hk, hh] using f1
          have f2 : zx_F 123 [f'] [] (K + 1) = ([1, s], []) := by simpa [hk, h2] using f2
          exact ⟨_, _, _, f1, f2, Or.inr (by decide)⟩
      · have f1 : zx_F 121 [f, z] [hr] (K + 1) = ([1, s], [g]) := by simpa [hk] using f1
        have f2 : zx_F 123 [f'] [] (K + 1) = ([1, s], []) := by simpa [hk] using f2
        exact ⟨_, _, _, f1, f2, Or.inr (by decide)⟩
    · exact ⟨_, _, _, zy_stay e1 hd, zy_stay e2 hd, Or.inr hd⟩


