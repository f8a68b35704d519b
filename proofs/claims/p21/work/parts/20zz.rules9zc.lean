noncomputable section
/-! WHERE TO MEET IT, HOW MANY CELLS (wip/p41/mk9zc.py) -/
theorem zy_mc_0 {f : zx_Rw} {xy : Int} {hr : Int} : zx_F 124 [f] [xy, hr] 0 = ([(0 : Int), (-1 : Int)], []) := rfl
set_option maxRecDepth 20000 in
theorem zy_mc_s {k : Nat} {f : zx_Rw} {xy : Int} {hr : Int} {s : Int} (h : zx_F 124 [f] [xy, hr] k = ([0, s], [])) : zx_F 124 [f] [xy, hr] (k + 1) =
  (([(if (if (if (k : Int) ≤ (99 : Int) then (1 : Int) else 0) ≠ 0 ∧ (if ((k : Int) + (1 : Int)) ≤ hr then (1 : Int) else 0) ≠ 0 then (1 : Int) else 0) = 0 then (1 : Int) else (if (if ((zx_G 124 114 [] [xy, (f ((k : Int)).toNat)] 0).1.getD 1 0) ≤ (k : Int) then (1 : Int) else 0) = 0 then (0 : Int) else (1 : Int))), (if (if (if (if (k : Int) ≤ (99 : Int) then (1 : Int) else 0) ≠ 0 ∧ (if ((k : Int) + (1 : Int)) ≤ hr then (1 : Int) else 0) ≠ 0 then (1 : Int) else 0) ≠ 0 ∧ (if ((zx_G 124 114 [] [xy, (f ((k : Int)).toNat)] 0).1.getD 1 0) ≤ (k : Int) then (1 : Int) else 0) ≠ 0 then (1 : Int) else 0) = 0 then s else (k : Int))], [])) := by
  rw [zy_turn h]
  rfl
theorem zy_mr_0 {g : zx_Rw} {xy : Int} : zx_F 125 [g] [xy] 0 = ([(0 : Int), (-1 : Int)], []) := rfl
set_option maxRecDepth 20000 in
theorem zy_mr_s {k : Nat} {g : zx_Rw} {xy : Int} {s : Int} (h : zx_F 125 [g] [xy] k = ([0, s], [])) : zx_F 125 [g] [xy] (k + 1) =
  (([(if (if (if (k : Int) ≤ (99 : Int) then (1 : Int) else 0) ≠ 0 ∧ (if (0 : Int) ≤ (g ((k : Int)).toNat) then (1 : Int) else 0) ≠ 0 then (1 : Int) else 0) = 0 then (1 : Int) else (if (if ((zx_G 125 114 [] [xy, (g ((k : Int)).toNat)] 0).1.getD 1 0) ≤ (k : Int) then (1 : Int) else 0) = 0 then (0 : Int) else (1 : Int))), (if (if (if (if (k : Int) ≤ (99 : Int) then (1 : Int) else 0) ≠ 0 ∧ (if (0 : Int) ≤ (g ((k : Int)).toNat) then (1 : Int) else 0) ≠ 0 then (1 : Int) else 0) ≠ 0 ∧ (if ((zx_G 125 114 [] [xy, (g ((k : Int)).toNat)] 0).1.getD 1 0) ≤ (k : Int) then (1 : Int) else 0) ≠ 0 then (1 : Int) else 0) = 0 then s else (k : Int))], [])) := by
  rw [zy_turn h]
  rfl
theorem zy_uc_0 {f : zx_Rw} {z : zx_Rw} {hr : Int} : zx_F 126 [f, z] [hr] 0 = ([(0 : Int), (0 : Int)], [z]) := rfl
set_option maxRecDepth 20000 in
theorem zy_uc_s {k : Nat} {f : zx_Rw} {z : zx_Rw} {g : zx_Rw} {hr : Int} {s : Int} (h : zx_F 126 [f, z] [hr] k = ([0, s], [g])) : zx_F 126 [f, z] [hr] (k + 1) =
  (let m0 : List zx_Rw := if (if (if (k : Int) ≤ (99 : Int) then (1 : Int) else 0) ≠ 0 ∧ (if ((k : Int) + (1 : Int)) ≤ hr then (1 : Int) else 0) ≠ 0 then (1 : Int) else 0) = 0 then [g] else zx_wr [g] 0 (f ((k : Int)).toNat) (1 : Int)
  ([(if (if (if (k : Int) ≤ (99 : Int) then (1 : Int) else 0) ≠ 0 ∧ (if ((k : Int) + (1 : Int)) ≤ hr then (1 : Int) else 0) ≠ 0 then (1 : Int) else 0) = 0 then (1 : Int) else (0 : Int)), (if (if (if (k : Int) ≤ (99 : Int) then (1 : Int) else 0) ≠ 0 ∧ (if ((k : Int) + (1 : Int)) ≤ hr then (1 : Int) else 0) ≠ 0 then (1 : Int) else 0) = 0 then s else (zx_op 7 (s + (zx_op 7 ((1 : Int) - (g ((f ((k : Int)).toNat)).toNat)) (0 : Int))) (0 : Int)))], m0)) := by
  rw [zy_turn h]
  rfl
theorem zy_mt_0 {f : zx_Rw} {h0 : Int} : zx_F 127 [f] [h0] 0 = ([(0 : Int), (0 : Int)], []) := rfl
set_option maxRecDepth 20000 in
theorem zy_mt_s {k : Nat} {f : zx_Rw} {h0 : Int} {s : Int} (h : zx_F 127 [f] [h0] k = ([0, s], [])) : zx_F 127 [f] [h0] (k + 1) =
  (([(if (if (if ((k : Int) + (1 : Int)) ≤ h0 then (1 : Int) else 0) ≠ 0 ∧ (if s = (0 : Int) then (1 : Int) else 0) ≠ 0 then (1 : Int) else 0) = 0 then (1 : Int) else (0 : Int)), (if (if (if ((k : Int) + (1 : Int)) ≤ h0 then (1 : Int) else 0) ≠ 0 ∧ (if s = (0 : Int) then (1 : Int) else 0) ≠ 0 then (1 : Int) else 0) = 0 then s else (if (if (f ((k : Int)).toNat) = (f (h0).toNat) then (1 : Int) else 0) = 0 then (0 : Int) else (1 : Int)))], [])) := by
  rw [zy_turn h]
  rfl
theorem zy_ur_0 {f : zx_Rw}  : zx_F 128 [f] [] 0 = ([(0 : Int), (0 : Int)], []) := rfl
set_option maxRecDepth 20000 in
theorem zy_ur_s {k : Nat} {f : zx_Rw} {s : Int} (h : zx_F 128 [f] [] k = ([0, s], [])) : zx_F 128 [f] [] (k + 1) =
  (([(if (if (if (k : Int) ≤ (99 : Int) then (1 : Int) else 0) ≠ 0 ∧ (if (0 : Int) ≤ (f ((k : Int)).toNat) then (1 : Int) else 0) ≠ 0 then (1 : Int) else 0) = 0 then (1 : Int) else (0 : Int)), (if (if (if (k : Int) ≤ (99 : Int) then (1 : Int) else 0) ≠ 0 ∧ (if (0 : Int) ≤ (f ((k : Int)).toNat) then (1 : Int) else 0) ≠ 0 then (1 : Int) else 0) = 0 then s else (if (if ((zx_G 128 127 [f] [(k : Int)] 101).1.getD 1 0) = (0 : Int) then (1 : Int) else 0) = 0 then s else (zx_op 7 (s + (1 : Int)) (0 : Int))))], [])) := by
  rw [zy_turn h]
  rfl
/-- the class's cells and the reference's -/
def zy_cl9 (f f' : zx_Rw) (hr : Int) : Prop := (∀ j : Nat, (j : Int) < hr → j < 100 → (0 ≤ f j ∧ f j ≤ 99) ∧ f' j = f j) ∧ ∀ j : Nat, hr ≤ (j : Int) → j < 100 → f' j ≤ -1
theorem zy_me {f f' : zx_Rw} {hr xy : Int} (h : zy_cl9 f f' hr) : ∀ K : Nat, ∃ d s, zx_F 124 [f] [xy, hr] K = ([d, s], []) ∧ zx_F 125 [f'] [xy] K = ([d, s], [])
  | 0 => ⟨0, -1, zy_mc_0, zy_mr_0⟩
  | K + 1 => by
    obtain ⟨d, s, e1, e2⟩ := zy_me (xy := xy) h K
    have g1 : ∀ P k, zx_G 124 114 [] P k = zx_F 114 [] P k := fun P k => zx_G_F (by decide) _ _ _
    have g2 : ∀ P k, zx_G 125 114 [] P k = zx_F 114 [] P k := fun P k => zx_G_F (by decide) _ _ _
    by_cases hd : d = 0
    · subst hd
      have f1 := zy_mc_s e1
      have f2 := zy_mr_s e2
      simp only [g1, g2, zy_if, zy_if0, zy_ne, zy_ne0, Int.toNat_natCast] at f1 f2
      refine ⟨_, _, f1, ?_⟩
      rw [f2]
      by_cases hk : (K : Int) ≤ 99
      · by_cases hh : (K : Int) + 1 ≤ hr
        · obtain ⟨h1, h2⟩ := h.1 K (by omega) (by omega)
          rw [h2]
          simp only [hk, hh, h1.1, and_self, if_true]
        · have h1 := h.2 K (by omega) (by omega)
          have h2 : ¬ 0 ≤ f' K := by omega
          simp only [hk, hh, h2, and_false, false_and, if_false]
      · simp only [hk, false_and, if_false]
    · exact ⟨d, s, zy_stay e1 hd, zy_stay e2 hd⟩
theorem zy_mtK {f : zx_Rw} {h0 : Nat} : ∀ K : Nat, ∃ d s, zx_F 127 [f] [(h0 : Int)] K = ([d, s], []) ∧ ((d = 0 ∧ K ≤ h0 ∧ s = 0 ∧ ∀ i, i < K → f i ≠ f h0) ∨ (d = 0 ∧ K ≤ h0 ∧ s = 1 ∧ ∃ i, i < h0 ∧ f i = f h0) ∨ (d = 1 ∧ s = 0 ∧ ∀ i, i < h0 → f i ≠ f h0) ∨ (d = 1 ∧ s = 1 ∧ ∃ i, i < h0 ∧ f i = f h0))
  | 0 => ⟨0, 0, zy_mt_0, Or.inl ⟨rfl, Nat.zero_le _, rfl, fun i hi => absurd hi (Nat.not_lt_zero _)⟩⟩
  | K + 1 => by
    obtain ⟨d, s, e, h⟩ := zy_mtK (f := f) (h0 := h0) K
    rcases h with ⟨h1, h2, h3, h4⟩ | ⟨h1, h2, h3, h4⟩ | ⟨h1, h2⟩ | ⟨h1, h2⟩
    · subst h1 h3
      have e2 := zy_mt_s e
      simp only [zy_if, zy_if0, zy_ne, zy_ne0, Int.toNat_natCast, and_true] at e2
      by_cases hk : (K : Int) + 1 ≤ (h0 : Int)
      · by_cases hf : f K = f h0
        · have e2 : zx_F 127 [f] [(h0 : Int)] (K + 1) = ([0, 1], []) := by simpa [hk, hf] using e2
          exact ⟨_, _, e2, Or.inr (Or.inl ⟨rfl, by omega, rfl, K, by omega, hf⟩)⟩
        · have e2 : zx_F 127 [f] [(h0 : Int)] (K + 1) = ([0, 0], []) := by simpa [hk, hf] using e2
          refine ⟨_, _, e2, Or.inl ⟨rfl, by omega, rfl, fun i hi => ?_⟩⟩
          by_cases hi2 : i = K
          · rw [hi2]
            exact hf
          · exact h4 i (by omega)
      · have e2 : zx_F 127 [f] [(h0 : Int)] (K + 1) = ([1, 0], []) := by simpa [hk] using e2
        exact ⟨_, _, e2, Or.inr (Or.inr (Or.inl ⟨rfl, rfl, fun i hi => h4 i (by omega)⟩))⟩
    · subst h1 h3
      have e2 := zy_mt_s e
      have e2 : zx_F 127 [f] [(h0 : Int)] (K + 1) = ([1, 1], []) := by simpa using e2
      exact ⟨_, _, e2, Or.inr (Or.inr (Or.inr ⟨rfl, rfl, h4⟩))⟩
    · subst h1
      exact ⟨_, _, zy_stay e (by decide), Or.inr (Or.inr (Or.inl ⟨rfl, h2⟩))⟩
    · subst h1
      exact ⟨_, _, zy_stay e (by decide), Or.inr (Or.inr (Or.inr ⟨rfl, h2⟩))⟩
theorem zy_mtE {f : zx_Rw} {h0 : Nat} (hh : h0 ≤ 99) : ((zx_F 127 [f] [(h0 : Int)] 101).1.getD 1 0 = 0 ∧ ∀ i, i < h0 → f i ≠ f h0) ∨ ((zx_F 127 [f] [(h0 : Int)] 101).1.getD 1 0 = 1 ∧ ∃ i, i < h0 ∧ f i = f h0) := by
  obtain ⟨d, s, e, h⟩ := zy_mtK (f := f) (h0 := h0) 101
  rw [e]
  rcases h with ⟨-, h, -⟩ | ⟨-, h, -⟩ | ⟨-, h⟩ | ⟨-, h⟩
  · omega
  · omega
  · exact Or.inl h
  · exact Or.inr h
/-- the cells seen -/
def zy_sn9 (f g : zx_Rw) (K : Nat) : Prop := ∀ x : Nat, x < 100 → ((g x = 1 ∧ ∃ j, j < K ∧ f j = (x : Int)) ∨ (g x = 0 ∧ ∀ j, j < K → f j ≠ (x : Int)))
theorem zy_un {f f' z : zx_Rw} {hr : Int} (h : zy_cl9 f f' hr) (hz : ∀ x : Nat, x < 100 → z x = 0) : ∀ K : Nat, ∃ d s g, zx_F 126 [f, z] [hr] K = ([d, s], [g]) ∧ zx_F 128 [f'] [] K = ([d, s], []) ∧ ((d = 0 ∧ (K : Int) ≤ hr ∧ K ≤ 100 ∨ d = 0 ∧ K = 0) ∧ 0 ≤ s ∧ s ≤ (K : Int) ∧ zy_sn9 f g K ∨ d ≠ 0)
  | 0 => ⟨0, 0, z, zy_uc_0, zy_ur_0, Or.inl ⟨Or.inr ⟨rfl, rfl⟩, by decide, by decide, fun x hx => Or.inr ⟨hz x hx, fun j hj => absurd hj (Nat.not_lt_zero _)⟩⟩⟩
  | K + 1 => by
    obtain ⟨d, s, g, e1, e2, hc⟩ := zy_un h hz K
    have g2 : ∀ P k, zx_G 128 127 [f'] P k = zx_F 127 [f'] P k := fun P k => zx_G_F (by decide) _ _ _
    rcases hc with ⟨hd, s0, s1, hs⟩ | hd
    · have hd0 : d = 0 := by omega
      subst hd0
      have f1 := zy_uc_s e1
      have f2 := zy_ur_s e2
      simp only [g2, zy_if, zy_if0, zy_ne, zy_ne0, Int.toNat_natCast] at f1 f2
      by_cases hk : (K : Int) ≤ 99
      · by_cases hh : (K : Int) + 1 ≤ hr
        · obtain ⟨⟨h1, h1'⟩, h2⟩ := h.1 K (by omega) (by omega)
          have hm := zy_mtE (f := f') (h0 := K) (by omega)
          generalize (zx_F 127 [f'] [(K : Int)] 101).1.getD 1 0 = mt at f2 hm
          have h3 : 0 ≤ f' K := by omega
          have hx := hs (f K).toNat (by omega)
          have ex : (((f K).toNat : Nat) : Int) = f K := Int.toNat_of_nonneg h1
          rw [ex] at hx
          have up : ∀ x : Nat, zy_up g (f K) 1 x = if x = (f K).toNat then 1 else g x := fun x => rfl
          have hs' : zy_sn9 f (zy_up g (f K) 1) (K + 1) := by
            intro x hx2
            rw [up]
            by_cases hxe : x = (f K).toNat
            · rw [if_pos hxe]
              exact Or.inl ⟨rfl, K, by omega, by omega⟩
            · rw [if_neg hxe]
              rcases hs x hx2 with ⟨q1, j, q2, q3⟩ | ⟨q1, q2⟩
              · exact Or.inl ⟨q1, j, by omega, q3⟩
              · refine Or.inr ⟨q1, fun j hj => ?_⟩
                by_cases hjk : j = K
                · rw [hjk]
                  omega
                · exact q2 j (by omega)
          rcases hx with ⟨x1, j, x2, x3⟩ | ⟨x1, x2⟩
          · have hmt : mt = 1 := by
              rcases hm with ⟨-, m2⟩ | ⟨m1, -⟩
              · refine absurd ?_ (m2 j x2)
                rw [(h.1 j (by omega) (by omega)).2, h2, x3]
              · exact m1
            have f1 : zx_F 126 [f, z] [hr] (K + 1) = ([0, s], [zy_up g (f K) 1]) := by
              simp only [hk, hh, x1, and_self, if_true, zx_wr1] at f1
              rw [zy_op7 (s := 1 - 1) (by decide) (by decide), zy_op7 (by omega) (by omega)] at f1
              rw [f1]
              simp
            have f2 : zx_F 128 [f'] [] (K + 1) = ([0, s], []) := by
              simpa [hk, h3, hmt] using f2
            exact ⟨_, _, _, f1, f2, Or.inl ⟨Or.inl ⟨rfl, by push_cast; omega, by omega⟩, s0, by push_cast; omega, hs'⟩⟩
          · have hmt : mt = 0 := by
              rcases hm with ⟨m1, -⟩ | ⟨-, i, m2, m3⟩
              · exact m1
              · refine absurd ?_ (x2 i m2)
                rw [← (h.1 i (by omega) (by omega)).2, m3, h2]
            have f1 : zx_F 126 [f, z] [hr] (K + 1) = ([0, s + 1], [zy_up g (f K) 1]) := by
              simp only [hk, hh, x1, and_self, if_true, zx_wr1] at f1
              rw [zy_op7 (s := 1 - 0) (by decide) (by decide), zy_op7 (by omega) (by omega)] at f1
              rw [f1]
              simp
            have f2 : zx_F 128 [f'] [] (K + 1) = ([0, s + 1], []) := by
              simp only [hk, h3, hmt, and_self, if_true] at f2
              rw [zy_op7 (by omega) (by omega)] at f2
              exact f2
            exact ⟨_, _, _, f1, f2, Or.inl ⟨Or.inl ⟨rfl, by push_cast; omega, by omega⟩, by omega, by push_cast; omega, hs'⟩⟩
        · have h1 := h.2 K (by omega) (by omega)
          have h2 : ¬ 0 ≤ f' K := by omega
          have f1 : zx_F 126 [f, z] [hr] (K + 1) = ([1, s], [g]) := by simpa [hk, hh] using f1
          have f2 : zx_F 128 [f'] [] (K + 1) = ([1, s], []) := by simpa [hk, h2] using f2
          exact ⟨_, _, _, f1, f2, Or.inr (by decide)⟩
      · have f1 : zx_F 126 [f, z] [hr] (K + 1) = ([1, s], [g]) := by simpa [hk] using f1
        have f2 : zx_F 128 [f'] [] (K + 1) = ([1, s], []) := by simpa [hk] using f2
        exact ⟨_, _, _, f1, f2, Or.inr (by decide)⟩
    · exact ⟨_, _, _, zy_stay e1 hd, zy_stay e2 hd, Or.inr hd⟩
/-! the rule -/
def zk_gq2 (N : zk_N) (br la ba f' : Nat) (bi n : zk_V) (q : zk_G) : List (zk_V × Nat × Nat) := match zk_as 90 q with
  | some ([L, z, f], [i, _, st, _, mb, d, _, _, hr]) => match zk_eqi (zk_fci N i) 117 && zk_nz N d && zk_eqE N mb (zk_c 0) && zk_n2 N st && zk_n2 N (zk_vsub (zk_c 99) st) && N.2.2.2.any (zk_go7 N ba bi st) && N.2.2.2.any (zk_go3 N z st) && N.2.2.2.any (zk_go4 N L br la n) with
    | true => [(hr, f, f')]
    | false => []
  | _ => []
def zk_gq1 (N : zk_N) (q : zk_G) : List (zk_V × Nat × Nat) := match zk_as 90 q with
  | some ([br, la, ba, _, f'], [i, _, bi, n, d, _, _, _]) => match zk_eqi (zk_fci N i) 118 && zk_nz N d with
    | true => (zk_kd 90 N).flatMap (zk_gq2 N br la ba f' bi n)
    | false => []
  | _ => []
theorem zk_gq_of {E : zk_E} {N : zk_N} (hN : zk_ok E N) (hc : zk_cl N) {q : zk_G} (hq : q ∈ N.2.2.2) {t : zk_V × Nat × Nat} (h : t ∈ zk_gq1 N q) : zy_cl9 (E.2 t.2.1) (E.2 t.2.2) (zk_i E t.1) ∧ t.2.2 < N.1 := by
  obtain ⟨t1, t2, -⟩ := zk_tru_of hN hc q hq
  unfold zk_gq1 at h
  split at h
  · rename_i br la ba z' f' i K bi la' d' c' b' o hu
    have e := zk_as_of hu
    subst e
    split at h
    · rename_i cd
      rw [Bool.and_eq_true] at cd
      have c1 := zk_fci_of (n := 118) hN cd.1
      have c2 := zk_nz_ok hN cd.2
      simp only [List.map_cons, List.map_nil, zq_6, zq_7, zq_8, zq_9, zq_20, zq_21, zq_22, zq_25, zq_26, zq_28, zq_30, zq_40, zq_51, zq_52, zq_53, zq_54, zq_55, zq_64, zq_65, zq_68, zq_72, zq_73, zq_85, zq_74, zq_75, zq_76, zq_71, zq_86, zq_87, zq_80, zq_41, zq_42, zq_43, zq_94, zq_95, zq_47, zq_48, zq_96, zq_97, zq_88, zq_89, zq_90, zq_93, zq_61, zq_62, zq_1, zq_2, zq_3, zq_4, zq_5, zx_90] at t1
      rw [c1] at t1
      obtain ⟨-, -, tF⟩ := t1
      have tF : zx_F 118 [E.2 br, E.2 la, E.2 ba, E.2 z'] [zk_i E bi, zk_i E la'] (zk_i E K).toNat = ([zk_i E d', zk_i E c', zk_i E b', zk_i E o], [E.2 f']) := tF
      obtain ⟨y, hy, h1⟩ := List.mem_flatMap.mp h
      obtain ⟨g1, -, -⟩ := zk_tru_of hN hc y (zk_kd_m hy)
      unfold zk_gq2 at h1
      split at h1
      · rename_i L z f i2 K2 st mc mb d c b hr hu2
        have e2 := zk_as_of hu2
        subst e2
        split at h1
        · rename_i cc
          simp only [Bool.and_eq_true] at cc
          obtain ⟨⟨⟨⟨⟨⟨⟨k1, k2⟩, k3⟩, k4⟩, k5⟩, k6⟩, k7⟩, k8⟩ := cc
          have k1 := zk_fci_of (n := 117) hN k1
          have k2 := zk_nz_ok hN k2
          have k3 := zk_eqE_of hN k3
          have k4 := zk_n2_ok hN k4
          have k5 := zk_n2_ok hN k5
          have k6 := zk_go7_of hN k6
          have k7 := zk_go3_of hN k7
          have k8 := zk_go4_of hN hc k8
          rw [zk_c_i] at k3
          rw [zk_vsub_i, zk_c_i] at k5
          simp only [List.map_cons, List.map_nil, zq_6, zq_7, zq_8, zq_9, zq_20, zq_21, zq_22, zq_25, zq_26, zq_28, zq_30, zq_40, zq_51, zq_52, zq_53, zq_54, zq_55, zq_64, zq_65, zq_68, zq_72, zq_73, zq_85, zq_74, zq_75, zq_76, zq_71, zq_86, zq_87, zq_80, zq_41, zq_42, zq_43, zq_94, zq_95, zq_47, zq_48, zq_96, zq_97, zq_88, zq_89, zq_90, zq_93, zq_61, zq_62, zq_1, zq_2, zq_3, zq_4, zq_5, zx_90] at g1
          rw [k1] at g1
          obtain ⟨-, -, gF⟩ := g1
          have gF : zx_F 117 [E.2 L, E.2 z] [zk_i E st, zk_i E mc, zk_i E mb] (zk_i E K2).toNat = ([zk_i E d, zk_i E c, zk_i E b, zk_i E hr], [E.2 f]) := gF
          rw [k3] at gF
          obtain ⟨r1, r2, r3, r4⟩ := zy_goE (zy_lt_g k8) ⟨k4, by omega⟩ k7 k6 gF k2 tF c2
          rw [List.mem_singleton.mp h1]
          exact ⟨⟨r3, r4⟩, t2 _ (by simp)⟩
        · cases h1
      · cases h1
    · cases h
  · cases h
def zk_me2 (N : zk_N) (z : Nat) (q : zk_G) : Bool := match zk_as 90 q with
  | some ([_, f], [i, _, v, len, d]) => zk_eqi (zk_fci N i) 107 && Nat.beq f z && zk_eqE N v (zk_c 0) && zk_n2 N (zk_vsub len (zk_c 100)) && zk_nz N d
  | _ => false
theorem zk_me2_of {E : zk_E} {N : zk_N} (hN : zk_ok E N) {z : Nat} (h : (zk_kd 90 N).any (zk_me2 N z) = true) : ∀ x : Nat, x < 100 → E.2 z x = 0 := by
  obtain ⟨q, hq, h⟩ := List.any_eq_true.mp h
  have t := hN.2.2 q (zk_kd_m hq)
  unfold zk_me2 at h
  split at h
  · rename_i z0 f i K v len d hu
    have e := zk_as_of hu
    subst e
    simp only [Bool.and_eq_true] at h
    obtain ⟨⟨⟨⟨h1, h2⟩, h3⟩, h4⟩, h5⟩ := h
    have h1 := zk_fci_of (n := 107) hN h1
    have h2 := Nat.eq_of_beq_eq_true h2
    have h3 := zk_eqE_of hN h3
    have h4 := zk_n2_ok hN h4
    have h5 := zk_nz_ok hN h5
    rw [zk_c_i] at h3
    rw [zk_vsub_i, zk_c_i] at h4
    simp only [List.map_cons, List.map_nil, zq_6, zq_7, zq_8, zq_9, zq_20, zq_21, zq_22, zq_25, zq_26, zq_28, zq_30, zq_40, zq_51, zq_52, zq_53, zq_54, zq_55, zq_64, zq_65, zq_68, zq_72, zq_73, zq_85, zq_74, zq_75, zq_76, zq_71, zq_86, zq_87, zq_80, zq_41, zq_42, zq_43, zq_94, zq_95, zq_47, zq_48, zq_96, zq_97, zq_88, zq_89, zq_90, zq_93, zq_61, zq_62, zq_1, zq_2, zq_3, zq_4, zq_5, zx_90] at t
    rw [h1] at t
    obtain ⟨-, -, hF⟩ := t
    have hF : zx_F 107 [E.2 z0] [zk_i E v, zk_i E len] (zk_i E K).toNat = ([zk_i E d], [E.2 f]) := hF
    obtain ⟨d', f', e1, e2⟩ := zy_fi (z := E.2 z0) (v := zk_i E v) (len := zk_i E len) (by omega) (zk_i E K).toNat
    rw [hF] at e1
    have ed : zk_i E d = d' := congrArg (fun p => p.1.getD 0 0) e1
    have ef : E.2 f = f' := congrArg (fun p => p.2.getD 0 (fun _ => 0)) e1
    intro x hx
    rcases e2 with ⟨e2, -⟩ | ⟨-, e2⟩
    · exact absurd (ed.trans e2) h5
    · rw [← h2, ef, e2]
      show (if x < (zk_i E len).toNat then zk_i E v else E.2 z0 x) = 0
      rw [if_pos (by omega), h3]
  · cases h
def zk_me1 (N : zk_N) (t : zk_V × Nat × Nat) (q : zk_G) : List zk_G := match zk_as 90 q with
  | some ([a], [i, K, xy, hr, d, s]) => match zk_eqi (zk_fci N i) 124 && Nat.beq a t.2.1 && zk_eqE N hr t.1 with
    | true => [(90, [t.2.2], [zk_c 125, K, xy, d, s])]
    | false => []
  | some ([a, z, _], [i, K, hr, d, s]) => match zk_eqi (zk_fci N i) 126 && Nat.beq a t.2.1 && zk_eqE N hr t.1 && (zk_kd 90 N).any (zk_me2 N z) with
    | true => [(90, [t.2.2], [zk_c 128, K, d, s])]
    | false => []
  | _ => []
theorem zk_me1_ok {E : zk_E} {N : zk_N} (hN : zk_ok E N) (hc : zk_cl N) {t : zk_V × Nat × Nat} (ht : zy_cl9 (E.2 t.2.1) (E.2 t.2.2) (zk_i E t.1) ∧ t.2.2 < N.1) {q : zk_G} (hq : q ∈ N.2.2.2) : ∀ x ∈ zk_me1 N t q, zk_tru E N.1 x := by
  obtain ⟨t1, t2, t3⟩ := zk_tru_of hN hc q hq
  intro x hx
  unfold zk_me1 at hx
  split at hx
  · rename_i a i K xy hr d s hu
    have e := zk_as_of hu
    subst e
    split at hx
    · rename_i cd
      simp only [Bool.and_eq_true] at cd
      obtain ⟨⟨c1, c2⟩, c3⟩ := cd
      have c1 := zk_fci_of (n := 124) hN c1
      have c2 := Nat.eq_of_beq_eq_true c2
      have c3 := zk_eqE_of hN c3
      simp only [List.map_cons, List.map_nil, zq_6, zq_7, zq_8, zq_9, zq_20, zq_21, zq_22, zq_25, zq_26, zq_28, zq_30, zq_40, zq_51, zq_52, zq_53, zq_54, zq_55, zq_64, zq_65, zq_68, zq_72, zq_73, zq_85, zq_74, zq_75, zq_76, zq_71, zq_86, zq_87, zq_80, zq_41, zq_42, zq_43, zq_94, zq_95, zq_47, zq_48, zq_96, zq_97, zq_88, zq_89, zq_90, zq_93, zq_61, zq_62, zq_1, zq_2, zq_3, zq_4, zq_5, zx_90] at t1
      rw [c1] at t1
      obtain ⟨-, p2, tF⟩ := t1
      have tF : zx_F 124 [E.2 a] [zk_i E xy, zk_i E hr] (zk_i E K).toNat = ([zk_i E d, zk_i E s], []) := tF
      rw [c2, c3] at tF
      obtain ⟨d', s', e1, e2⟩ := zy_me (xy := zk_i E xy) ht.1 (zk_i E K).toNat
      rw [tF] at e1
      rw [← e1] at e2
      rw [List.mem_singleton.mp hx]
      refine ⟨?_, fun a ha => ?_, fun v hv => ?_⟩
      · simp only [List.map_cons, List.map_nil, zq_6, zq_7, zq_8, zq_9, zq_20, zq_21, zq_22, zq_25, zq_26, zq_28, zq_30, zq_40, zq_51, zq_52, zq_53, zq_54, zq_55, zq_64, zq_65, zq_68, zq_72, zq_73, zq_85, zq_74, zq_75, zq_76, zq_71, zq_86, zq_87, zq_80, zq_41, zq_42, zq_43, zq_94, zq_95, zq_47, zq_48, zq_96, zq_97, zq_88, zq_89, zq_90, zq_93, zq_61, zq_62, zq_1, zq_2, zq_3, zq_4, zq_5, zx_90]
        rw [zk_c_i]
        exact ⟨by decide, p2, e2⟩
      · rw [List.mem_singleton.mp ha]
        exact ht.2
      · simp only [List.mem_cons, List.not_mem_nil, or_false] at hv
        rcases hv with rfl | rfl | rfl | rfl | rfl
        · exact zk_c_sv
        · exact t3 _ (by simp)
        · exact t3 _ (by simp)
        · exact t3 _ (by simp)
        · exact t3 _ (by simp)
    · cases hx
  · rename_i a z g i K hr d s hu
    have e := zk_as_of hu
    subst e
    split at hx
    · rename_i cd
      simp only [Bool.and_eq_true] at cd
      obtain ⟨⟨⟨c1, c2⟩, c3⟩, c4⟩ := cd
      have c1 := zk_fci_of (n := 126) hN c1
      have c2 := Nat.eq_of_beq_eq_true c2
      have c3 := zk_eqE_of hN c3
      have c4 := zk_me2_of hN c4
      simp only [List.map_cons, List.map_nil, zq_6, zq_7, zq_8, zq_9, zq_20, zq_21, zq_22, zq_25, zq_26, zq_28, zq_30, zq_40, zq_51, zq_52, zq_53, zq_54, zq_55, zq_64, zq_65, zq_68, zq_72, zq_73, zq_85, zq_74, zq_75, zq_76, zq_71, zq_86, zq_87, zq_80, zq_41, zq_42, zq_43, zq_94, zq_95, zq_47, zq_48, zq_96, zq_97, zq_88, zq_89, zq_90, zq_93, zq_61, zq_62, zq_1, zq_2, zq_3, zq_4, zq_5, zx_90] at t1
      rw [c1] at t1
      obtain ⟨-, p2, tF⟩ := t1
      have tF : zx_F 126 [E.2 a, E.2 z] [zk_i E hr] (zk_i E K).toNat = ([zk_i E d, zk_i E s], [E.2 g]) := tF
      rw [c2, c3] at tF
      obtain ⟨d', s', g', e1, e2, -⟩ := zy_un ht.1 c4 (zk_i E K).toNat
      rw [tF] at e1
      have e3 : ([zk_i E d, zk_i E s] : List Int) = [d', s'] := congrArg (fun p => p.1) e1
      rw [← e3] at e2
      rw [List.mem_singleton.mp hx]
      refine ⟨?_, fun a ha => ?_, fun v hv => ?_⟩
      · simp only [List.map_cons, List.map_nil, zq_6, zq_7, zq_8, zq_9, zq_20, zq_21, zq_22, zq_25, zq_26, zq_28, zq_30, zq_40, zq_51, zq_52, zq_53, zq_54, zq_55, zq_64, zq_65, zq_68, zq_72, zq_73, zq_85, zq_74, zq_75, zq_76, zq_71, zq_86, zq_87, zq_80, zq_41, zq_42, zq_43, zq_94, zq_95, zq_47, zq_48, zq_96, zq_97, zq_88, zq_89, zq_90, zq_93, zq_61, zq_62, zq_1, zq_2, zq_3, zq_4, zq_5, zx_90]
        rw [zk_c_i]
        exact ⟨by decide, p2, e2⟩
      · rw [List.mem_singleton.mp ha]
        exact ht.2
      · simp only [List.mem_cons, List.not_mem_nil, or_false] at hv
        rcases hv with rfl | rfl | rfl | rfl
        · exact zk_c_sv
        · exact t3 _ (by simp)
        · exact t3 _ (by simp)
        · exact t3 _ (by simp)
    · cases hx
  · cases hx
/-- each fact once -/
noncomputable def zk_ud (l : List zk_G) : List zk_G := List.rec (motive := fun _ => List zk_G) [] (fun g l ih => Bool.rec (motive := fun _ => List zk_G) (g :: ih) ih (zk_any (zk_eqG g) l)) l
theorem zk_ud_m {x : zk_G} : ∀ {l : List zk_G}, x ∈ zk_ud l → x ∈ l
  | [], h => absurd h List.not_mem_nil
  | g :: l, h => by
    have h2 : x ∈ (Bool.rec (motive := fun _ => List zk_G) (g :: zk_ud l) (zk_ud l) (zk_any (zk_eqG g) l)) := h
    cases hb : zk_any (zk_eqG g) l with
    | true =>
      rw [hb] at h2
      exact List.mem_cons_of_mem _ (zk_ud_m h2)
    | false =>
      rw [hb] at h2
      rcases List.mem_cons.mp h2 with rfl | h3
      · exact List.mem_cons_self
      · exact List.mem_cons_of_mem _ (zk_ud_m h3)
theorem zk_udN_m {N : zk_N} {x : zk_G} (h : x ∈ zk_ud (zk_kd 90 N) ++ N.2.2.2.filter (fun q => !(Nat.beq q.1 90))) : x ∈ N.2.2.2 := by
  rcases List.mem_append.mp h with h | h
  · exact zk_kd_m (zk_ud_m h)
  · exact (List.mem_filter.mp h).1
def zk_rud : zk_Rl := zk_nr fun N => some (N.1, N.2.1, N.2.2.1, zk_ud (zk_kd 90 N) ++ N.2.2.2.filter (fun q => !(Nat.beq q.1 90)))
theorem zk_rud_ok : zk_Rok zk_rud := zk_nr_ok fun E n N hN hc hn => ⟨_, rfl, ⟨hN.1, hN.2.1, fun g hg => hN.2.2 g (zk_udN_m hg)⟩, ⟨hc.1, hc.2.1, fun g hg => hc.2.2 g (zk_udN_m hg)⟩, hn⟩
def zk_rme : zk_Rl := zk_nr fun N => some (zk_addGs N (zk_ud (((zk_kd 90 N).flatMap (zk_gq1 N)).flatMap fun t => (zk_kd 90 N).flatMap (zk_me1 N t))))
theorem zk_rme_ok : zk_Rok zk_rme := zk_nr_ok fun E n => zk_add_gd (f := fun N => zk_ud (((zk_kd 90 N).flatMap (zk_gq1 N)).flatMap fun t => (zk_kd 90 N).flatMap (zk_me1 N t))) fun N hN hc hn x hx => by
  obtain ⟨t, ht, h1⟩ := List.mem_flatMap.mp (zk_ud_m hx)
  obtain ⟨y, hy, h2⟩ := List.mem_flatMap.mp ht
  obtain ⟨w, hw, h3⟩ := List.mem_flatMap.mp h1
  rw [← hn]
  exact zk_me1_ok hN hc (zk_gq_of hN hc (zk_kd_m hy) h2) (zk_kd_m hw) x h3

end
