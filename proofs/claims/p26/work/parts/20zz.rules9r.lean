noncomputable section
/-! WHAT BOTH READERS LAY CORRESPONDS: lines, the whole text; what a law comes to (wip/p41/theory2.py) -/
theorem zx_sl_ext {f g : Nat → Int} : ∀ {n k : Nat}, (∀ j, k ≤ j → j < k + n → g j = f j) → zx_sl g k n = zx_sl f k n
  | 0, _, _ => rfl
  | n + 1, k, h => by
    show g k :: zx_sl g (k + 1) n = f k :: zx_sl f (k + 1) n
    rw [h k (Nat.le_refl _) (by omega), zx_sl_ext fun j h1 h2 => h j (by omega) (by omega)]
theorem zx_sl_add {f : Nat → Int} : ∀ {n m k : Nat}, zx_sl f k (n + m) = zx_sl f k n ++ zx_sl f (k + n) m
  | 0, m, k => by rw [Nat.zero_add]; rfl
  | n + 1, m, k => by
    rw [show n + 1 + m = (n + m) + 1 by omega]
    show f k :: zx_sl f (k + 1) (n + m) = f k :: (zx_sl f (k + 1) n ++ zx_sl f (k + (n + 1)) m)
    rw [zx_sl_add, show k + 1 + n = k + (n + 1) by omega]
theorem zx_sl_mv {f g : Nat → Int} : ∀ {n k k' : Nat}, (∀ j, j < n → g (k' + j) = f (k + j)) → zx_sl g k' n = zx_sl f k n
  | 0, _, _, _ => rfl
  | n + 1, k, k', h => by
    show g k' :: zx_sl g (k' + 1) n = f k :: zx_sl f (k + 1) n
    have h0 := h 0 (by omega)
    rw [Nat.add_zero, Nat.add_zero] at h0
    rw [h0, zx_sl_mv (f := f) (g := g) (k := k + 1) (k' := k' + 1) fun j hj => by
      have := h (j + 1) (by omega)
      rw [show k + 1 + j = k + (j + 1) by omega, show k' + 1 + j = k' + (j + 1) by omega]
      exact this]
/-- rows that are alike so far hold the same lines -/
theorem zy_lay_ext {a w t e a' w' t' e' : Nat → Int} {m many : Nat} (ha : ∀ j, j < m → a' j = a j) (hw : ∀ j, j < m → w' j = w j) (ht : ∀ j, j < many → t' j = t j) (he : ∀ j, j < many → e' j = e j) : ∀ {ls : List (List (Int × Int) × List (Int × Int))} {j k : Nat}, k + zy_tot ls ≤ m → j + ls.length ≤ many → zy_lay a w t e ls j k → zy_lay a' w' t' e' ls j k
  | [], _, _, _, _, _ => trivial
  | q :: r, j, k, h1, h2, h => by
    obtain ⟨k1, k2, k3, k4, k5⟩ := h
    have h1 : k + (q.1.length + q.2.length + zy_tot r) ≤ m := h1
    have h2 : j + (r.length + 1) ≤ many := h2
    refine ⟨by rw [ht j (by omega)]; exact k1, by rw [he j (by omega)]; exact k2, ?_, ?_, zy_lay_ext ha hw ht he (by omega) (by omega) k5⟩
    · rw [← k3]
      exact zx_sl_ext fun i _ hi => ha i (by omega)
    · rw [← k4]
      exact zx_sl_ext fun i _ hi => hw i (by omega)
theorem zy_law_ext {st a w t e lm st' a' w' t' e' lm' : Nat → Int} {len h : Int} {m many : Nat} (hm : 121 ≤ m) (hk : 61 ≤ many) (hs : ∀ j : Nat, (j : Int) < len → st' j = st j) (ha : ∀ j, j < m → a' j = a j) (hw : ∀ j, j < m → w' j = w j) (ht : ∀ j, j < many → t' j = t j) (he : ∀ j, j < many → e' j = e j) (hl : lm' 0 = lm 0) (g : zy_law st a w t e lm len h) : zy_law st' a' w' t' e' lm' len h := by
  obtain ⟨g1, g2, ls, g3, g4, g5, g6, g7, g8, g9⟩ := g
  refine ⟨g1, g2, ls, ?_, g4, zy_lay_ext ha hw ht he (by omega) (by omega) g5, by rw [hl]; exact g6, g7, g8, g9⟩
  rw [← g3]
  exact zx_sl_ext fun j _ hj => hs j (by omega)
theorem zy_law_0 {st a w t e lm : Nat → Int} (hl : lm 0 = 0) : zy_law st a w t e lm 0 0 := ⟨Int.le_refl _, Or.inl rfl, [], rfl, fun _ h => absurd h List.not_mem_nil, trivial, hl, ⟨fun _ => rfl, fun _ => rfl⟩, by decide, by decide⟩
/-- the class's steps find enough -/
theorem zy_code_wl : ∀ {ls : List (List (Int × Int) × List (Int × Int))}, (∀ q ∈ ls, zy_lok q) → zx_wl (zy_code ls) 0
  | [], _ => trivial
  | q :: r, h => by
    have hr := zy_code_wl fun x hx => h x (List.mem_cons_of_mem _ hx)
    obtain ⟨h1, h2⟩ := h q List.mem_cons_self
    have hv : zx_wl (zy_m1 q.2 ++ (-59 :: zy_code r)) 0 := by
      refine h2.2.2.1 _ 0 (by decide) ?_
      unfold zx_wl
      rw [if_pos (Or.inl rfl)]
      exact ⟨by decide, hr⟩
    show zx_wl (zy_tm q.1 ++ (zy_m1 q.2 ++ (-59 :: zy_code r))) 0
    cases hq : q.1 with
    | nil => exact hv
    | cons x l =>
      rw [hq] at h1
      rcases h1 with h1 | h1
      · cases h1
      · show zx_wl ((zy_m1 (x :: l) ++ [-63]) ++ (zy_m1 q.2 ++ (-59 :: zy_code r))) 0
        rw [List.append_assoc]
        refine h1.2.2.1 _ 0 (by decide) ?_
        show zx_wl (-63 :: (zy_m1 q.2 ++ (-59 :: zy_code r))) 1
        unfold zx_wl
        rw [if_pos (Or.inr rfl)]
        exact ⟨by decide, hv⟩
theorem zy_law_wl {st a w t e lm : Nat → Int} {len h : Int} (g : zy_law st a w t e lm len h) : zx_wl (zx_sl st 0 len.toNat) 0 := by
  obtain ⟨-, -, ls, g3, g4, -⟩ := g
  rw [g3]
  exact zy_code_wl g4
/-! steps of both come to the same -/
theorem zy_m1n (x : Int32) : x / -1 = -x := by
  apply Int32.toInt_inj.mp
  rw [Int32.toInt_div, Int32.toInt_neg]
  show (x.toInt.tdiv (-1)).bmod (2 ^ 32) = _
  rw [Int.tdiv_neg, Int.tdiv_one]
  exact (Int32.toInt_neg x).symm
theorem zy_m11 : Int32.ofInt (-1) = -1 := by decide
theorem zy_o82 {a b : Int} : (if b = 0 then 0 else zx_op 82 a b) = (if b = 0 then 0 else if b = -1 then (Int32.ofInt (-1 * a)).toInt else zx_op 82 a b) := by
  have e2 : Int32.ofInt (-1 * a) = -Int32.ofInt a := by
    rw [show -1 * a = -a by omega, Int32.ofInt_neg]
  by_cases h0 : b = 0
  · rw [if_pos h0, if_pos h0]
  · rw [if_neg h0, if_neg h0]
    by_cases h1 : b = -1
    · rw [if_pos h1, h1, e2]
      show (Int32.ofInt a / Int32.ofInt (-1)).toInt = _
      rw [zy_m11, zy_m1n]
    · rw [if_neg h1]
theorem zy_op83 {a b : Int} : zx_op 83 a b = (Int32.ofInt a - Int32.ofInt a / Int32.ofInt b * Int32.ofInt b).toInt := rfl
theorem zy_m1x (x : Int32) : x / -1 * -1 = x := by
  rw [zy_m1n, Int32.neg_mul, Int32.mul_neg, Int32.mul_one, Int32.neg_neg]
theorem zy_o83 {a b : Int} : (if b = 0 then 0 else zx_op 83 a b) = (if b = 0 then 0 else if b = -1 then 0 else zx_op 83 a b) := by
  by_cases h0 : b = 0
  · rw [if_pos h0, if_pos h0]
  · rw [if_neg h0, if_neg h0]
    by_cases h1 : b = -1
    · rw [if_pos h1, h1]
      rw [zy_op83, zy_m11, zy_m1x, Int32.sub_self]
      exact Int32.toInt_zero
    · rw [if_neg h1]
theorem zy_o2e {x : Int} (hx : zy_sg x) : (Int32.ofInt (-1 * -x)).toInt = x := by
  unfold zy_sg at hx
  rcases hx with rfl | rfl | rfl | rfl | rfl | rfl | rfl | rfl | rfl | rfl <;> decide
theorem zy_o23 {x a b : Int} (hx : zy_sg x) : zx_o2 (Int32.ofInt (-1 * -x)).toInt a b = zx_o3 x a b := by
  rw [zy_o2e hx]
  unfold zy_sg at hx
  rcases hx with rfl | rfl | rfl | rfl | rfl | rfl | rfl | rfl | rfl | rfl <;> simp only [zx_o2, zx_o3, Int.reduceEq, ↓reduceIte]
  · exact zy_o82
  · exact zy_o83
theorem zy_w12 {env : Nat → Int} {a w : Int} {p : List Int} (h : zy_ok2 a w) : zx_w2 env a w p = zx_w1 env (zy_st2 a w) p := by
  unfold zy_ok2 at h
  by_cases h1 : a = 1
  · subst h1
    unfold zy_sg at h
    rw [show zy_st2 1 w = w from if_pos rfl]
    show w :: p = _
    unfold zx_w1
    rw [if_pos (by omega), if_neg (by omega)]
  · by_cases h2 : a = 2
    · subst h2
      unfold zy_sg at h
      have hw : 0 ≤ w ∧ w ≤ 5 := by omega
      rw [show zy_st2 2 w = 10000 + w from by unfold zy_st2; rw [if_neg (by decide), if_pos rfl]]
      show env w.toNat :: p = _
      unfold zx_w1
      rw [if_pos (by omega), if_pos (by omega), show 10000 + w - 10000 = w by omega]
    · by_cases h3 : a = 3
      · subst h3
        rfl
      · by_cases h4 : a = 4
        · subst h4
          rfl
        · have hs : zy_sg a := by
            rcases h with h | h | h | h | h
            · exact absurd h.1 h1
            · exact absurd h.1 h2
            · exact absurd h h3
            · exact absurd h h4
            · exact h
          have e := fun a' b' : Int => zy_o23 (a := a') (b := b') hs
          rw [show zy_st2 a w = -a from by unfold zy_st2; rw [if_neg h1, if_neg h2, if_neg h3, if_neg h4]]
          unfold zx_w2 zx_w1
          rw [if_neg h1, if_neg h2, if_neg h3, if_neg h4]
          have hs2 := hs
          unfold zy_sg at hs2
          rw [if_neg (by omega), if_neg (by omega), if_neg (by omega)]
          match p with
          | b :: c :: r =>
            show zx_o3 a c b :: r = zx_o2 (Int32.ofInt (-1 * -a)).toInt c b :: r
            rw [e]
          | [b] => rfl
          | [] => rfl
theorem zy_rw_f {act wth env : Nat → Int} : ∀ {l : List (Int × Int)} {k : Nat} {p : List Int}, (∀ q ∈ l, zy_ok2 q.1 q.2) → zx_sl act k l.length = l.map Prod.fst → zx_sl wth k l.length = l.map Prod.snd → zx_rw act wth env k l.length p = (zy_m1 l).foldl (fun p s => zx_w1 env s p) p
  | [], _, _, _, _, _ => rfl
  | q :: l, k, p, h, ha, hw => by
    have ha : act k :: zx_sl act (k + 1) l.length = q.1 :: l.map Prod.fst := ha
    have hw : wth k :: zx_sl wth (k + 1) l.length = q.2 :: l.map Prod.snd := hw
    obtain ⟨a1, a2⟩ := List.cons.inj ha
    obtain ⟨w1, w2⟩ := List.cons.inj hw
    show zx_rw act wth env (k + 1) l.length (zx_w2 env (act k) (wth k) p) = (zy_m1 l).foldl (fun p s => zx_w1 env s p) (zx_w1 env (zy_st2 q.1 q.2) p)
    rw [a1, w1, zy_w12 (h q List.mem_cons_self)]
    exact zy_rw_f (fun x hx => h x (List.mem_cons_of_mem _ hx)) a2 w2
theorem zy_pv_f {act wth env : Nat → Int} {l : List (Int × Int)} {k : Nat} {v : Int} (h : ∀ q ∈ l, zy_ok2 q.1 q.2) (hv : ∀ p, (zy_m1 l).foldl (fun p s => zx_w1 env s p) p = v :: p) (ha : zx_sl act k l.length = l.map Prod.fst) (hw : zx_sl wth k l.length = l.map Prod.snd) {f e : Int} (hf : f = (k : Int)) (he : e = (k + l.length : Nat)) : zx_pv act wth env f e = v := by
  unfold zx_pv
  rw [show (e - f).toNat = l.length by omega, show f.toNat = k by omega, zy_rw_f h ha hw, hv]
  rfl
/-- the class's working out, over steps that are no end of a line and no question -/
theorem zy_cw_f {env : Nat → Int} {l : List Int} : ∀ {c p : List Int}, (∀ s ∈ c, s ≠ -59 ∧ s ≠ -63) → zx_cw env false (c ++ l) p = zx_cw env false l (c.foldl (fun p s => zx_w1 env s p) p)
  | [], _, _ => rfl
  | s :: c, p, h => by
    obtain ⟨h1, h2⟩ := h s List.mem_cons_self
    show (if s = -59 then zx_bot p else if s = -63 then zx_cw env (decide (zx_bot p = 0)) (c ++ l) [] else zx_cw env false (c ++ l) (zx_w1 env s p)) = _
    rw [if_neg h1, if_neg h2]
    exact zy_cw_f fun x hx => h x (List.mem_cons_of_mem _ hx)
theorem zy_cw_t {env : Nat → Int} {l : List Int} : ∀ {c p : List Int}, (∀ s ∈ c, s ≠ -59 ∧ s ≠ -63) → zx_cw env true (c ++ (-59 :: l)) p = zx_cw env false l []
  | [], _, _ => rfl
  | s :: c, p, h => by
    obtain ⟨h1, h2⟩ := h s List.mem_cons_self
    show zx_cw env (!decide (s = -59)) (c ++ (-59 :: l)) [] = _
    rw [decide_eq_false h1]
    exact zy_cw_t fun x hx => h x (List.mem_cons_of_mem _ hx)
/-- a line of the class: its test, then its value or the lines behind it -/
theorem zy_cw_line {env : Nat → Int} {q : List (Int × Int) × List (Int × Int)} {r : List (List (Int × Int) × List (Int × Int))} {u v : Int} (h : zy_lok q) (hv : ∀ p, (zy_m1 q.2).foldl (fun p s => zx_w1 env s p) p = v :: p) (hu : q.1 ≠ [] → ∀ p, (zy_m1 q.1).foldl (fun p s => zx_w1 env s p) p = u :: p) : zx_cw env false (zy_code (q :: r)) [] = if q.1 = [] ∨ u ≠ 0 then v else zx_cw env false (zy_code r) [] := by
  have eV : zx_cw env false (zy_m1 q.2 ++ (-59 :: zy_code r)) [] = v := by
    rw [zy_cw_f h.2.2.1, hv]
    rfl
  show zx_cw env false (zy_tm q.1 ++ (zy_m1 q.2 ++ (-59 :: zy_code r))) [] = _
  cases hq : q.1 with
  | nil =>
    rw [if_pos (Or.inl rfl)]
    exact eV
  | cons x l =>
    obtain ⟨h1, h2⟩ := h
    rw [hq] at h1 hu
    have hu := hu (by simp)
    rcases h1 with h1 | h1
    · cases h1
    · show zx_cw env false ((zy_m1 (x :: l) ++ [-63]) ++ (zy_m1 q.2 ++ (-59 :: zy_code r))) [] = _
      rw [List.append_assoc, zy_cw_f h1.2.1, hu]
      show zx_cw env (decide (u = 0)) (zy_m1 q.2 ++ (-59 :: zy_code r)) [] = _
      by_cases h0 : u = 0
      · rw [decide_eq_true h0, if_neg (by simp [h0])]
        exact zy_cw_t h2.2.1
      · rw [decide_eq_false h0, if_pos (Or.inr h0)]
        exact eV
theorem zy_gv_0 {act : zx_Rw} {wth : zx_Rw} {env : zx_Rw} {te : zx_Rw} {le : zx_Rw} {lm : zx_Rw}  : zx_F 97 [act, wth, env, te, le, lm] [] 0 = ([(0 : Int), (0 : Int), (0 : Int)], []) := rfl
set_option maxRecDepth 20000 in
theorem zy_gv_s {k : Nat} {act : zx_Rw} {wth : zx_Rw} {env : zx_Rw} {te : zx_Rw} {le : zx_Rw} {lm : zx_Rw} {r : Int} {f : Int} (h : zx_F 97 [act, wth, env, te, le, lm] [] k = ([0, r, f], [])) : zx_F 97 [act, wth, env, te, le, lm] [] (k + 1) =
  (([(if (if ((k : Int) + (1 : Int)) ≤ (lm ((0 : Int)).toNat) then (1 : Int) else 0) = 0 then (1 : Int) else (if (if (if (if (if (te ((k : Int)).toNat) = f then (1 : Int) else 0) = 0 then (1 : Int) else 0) ≠ 0 ∧ (if (if (if (zx_pv act wth env f (te ((k : Int)).toNat)) = (0 : Int) then (1 : Int) else 0) = 0 then (1 : Int) else 0) = 0 then (1 : Int) else 0) ≠ 0 then (1 : Int) else 0) = 0 then (1 : Int) else 0) = 0 then (0 : Int) else (1 : Int))), (if (if ((k : Int) + (1 : Int)) ≤ (lm ((0 : Int)).toNat) then (1 : Int) else 0) = 0 then (0 : Int) else (if (if (if (if (if (te ((k : Int)).toNat) = f then (1 : Int) else 0) = 0 then (1 : Int) else 0) ≠ 0 ∧ (if (if (if (zx_pv act wth env f (te ((k : Int)).toNat)) = (0 : Int) then (1 : Int) else 0) = 0 then (1 : Int) else 0) = 0 then (1 : Int) else 0) ≠ 0 then (1 : Int) else 0) = 0 then (1 : Int) else 0) = 0 then (0 : Int) else (zx_pv act wth env (te ((k : Int)).toNat) (le ((k : Int)).toNat)))), (if (if ((k : Int) + (1 : Int)) ≤ (lm ((0 : Int)).toNat) then (1 : Int) else 0) = 0 then f else (if (if (if (if (if (te ((k : Int)).toNat) = f then (1 : Int) else 0) = 0 then (1 : Int) else 0) ≠ 0 ∧ (if (if (if (zx_pv act wth env f (te ((k : Int)).toNat)) = (0 : Int) then (1 : Int) else 0) = 0 then (1 : Int) else 0) = 0 then (1 : Int) else 0) ≠ 0 then (1 : Int) else 0) = 0 then (1 : Int) else 0) = 0 then (le ((k : Int)).toNat) else f))], [])) := by
  rw [zy_turn h]
  rfl
theorem zy_gv_c {act wth env te le lm : zx_Rw} {r f : Int} {k : Nat} (h : zx_F 97 [act, wth, env, te, le, lm] [] k = ([0, r, f], [])) : (¬ (k : Int) + 1 ≤ lm 0 → zx_F 97 [act, wth, env, te, le, lm] [] (k + 1) = ([1, 0, f], [])) ∧ ((k : Int) + 1 ≤ lm 0 → (te k = f ∨ zx_pv act wth env f (te k) ≠ 0) → zx_F 97 [act, wth, env, te, le, lm] [] (k + 1) = ([1, zx_pv act wth env (te k) (le k), f], [])) ∧ ((k : Int) + 1 ≤ lm 0 → ¬ (te k = f ∨ zx_pv act wth env f (te k) ≠ 0) → zx_F 97 [act, wth, env, te, le, lm] [] (k + 1) = ([0, 0, le k], [])) := by
  have e := zy_gv_s h
  refine ⟨fun h1 => ?_, fun h1 h2 => ?_, fun h1 h2 => ?_⟩
  · rw [e]
    simp [h1]
  · rw [e]
    rcases h2 with h2 | h2 <;> simp [h1, h2]
  · rw [e]
    rw [not_or] at h2
    obtain ⟨h2, h3⟩ := h2
    have h3 : zx_pv act wth env f (te k) = 0 := Classical.byContradiction h3
    simp [h1, h2, h3]
theorem zy_gv_i {act wth env te le lm : zx_Rw} {ls : List (List (Int × Int) × List (Int × Int))} (hl : ∀ q ∈ ls, zy_lok q) (hy : zy_lay act wth te le ls 0 0) (hm : lm 0 = (ls.length : Int)) : ∀ K : Nat, ∃ d r f, zx_F 97 [act, wth, env, te, le, lm] [] K = ([d, r, f], []) ∧ ((d = 0 ∧ ∃ (post : List (List (Int × Int) × List (Int × Int))) (k : Nat), f = (k : Int) ∧ K + post.length = ls.length ∧ (∀ q ∈ post, zy_lok q) ∧ zy_lay act wth te le post K k ∧ zx_cw env false (zy_code ls) [] = zx_cw env false (zy_code post) []) ∨ (d = 1 ∧ r = zx_cw env false (zy_code ls) []))
  | 0 => ⟨0, 0, 0, zy_gv_0, Or.inl ⟨rfl, ls, 0, rfl, by omega, hl, hy, rfl⟩⟩
  | K + 1 => by
    obtain ⟨d, r, f, e, h⟩ := zy_gv_i (env := env) hl hy hm K
    rcases h with ⟨h, post, k, h1, h2, h3, h4, h5⟩ | ⟨h, h'⟩
    · subst h
      obtain ⟨c1, c2, c3⟩ := zy_gv_c e
      match post, h2, h3, h4, h5 with
      | [], h2, h3, h4, h5 =>
        have h2 : K + 0 = ls.length := h2
        exact ⟨1, 0, f, c1 (by omega), Or.inr ⟨rfl, by rw [h5]; rfl⟩⟩
      | q :: p, h2, h3, h4, h5 =>
        have h2 : K + (p.length + 1) = ls.length := h2
        obtain ⟨k1, k2, k3, k4, k5⟩ := h4
        have hq := h3 q List.mem_cons_self
        obtain ⟨v, hv⟩ := hq.2.2.2.2 env
        obtain ⟨u, hu⟩ : ∃ u, q.1 ≠ [] → ∀ p, (zy_m1 q.1).foldl (fun p s => zx_w1 env s p) p = u :: p := by
          rcases hq.1 with h | h
          · exact ⟨0, fun hn => absurd h hn⟩
          · obtain ⟨u, hu⟩ := h.2.2.2 env
            exact ⟨u, fun _ => hu⟩
        have ec := zy_cw_line (r := p) hq hv hu
        rw [zx_sl_add, List.map_append] at k3 k4
        obtain ⟨a1, a2⟩ := List.append_inj k3 (by rw [zx_sl_len, List.length_map])
        obtain ⟨w1, w2⟩ := List.append_inj k4 (by rw [zx_sl_len, List.length_map])
        have e1 : zx_pv act wth env (te K) (le K) = v := zy_pv_f hq.2.1 hv a2 w2 k1 k2
        have e2 : q.1 ≠ [] → zx_pv act wth env f (te K) = u := fun hn => by
          rcases hq.1 with h | h
          · exact absurd h hn
          · exact zy_pv_f h.1 (hu hn) a1 w1 h1 k1
        have hte : te K = f ↔ q.1 = [] := by
          rw [k1, h1]
          constructor
          · intro h
            exact List.eq_nil_of_length_eq_zero (by omega)
          · intro h
            rw [h]
            rfl
        by_cases hc : q.1 = [] ∨ u ≠ 0
        · refine ⟨1, v, f, ?_, Or.inr ⟨rfl, ?_⟩⟩
          · rw [← e1]
            refine c2 (by omega) ?_
            by_cases hn : q.1 = []
            · exact Or.inl (hte.mpr hn)
            · refine Or.inr ?_
              rw [e2 hn]
              rcases hc with hc | hc
              · exact absurd hc hn
              · exact hc
          · rw [h5, ec, if_pos hc]
        · refine ⟨0, 0, le K, c3 (by omega) ?_, Or.inl ⟨rfl, p, k + q.1.length + q.2.length, k2, by omega, fun x hx => h3 x (List.mem_cons_of_mem _ hx), k5, ?_⟩⟩
          · rw [not_or] at hc
            rw [hte, not_or, e2 hc.1]
            exact hc
          · rw [h5, ec, if_neg hc]
    · subst h
      exact ⟨1, r, f, zy_stay e (by decide), Or.inr ⟨rfl, h'⟩⟩
/-- the reference's law and the class's come to the same -/
theorem zy_law_gv {st act wth env te le lm : zx_Rw} {len h : Int} (g : zy_law st act wth te le lm len h) {K : Nat} {d r f : Int} (e : (zx_F 97 [act, wth, env, te, le, lm] [] K).1 = [d, r, f]) (hd : d ≠ 0) : r = zx_cw env false (zx_sl st 0 len.toNat) [] := by
  obtain ⟨-, -, ls, g3, g4, g5, g6, -⟩ := g
  obtain ⟨d', r', f', e1, e2⟩ := zy_gv_i (env := env) g4 g5 g6 K
  rw [e1] at e
  cases e
  rw [g3]
  rcases e2 with ⟨h, -⟩ | ⟨-, h⟩
  · exact absurd h hd
  · exact h
end
