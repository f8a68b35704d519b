noncomputable section
/-! FACTS OF THIS SYSTEM: what rows of numbers say of one another -/
/-- a change that can be undone: what, where, before, behind -/
def zx_box (o a b c : Int) : Prop := (0 ≤ o ∧ o ≤ 2 ∧ 0 ≤ a ∧ a ≤ 4) ∨ (o = 3 ∧ 0 ≤ a ∧ a ≤ 7) ∨ (o = 4 ∧ 0 ≤ a ∧ a ≤ 7 ∧ -1 ≤ b ∧ b ≤ 4 ∧ -1 ≤ c ∧ c ≤ 4) ∨ (5 ≤ o ∧ o ≤ 6 ∧ 0 ≤ a ∧ a ≤ 6) ∨ (7 ≤ o ∧ o ≤ 8)
theorem zx_cnt_pos {f : Nat → Int} {b : Int} : ∀ {m k : Nat}, k < m → f k = b → 1 ≤ zx_cn f b m
  | 0, k, h, _ => absurd h (Nat.not_lt_zero k)
  | m + 1, k, h, e => by
    show 1 ≤ zx_cn f b m + (if f m = b then 1 else 0)
    by_cases hk : k = m
    · subst hk
      rw [if_pos e]
      omega
    · have ih : 1 ≤ zx_cn f b m := zx_cnt_pos (f := f) (b := b) (m := m) (k := k) (by omega) e
      exact Nat.le_trans ih (Nat.le_add_right _ _)
/-- how deep the pile is behind n steps from k on, from depth d; none: a step finds too little -/
def zx_dep (a w : Nat → Int) : Nat → Nat → Nat → Option Nat
  | 0, _, d => some d
  | n + 1, k, d => if a k = 1 then zx_dep a w n (k + 1) (d + 1) else if a k = 2 then (if 0 ≤ w k ∧ w k ≤ 5 then zx_dep a w n (k + 1) (d + 1) else none) else if 3 ≤ a k ∧ a k ≤ 4 then (if 1 ≤ d then zx_dep a w n (k + 1) d else none) else if 2 ≤ d then zx_dep a w n (k + 1) (d - 1) else none
theorem zx_dep_s {a w : Nat → Int} {n k d : Nat} : zx_dep a w (n + 1) k d = if a k = 1 then zx_dep a w n (k + 1) (d + 1) else if a k = 2 then (if 0 ≤ w k ∧ w k ≤ 5 then zx_dep a w n (k + 1) (d + 1) else none) else if 3 ≤ a k ∧ a k ≤ 4 then (if 1 ≤ d then zx_dep a w n (k + 1) d else none) else if 2 ≤ d then zx_dep a w n (k + 1) (d - 1) else none := rfl
theorem zx_dep_add {a w : Nat → Int} : ∀ {n m k d : Nat}, zx_dep a w (n + m) k d = (zx_dep a w n k d).bind fun d' => zx_dep a w m (k + n) d'
  | 0, m, k, d => by simp [zx_dep]
  | n + 1, m, k, d => by
    have e : ∀ d', zx_dep a w (n + m) (k + 1) d' = (zx_dep a w n (k + 1) d').bind fun d'' => zx_dep a w m (k + (n + 1)) d'' := fun d' => by
      rw [zx_dep_add (n := n) (m := m) (k := k + 1) (d := d'), show k + 1 + n = k + (n + 1) by omega]
    rw [show n + 1 + m = (n + m) + 1 by omega, zx_dep_s, zx_dep_s, e, e, e]
    split
    · rfl
    · split
      · split <;> rfl
      · split
        · split <;> rfl
        · split <;> rfl
theorem zx_dep_ext {a w a' w' : Nat → Int} : ∀ {n k d : Nat}, (∀ j, k ≤ j → j < k + n → a' j = a j ∧ w' j = w j) → zx_dep a' w' n k d = zx_dep a w n k d
  | 0, k, d, _ => rfl
  | n + 1, k, d, h => by
    have e : ∀ d', zx_dep a' w' n (k + 1) d' = zx_dep a w n (k + 1) d' := fun d' => zx_dep_ext fun j h1 h2 => h j (by omega) (by omega)
    obtain ⟨h1, h2⟩ := h k (Nat.le_refl _) (by omega)
    unfold zx_dep
    rw [h1, h2, e, e, e]
theorem zx_dep_shift {a w a' w' : Nat → Int} : ∀ {n k k' d : Nat}, (∀ j, j < n → a' (k' + j) = a (k + j) ∧ w' (k' + j) = w (k + j)) → zx_dep a' w' n k' d = zx_dep a w n k d
  | 0, k, k', d, _ => rfl
  | n + 1, k, k', d, h => by
    have e : ∀ d', zx_dep a' w' n (k' + 1) d' = zx_dep a w n (k + 1) d' := fun d' => zx_dep_shift fun j hj => by
      have := h (j + 1) (by omega)
      rw [show k' + (j + 1) = k' + 1 + j by omega, show k + (j + 1) = k + 1 + j by omega] at this
      exact this
    obtain ⟨h1, h2⟩ := h 0 (by omega)
    rw [Nat.add_zero, Nat.add_zero] at h1 h2
    unfold zx_dep
    rw [h1, h2, e, e, e]
/-- the steps from lo to hi put one value on the pile -/
def zx_seg (a w : Nat → Int) (lo hi : Int) : Prop := 0 ≤ lo ∧ lo ≤ hi ∧ ∀ d : Nat, zx_dep a w (hi - lo).toNat lo.toNat d = some (d + 1)
theorem zx_seg_ext {a w a' w' : Nat → Int} {lo hi m : Int} (h : zx_seg a w lo hi) (hm : hi ≤ m) (h1 : ∀ j : Nat, (j : Int) < m → a' j = a j) (h2 : ∀ j : Nat, (j : Int) < m → w' j = w j) : zx_seg a' w' lo hi := by
  obtain ⟨g1, g2, g3⟩ := h
  refine ⟨g1, g2, fun d => ?_⟩
  rw [← g3 d]
  exact zx_dep_ext fun j j1 j2 => ⟨h1 j (by omega), h2 j (by omega)⟩
theorem zx_seg_push {a w : Nat → Int} {lo : Int} (h0 : 0 ≤ lo) (h : a lo.toNat = 1 ∨ (a lo.toNat = 2 ∧ 0 ≤ w lo.toNat ∧ w lo.toNat ≤ 5)) : zx_seg a w lo (lo + 1) := by
  refine ⟨h0, by omega, fun d => ?_⟩
  rw [show (lo + 1 - lo).toNat = 1 by omega]
  unfold zx_dep
  rcases h with h | ⟨h, h'⟩
  · rw [if_pos h]
    rfl
  · rw [if_neg (by omega), if_pos h, if_pos h']
    rfl
theorem zx_seg_un {a w : Nat → Int} {lo hi : Int} (h : zx_seg a w lo hi) (ha : 3 ≤ a hi.toNat ∧ a hi.toNat ≤ 4) : zx_seg a w lo (hi + 1) := by
  obtain ⟨g1, g2, g3⟩ := h
  refine ⟨g1, by omega, fun d => ?_⟩
  rw [show (hi + 1 - lo).toNat = (hi - lo).toNat + 1 by omega, zx_dep_add, g3 d]
  show zx_dep a w 1 (lo.toNat + (hi - lo).toNat) (d + 1) = some (d + 1)
  rw [show lo.toNat + (hi - lo).toNat = hi.toNat by omega]
  unfold zx_dep
  rw [if_neg (by omega), if_neg (by omega), if_pos ha, if_pos (by omega)]
  rfl
theorem zx_seg_bin {a w : Nat → Int} {lo m hi : Int} (h1 : zx_seg a w lo m) (h2 : zx_seg a w m hi) (ha : a hi.toNat ≤ 0 ∨ 5 ≤ a hi.toNat) : zx_seg a w lo (hi + 1) := by
  obtain ⟨g1, g2, g3⟩ := h1
  obtain ⟨k1, k2, k3⟩ := h2
  refine ⟨g1, by omega, fun d => ?_⟩
  rw [show (hi + 1 - lo).toNat = (m - lo).toNat + ((hi - m).toNat + 1) by omega, zx_dep_add, g3 d]
  show zx_dep a w ((hi - m).toNat + 1) (lo.toNat + (m - lo).toNat) (d + 1) = some (d + 1)
  rw [show lo.toNat + (m - lo).toNat = m.toNat by omega, zx_dep_add, k3 (d + 1)]
  show zx_dep a w 1 (m.toNat + (hi - m).toNat) (d + 1 + 1) = some (d + 1)
  rw [show m.toNat + (hi - m).toNat = hi.toNat by omega]
  unfold zx_dep
  rw [if_neg (by omega), if_neg (by omega), if_neg (by omega), if_pos (by omega)]
  show zx_dep a w 0 (hi.toNat + 1) (d + 1 + 1 - 1) = some (d + 1)
  rfl
/-- lines: n of them from l on, the first begins at first, behind them all is last; steps lie from A on, lines from B on -/
def zx_lin (a w t e : Nat → Int) (A B : Nat) : Nat → Nat → Int → Int → Prop
  | 0, _, first, last => first = last
  | n + 1, l, first, last => 0 ≤ first ∧ first ≤ t (B + l) ∧ t (B + l) ≤ e (B + l) ∧ e (B + l) ≤ 121 ∧ (t (B + l) = first ∨ zx_seg a w (A + first) (A + t (B + l))) ∧ zx_seg a w (A + t (B + l)) (A + e (B + l)) ∧ zx_lin a w t e A B n (l + 1) (e (B + l)) last
theorem zx_lin_snoc {a w t e : Nat → Int} {A B : Nat} : ∀ {n l : Nat} {first last last' : Int}, zx_lin a w t e A B n l first last → 0 ≤ last → last ≤ t (B + (l + n)) → t (B + (l + n)) ≤ e (B + (l + n)) → e (B + (l + n)) ≤ 121 → (t (B + (l + n)) = last ∨ zx_seg a w (A + last) (A + t (B + (l + n)))) → zx_seg a w (A + t (B + (l + n))) (A + e (B + (l + n))) → e (B + (l + n)) = last' → zx_lin a w t e A B (n + 1) l first last'
  | 0, l, first, last, last', h, h0, h1, h2, h3, h4, h5, h6 => by
    have h : first = last := h
    subst h
    rw [Nat.add_zero] at *
    exact ⟨h0, h1, h2, h3, h4, h5, h6⟩
  | n + 1, l, first, last, last', h, h0, h1, h2, h3, h4, h5, h6 => by
    obtain ⟨k1, k2, k3, k4, k5, k6, k7⟩ := h
    rw [show l + (n + 1) = l + 1 + n by omega] at *
    exact ⟨k1, k2, k3, k4, k5, k6, zx_lin_snoc k7 h0 h1 h2 h3 h4 h5 h6⟩
theorem zx_lin_last {a w t e : Nat → Int} {A B : Nat} : ∀ {n l : Nat} {first last : Int}, zx_lin a w t e A B n l first last → 0 ≤ first → first ≤ last
  | 0, l, first, last, h, _ => by
    have h : first = last := h
    omega
  | n + 1, l, first, last, h, h0 => by
    obtain ⟨k1, k2, k3, k4, k5, k6, k7⟩ := h
    have := zx_lin_last k7 (by omega)
    omega
/-- lines told of other rows, which say the same, moved -/
theorem zx_lin_mv {a w t e a' w' t' e' : Nat → Int} {A B A' B' : Nat} {last : Int} {many : Nat} (hs : ∀ j : Nat, (j : Int) < last → a' (A' + j) = a (A + j) ∧ w' (A' + j) = w (A + j)) (hl : ∀ j : Nat, j < many → t' (B' + j) = t (B + j) ∧ e' (B' + j) = e (B + j)) : ∀ {n l : Nat} {first : Int}, zx_lin a w t e A B n l first last → 0 ≤ first → l + n ≤ many → zx_lin a' w' t' e' A' B' n l first last
  | 0, l, first, h, _, _ => h
  | n + 1, l, first, h, h0, hm => by
    obtain ⟨k1, k2, k3, k4, k5, k6, k7⟩ := h
    obtain ⟨e1, e2⟩ := hl l (by omega)
    have hlast := zx_lin_last k7 (by omega)
    have mv : ∀ (x y : Int), 0 ≤ x → y ≤ last → zx_seg a w (A + x) (A + y) → zx_seg a' w' (A' + x) (A' + y) := by
      intro x y hx hy hg
      obtain ⟨g1, g2, g3⟩ := hg
      refine ⟨by omega, by omega, fun d => ?_⟩
      rw [← g3 d, show ((A' : Int) + y - (A' + x)).toNat = ((A : Int) + y - (A + x)).toNat by omega]
      refine zx_dep_shift fun j hj => ?_
      have := hs (x.toNat + j) (by omega)
      rw [show A' + (x.toNat + j) = ((A' : Int) + x).toNat + j by omega, show A + (x.toNat + j) = ((A : Int) + x).toNat + j by omega] at this
      exact this
    refine ⟨k1, by rw [e1]; exact k2, by rw [e1, e2]; exact k3, by rw [e2]; exact k4, ?_, ?_, by rw [e2]; exact zx_lin_mv hs hl k7 (by omega) (by omega)⟩
    · rw [e1]
      rcases k5 with k5 | k5
      · exact Or.inl k5
      · exact Or.inr (mv _ _ h0 (by omega) k5)
    · rw [e1, e2]
      exact mv _ _ (by omega) hlast k6
/-- how many of the first m lie in b and have enough of v among n -/
def zx_si (bed needs : Nat → Int) (b n v : Int) : Nat → Nat
  | 0 => 0
  | k + 1 => zx_si bed needs b n v k + if bed k = b ∧ needs k ≤ v / n then 1 else 0
/-- how many sleep in b with v -/
def zx_SI (bed needs blue : Nat → Int) (boys limit b v : Int) : Nat := if limit ≤ blue b.toNat then 0 else zx_si bed needs b (zx_cn bed b boys.toNat) v boys.toNat
theorem zx_si_le {bed needs : Nat → Int} {b n v : Int} : ∀ {m : Nat}, zx_si bed needs b n v m ≤ m
  | 0 => Nat.le_refl _
  | m + 1 => by
    have := zx_si_le (bed := bed) (needs := needs) (b := b) (n := n) (v := v) (m := m)
    unfold zx_si
    split <;> omega
/-- some way to give of v at most, from x on, comes to what the row says -/
def zx_hit (bed needs blue bd : Nat → Int) (boys limit b left x : Int) : Prop := ∃ y : Int, x ≤ y ∧ y ≤ left ∧ (zx_SI bed needs blue boys limit b y : Int) + bd (100 * (b + 1) + left - y).toNat = bd (100 * b + left).toNat
/-- the deals of the barns from b0 on, and of b0 - 1 those with less than l0, are found -/
def zx_best (bed needs blue bd : Nat → Int) (boys limit barns b0 l0 : Int) : Prop := (∀ b left : Int, 0 ≤ b → b < barns → 0 ≤ left → left ≤ 99 → (b0 ≤ b ∨ (b = b0 - 1 ∧ left < l0)) → zx_hit bed needs blue bd boys limit b left 0) ∧ ∀ b left : Int, 0 ≤ b → b ≤ barns → 0 ≤ left → left ≤ 99 → (b0 ≤ b ∨ (b = b0 - 1 ∧ left < l0)) → 0 ≤ bd (100 * b + left).toNat ∧ bd (100 * b + left).toNat ≤ 8 * (barns - b)
/-- a change that may be undone or done again: what (as mend() tells), of which, a value; barns -/
def zx_ch (o a v ba : Int) : Prop := (o = 0 ∧ 0 ≤ a ∧ a ≤ 4 ∧ 0 ≤ v ∧ v ≤ 99) ∨ (o = 1 ∧ 0 ≤ a ∧ a ≤ 4 ∧ 0 ≤ v ∧ v ≤ 99) ∨ (o = 2 ∧ 0 ≤ a ∧ a ≤ 4 ∧ 0 ≤ v ∧ v ≤ 9) ∨ (o = 3 ∧ 0 ≤ a ∧ a ≤ 7 ∧ 0 ≤ v ∧ v ≤ 30) ∨ (o = 4 ∧ 0 ≤ a ∧ a ≤ 7 ∧ -1 ≤ v ∧ v ≤ ba - 1) ∨ (o = 5 ∧ 0 ≤ a ∧ a ≤ 5 ∧ 0 ≤ v ∧ v ≤ 99) ∨ (o = 6 ∧ 0 ≤ a ∧ a ≤ 5 ∧ 0 ≤ v ∧ v ≤ 19) ∨ (o = 7 ∧ 0 ≤ a ∧ a ≤ 0 ∧ 0 ≤ v ∧ v ≤ 9) ∨ (o = 8 ∧ 0 ≤ a ∧ a ≤ 0 ∧ 1 ≤ v ∧ v ≤ 20)
theorem zx_ch_le {o a v ba ba' : Int} (hb : ba ≤ ba') (h : zx_ch o a v ba) : zx_ch o a v ba' := by
  unfold zx_ch at h ⊢
  rcases h with h | h | h | h | h | h | h | h | h
  · exact Or.inl h
  · exact Or.inr (Or.inl h)
  · exact Or.inr (Or.inr (Or.inl h))
  · exact Or.inr (Or.inr (Or.inr (Or.inl h)))
  · exact Or.inr (Or.inr (Or.inr (Or.inr (Or.inl ⟨h.1, h.2.1, h.2.2.1, h.2.2.2.1, by omega⟩))))
  · exact Or.inr (Or.inr (Or.inr (Or.inr (Or.inr (Or.inl h)))))
  · exact Or.inr (Or.inr (Or.inr (Or.inr (Or.inr (Or.inr (Or.inl h))))))
  · exact Or.inr (Or.inr (Or.inr (Or.inr (Or.inr (Or.inr (Or.inr (Or.inl h)))))))
  · exact Or.inr (Or.inr (Or.inr (Or.inr (Or.inr (Or.inr (Or.inr (Or.inr h)))))))
/-- facts by kinds. 6: a quotient; 7: the same int; 71: an exclusive or; 64: zeros; 65: rows alike but for a piece; 68: pieces of rows alike; 72, 73: a byte's, a short's value; 74 to 76: and, or, shift of longs; 85: whether a number lies between two; 8: rows alike; 9: a row copied into a row; 61, 62: what follows if a number is a number; 20: a text of one value; 21: what is left of a text; 22: lines in force; 25: copied so far; 26: the same below; 28: lines read so far; 30: changes; 40: a count; 41: boys lie in barns that are there; 42: changes; 43: how many lie in each barn; 94: steps that find enough; 95: class and reference hold one law; 51: who sleeps by so much; 52: a part of it; 53: deals found; 54: the best so far; 55: a way is there; 80: two ints, one int; 86: which name a byte is; 87: a tape of ints and one of bytes; 89: a told function and what it lays; 88: the same, so often or less often; 96: what a law comes to; 97: what steps come to; 90: a told function; 93: the same, so often or less often -/
def zx_S : Nat → List (Nat → Int) → List Int → Prop
  | 6, [], [x, y, w] => 0 ≤ x → 1 ≤ y → w = x / y
  | 7, [], [v, w] => Int32.ofInt v = Int32.ofInt w
  | 8, [f, g], [] => f = g
  | 9, [f, g, h], [sp, dp, n] => f = fun j : Nat => if dp.toNat ≤ j ∧ j < dp.toNat + n.toNat then g (sp.toNat + (j - dp.toNat)) else h j
  | 20, [a, w], [lo, hi] => zx_seg a w lo hi
  | 21, [a, w], [k, e, n] => 0 ≤ k ∧ k ≤ e ∧ 0 ≤ n ∧ zx_dep a w (e - k).toNat k.toNat n.toNat = some 1
  | 22, [a, w, t, e, lm], [l, first] => 0 ≤ l ∧ 0 ≤ first ∧ ∃ last, zx_lin a w t e 0 0 ((lm 0).toNat - l.toNat) l.toNat first last
  | 25, [g], [k, off] => 0 ≤ k ∧ 0 ≤ off ∧ k ≤ off ∧ ∀ j : Nat, (j : Int) < k → g j = g (off.toNat + j)
  | 26, [g, f], [m] => ∀ j : Nat, (j : Int) < m → g j = f j
  | 28, [a, w, t, e, lm], [laid, h] => zx_lin a w t e 130 61 (lm 1).toNat 0 0 laid ∧ 0 ≤ lm 1 ∧ 2 * lm 1 ≤ h
  | 30, [f1, f2, f3, f4], [] => ∀ j : Nat, zx_box (f1 j) (f2 j) (f3 j) (f4 j)
  | 40, [f], [b, m, n] => n = (zx_cn f b m.toNat : Int)
  | 51, [bed, needs, blue], [boys, limit, b, v, r] => r = (zx_SI bed needs blue boys limit b v : Int)
  | 52, [bed, needs], [b, n, v, k, r] => r = (zx_si bed needs b n v k.toNat : Int)
  | 53, [bed, needs, blue, bd], [boys, limit, barns, b0, l0] => zx_best bed needs blue bd boys limit barns b0 l0
  | 54, [bed, needs, blue, bd], [boys, limit, b, left, x, r] => 0 ≤ r ∧ ((x ≤ 0 ∧ r = 0) ∨ ∃ y : Int, 0 ≤ y ∧ y < x ∧ (zx_SI bed needs blue boys limit b y : Int) + bd (100 * (b + 1) + left - y).toNat = r)
  | 55, [bed, needs, blue, bd], [boys, limit, b, left, x] => zx_hit bed needs blue bd boys limit b left x
  | 64, [f], [a, b] => ∀ j : Nat, a.toNat ≤ j → j < b.toNat → f j = 0
  | 65, [f, g], [a, b] => ∀ j : Nat, (j < a.toNat ∨ b.toNat ≤ j) → f j = g j
  | 68, [f, g], [a, b, n] => ∀ j : Nat, j < n.toNat → f (a.toNat + j) = g (b.toNat + j)
  | 72, [], [v, w] => Int32.ofInt w = (Int32.ofInt v).toInt8.toInt32
  | 73, [], [v, w] => Int32.ofInt w = (Int32.ofInt v).toInt16.toInt32
  | 85, [], [v, a, b, r] => r = if a ≤ v ∧ v ≤ b then 1 else 0
  | 74, [], [x, y, w] => Int64.ofInt w = Int64.ofInt x &&& Int64.ofInt y
  | 75, [], [x, y, w] => Int64.ofInt w = Int64.ofInt x ||| Int64.ofInt y
  | 76, [], [x, y, w] => Int64.ofInt w = Int64.ofInt x <<< ((Int32.ofInt y).toInt64 &&& 63)
  | 71, [], [x, y, w] => Int32.ofInt w = Int32.ofInt x ^^^ Int32.ofInt y
  | 86, [], [c, w] => w = zx_nm (Int32.ofInt c).toInt
  | 87, [f, g], [n] => ∀ j : Nat, (j : Int) < n → 0 ≤ f j ∧ f j ≤ 255 ∧ g j = if f j < 128 then f j else f j - 256
  | 80, [], [o, x, y, w] => Int32.ofInt w = zx_o32 o.toNat (Int32.ofInt x) (Int32.ofInt y)
  | 41, [pl], [bo, ba] => ∀ j : Nat, (j : Int) < bo → pl j < ba
  | 42, [na, wh, wa, be], [ba] => ∀ j : Nat, zx_ch (wh j) (na j) (wa j) ba ∧ zx_ch (wh j) (na j) (be j) ba
  | 43, [ly, pl], [k, ba] => ∀ b : Nat, b < 5 → ly b = if (b : Int) < ba then (zx_cn pl b k.toNat : Int) else 0
  | 94, [st], [len] => zx_wl (zx_sl st 0 len.toNat) 0
  | 95, [st, act, wth, te, le, lm], [len, h] => zy_law st act wth te le lm len h
  | 47, [te, tx, lm, lx, tape], [g, n, a, l0] => zx_47 te tx lm lx tape g n a l0
  | 48, [S, lm, tape], g :: id :: p0 :: j :: n :: St => zx_48 S lm [tape] g id p0 j n St
  | 96, [st, env], [len, r] => zx_wl (zx_sl st 0 len.toNat) 0 → r = zx_cw env false (zx_sl st 0 len.toNat) []
  | 97, [act, wth, env], [f, e, r] => r = zx_pv act wth env f e
  | 88, rs, vs => zx_88 rs vs
  | 89, rs, vs => zx_89 rs vs
  | 90, rs, vs => zx_90 rs vs
  | 46, rs, vs => zx_46 rs vs
  | 44, rs, vs => zx_44 rs vs
  | 93, rs, vs => zx_93 rs vs
  | 61, [], [h, c, x, y] => h = c → x = y
  | 62, [], [h, c, x] => h = c → 0 ≤ x
  | _, _, _ => True
end
