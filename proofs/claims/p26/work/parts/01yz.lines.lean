noncomputable section
/-! A LAW'S LINES: steps of both readers that say the same -/
/-- signs of two -/
def zy_sg (v : Int) : Prop := v = 42 ∨ v = 47 ∨ v = 37 ∨ v = 43 ∨ v = 45 ∨ v = 60 ∨ v = 61 ∨ v = 62 ∨ v = 38 ∨ v = 124
/-- a step of the reference that may be -/
def zy_ok2 (a w : Int) : Prop := (a = 1 ∧ 0 ≤ w ∧ w ≤ 9999) ∨ (a = 2 ∧ 0 ≤ w ∧ w ≤ 5) ∨ a = 3 ∨ a = 4 ∨ zy_sg a
/-- the class's step for it -/
def zy_st2 (a w : Int) : Int := if a = 1 then w else if a = 2 then 10000 + w else if a = 3 then -33 else if a = 4 then -126 else -a
/-- steps that put one value on a pile, h more at most lie there meanwhile -/
def zy_gd (h : Nat) (c : List Int) : Prop := (∀ s ∈ c, s ≠ -59 ∧ s ≠ -63) ∧ (∀ l d, d + h ≤ 64 → zx_wl l (d + 1) → zx_wl (c ++ l) d) ∧ ∀ env, ∃ v, ∀ p, c.foldl (fun p s => zx_w1 env s p) p = v :: p
/-- pairs of the reference as the class has them -/
def zy_m1 (l : List (Int × Int)) : List Int := l.map fun q => zy_st2 q.1 q.2
/-- a test, if there is one -/
def zy_tm : List (Int × Int) → List Int
  | [] => []
  | q :: l => zy_m1 (q :: l) ++ [-63]
/-- lines as the class has them: each a test and a value -/
def zy_code : List (List (Int × Int) × List (Int × Int)) → List Int
  | [] => []
  | q :: r => zy_tm q.1 ++ (zy_m1 q.2 ++ (-59 :: zy_code r))
def zy_oks (l : List (Int × Int)) : Prop := (∀ q ∈ l, zy_ok2 q.1 q.2) ∧ zy_gd 36 (zy_m1 l)
/-- lines as they may be -/
def zy_lok (q : List (Int × Int) × List (Int × Int)) : Prop := (q.1 = [] ∨ zy_oks q.1) ∧ zy_oks q.2
/-- the reference's rows hold the lines, from line j and step k on -/
def zy_lay (act wth te le : Nat → Int) : List (List (Int × Int) × List (Int × Int)) → Nat → Nat → Prop
  | [], _, _ => True
  | q :: r, j, k => te j = (k + q.1.length : Nat) ∧ le j = (k + q.1.length + q.2.length : Nat) ∧ zx_sl act k (q.1.length + q.2.length) = (q.1 ++ q.2).map Prod.fst ∧ zx_sl wth k (q.1.length + q.2.length) = (q.1 ++ q.2).map Prod.snd ∧ zy_lay act wth te le r (j + 1) (k + q.1.length + q.2.length)
/-- how many steps -/
def zy_tot : List (List (Int × Int) × List (Int × Int)) → Nat
  | [] => 0
  | q :: r => q.1.length + q.2.length + zy_tot r
/-- class's steps and the reference's rows hold one law -/
def zy_law (st act wth te le lm : Nat → Int) (len h : Int) : Prop := 0 ≤ len ∧ (h = 0 ∨ h = 1) ∧ ∃ ls : List (List (Int × Int) × List (Int × Int)), zx_sl st 0 len.toNat = zy_code ls ∧ (∀ q ∈ ls, zy_lok q) ∧ zy_lay act wth te le ls 0 0 ∧ lm 0 = (ls.length : Int) ∧ (h = 0 ↔ ls = []) ∧ zy_tot ls ≤ 121 ∧ ls.length ≤ 61
theorem zx_sl_len {f : Nat → Int} : ∀ {n k : Nat}, (zx_sl f k n).length = n
  | 0, _ => rfl
  | n + 1, k => by
    show (zx_sl f (k + 1) n).length + 1 = n + 1
    rw [zx_sl_len]
theorem zy_law_len {st a w t e lm : Nat → Int} {len h : Int} (g : zy_law st a w t e lm len h) : (h = 0 → len = 0) ∧ (h = 1 → 1 ≤ len) := by
  obtain ⟨g1, g2, ls, g3, g4, g5, g6, g7, g8, g9⟩ := g
  have el := congrArg List.length g3
  rw [zx_sl_len] at el
  refine ⟨fun h0 => ?_, fun h1 => ?_⟩
  · rw [g7.mp h0] at el
    have el : len.toNat = 0 := el
    omega
  · match ls, g7, el with
    | [], g7, _ => have := g7.mpr rfl; omega
    | q :: r, _, el =>
      have el : len.toNat = (zy_tm q.1 ++ (zy_m1 q.2 ++ (-59 :: zy_code r))).length := el
      rw [List.length_append, List.length_append, List.length_cons] at el
      omega
/-- 47: a line of the reference's text is read: where it lies, by a count in a row -/
def zx_47 (te tx lm lx tape : Nat → Int) (g n a l0 : Int) : Prop := 0 ≤ g ∧ 0 ≤ lm 1 ∧ (∀ j : Nat, (j : Int) < 61 + lm 1 → tx j = te j) ∧ zx_L g.toNat 91 [tape] [n, a, l0] 0 = [tx (61 + lm 1).toNat] ∧ lx 1 = lm 1 + 1
/-- 48: a told function and what it lays from a place on, by a count in a row -/
def zx_48 (S lm : Nat → Int) (R : List (Nat → Int)) (g id p0 j n : Int) (St : List Int) : Prop := 0 ≤ g ∧ 0 ≤ id ∧ ∃ K : Nat, (zx_F id.toNat R [n] K).1 = St ∧ zx_ly (zx_L g.toNat id.toNat R [n] K) S S p0 (p0 + lm j.toNat)
end
