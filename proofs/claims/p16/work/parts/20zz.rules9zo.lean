noncomputable section
/-! BEDS: who should lie where (p16): what both sides find -/
theorem zg_mx_w {w h : Nat → Int} {s : Nat} : ∀ {n : Nat}, w s ≤ zg_mx w h s n
  | 0 => Int.le_refl _
  | n + 1 => by
    have ih := zg_mx_w (w := w) (h := h) (s := s) (n := n)
    unfold zg_mx
    split
    · exact Int.le_trans ih (zd_le_max _ _).1
    · exact ih
theorem zg_mx_ge {w h : Nat → Int} {s q : Nat} (q0 : 0 < q) (hq : q &&& s = q) : ∀ {n : Nat}, q ≤ n → w (s ^^^ q) + h q ≤ zg_mx w h s n
  | 0, h0 => absurd q0 (by omega)
  | n + 1, h0 => by
    unfold zg_mx
    by_cases e : q = n + 1
    · subst e
      rw [if_pos hq]
      exact (zd_le_max _ _).2
    · have ih := zg_mx_ge (w := w) (h := h) q0 hq (n := n) (by omega)
      split
      · exact Int.le_trans ih (zd_le_max _ _).1
      · exact ih
theorem zg_mx_at {w h : Nat → Int} {s : Nat} : ∀ {n : Nat}, zg_mx w h s n = w s ∨ ∃ q : Nat, 0 < q ∧ q ≤ n ∧ q &&& s = q ∧ zg_mx w h s n = w (s ^^^ q) + h q
  | 0 => Or.inl rfl
  | n + 1 => by
    have ih := zg_mx_at (w := w) (h := h) (s := s) (n := n)
    have up : (zg_mx w h s n = w s ∨ ∃ q : Nat, 0 < q ∧ q ≤ n ∧ q &&& s = q ∧ zg_mx w h s n = w (s ^^^ q) + h q) → ∀ v, v = zg_mx w h s n → (v = w s ∨ ∃ q : Nat, 0 < q ∧ q ≤ n + 1 ∧ q &&& s = q ∧ v = w (s ^^^ q) + h q) := fun o v e => by
      rcases o with o | ⟨q, q1, q2, q3, q4⟩
      · exact Or.inl (e.trans o)
      · exact Or.inr ⟨q, q1, by omega, q3, e.trans q4⟩
    unfold zg_mx
    split
    · rename_i hq
      rcases zd_max_or (zg_mx w h s n) (w (s ^^^ (n + 1)) + h (n + 1)) with e | e
      · rw [e]
        exact up ih _ rfl
      · rw [e]
        exact Or.inr ⟨n + 1, by omega, Nat.le_refl _, hq, rfl⟩
    · exact up ih _ rfl
/-! sets of six -/
def zg_of (f : Nat → Bool) : Nat := (f 0).toNat + 2 * (f 1).toNat + 4 * (f 2).toNat + 8 * (f 3).toNat + 16 * (f 4).toNat + 32 * (f 5).toNat
theorem zg_of_lt (f : Nat → Bool) : zg_of f < 64 := by
  unfold zg_of
  have : ∀ b : Bool, b.toNat ≤ 1 := by decide
  have h0 := this (f 0)
  have h1 := this (f 1)
  have h2 := this (f 2)
  have h3 := this (f 3)
  have h4 := this (f 4)
  have h5 := this (f 5)
  omega
theorem zg_of_bit (f : Nat → Bool) : ∀ {j : Nat}, j < 6 → (zg_of f).testBit j = f j := by
  have key : ∀ a b c d e g : Bool, ∀ j : Fin 6, (a.toNat + 2 * b.toNat + 4 * c.toNat + 8 * d.toNat + 16 * e.toNat + 32 * g.toNat).testBit j.val = [a, b, c, d, e, g].getD j.val false := by decide +kernel
  intro j hj
  have k := key (f 0) (f 1) (f 2) (f 3) (f 4) (f 5) ⟨j, hj⟩
  unfold zg_of
  rw [show (⟨j, hj⟩ : Fin 6).val = j from rfl] at k
  rw [k]
  match j, hj with
  | 0, _ => rfl
  | 1, _ => rfl
  | 2, _ => rfl
  | 3, _ => rfl
  | 4, _ => rfl
  | 5, _ => rfl
  | j + 6, h => exact absurd h (by omega)
theorem zg_self : ∀ s : Fin 64, zg_of (fun j => s.val.testBit j) = s.val := by decide +kernel
theorem zg_of_congr {f g : Nat → Bool} (h : ∀ j : Nat, j < 6 → f j = g j) : zg_of f = zg_of g := by
  unfold zg_of
  rw [h 0 (by omega), h 1 (by omega), h 2 (by omega), h 3 (by omega), h 4 (by omega), h 5 (by omega)]
theorem zg_ext {s t : Nat} (hs : s < 64) (ht : t < 64) (h : ∀ j : Nat, j < 6 → s.testBit j = t.testBit j) : s = t := by
  have e1 := zg_self ⟨s, hs⟩
  have e2 := zg_self ⟨t, ht⟩
  have e3 := zg_of_congr h
  exact (e1.symm.trans e3).trans e2
/-- who of a set lies in b -/
def zg_mk (a : Nat → Int) (b s : Nat) : Nat := zg_of fun j => s.testBit j && decide (a j = (b : Int))
theorem zg_mk_bit {a : Nat → Int} {b s j : Nat} (hj : j < 6) : (zg_mk a b s).testBit j = (s.testBit j && decide (a j = (b : Int))) := zg_of_bit _ hj
theorem zg_mk_lt {a : Nat → Int} {b s : Nat} : zg_mk a b s < 64 := zg_of_lt _
theorem zg_sub {s q : Nat} (hs : s < 64) (hq : q < 64) (h : ∀ j : Nat, j < 6 → q.testBit j = true → s.testBit j = true) : q &&& s = q := by
  refine zg_ext (Nat.lt_of_le_of_lt Nat.and_le_left hq) hq fun j hj => ?_
  rw [Nat.testBit_and]
  cases e : q.testBit j with
  | false => rfl
  | true => rw [h j hj e]; rfl
theorem zg_sub_of {s q : Nat} (h : q &&& s = q) {j : Nat} (e : q.testBit j = true) : s.testBit j = true := by
  have : (q &&& s).testBit j = true := by rw [h]; exact e
  rw [Nat.testBit_and, e] at this
  simpa using this
theorem zg_xor_lt {s q : Nat} (hs : s < 64) (hq : q < 64) : s ^^^ q < 64 := Nat.xor_lt_two_pow (n := 6) hs hq
/-- what an assignment comes to in the first barns -/
def zg_V (h : Nat → Nat → Int) (a : Nat → Int) : Nat → Nat → Int
  | 0, _ => 0
  | b + 1, s => zg_V h a b s + h b (zg_mk a b s)
theorem zg_V_congr {h : Nat → Nat → Int} {a a' : Nat → Int} {s t : Nat} : ∀ {b : Nat}, (∀ b' : Nat, b' < b → zg_mk a b' s = zg_mk a' b' t) → zg_V h a b s = zg_V h a' b t
  | 0, _ => rfl
  | b + 1, e => by
    show zg_V h a b s + h b (zg_mk a b s) = zg_V h a' b t + h b (zg_mk a' b t)
    rw [zg_V_congr (b := b) fun b' hb => e b' (by omega), e b (by omega)]
theorem zg_V_le {h : Nat → Nat → Int} (h0 : ∀ b, h b 0 = 0) {a : Nat → Int} : ∀ {b s : Nat}, s < 64 → zg_V h a b s ≤ zg_w h b s
  | 0, _, _ => Int.le_refl _
  | b + 1, s, hs => by
    show zg_V h a b s + h b (zg_mk a b s) ≤ zg_mx (zg_w h b) (h b) s s
    by_cases q0 : zg_mk a b s = 0
    · rw [q0, h0]
      have i1 := zg_V_le h0 (a := a) (b := b) hs
      have i2 := zg_mx_w (w := zg_w h b) (h := h b) (s := s) (n := s)
      omega
    · have hq : zg_mk a b s &&& s = zg_mk a b s := zg_sub hs zg_mk_lt fun j hj e => by
        rw [zg_mk_bit hj, Bool.and_eq_true] at e
        exact e.1
      have hle : zg_mk a b s ≤ s := by
        have := Nat.and_le_right (n := zg_mk a b s) (m := s)
        omega
      have g := zg_mx_ge (w := zg_w h b) (h := h b) (s := s) (q := zg_mk a b s) (by omega) hq hle
      have e1 : zg_V h a b s = zg_V h a b (s ^^^ zg_mk a b s) := zg_V_congr fun b' hb' => by
        refine zg_of_congr fun j hj => ?_
        rw [Nat.testBit_xor, zg_mk_bit hj]
        by_cases c : a j = (b' : Int)
        · have c2 : ¬ a j = (b : Int) := by omega
          simp [c2]
        · simp [c]
      have i1 := zg_V_le h0 (a := a) (b := b) (s := s ^^^ zg_mk a b s) (zg_xor_lt hs zg_mk_lt)
      omega
theorem zg_V_at {h : Nat → Nat → Int} (h0 : ∀ b, h b 0 = 0) : ∀ {b s : Nat}, s < 64 → ∃ a : Nat → Int, (∀ j, -1 ≤ a j ∧ a j < (b : Int)) ∧ zg_w h b s = zg_V h a b s
  | 0, _, _ => ⟨fun _ => -1, fun _ => ⟨Int.le_refl _, by show (-1 : Int) < ((0 : Nat) : Int); omega⟩, rfl⟩
  | b + 1, s, hs => by
    show ∃ a : Nat → Int, (∀ j, -1 ≤ a j ∧ a j < ((b + 1 : Nat) : Int)) ∧ zg_mx (zg_w h b) (h b) s s = zg_V h a b s + h b (zg_mk a b s)
    rcases zg_mx_at (w := zg_w h b) (h := h b) (s := s) (n := s) with e | ⟨q, q1, q2, q3, q4⟩
    · obtain ⟨a, a1, a2⟩ := zg_V_at h0 (b := b) hs
      refine ⟨a, fun j => ?_, ?_⟩
      · have := a1 j
        omega
      · have z : zg_mk a b s = 0 := zg_ext zg_mk_lt (by omega) fun j hj => by
          rw [zg_mk_bit hj, decide_eq_false (fun c => by have := a1 j; omega)]
          simp
        rw [e, a2, z, h0]
        omega
    · have hq : q < 64 := by omega
      obtain ⟨a, a1, a2⟩ := zg_V_at h0 (b := b) (s := s ^^^ q) (zg_xor_lt hs hq)
      refine ⟨fun j => if q.testBit j = true then (b : Int) else a j, fun j => ?_, ?_⟩
      · show -1 ≤ (if q.testBit j = true then (b : Int) else a j) ∧ (if q.testBit j = true then (b : Int) else a j) < ((b + 1 : Nat) : Int)
        have := a1 j
        split <;> omega
      · have z : zg_mk (fun j => if q.testBit j = true then (b : Int) else a j) b s = q := zg_ext zg_mk_lt hq fun j hj => by
          rw [zg_mk_bit hj]
          cases c : q.testBit j with
          | true =>
            rw [zg_sub_of q3 c]
            simp
          | false =>
            have : ¬ a j = (b : Int) := by have := a1 j; omega
            simp [this]
        rw [z, q4, a2]
        have e1 : zg_V h a b (s ^^^ q) = zg_V h (fun j => if q.testBit j = true then (b : Int) else a j) b s := zg_V_congr fun b' hb' => by
          refine zg_of_congr fun j hj => ?_
          rw [Nat.testBit_xor]
          cases c : q.testBit j with
          | true =>
            have : ¬ (b : Int) = (b' : Int) := by omega
            rw [zg_sub_of q3 c]
            simp [c, this]
          | false => simp [c]
        omega
/-! what an assignment comes to, boy by boy -/
theorem zg_sm_add {f g : Nat → Int} : ∀ {m : Nat}, zg_sm (fun j => f j + g j) m = zg_sm f m + zg_sm g m
  | 0 => rfl
  | m + 1 => by
    have ih := zg_sm_add (f := f) (g := g) (m := m)
    show zg_sm (fun j => f j + g j) m + (f m + g m) = (zg_sm f m + f m) + (zg_sm g m + g m)
    omega
theorem zg_sm_congr {f g : Nat → Int} : ∀ {m : Nat}, (∀ j : Nat, j < m → f j = g j) → zg_sm f m = zg_sm g m
  | 0, _ => rfl
  | m + 1, h => by
    show zg_sm f m + f m = zg_sm g m + g m
    rw [zg_sm_congr (m := m) fun j hj => h j (by omega), h m (by omega)]
theorem zg_sm_mul {f : Nat → Int} {c : Int} : ∀ {m : Nat}, zg_sm (fun j => c * f j) m = c * zg_sm f m
  | 0 => by simp [zg_sm]
  | m + 1 => by
    have ih := zg_sm_mul (f := f) (c := c) (m := m)
    show zg_sm (fun j => c * f j) m + c * f m = c * (zg_sm f m + f m)
    rw [ih, Int.mul_add]
theorem zg_hs_sm {needs : Nat → Int} {b s : Nat} {each : Int} : ∀ {m : Nat}, zg_hs needs b each s m = zg_sm (fun j => if s.testBit j = true then zg_W j * (5 - (b : Int)) + (if needs j ≤ each then 46656 else 0) else 0) m
  | 0 => rfl
  | m + 1 => by
    have ih := zg_hs_sm (needs := needs) (b := b) (s := s) (each := each) (m := m)
    show zg_hs needs b each s m + _ = zg_sm _ m + _
    rw [ih]
theorem zg_full {m j : Nat} : (2 ^ m - 1).testBit j = decide (j < m) := Nat.testBit_two_pow_sub_one m j
theorem zg_full_lt {m : Nat} (hm : m ≤ 6) : 2 ^ m - 1 < 64 := by
  have : 2 ^ m ≤ 2 ^ 6 := Nat.pow_le_pow_right (by omega) hm
  omega
theorem zg_ct_cn {a : Nat → Int} {b : Nat} {f : Nat → Bool} {m : Nat} (hf : ∀ j : Nat, f j = (decide (j < m) && decide (a j = (b : Int)))) : ∀ {n : Nat}, m ≤ n → zg_ct f n = zx_cn a (b : Int) m
  | 0, h => by
    have : m = 0 := by omega
    subst this
    rfl
  | n + 1, h => by
    by_cases e : m ≤ n
    · have ih := zg_ct_cn hf (n := n) e
      show zg_ct f n + (f n).toNat = _
      rw [ih, hf n, decide_eq_false (by omega)]
      rfl
    · have em : m = n + 1 := by omega
      subst em
      have gen : ∀ k : Nat, k ≤ n + 1 → zg_ct f k = zx_cn a (b : Int) k := fun k => by
        induction k with
        | zero => exact fun _ => rfl
        | succ k ih =>
          intro hk
          show zg_ct f k + (f k).toNat = zx_cn a (b : Int) k + (if a k = (b : Int) then 1 else 0)
          rw [ih (by omega), hf k, decide_eq_true (show k < n + 1 by omega)]
          by_cases c : a k = (b : Int)
          · rw [if_pos c, decide_eq_true c]
            rfl
          · rw [if_neg c, decide_eq_false c]
            rfl
      exact gen (n + 1) (Nat.le_refl _)
theorem zg_pop_cn {a : Nat → Int} {b m : Nat} (hm : m ≤ 6) : zg_pop (zg_mk a b (2 ^ m - 1)) = zx_cn a (b : Int) m := by
  have e : zg_ct (fun j => (zg_mk a b (2 ^ m - 1)).testBit j) 6 = zg_ct (fun j => decide (j < m) && decide (a j = (b : Int))) 6 := by
    have gen : ∀ (f g : Nat → Bool) (n : Nat), (∀ j : Nat, j < n → f j = g j) → zg_ct f n = zg_ct g n := fun f g n => by
      induction n with
      | zero => exact fun _ => rfl
      | succ n ih =>
        intro h
        show zg_ct f n + (f n).toNat = zg_ct g n + (g n).toNat
        rw [ih fun j hj => h j (by omega), h n (by omega)]
    refine gen _ _ 6 fun j hj => ?_
    rw [zg_mk_bit hj, zg_full]
  unfold zg_pop
  rw [e]
  exact zg_ct_cn (fun j => rfl) hm
theorem zg_e_neg {night blue : Nat → Int} {limit : Int} {b s : Nat} (h : limit ≤ blue b) : zg_e night blue limit b s = -1 := by
  unfold zg_e
  rw [if_pos (Or.inr h)]
theorem zg_h_mk {night needs blue a : Nat → Int} {limit : Int} {m b : Nat} (hm : m ≤ 6) (hn : ∀ j, 0 ≤ needs j) : zg_h night needs blue limit m b (zg_mk a b (2 ^ m - 1)) = zg_sm (fun j => if a j = (b : Int) then zg_W j * (5 - a j) + 46656 * (if zg_ok night needs blue limit m a j = true then 1 else 0) else 0) m := by
  unfold zg_h
  rw [zg_hs_sm]
  refine zg_sm_congr fun j hj => ?_
  rw [zg_mk_bit (by omega), zg_full, decide_eq_true hj, Bool.true_and]
  by_cases c : a j = (b : Int)
  · rw [decide_eq_true c, if_pos rfl, if_pos c, c]
    have ek : (needs j ≤ zg_e night blue limit b (zg_mk a b (2 ^ m - 1))) ↔ zg_ok night needs blue limit m a j = true := by
      unfold zg_ok
      rw [c, show ((b : Nat) : Int).toNat = b from rfl, decide_eq_true (show (0 : Int) ≤ (b : Int) by omega), Bool.true_and]
      have hp : 1 ≤ zg_pop (zg_mk a b (2 ^ m - 1)) := by
        rw [zg_pop_cn hm]
        exact zx_cnt_pos hj c
      unfold zg_e
      by_cases l : limit ≤ blue b
      · rw [if_pos (Or.inr l), decide_eq_true l]
        have := hn j
        simp
        omega
      · rw [if_neg (fun q => by rcases q with q | q; exact absurd q (by omega); exact l q), decide_eq_false l, zg_pop_cn hm]
        simp
    by_cases d : zg_ok night needs blue limit m a j = true
    · rw [if_pos (ek.mpr d), if_pos d]
      omega
    · rw [if_neg (fun q => d (ek.mp q)), if_neg d]
      omega
  · rw [decide_eq_false c, if_neg c]
    rfl
theorem zg_V_sm {night needs blue a : Nat → Int} {limit : Int} {m : Nat} (hm : m ≤ 6) (hn : ∀ j, 0 ≤ needs j) : ∀ {b : Nat}, zg_V (zg_h night needs blue limit m) a b (2 ^ m - 1) = zg_sm (fun j => if 0 ≤ a j ∧ a j < (b : Int) then zg_W j * (5 - a j) + 46656 * (if zg_ok night needs blue limit m a j = true then 1 else 0) else 0) m
  | 0 => by
    show (0 : Int) = _
    rw [zg_sm_congr (g := fun _ => 0) fun j _ => if_neg (fun q => by omega)]
    have : ∀ k : Nat, zg_sm (fun _ => 0) k = 0 := fun k => by
      induction k with
      | zero => rfl
      | succ k ih =>
        show zg_sm (fun _ => 0) k + 0 = 0
        omega
    exact (this m).symm
  | b + 1 => by
    have ih := zg_V_sm (night := night) (needs := needs) (blue := blue) (a := a) (limit := limit) hm hn (b := b)
    show zg_V (zg_h night needs blue limit m) a b (2 ^ m - 1) + zg_h night needs blue limit m b (zg_mk a b (2 ^ m - 1)) = _
    rw [ih, zg_h_mk hm hn, ← zg_sm_add]
    refine zg_sm_congr fun j hj => ?_
    by_cases c : a j = (b : Int)
    · rw [if_neg (c := 0 ≤ a j ∧ a j < (b : Int)) (fun q => by omega), if_pos (c := a j = (b : Int)) c, if_pos (c := 0 ≤ a j ∧ a j < ((b + 1 : Nat) : Int)) (by omega)]
      omega
    · rw [if_neg (c := a j = (b : Int)) c]
      by_cases d : 0 ≤ a j ∧ a j < (b : Int)
      · rw [if_pos (c := 0 ≤ a j ∧ a j < (b : Int)) d, if_pos (c := 0 ≤ a j ∧ a j < ((b + 1 : Nat) : Int)) (by omega)]
        omega
      · rw [if_neg (c := 0 ≤ a j ∧ a j < (b : Int)) d, if_neg (c := 0 ≤ a j ∧ a j < ((b + 1 : Nat) : Int)) (by omega)]
        omega
theorem zg_V_va {night needs blue a : Nat → Int} {limit : Int} {m n : Nat} (hm : m ≤ 6) (hn : ∀ j, 0 ≤ needs j) (hv : zg_va a (n : Int) m) : zg_V (zg_h night needs blue limit m) a n (2 ^ m - 1) = 46656 * zg_cn night needs blue limit m a + zg_lo a m := by
  rw [zg_V_sm hm hn]
  unfold zg_cn zg_lo
  rw [← zg_sm_mul, ← zg_sm_add]
  refine zg_sm_congr fun j hj => ?_
  obtain ⟨h1, h2⟩ := hv j hj
  unfold zg_rk
  by_cases c : 0 ≤ a j
  · rw [if_pos ⟨c, h2⟩, if_pos c]
    omega
  · rw [if_neg (fun q => c q.1), if_neg c]
    have : ¬ zg_ok night needs blue limit m a j = true := fun q => by
      unfold zg_ok at q
      rw [decide_eq_false c] at q
      simp at q
    rw [if_neg this]
    omega
/-! places as digits -/
def zg_r (a : Nat → Int) (m j : Nat) : Int := if j < m then zg_rk (a j) else 0
theorem zg_lo6 {a : Nat → Int} : ∀ {m : Nat}, m ≤ 6 → zg_lo a m = 7776 * zg_r a m 0 + 1296 * zg_r a m 1 + 216 * zg_r a m 2 + 36 * zg_r a m 3 + 6 * zg_r a m 4 + zg_r a m 5
  | 0, _ => by simp [zg_lo, zg_sm, zg_r]
  | 1, _ => by simp [zg_lo, zg_sm, zg_r, zg_W]
  | 2, _ => by simp [zg_lo, zg_sm, zg_r, zg_W]
  | 3, _ => by simp [zg_lo, zg_sm, zg_r, zg_W]
  | 4, _ => by simp [zg_lo, zg_sm, zg_r, zg_W]
  | 5, _ => by simp [zg_lo, zg_sm, zg_r, zg_W]
  | 6, _ => by simp [zg_lo, zg_sm, zg_r, zg_W]
  | m + 7, h => absurd h (by omega)
theorem zg_r_in {a : Nat → Int} {n : Int} {m : Nat} (hn : n ≤ 5) (hv : zg_va a n m) (j : Nat) : 0 ≤ zg_r a m j ∧ zg_r a m j ≤ 5 ∧ (zg_r a m j = 0 ∨ 6 - n ≤ zg_r a m j) := by
  unfold zg_r zg_rk
  split
  · rename_i h
    obtain ⟨h1, h2⟩ := hv j h
    split <;> omega
  · omega
theorem zg_lo_in {a : Nat → Int} {n : Int} {m : Nat} (hm : m ≤ 6) (hn : n ≤ 5) (hv : zg_va a n m) : 0 ≤ zg_lo a m ∧ zg_lo a m < 46656 := by
  rw [zg_lo6 hm]
  have h0 := zg_r_in hn hv 0
  have h1 := zg_r_in hn hv 1
  have h2 := zg_r_in hn hv 2
  have h3 := zg_r_in hn hv 3
  have h4 := zg_r_in hn hv 4
  have h5 := zg_r_in hn hv 5
  omega
theorem zg_digit {a : Nat → Int} {n : Int} {m : Nat} (hm : m ≤ 6) (hn : n ≤ 5) (hv : zg_va a n m) : ∀ {k : Nat}, k < 6 → zg_lo a m / zg_W k % 6 = zg_r a m k := by
  have h0 := zg_r_in hn hv 0
  have h1 := zg_r_in hn hv 1
  have h2 := zg_r_in hn hv 2
  have h3 := zg_r_in hn hv 3
  have h4 := zg_r_in hn hv 4
  have h5 := zg_r_in hn hv 5
  have e := zg_lo6 (a := a) hm
  intro k hk
  match k, hk with
  | 0, _ => show zg_lo a m / 7776 % 6 = _; omega
  | 1, _ => show zg_lo a m / 1296 % 6 = _; omega
  | 2, _ => show zg_lo a m / 216 % 6 = _; omega
  | 3, _ => show zg_lo a m / 36 % 6 = _; omega
  | 4, _ => show zg_lo a m / 6 % 6 = _; omega
  | 5, _ => show zg_lo a m / 1 % 6 = _; omega
  | k + 6, h => exact absurd h (by omega)
/-- the best that the class finds is what the best beds come to -/
theorem zg_best {night needs blue best : Nat → Int} {limit ms : Int} {m n : Nat} (hm : m ≤ 6) (hn5 : n ≤ 5) (hn : ∀ j, 0 ≤ needs j) (hs : zg_st night needs blue best limit m (n : Int) 0 ms) : zg_w (zg_h night needs blue limit m) n (2 ^ m - 1) = 46656 * ms + zg_lo best m ∧ zg_va best (n : Int) m ∧ 0 ≤ ms := by
  have h0 : ∀ b, zg_h night needs blue limit m b 0 = 0 := fun b => by
    unfold zg_h
    have : ∀ k : Nat, zg_hs needs b (zg_e night blue limit b 0) 0 k = 0 := fun k => by
      induction k with
      | zero => rfl
      | succ k ih =>
        show zg_hs needs b (zg_e night blue limit b 0) 0 k + (if (0 : Nat).testBit k = true then _ else 0) = 0
        rw [ih, Nat.zero_testBit, if_neg (by decide)]
        rfl
    exact this m
  have hf := zg_full_lt hm
  obtain ⟨a, a1, a2⟩ := zg_V_at h0 (b := n) hf
  have va : zg_va a (n : Int) m := fun j _ => a1 j
  rw [zg_V_va hm hn va] at a2
  have la := zg_lo_in hm (by omega) va
  rcases hs with ⟨-, hs⟩ | ⟨s1, s2, s3, s4, s5⟩
  · have := hs a va
    omega
  · have u := zg_V_le h0 (a := best) (b := n) hf
    rw [zg_V_va hm hn s2, ← s4] at u
    have lb := zg_lo_in hm (by omega) s2
    have := s5 a va la.1
    refine ⟨?_, s2, s1⟩
    omega
/-- beds whose number lies between a beginning's first and the next beginning's begin so -/
theorem zg_pre {a e : Nat → Int} {n : Int} {m k : Nat} (hk : k ≤ m) (hm : m ≤ 6) (hn : n ≤ 5) (ha : zg_va a n m) (he : zg_va e n k) (h1 : zg_lo e k ≤ zg_lo a m) (h2 : zg_lo a m < zg_lo e k + zg_Z k) : ∀ j : Nat, j < k → a j = e j := by
  have r0 := zg_r_in hn ha 0
  have r1 := zg_r_in hn ha 1
  have r2 := zg_r_in hn ha 2
  have r3 := zg_r_in hn ha 3
  have r4 := zg_r_in hn ha 4
  have r5 := zg_r_in hn ha 5
  have s0 := zg_r_in hn he 0
  have s1 := zg_r_in hn he 1
  have s2 := zg_r_in hn he 2
  have s3 := zg_r_in hn he 3
  have s4 := zg_r_in hn he 4
  have s5 := zg_r_in hn he 5
  rw [zg_lo6 hm, zg_lo6 (show k ≤ 6 by omega)] at h1 h2
  have key : ∀ j : Nat, j < k → zg_r a m j = zg_r e k j := by
    have hk6 : k ≤ 6 := by omega
    have z : ∀ i : Nat, k ≤ i → zg_r e k i = 0 := fun i hi => by unfold zg_r; rw [if_neg (by omega)]
    match k, hk6 with
    | 0, _ => exact fun j hj => absurd hj (by omega)
    | 1, _ =>
      have z1 := z 1 (by omega); have z2 := z 2 (by omega); have z3 := z 3 (by omega); have z4 := z 4 (by omega); have z5 := z 5 (by omega)
      have q : zg_Z 1 = 7776 := rfl
      intro j hj
      match j, hj with
      | 0, _ => omega
      | j + 1, h => exact absurd h (by omega)
    | 2, _ =>
      have z2 := z 2 (by omega); have z3 := z 3 (by omega); have z4 := z 4 (by omega); have z5 := z 5 (by omega)
      have q : zg_Z 2 = 1296 := rfl
      have e0 : zg_r a m 0 = zg_r e 2 0 := by omega
      intro j hj
      match j, hj with
      | 0, _ => exact e0
      | 1, _ => omega
      | j + 2, h => exact absurd h (by omega)
    | 3, _ =>
      have z3 := z 3 (by omega); have z4 := z 4 (by omega); have z5 := z 5 (by omega)
      have q : zg_Z 3 = 216 := rfl
      have e0 : zg_r a m 0 = zg_r e 3 0 := by omega
      have e1 : zg_r a m 1 = zg_r e 3 1 := by omega
      intro j hj
      match j, hj with
      | 0, _ => exact e0
      | 1, _ => exact e1
      | 2, _ => omega
      | j + 3, h => exact absurd h (by omega)
    | 4, _ =>
      have z4 := z 4 (by omega); have z5 := z 5 (by omega)
      have q : zg_Z 4 = 36 := rfl
      have e0 : zg_r a m 0 = zg_r e 4 0 := by omega
      have e1 : zg_r a m 1 = zg_r e 4 1 := by omega
      have e2 : zg_r a m 2 = zg_r e 4 2 := by omega
      intro j hj
      match j, hj with
      | 0, _ => exact e0
      | 1, _ => exact e1
      | 2, _ => exact e2
      | 3, _ => omega
      | j + 4, h => exact absurd h (by omega)
    | 5, _ =>
      have z5 := z 5 (by omega)
      have q : zg_Z 5 = 6 := rfl
      have e0 : zg_r a m 0 = zg_r e 5 0 := by omega
      have e1 : zg_r a m 1 = zg_r e 5 1 := by omega
      have e2 : zg_r a m 2 = zg_r e 5 2 := by omega
      have e3 : zg_r a m 3 = zg_r e 5 3 := by omega
      intro j hj
      match j, hj with
      | 0, _ => exact e0
      | 1, _ => exact e1
      | 2, _ => exact e2
      | 3, _ => exact e3
      | 4, _ => omega
      | j + 5, h => exact absurd h (by omega)
    | 6, _ =>
      have q : zg_Z 6 = 1 := rfl
      have e0 : zg_r a m 0 = zg_r e 6 0 := by omega
      have e1 : zg_r a m 1 = zg_r e 6 1 := by omega
      have e2 : zg_r a m 2 = zg_r e 6 2 := by omega
      have e3 : zg_r a m 3 = zg_r e 6 3 := by omega
      have e4 : zg_r a m 4 = zg_r e 6 4 := by omega
      intro j hj
      match j, hj with
      | 0, _ => exact e0
      | 1, _ => exact e1
      | 2, _ => exact e2
      | 3, _ => exact e3
      | 4, _ => exact e4
      | 5, _ => omega
      | j + 6, h => exact absurd h (by omega)
    | k + 7, h => exact absurd h (by omega)
  intro j hj
  have q := key j hj
  unfold zg_r zg_rk at q
  rw [if_pos (show j < m by omega), if_pos hj] at q
  obtain ⟨a1, a2⟩ := ha j (by omega)
  obtain ⟨b1, b2⟩ := he j hj
  split at q <;> split at q <;> omega
theorem zg_cn_congr {night needs blue a e : Nat → Int} {limit : Int} {m : Nat} (h : ∀ j : Nat, j < m → a j = e j) : zg_cn night needs blue limit m a = zg_cn night needs blue limit m e := by
  have hc : ∀ (x : Int) (k : Nat), k ≤ m → zx_cn a x k = zx_cn e x k := fun x k => by
    induction k with
    | zero => exact fun _ => rfl
    | succ k ih =>
      intro hk
      show zx_cn a x k + (if a k = x then 1 else 0) = zx_cn e x k + (if e k = x then 1 else 0)
      rw [ih (by omega), h k (by omega)]
  unfold zg_cn
  refine zg_sm_congr fun j hj => ?_
  unfold zg_ok
  rw [h j hj, hc (e j) m (Nat.le_refl _)]
theorem zg_lo_congr {a e : Nat → Int} {m : Nat} (h : ∀ j : Nat, j < m → a j = e j) : zg_lo a m = zg_lo e m := zg_sm_congr fun j hj => by rw [h j hj]
theorem zg_va_congr {a e : Nat → Int} {n : Int} {m : Nat} (h : ∀ j : Nat, j < m → a j = e j) (ha : zg_va a n m) : zg_va e n m := fun j hj => by rw [← h j hj]; exact ha j hj
/-- one bed more is looked at -/
theorem zg_leaf {night needs blue best best' e : Nat → Int} {limit n ms ms' : Int} {m : Nat} (hm : m ≤ 6) (hn : n ≤ 5) (he : zg_va e n m) (hs : zg_st night needs blue best limit m n (zg_lo e m + zg_Z m) ms) (hw : (zg_cn night needs blue limit m e ≤ ms ∧ ms' = ms ∧ ∀ j : Nat, j < m → best' j = best j) ∨ (ms < zg_cn night needs blue limit m e ∧ ms' = zg_cn night needs blue limit m e ∧ ∀ j : Nat, j < m → best' j = e j)) (h1 : -1 ≤ ms) (h0 : 0 ≤ zg_cn night needs blue limit m e) : zg_st night needs blue best' limit m n (zg_lo e m) ms' := by
  have near : ∀ a : Nat → Int, zg_va a n m → zg_lo e m ≤ zg_lo a m → zg_lo a m < zg_lo e m + zg_Z m → ∀ j : Nat, j < m → a j = e j := fun a ha k1 k2 => zg_pre (Nat.le_refl m) hm hn ha he k1 k2
  have hZ : 1 ≤ zg_Z m := by
    match m, hm with
    | 0, _ => decide
    | 1, _ => decide
    | 2, _ => decide
    | 3, _ => decide
    | 4, _ => decide
    | 5, _ => decide
    | 6, _ => decide
    | m + 7, h => exact absurd h (by omega)
  rcases hw with ⟨w1, w2, w3⟩ | ⟨w1, w2, w3⟩
  · rcases hs with ⟨s1, s2⟩ | ⟨s1, s2, s3, s4, s5⟩
    · omega
    · have cb := zg_cn_congr (night := night) (needs := needs) (blue := blue) (limit := limit) w3
      have lb := zg_lo_congr w3
      refine Or.inr ⟨by omega, zg_va_congr (fun j hj => (w3 j hj).symm) s2, by omega, by omega, fun a ha ht => ?_⟩
      by_cases c : zg_lo a m < zg_lo e m + zg_Z m
      · have q := near a ha ht c
        have ca := zg_cn_congr (night := night) (needs := needs) (blue := blue) (limit := limit) q
        have la := zg_lo_congr q
        omega
      · have := s5 a ha (by omega)
        omega
  · have cb := zg_cn_congr (night := night) (needs := needs) (blue := blue) (limit := limit) w3
    have lb := zg_lo_congr w3
    refine Or.inr ⟨by omega, zg_va_congr (fun j hj => (w3 j hj).symm) he, by omega, by omega, fun a ha ht => ?_⟩
    by_cases c : zg_lo a m < zg_lo e m + zg_Z m
    · have q := near a ha ht c
      have ca := zg_cn_congr (night := night) (needs := needs) (blue := blue) (limit := limit) q
      have la := zg_lo_congr q
      omega
    · rcases hs with ⟨s1, s2⟩ | ⟨s1, s2, s3, s4, s5⟩
      · have := s2 a ha
        omega
      · have := s5 a ha (by omega)
        omega
/-- no beds have numbers between -/
theorem zg_gap {night needs blue best : Nat → Int} {limit n t t' ms : Int} {m : Nat} (h : t' ≤ t) (hg : ∀ a : Nat → Int, zg_va a n m → t' ≤ zg_lo a m → t ≤ zg_lo a m) (hs : zg_st night needs blue best limit m n t ms) : zg_st night needs blue best limit m n t' ms := by
  rcases hs with ⟨s1, s2⟩ | ⟨s1, s2, s3, s4, s5⟩
  · refine Or.inl ⟨s1, fun a ha => ?_⟩
    have := s2 a ha
    by_cases c : zg_lo a m < t'
    · exact c
    · have := hg a ha (by omega)
      omega
  · exact Or.inr ⟨s1, s2, by omega, s4, fun a ha ht => s5 a ha (hg a ha ht)⟩
theorem zg_gapk {a e : Nat → Int} {n : Int} {m k : Nat} (hn0 : 0 ≤ n) (hk : k < m) (hm : m ≤ 6) (hn : n ≤ 5) (ha : zg_va a n m) (he : zg_va e n k) (h1 : zg_lo e k + zg_W k ≤ zg_lo a m) : zg_lo e k + (6 - n) * zg_W k ≤ zg_lo a m := by
  by_cases c : zg_lo a m < zg_lo e k + zg_Z k
  · have hZ : zg_Z k = 6 * zg_W k := by
      have : k < 6 := by omega
      match k, this with
      | 0, _ => rfl
      | 1, _ => rfl
      | 2, _ => rfl
      | 3, _ => rfl
      | 4, _ => rfl
      | 5, _ => rfl
      | k + 6, h => exact absurd h (by omega)
    have hW : 1 ≤ zg_W k := by
      have : k < 6 := by omega
      match k, this with
      | 0, _ => decide
      | 1, _ => decide
      | 2, _ => decide
      | 3, _ => decide
      | 4, _ => decide
      | 5, _ => decide
      | k + 6, h => exact absurd h (by omega)
    have p := zg_pre (by omega) hm hn ha he (by omega) c
    have e0 := zg_lo_congr (a := a) (e := e) p
    have r0 := zg_r_in hn ha 0
    have r1 := zg_r_in hn ha 1
    have r2 := zg_r_in hn ha 2
    have r3 := zg_r_in hn ha 3
    have r4 := zg_r_in hn ha 4
    have r5 := zg_r_in hn ha 5
    have rr : ∀ j : Nat, zg_r a k j = if j < k then zg_r a m j else 0 := fun j => by
      unfold zg_r
      by_cases d : j < k
      · rw [if_pos d, if_pos d, if_pos (by omega)]
      · rw [if_neg d, if_neg d]
    have k6 : k < 6 := by omega
    rw [← e0, zg_lo6 (show k ≤ 6 by omega), rr 0, rr 1, rr 2, rr 3, rr 4, rr 5] at h1 ⊢
    rw [zg_lo6 hm] at h1 ⊢
    match k, k6 with
    | 0, _ => simp only [zg_W] at h1 ⊢; simp at h1 ⊢; omega
    | 1, _ => simp only [zg_W] at h1 ⊢; simp at h1 ⊢; omega
    | 2, _ => simp only [zg_W] at h1 ⊢; simp at h1 ⊢; omega
    | 3, _ => simp only [zg_W] at h1 ⊢; simp at h1 ⊢; omega
    | 4, _ => simp only [zg_W] at h1 ⊢; simp at h1 ⊢; omega
    | 5, _ => simp only [zg_W] at h1 ⊢; simp at h1 ⊢; omega
    | k + 6, h => exact absurd h (by omega)
  · have hZ : zg_Z k = 6 * zg_W k := by
      have : k < 6 := by omega
      match k, this with
      | 0, _ => rfl
      | 1, _ => rfl
      | 2, _ => rfl
      | 3, _ => rfl
      | 4, _ => rfl
      | 5, _ => rfl
      | k + 6, h => exact absurd h (by omega)
    have : k < 6 := by omega
    match k, this with
    | 0, _ => have w : zg_W 0 = 7776 := rfl; rw [w] at hZ ⊢; omega
    | 1, _ => have w : zg_W 1 = 1296 := rfl; rw [w] at hZ ⊢; omega
    | 2, _ => have w : zg_W 2 = 216 := rfl; rw [w] at hZ ⊢; omega
    | 3, _ => have w : zg_W 3 = 36 := rfl; rw [w] at hZ ⊢; omega
    | 4, _ => have w : zg_W 4 = 6 := rfl; rw [w] at hZ ⊢; omega
    | 5, _ => have w : zg_W 5 = 1 := rfl; rw [w] at hZ ⊢; omega
    | k + 6, h => exact absurd h (by omega)
end
