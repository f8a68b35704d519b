noncomputable section
/-! BEDS: what the rules of beds say (wip/p41/beds.py, bedpf.py) -/
theorem zg_pop64 : ∀ x : Fin 64, (zx_F 102 [] [(x.val : Int)] 0).1 = [0, (zg_pop x.val : Int)] := by decide +kernel
theorem zg_and64 : ∀ a b : Fin 64, zx_o32 4 (Int32.ofInt (a.val : Int)) (Int32.ofInt (b.val : Int)) = Int32.ofInt ((a.val &&& b.val : Nat) : Int) := by decide +kernel
theorem zg_xor64 : ∀ a b : Fin 64, Int32.ofInt (a.val : Int) ^^^ Int32.ofInt (b.val : Int) = Int32.ofInt ((a.val ^^^ b.val : Nat) : Int) := by decide +kernel
theorem zg_bit64 : ∀ (s : Fin 64) (k : Fin 6), zx_o32 4 (zx_o32 8 (Int32.ofInt (s.val : Int)) (Int32.ofInt (k.val : Int))) (Int32.ofInt 1) = if s.val.testBit k.val then Int32.ofInt 1 else Int32.ofInt 0 := by decide +kernel
theorem zg_shl6 : ∀ m : Fin 7, zx_o32 6 (Int32.ofInt 1) (Int32.ofInt (m.val : Int)) = Int32.ofInt ((2 ^ m.val : Nat) : Int) := by decide +kernel
theorem zg_or6 : ∀ (k : Fin 6) (w : Fin 64), w.val < 2 ^ k.val → zx_op 85 (w.val : Int) (zx_op 88 1 (k.val : Int)) = ((w.val + 2 ^ k.val : Nat) : Int) := by decide +kernel
def zg_subs (s : Nat) : List Nat := (List.range 64).filter fun q => Nat.beq (q &&& s) q
def zg_chk (s : Nat) : Bool := (zg_subs s).all fun o => Nat.beq o 0 || (zg_subs s).all fun q => Nat.beq q 0 || (Nat.ble (((o - 1) &&& s) + 1) q == Nat.ble o q)
theorem zg_chk64 : ∀ s : Fin 64, zg_chk s.val = true := by decide +kernel
theorem zg_subs_in {s q : Nat} (hq : q < 64) (h : q &&& s = q) : q ∈ zg_subs s := by
  unfold zg_subs
  rw [List.mem_filter]
  exact ⟨List.mem_range.mpr hq, by rw [h]; exact Nat.beq_refl q⟩
/-- the part behind a part -/
theorem zg_next {s o q : Nat} (hs : s < 64) (ho : o &&& s = o) (o0 : 0 < o) (o6 : o < 64) (hq : q &&& s = q) (q0 : 0 < q) : ((o - 1) &&& s) + 1 ≤ q ↔ o ≤ q := by
  have q6 : q < 64 := by
    have := Nat.and_le_right (n := q) (m := s)
    omega
  have c := zg_chk64 ⟨s, hs⟩
  have c := List.all_eq_true.mp c o (zg_subs_in o6 ho)
  rw [Bool.or_eq_true] at c
  rcases c with c | c
  · have := Nat.eq_of_beq_eq_true c
    omega
  · have c := List.all_eq_true.mp c q (zg_subs_in q6 hq)
    rw [Bool.or_eq_true] at c
    rcases c with c | c
    · have := Nat.eq_of_beq_eq_true c
      omega
    · have c := eq_of_beq c
      constructor
      · intro h
        rw [Nat.ble_eq.mpr h] at c
        exact Nat.ble_eq.mp c.symm
      · intro h
        rw [Nat.ble_eq.mpr h] at c
        exact Nat.ble_eq.mp c
theorem zg_i32w {x y : Int} (h : Int32.ofInt x = Int32.ofInt y) (x0 : -2147483648 ≤ x) (x1 : x ≤ 2147483647) (y0 : 0 ≤ y) (y1 : y ≤ 1000000) : x = y := by
  have e1 : (Int32.ofInt x).toInt = x := Int32.toInt_ofInt_of_le (by omega) (by omega)
  have e2 : (Int32.ofInt y).toInt = y := Int32.toInt_ofInt_of_le (by omega) (by omega)
  rw [← e1, h, e2]
theorem zg_i32 {x y : Int} (h : Int32.ofInt x = Int32.ofInt y) (x0 : 0 ≤ x) (x1 : x ≤ 1000000) (y0 : 0 ≤ y) (y1 : y ≤ 1000000) : x = y := by
  have e1 : (Int32.ofInt x).toInt = x := Int32.toInt_ofInt_of_le (by omega) (by omega)
  have e2 : (Int32.ofInt y).toInt = y := Int32.toInt_ofInt_of_le (by omega) (by omega)
  rw [← e1, h, e2]
theorem zg_quo {x c : Int} (x0 : 0 ≤ x) (x1 : x ≤ 1000000) (c0 : 1 ≤ c) (c1 : c ≤ 1000000) : Int32.ofInt x / Int32.ofInt c = Int32.ofInt (x / c) := by
  have e1 : (Int32.ofInt x).toInt = x := Int32.toInt_ofInt_of_le (by omega) (by omega)
  have e2 : (Int32.ofInt c).toInt = c := Int32.toInt_ofInt_of_le (by omega) (by omega)
  have q0 : 0 ≤ x / c := Int.ediv_nonneg x0 (by omega)
  have q1 : x / c ≤ x := Int.ediv_le_self c x0
  have e3 : (Int32.ofInt (x / c)).toInt = x / c := Int32.toInt_ofInt_of_le (by omega) (by omega)
  rw [← Int32.toInt_inj, Int32.toInt_div, e1, e2, e3, Int.tdiv_eq_ediv_of_nonneg x0]
  exact Int.bmod_eq_of_le (by omega) (by omega)
theorem zg_div {x c w : Int} (h : Int32.ofInt w = zx_o32 (2 : Int).toNat (Int32.ofInt x) (Int32.ofInt c)) (x0 : 0 ≤ x) (x1 : x ≤ 1000000) (c0 : 1 ≤ c) (c1 : c ≤ 1000000) (w0 : 0 ≤ w) (w1 : w ≤ 1000000) : w = x / c := by
  have h : Int32.ofInt w = Int32.ofInt x / Int32.ofInt c := h
  rw [zg_quo x0 x1 c0 c1] at h
  have q0 : 0 ≤ x / c := Int.ediv_nonneg x0 (by omega)
  have q1 : x / c ≤ x := Int.ediv_le_self c x0
  exact zg_i32 h w0 w1 q0 (by omega)
theorem zg_rem {x c w : Int} (h : Int32.ofInt w = zx_o32 (3 : Int).toNat (Int32.ofInt x) (Int32.ofInt c)) (x0 : 0 ≤ x) (x1 : x ≤ 1000000) (c0 : 1 ≤ c) (c1 : c ≤ 1000000) (w0 : 0 ≤ w) (w1 : w ≤ 1000000) : w = x % c := by
  have h : Int32.ofInt w = Int32.ofInt x - Int32.ofInt x / Int32.ofInt c * Int32.ofInt c := h
  rw [zg_quo x0 x1 c0 c1, ← Int32.ofInt_mul, ← Int32.ofInt_sub] at h
  have m0 : 0 ≤ x % c := Int.emod_nonneg x (by omega)
  have m1 : x % c < c := Int.emod_lt_of_pos x (by omega)
  have e := Int.emod_add_mul_ediv x c
  have e2 : x - x / c * c = x % c := by
    rw [Int.mul_comm]
    omega
  rw [e2] at h
  exact zg_i32 h w0 w1 m0 (by omega)
/-- what all parts come to at most is the most -/
theorem zg_mx_eq {w h w' h' : Nat → Int} {s : Nat} {m : Int} (hw : ∀ x : Nat, x ≤ s → w x = w' x) (hh : ∀ x : Nat, x ≤ s → h x = h' x) (a : w s ≤ m) (b : ∀ q : Nat, 0 < q → q &&& s = q → 1 ≤ (q : Int) → w (s ^^^ q) + h q ≤ m) (c : m = w s ∨ ∃ q : Nat, 0 < q ∧ q &&& s = q ∧ 1 ≤ (q : Int) ∧ m = w (s ^^^ q) + h q) : m = zg_mx w' h' s s := by
  have le : ∀ q : Nat, q &&& s = q → q ≤ s ∧ s ^^^ q ≤ s := fun q hq => by
    have h1 := Nat.and_le_right (n := q) (m := s)
    refine ⟨by omega, ?_⟩
    have e : (s ^^^ q) &&& s = s ^^^ q := by
      apply Nat.eq_of_testBit_eq
      intro i
      rw [Nat.testBit_and, Nat.testBit_xor]
      cases d : q.testBit i with
      | true => rw [zg_sub_of hq d]; rfl
      | false => cases s.testBit i <;> rfl
    have := Nat.and_le_right (n := s ^^^ q) (m := s)
    omega
  have u : m ≤ zg_mx w' h' s s := by
    rcases c with c | ⟨q, q1, q2, q3, q4⟩
    · rw [c, hw s (Nat.le_refl s)]
      exact zg_mx_w
    · obtain ⟨k1, k2⟩ := le q q2
      rw [q4, hw _ k2, hh _ k1]
      exact zg_mx_ge q1 q2 k1
  have v : zg_mx w' h' s s ≤ m := by
    rcases zg_mx_at (w := w') (h := h') (s := s) (n := s) with e | ⟨q, q1, q2, q3, q4⟩
    · rw [e, ← hw s (Nat.le_refl s)]
      exact a
    · obtain ⟨k1, k2⟩ := le q q3
      rw [q4, ← hw _ k2, ← hh _ k1]
      exact b q q1 q3 (by omega)
  omega
/-! bounds of what a set is worth -/
def zg_C (s : Nat) : Int := zg_sm (fun j => if s.testBit j = true then zg_W j * 5 + 46656 else 0) 6
theorem zg_C_le : ∀ s : Fin 64, zg_C s.val ≤ 326591 ∧ 0 ≤ zg_C s.val := by decide +kernel
theorem zg_C_x {s q : Nat} (h : q &&& s = q) : zg_C (s ^^^ q) + zg_C q = zg_C s := by
  unfold zg_C
  rw [← zg_sm_add]
  refine zg_sm_congr fun j _ => ?_
  rw [Nat.testBit_xor]
  cases d : q.testBit j with
  | true => rw [zg_sub_of h d]; simp
  | false => simp
theorem zg_W_in {j : Nat} (hj : j < 6) : 1 ≤ zg_W j := by
  match j, hj with
  | 0, _ => decide
  | 1, _ => decide
  | 2, _ => decide
  | 3, _ => decide
  | 4, _ => decide
  | 5, _ => decide
  | j + 6, h => exact absurd h (by omega)
theorem zg_h_C {night needs blue : Nat → Int} {limit : Int} {m b q : Nat} (hm : m ≤ 6) (hb : b ≤ 5) : 0 ≤ zg_h night needs blue limit m b q ∧ zg_h night needs blue limit m b q ≤ zg_C q := by
  unfold zg_h zg_C
  rw [zg_hs_sm]
  have gen : ∀ k n : Nat, k ≤ n → n ≤ 6 → 0 ≤ zg_sm (fun j => if q.testBit j = true then zg_W j * (5 - (b : Int)) + (if needs j ≤ zg_e night blue limit b q then 46656 else 0) else 0) k ∧ zg_sm (fun j => if q.testBit j = true then zg_W j * (5 - (b : Int)) + (if needs j ≤ zg_e night blue limit b q then 46656 else 0) else 0) k ≤ zg_sm (fun j => if q.testBit j = true then zg_W j * 5 + 46656 else 0) n := by
    intro k n
    induction n generalizing k with
    | zero =>
      intro h _
      have : k = 0 := by omega
      subst this
      exact ⟨Int.le_refl _, Int.le_refl _⟩
    | succ n ih =>
      intro h h6
      have w := zg_W_in (j := n) (by omega)
      have bd : 0 ≤ (if q.testBit n = true then zg_W n * 5 + 46656 else 0) := by split <;> omega
      show 0 ≤ zg_sm _ k ∧ zg_sm _ k ≤ zg_sm _ n + (if q.testBit n = true then zg_W n * 5 + 46656 else 0)
      by_cases e : k = n + 1
      · subst e
        obtain ⟨i1, i2⟩ := ih n (Nat.le_refl n) (by omega)
        have p0 : 0 ≤ zg_W n * (5 - (b : Int)) := Int.mul_nonneg (by omega) (by omega)
        have p1 : zg_W n * (5 - (b : Int)) ≤ zg_W n * 5 := Int.mul_le_mul_of_nonneg_left (by omega) (by omega)
        show 0 ≤ zg_sm _ n + (if q.testBit n = true then zg_W n * (5 - (b : Int)) + (if needs n ≤ zg_e night blue limit b q then 46656 else 0) else 0) ∧ zg_sm _ n + (if q.testBit n = true then zg_W n * (5 - (b : Int)) + (if needs n ≤ zg_e night blue limit b q then 46656 else 0) else 0) ≤ _
        by_cases c : q.testBit n = true
        · rw [if_pos c, if_pos c]
          split <;> omega
        · rw [if_neg c, if_neg c]
          omega
      · obtain ⟨i1, i2⟩ := ih k (by omega) (by omega)
        omega
  exact gen m 6 hm (Nat.le_refl 6)
theorem zg_w_C {night needs blue : Nat → Int} {limit : Int} {m : Nat} (hm : m ≤ 6) : ∀ {b : Nat}, b ≤ 5 → ∀ {s : Nat}, s < 64 → 0 ≤ zg_w (zg_h night needs blue limit m) b s ∧ zg_w (zg_h night needs blue limit m) b s ≤ zg_C s
  | 0, _, s, hs => ⟨Int.le_refl _, (zg_C_le ⟨s, hs⟩).2⟩
  | b + 1, hb, s, hs => by
    show 0 ≤ zg_mx (zg_w (zg_h night needs blue limit m) b) (zg_h night needs blue limit m b) s s ∧ zg_mx (zg_w (zg_h night needs blue limit m) b) (zg_h night needs blue limit m b) s s ≤ zg_C s
    have i := fun (t : Nat) (ht : t < 64) => zg_w_C (night := night) (needs := needs) (blue := blue) (limit := limit) hm (b := b) (by omega) (s := t) ht
    rcases zg_mx_at (w := zg_w (zg_h night needs blue limit m) b) (h := zg_h night needs blue limit m b) (s := s) (n := s) with e | ⟨q, q1, q2, q3, q4⟩
    · rw [e]
      exact i s hs
    · rw [q4]
      have i1 := i (s ^^^ q) (zg_xor_lt hs (by omega))
      have i2 := zg_h_C (night := night) (needs := needs) (blue := blue) (limit := limit) hm (b := b) (q := q) (by omega)
      have i3 := zg_C_x q3
      omega
theorem zg_w_congr {h h' : Nat → Nat → Int} : ∀ {b : Nat}, (∀ b' : Nat, b' < b → ∀ s : Nat, h b' s = h' b' s) → ∀ s : Nat, zg_w h b s = zg_w h' b s
  | 0, _, _ => rfl
  | b + 1, e, s => by
    have i := zg_w_congr (b := b) fun b' hb' => e b' (by omega)
    have gen : ∀ n : Nat, zg_mx (zg_w h b) (h b) s n = zg_mx (zg_w h' b) (h' b) s n := fun n => by
      induction n with
      | zero => exact i s
      | succ n ih =>
        unfold zg_mx
        rw [ih, i, e b (by omega)]
    exact gen s
theorem zg_h_congr {ni n u ni' u' : Nat → Int} {li : Int} {m b : Nat} (h1 : ni b = ni' b) (h2 : u b = u' b) (s : Nat) : zg_h ni n u li m b s = zg_h ni' n u' li m b s := by
  unfold zg_h zg_e
  rw [h1, h2]
/-! who sleeps, counted -/
def zg_bn (f : Nat → Bool) : Nat → Nat
  | 0 => 0
  | k + 1 => zg_bn f k + if f k = true then 2 ^ k else 0
theorem zg_bn_lt {f : Nat → Bool} : ∀ {k : Nat}, zg_bn f k < 2 ^ k
  | 0 => by
    show (0 : Nat) < 2 ^ 0
    decide
  | k + 1 => by
    have i := zg_bn_lt (f := f) (k := k)
    show zg_bn f k + (if f k = true then 2 ^ k else 0) < 2 ^ (k + 1)
    rw [Nat.pow_succ]
    split <;> omega
theorem zg_slr {ni n u be : Nat → Int} {li : Int} {m : Nat} (hm : m ≤ 6) : ∀ {k : Nat}, k ≤ m → zx_F 99 [be, ni, u, n] [(m : Int), li] k = ([0, ((zg_bn (zg_ok ni n u li m be) k : Nat) : Int)], [])
  | 0, _ => zy_slr_0
  | k + 1, hk => by
    have i := zg_slr (ni := ni) (n := n) (u := u) (be := be) (li := li) hm (k := k) (by omega)
    obtain ⟨-, c2, c3⟩ := zy_slr_c i
    have lt := zg_bn_lt (f := zg_ok ni n u li m be) (k := k)
    have p6 : (2 : Nat) ^ k ≤ 2 ^ 5 := Nat.pow_le_pow_right (by omega) (by omega)
    have eo : zg_ok ni n u li m be k = true ↔ (0 ≤ be k ∧ u (be k).toNat + 1 ≤ li ∧ n k ≤ ni (be k).toNat / (zx_cn be (be k) (m : Int).toNat : Int)) := by
      unfold zg_ok
      rw [show (m : Int).toNat = m from rfl]
      simp only [Bool.and_eq_true, decide_eq_true_eq, Bool.not_eq_true', decide_eq_false_iff_not]
      constructor
      · intro q
        exact ⟨q.1.1, by omega, q.2⟩
      · intro q
        exact ⟨⟨q.1, by omega⟩, q.2.2⟩
    by_cases o : zg_ok ni n u li m be k = true
    · have e := c2 (by omega) (eo.mp o)
      rw [e]
      have q := zg_or6 ⟨k, by omega⟩ ⟨zg_bn (zg_ok ni n u li m be) k, by omega⟩ lt
      rw [q]
      show _ = ([0, ((zg_bn (zg_ok ni n u li m be) k + (if zg_ok ni n u li m be k = true then 2 ^ k else 0) : Nat) : Int)], [])
      rw [if_pos o]
    · have e := c3 (by omega) (fun q => o (eo.mpr q))
      rw [e]
      show _ = ([0, ((zg_bn (zg_ok ni n u li m be) k + (if zg_ok ni n u li m be k = true then 2 ^ k else 0) : Nat) : Int)], [])
      rw [if_neg o]
      rfl
theorem zg_bn_pop {f : Nat → Bool} {m : Nat} (hm : m ≤ 6) : (zg_pop (zg_bn f m) : Int) = zg_sm (fun j => if f j = true then 1 else 0) m := by
  have e : zg_bn f m = zg_of (fun j => decide (j < m) && f j) := by
    match m, hm with
    | 0, _ => rfl
    | 1, _ => unfold zg_of; simp only [zg_bn]; cases f 0 <;> rfl
    | 2, _ => unfold zg_of; simp only [zg_bn]; cases f 0 <;> cases f 1 <;> rfl
    | 3, _ => unfold zg_of; simp only [zg_bn]; cases f 0 <;> cases f 1 <;> cases f 2 <;> rfl
    | 4, _ => unfold zg_of; simp only [zg_bn]; cases f 0 <;> cases f 1 <;> cases f 2 <;> cases f 3 <;> rfl
    | 5, _ => unfold zg_of; simp only [zg_bn]; cases f 0 <;> cases f 1 <;> cases f 2 <;> cases f 3 <;> cases f 4 <;> rfl
    | 6, _ => unfold zg_of; simp only [zg_bn]; cases f 0 <;> cases f 1 <;> cases f 2 <;> cases f 3 <;> cases f 4 <;> cases f 5 <;> rfl
    | m + 7, h => exact absurd h (by omega)
  have key : ∀ g : Nat → Bool, zg_pop (zg_of g) = zg_ct g 6 := fun g => by
    unfold zg_pop
    have gen : ∀ n : Nat, n ≤ 6 → zg_ct (fun j => (zg_of g).testBit j) n = zg_ct g n := fun n => by
      induction n with
      | zero => exact fun _ => rfl
      | succ n ih =>
        intro h
        show zg_ct _ n + ((zg_of g).testBit n).toNat = zg_ct g n + (g n).toNat
        rw [ih (by omega), zg_of_bit g (by omega)]
    exact gen 6 (Nat.le_refl 6)
  rw [e, key]
  have up : ∀ n : Nat, (zg_ct (fun j => decide (j < m) && f j) n : Int) = if n ≤ m then zg_sm (fun j => if f j = true then 1 else 0) n else zg_sm (fun j => if f j = true then 1 else 0) m := fun n => by
    induction n with
    | zero =>
      rw [if_pos (Nat.zero_le m)]
      rfl
    | succ n ih =>
      show ((zg_ct (fun j => decide (j < m) && f j) n + (decide (n < m) && f n).toNat : Nat) : Int) = _
      by_cases c : n < m
      · rw [if_pos (show n ≤ m by omega)] at ih
        rw [if_pos (show n + 1 ≤ m by omega), decide_eq_true c, Bool.true_and]
        show _ = zg_sm (fun j => if f j = true then 1 else 0) n + (if f n = true then 1 else 0)
        cases f n
        · simp only [Bool.toNat_false, Bool.false_eq_true, if_false]
          omega
        · simp only [Bool.toNat_true, if_true]
          omega
      · rw [if_neg (show ¬ n + 1 ≤ m by omega), decide_eq_false c, Bool.false_and]
        by_cases d : n = m
        · rw [if_pos (show n ≤ m by omega), d] at ih
          rw [d]
          show ((zg_ct (fun j => decide (j < m) && f j) m + 0 : Nat) : Int) = _
          rw [Nat.add_zero]
          exact ih
        · rw [if_neg (show ¬ n ≤ m by omega)] at ih
          exact ih
  have q := up 6
  by_cases c : (6 : Nat) ≤ m
  · rw [if_pos c] at q
    rw [q, show m = 6 by omega]
  · rw [if_neg c] at q
    exact q
theorem zg_count {ni n u be : Nat → Int} {bo li r is d : Int} {M M2 : List zx_Rw} (b0 : 0 ≤ bo) (b6 : bo ≤ 6) (h1 : zx_F 99 [be, ni, u, n] [bo, li] 9 = ([d, r], M)) (h2 : zx_F 103 [] [r] is.toNat = ([0, 0], M2)) (i0 : 0 ≤ is) (r0 : 0 ≤ r) (r1 : r ≤ 255) : is = zg_cn ni n u li bo.toNat be := by
  have eb : ((bo.toNat : Nat) : Int) = bo := by omega
  have s := zg_slr (ni := ni) (n := n) (u := u) (be := be) (li := li) (m := bo.toNat) (by omega) (Nat.le_refl _)
  rw [eb] at s
  have s2 := (zy_slr_c s).1 (by omega)
  have s3 := zx_F_max s2 (show (1 : Int) ≠ 0 by decide) (show bo.toNat + 1 ≤ 9 by omega)
  rw [h1] at s3
  have er : r = ((zg_bn (zg_ok ni n u li bo.toNat be) bo.toNat : Nat) : Int) := congrArg (fun p => p.1.getD 1 0) s3
  have lt := zg_bn_lt (f := zg_ok ni n u li bo.toNat be) (k := bo.toNat)
  have p6 : (2 : Nat) ^ bo.toNat ≤ 2 ^ 6 := Nat.pow_le_pow_right (by omega) (by omega)
  have b := zy_bits r0 r1 h2
  have p := zg_pop64 ⟨zg_bn (zg_ok ni n u li bo.toNat be) bo.toNat, by omega⟩
  rw [er] at b
  rw [p] at b
  have q : ((zg_pop (zg_bn (zg_ok ni n u li bo.toNat be) bo.toNat) : Nat) : Int) = ((is.toNat : Nat) : Int) := congrArg (fun l => l.getD 1 0) b
  have c := zg_bn_pop (f := zg_ok ni n u li bo.toNat be) (m := bo.toNat) (by omega)
  unfold zg_cn
  omega
theorem zg_cn_0 {ni n u li be m} : 0 ≤ zg_cn ni n u li m be := by
  unfold zg_cn
  have : ∀ k : Nat, 0 ≤ zg_sm (fun j => if zg_ok ni n u li m be j = true then 1 else 0) k := fun k => by
    induction k with
    | zero => exact Int.le_refl _
    | succ k ih =>
      show 0 ≤ zg_sm _ k + (if zg_ok ni n u li m be k = true then 1 else 0)
      split <;> omega
  exact this m
theorem zg_lo_s {a : Nat → Int} {k : Nat} : zg_lo a (k + 1) = zg_lo a k + zg_W k * zg_rk (a k) := rfl
theorem zg_ZW {k : Nat} (h : k < 6) : zg_Z k = 6 * zg_W k ∧ zg_Z (k + 1) = zg_W k := by
  match k, h with
  | 0, _ => exact ⟨rfl, rfl⟩
  | 1, _ => exact ⟨rfl, rfl⟩
  | 2, _ => exact ⟨rfl, rfl⟩
  | 3, _ => exact ⟨rfl, rfl⟩
  | 4, _ => exact ⟨rfl, rfl⟩
  | 5, _ => exact ⟨rfl, rfl⟩
  | k + 6, h => exact absurd h (by omega)

theorem zg_r24i_m0 {r0 : Nat → Int} {v0 : Int}  : (zk_S 24 [r0] [0, 1 * v0 + 0] ∧ zk_S 23 [r0, r0] [1 * v0 + 0] ∧ True) ∧ True := by
  simp only [zq_23, zq_24, Int.one_mul, Int.add_zero, and_true, true_and] at *
  exact ⟨fun j hj => by omega, fun j => Or.inr rfl⟩
def zg_r24i_w0 : zi_A := ([], [], [], [(24, [(0, [])], [([], 0), ([((1, []), 1)], 0)]), (23, [(0, []), (0, [])], [([((1, []), 1)], 0)])], [])
theorem zg_r24i_k0 : zi_ok zg_r24i_w0 := fun ρ ν => @zg_r24i_m0 (ρ (0, [])) (ν (1, []))
def zg_r24i : List zi_A := [zg_r24i_w0]
theorem zg_r24i_ok : ∀ A ∈ zg_r24i, zi_ok A := List.forall_mem_cons.mpr ⟨zg_r24i_k0, fun _ h => absurd h List.not_mem_nil⟩

theorem zg_r24s_m0 {r0 r1 r2 : Nat → Int} {v0 v1 v2 v3 : Int} (h0 : zk_S 2 [r0, r1] [v0, v1]) (h1 : zk_S 24 [r1] [1 * v2 + 0, 1 * v3 + 0]) (h2 : zk_S 23 [r1, r2] [1 * v3 + 0]) (c0 : 0 ≤ 1 * v0 + ((-1) * v2 + 0)) (c1 : 0 ≤ (-1) * v0 + (1 * v2 + 0)) (c2 : 0 ≤ 1 * v1 + ((-1) * v3 + 0)) (c3 : 0 ≤ (-1) * v1 + (1 * v3 + 0)) (c4 : 0 ≤ 1 * v2 + 0) : (zk_S 24 [r0] [1 * v2 + 1, 1 * v3 + 0] ∧ zk_S 23 [r0, r2] [1 * v3 + 0] ∧ True) ∧ True := by
  simp only [zq_2, zq_23, zq_24, Int.one_mul, Int.add_zero, and_true, true_and] at *
  subst h0
  refine ⟨fun j hj => ?_, fun j => ?_⟩
  · show (if j = v0.toNat then v1 else r1 j) = v3
    by_cases e : j = v0.toNat
    · rw [if_pos e]
      omega
    · rw [if_neg e]
      exact h1 j (by omega)
  · show (if j = v0.toNat then v1 else r1 j) = v3 ∨ (if j = v0.toNat then v1 else r1 j) = r2 j
    by_cases e : j = v0.toNat
    · rw [if_pos e]
      exact Or.inl (by omega)
    · rw [if_neg e]
      exact h2 j
def zg_r24s_w0 : zi_A := ([((2, [(0, [])], []), 1, 2), ((24, [(5000, [])], [([((2, []), 1)], 0), ([((1, []), 1)], 0)]), 0, 0), ((23, [(5000, [])], [([((1, []), 1)], 0)]), 1, 0)], [([((5000, []), 1), ((2, []), (-1))], 0), ([((5000, []), (-1)), ((2, []), 1)], 0), ([((5001, []), 1), ((1, []), (-1))], 0), ([((5001, []), (-1)), ((1, []), 1)], 0), ([((2, []), 1)], 0)], [], [(24, [(0, [])], [([((2, []), 1)], 1), ([((1, []), 1)], 0)]), (23, [(0, []), (5001, [])], [([((1, []), 1)], 0)])], [])
theorem zg_r24s_k0 : zi_ok zg_r24s_w0 := fun ρ ν => @zg_r24s_m0 (ρ (0, [])) (ρ (5000, [])) (ρ (5001, [])) (ν (5000, [])) (ν (5001, [])) (ν (2, [])) (ν (1, []))
def zg_r24s : List zi_A := [zg_r24s_w0]
theorem zg_r24s_ok : ∀ A ∈ zg_r24s, zi_ok A := List.forall_mem_cons.mpr ⟨zg_r24s_k0, fun _ h => absurd h List.not_mem_nil⟩

theorem zg_r11_m0 {r0 r1 : Nat → Int} {v0 v1 v2 v3 v4 v5 : Int} (h0 : zk_S 90 [] [102, 0, 1 * v0 + 0, 0, v1]) (c0 : 0 ≤ 1 * v1 + ((-1) * v2 + 0)) (c1 : 0 ≤ (-1) * v1 + (1 * v2 + 0)) (c2 : 0 ≤ 1 * v2 + 0) (c3 : 0 ≤ (-1) * v2 + 0) (c4 : 0 ≤ 1 * v3 + 1) (c5 : 0 ≤ (-1) * v3 + (-1)) (c6 : 0 ≤ 1 * v0 + 0) (c7 : 0 ≤ (-1) * v0 + 63) (c8 : 0 ≤ 1 * v4 + 0) : (zk_S 11 [r0, r1] [1 * v5 + 0, 1 * v4 + 0, 1 * v0 + 0, 1 * v3 + 0] ∧ True) ∧ True := by
  simp only [zq_11, zq_90, Int.one_mul, Int.add_zero, and_true, true_and] at *
  have hF : zx_F 102 [] [v0] 0 = ([0, v1], []) := h0.2.2
  have p := zg_pop64 ⟨v0.toNat, by omega⟩
  rw [show (((⟨v0.toNat, by omega⟩ : Fin 64).val : Nat) : Int) = v0 from by show ((v0.toNat : Nat) : Int) = v0; omega, hF] at p
  have ep : v1 = ((zg_pop v0.toNat : Nat) : Int) := congrArg (fun l => l.getD 1 0) p
  unfold zg_k11 zg_e
  rw [if_pos (Or.inl (by omega))]
  omega
def zg_r11_w0 : zi_A := ([((90, [], [([], 102), ([], 0), ([((2, []), 1)], 0), ([], 0)]), 0, 1)], [([((5000, []), 1), ((3, []), (-1))], 0), ([((5000, []), (-1)), ((3, []), 1)], 0), ([((3, []), 1)], 0), ([((3, []), (-1))], 0), ([((4, []), 1)], 1), ([((4, []), (-1))], (-1)), ([((2, []), 1)], 0), ([((2, []), (-1))], 63), ([((1, []), 1)], 0)], [], [(11, [(3003, []), (3004, [])], [([((4001, [4]), 1)], 0), ([((1, []), 1)], 0), ([((2, []), 1)], 0), ([((4, []), 1)], 0)])], [])
theorem zg_r11_k0 : zi_ok zg_r11_w0 := fun ρ ν => @zg_r11_m0 (ρ (3003, [])) (ρ (3004, [])) (ν (2, [])) (ν (5000, [])) (ν (3, [])) (ν (4, [])) (ν (1, [])) (ν (4001, [4]))
theorem zg_r11_m1 {r0 r1 : Nat → Int} {v0 v1 v2 v3 v4 : Int} (h0 : zk_S 1 [r0] [1 * v0 + 0, v1]) (c0 : 0 ≤ 1 * v1 + ((-1) * v2 + 0)) (c1 : 0 ≤ 1 * v0 + 0) (c2 : 0 ≤ 1 * v3 + 1) (c3 : 0 ≤ (-1) * v3 + (-1)) : (zk_S 11 [r1, r0] [1 * v2 + 0, 1 * v0 + 0, 1 * v4 + 0, 1 * v3 + 0] ∧ True) ∧ True := by
  simp only [zq_1, zq_11, Int.one_mul, Int.add_zero, and_true, true_and] at *
  unfold zg_k11 zg_e
  rw [if_pos (Or.inr (by omega))]
  omega
def zg_r11_w1 : zi_A := ([((1, [(3004, [])], [([((1, []), 1)], 0)]), 0, 1)], [([((5000, []), 1), ((4001, [4]), (-1))], 0), ([((1, []), 1)], 0), ([((4, []), 1)], 1), ([((4, []), (-1))], (-1))], [], [(11, [(3003, []), (3004, [])], [([((4001, [4]), 1)], 0), ([((1, []), 1)], 0), ([((2, []), 1)], 0), ([((4, []), 1)], 0)])], [])
theorem zg_r11_k1 : zi_ok zg_r11_w1 := fun ρ ν => @zg_r11_m1 (ρ (3004, [])) (ρ (3003, [])) (ν (1, [])) (ν (5000, [])) (ν (4001, [4])) (ν (4, [])) (ν (2, []))
theorem zg_r11_m2 {r0 r1 : Nat → Int} {v0 v1 v2 v3 v4 v5 v6 v7 v8 : Int} (h0 : zk_S 90 [] [102, 0, 1 * v0 + 0, 0, v1]) (h1 : zk_S 1 [r0] [1 * v2 + 0, v3]) (h2 : zk_S 1 [r1] [1 * v2 + 0, v4]) (h3 : zk_S 6 [] [1 * v4 + 0, 1 * v5 + 0, v6]) (c0 : 0 ≤ 1 * v1 + ((-1) * v5 + 0)) (c1 : 0 ≤ (-1) * v1 + (1 * v5 + 0)) (c2 : 0 ≤ 1 * v5 + (-1)) (c3 : 0 ≤ 1 * v7 + ((-1) * v3 + (-1))) (c4 : 0 ≤ 1 * v0 + 0) (c5 : 0 ≤ (-1) * v0 + 63) (c6 : 0 ≤ 1 * v2 + 0) (c7 : 0 ≤ 1 * v4 + 0) (c8 : 0 ≤ 1 * v8 + ((-1) * v6 + 0)) (c9 : 0 ≤ (-1) * v8 + (1 * v6 + 0)) : (zk_S 11 [r1, r0] [1 * v7 + 0, 1 * v2 + 0, 1 * v0 + 0, 1 * v8 + 0] ∧ True) ∧ True := by
  simp only [zq_1, zq_6, zq_11, zq_90, Int.one_mul, Int.add_zero, and_true, true_and] at *
  have hF : zx_F 102 [] [v0] 0 = ([0, v1], []) := h0.2.2
  have p := zg_pop64 ⟨v0.toNat, by omega⟩
  rw [show (((⟨v0.toNat, by omega⟩ : Fin 64).val : Nat) : Int) = v0 from by show ((v0.toNat : Nat) : Int) = v0; omega, hF] at p
  have ep : v1 = ((zg_pop v0.toNat : Nat) : Int) := congrArg (fun l => l.getD 1 0) p
  unfold zg_k11 zg_e
  rw [if_neg (fun q => by rcases q with q | q <;> omega), ← ep, h2]
  have e6 := h3 (by omega) (by omega)
  rw [show v1 = v5 by omega]
  omega
def zg_r11_w2 : zi_A := ([((90, [], [([], 102), ([], 0), ([((2, []), 1)], 0), ([], 0)]), 0, 1), ((1, [(3004, [])], [([((1, []), 1)], 0)]), 0, 1), ((1, [(3003, [])], [([((1, []), 1)], 0)]), 0, 1), ((6, [], [([((5002, []), 1)], 0), ([((3, []), 1)], 0)]), 0, 1)], [([((5000, []), 1), ((3, []), (-1))], 0), ([((5000, []), (-1)), ((3, []), 1)], 0), ([((3, []), 1)], (-1)), ([((4001, [4]), 1), ((5001, []), (-1))], (-1)), ([((2, []), 1)], 0), ([((2, []), (-1))], 63), ([((1, []), 1)], 0), ([((5002, []), 1)], 0), ([((4, []), 1), ((5003, []), (-1))], 0), ([((4, []), (-1)), ((5003, []), 1)], 0)], [], [(11, [(3003, []), (3004, [])], [([((4001, [4]), 1)], 0), ([((1, []), 1)], 0), ([((2, []), 1)], 0), ([((4, []), 1)], 0)])], [])
theorem zg_r11_k2 : zi_ok zg_r11_w2 := fun ρ ν => @zg_r11_m2 (ρ (3004, [])) (ρ (3003, [])) (ν (2, [])) (ν (5000, [])) (ν (1, [])) (ν (5001, [])) (ν (5002, [])) (ν (3, [])) (ν (5003, [])) (ν (4001, [4])) (ν (4, []))
def zg_r11 : List zi_A := [zg_r11_w0, zg_r11_w1, zg_r11_w2]
theorem zg_r11_ok : ∀ A ∈ zg_r11, zi_ok A := List.forall_mem_cons.mpr ⟨zg_r11_k0, List.forall_mem_cons.mpr ⟨zg_r11_k1, List.forall_mem_cons.mpr ⟨zg_r11_k2, fun _ h => absurd h List.not_mem_nil⟩⟩⟩

theorem zg_r10i_m0 {r0 : Nat → Int} {v0 v1 v2 : Int}  : (zk_S 10 [r0] [1 * v0 + 0, 1 * v1 + 0, 1 * v2 + 0, 0, 0] ∧ True) ∧ True := by
  simp only [zq_10, Int.one_mul, Int.add_zero, and_true, true_and] at *
  exact (rfl : (0 : Int) = zg_hs r0 v0.toNat v2 v1.toNat 0)
def zg_r10i_w0 : zi_A := ([], [], [], [(10, [(3006, [])], [([((1, []), 1)], 0), ([((2, []), 1)], 0), ([((4, []), 1)], 0), ([], 0), ([], 0)])], [])
theorem zg_r10i_k0 : zi_ok zg_r10i_w0 := fun ρ ν => @zg_r10i_m0 (ρ (3006, [])) (ν (1, [])) (ν (2, [])) (ν (4, []))
def zg_r10i : List zi_A := [zg_r10i_w0]
theorem zg_r10i_ok : ∀ A ∈ zg_r10i, zi_ok A := List.forall_mem_cons.mpr ⟨zg_r10i_k0, fun _ h => absurd h List.not_mem_nil⟩

theorem zg_r10s_m0 {r0 : Nat → Int} {v0 v1 v2 v3 v4 v5 v6 v7 : Int} (h0 : zk_S 10 [r0] [1 * v0 + 0, 1 * v1 + 0, 1 * v2 + 0, 1 * v3 + 0, v4]) (h1 : zk_S 80 [] [8, 1 * v1 + 0, 1 * v3 + 0, v5]) (h2 : zk_S 80 [] [4, 1 * v5 + 0, 1, v6]) (c0 : 0 ≤ 1 * v1 + 0) (c1 : 0 ≤ (-1) * v1 + 63) (c2 : 0 ≤ 1 * v3 + 0) (c3 : 0 ≤ (-1) * v3 + 5) (c4 : 0 ≤ 1 * v0 + 0) (c5 : 0 ≤ 1 * v6 + 0) (c6 : 0 ≤ (-1) * v6 + 1) (c7 : 0 ≤ 1 * v6 + 0) (c8 : 0 ≤ (-1) * v6 + 0) (c9 : 0 ≤ 1 * v7 + ((-1) * v4 + 0)) (c10 : 0 ≤ (-1) * v7 + (1 * v4 + 0)) : (zk_S 10 [r0] [1 * v0 + 0, 1 * v1 + 0, 1 * v2 + 0, 1 * v3 + 1, 1 * v7 + 0] ∧ True) ∧ True := by
  simp only [zq_10, zq_80, Int.one_mul, Int.add_zero, and_true, true_and] at *
  have hb : Int32.ofInt v6 = zx_o32 4 (zx_o32 8 (Int32.ofInt v1) (Int32.ofInt v3)) (Int32.ofInt 1) := by
    have e : Int32.ofInt v5 = zx_o32 8 (Int32.ofInt v1) (Int32.ofInt v3) := h1
    rw [← e]
    exact h2
  have b6 := zg_bit64 ⟨v1.toNat, by omega⟩ ⟨v3.toNat, by omega⟩
  rw [show (((⟨v1.toNat, by omega⟩ : Fin 64).val : Nat) : Int) = v1 from by show ((v1.toNat : Nat) : Int) = v1; omega, show (((⟨v3.toNat, by omega⟩ : Fin 6).val : Nat) : Int) = v3 from by show ((v3.toNat : Nat) : Int) = v3; omega, ← hb] at b6
  have b6 : Int32.ofInt v6 = if v1.toNat.testBit v3.toNat = true then Int32.ofInt 1 else Int32.ofInt 0 := b6
  have nb : ¬ v1.toNat.testBit v3.toNat = true := fun q => by
    rw [if_pos q] at b6
    have := zg_i32 b6 (by omega) (by omega) (by omega) (by omega)
    omega
  unfold zg_k10 at h0 ⊢
  rw [show (v3 + 1).toNat = v3.toNat + 1 by omega]
  show v7 = zg_hs r0 v0.toNat v2 v1.toNat v3.toNat + (if v1.toNat.testBit v3.toNat = true then _ else 0)
  rw [if_neg nb, ← h0]
  omega
def zg_r10s_w0 : zi_A := ([((10, [(3006, [])], [([((1, []), 1)], 0), ([((2, []), 1)], 0), ([((4, []), 1)], 0), ([((6, []), 1)], 0)]), 0, 1), ((80, [], [([], 8), ([((2, []), 1)], 0), ([((6, []), 1)], 0)]), 0, 1), ((80, [], [([], 4), ([((5001, []), 1)], 0), ([], 1)]), 0, 1)], [([((2, []), 1)], 0), ([((2, []), (-1))], 63), ([((6, []), 1)], 0), ([((6, []), (-1))], 5), ([((1, []), 1)], 0), ([((5002, []), 1)], 0), ([((5002, []), (-1))], 1), ([((5002, []), 1)], 0), ([((5002, []), (-1))], 0), ([((5, []), 1), ((5000, []), (-1))], 0), ([((5, []), (-1)), ((5000, []), 1)], 0)], [], [(10, [(3006, [])], [([((1, []), 1)], 0), ([((2, []), 1)], 0), ([((4, []), 1)], 0), ([((6, []), 1)], 1), ([((5, []), 1)], 0)])], [])
theorem zg_r10s_k0 : zi_ok zg_r10s_w0 := fun ρ ν => @zg_r10s_m0 (ρ (3006, [])) (ν (1, [])) (ν (2, [])) (ν (4, [])) (ν (6, [])) (ν (5000, [])) (ν (5001, [])) (ν (5002, [])) (ν (5, []))
theorem zg_r10s_m1 {r0 : Nat → Int} {v0 v1 v2 v3 v4 v5 v6 v7 v8 : Int} (h0 : zk_S 10 [r0] [1 * v0 + 0, 1 * v1 + 0, 1 * v2 + 0, 1 * v3 + 0, v4]) (h1 : zk_S 80 [] [8, 1 * v1 + 0, 1 * v3 + 0, v5]) (h2 : zk_S 80 [] [4, 1 * v5 + 0, 1, v6]) (h3 : zk_S 1 [r0] [1 * v3 + 0, v7]) (c0 : 0 ≤ 1 * v1 + 0) (c1 : 0 ≤ (-1) * v1 + 63) (c2 : 0 ≤ 1 * v3 + 0) (c3 : 0 ≤ (-1) * v3 + 5) (c4 : 0 ≤ 1 * v0 + 0) (c5 : 0 ≤ 1 * v6 + 0) (c6 : 0 ≤ (-1) * v6 + 1) (c7 : 0 ≤ 1 * v3 + 0) (c8 : 0 ≤ (-1) * v3 + 0) (c9 : 0 ≤ 1 * v8 + ((-1) * v4 + (7776 * v0 + (-85536)))) (c10 : 0 ≤ (-1) * v8 + (1 * v4 + ((-7776) * v0 + 85536))) (c11 : 0 ≤ 1 * v2 + ((-1) * v7 + 0)) (z0 : 1 * v6 + 0 ≠ 0) : (zk_S 10 [r0] [1 * v0 + 0, 1 * v1 + 0, 1 * v2 + 0, 1 * v3 + 1, 1 * v8 + 0] ∧ True) ∧ True := by
  simp only [zq_1, zq_10, zq_80, Int.one_mul, Int.add_zero, and_true, true_and] at *
  have hb : Int32.ofInt v6 = zx_o32 4 (zx_o32 8 (Int32.ofInt v1) (Int32.ofInt v3)) (Int32.ofInt 1) := by
    have e : Int32.ofInt v5 = zx_o32 8 (Int32.ofInt v1) (Int32.ofInt v3) := h1
    rw [← e]
    exact h2
  have b6 := zg_bit64 ⟨v1.toNat, by omega⟩ ⟨v3.toNat, by omega⟩
  rw [show (((⟨v1.toNat, by omega⟩ : Fin 64).val : Nat) : Int) = v1 from by show ((v1.toNat : Nat) : Int) = v1; omega, show (((⟨v3.toNat, by omega⟩ : Fin 6).val : Nat) : Int) = v3 from by show ((v3.toNat : Nat) : Int) = v3; omega, ← hb] at b6
  have b6 : Int32.ofInt v6 = if v1.toNat.testBit v3.toNat = true then Int32.ofInt 1 else Int32.ofInt 0 := b6
  have yb : v1.toNat.testBit v3.toNat = true := by
    by_cases q : v1.toNat.testBit v3.toNat = true
    · exact q
    · rw [if_neg q] at b6
      have := zg_i32 b6 (by omega) (by omega) (by omega) (by omega)
      omega
  unfold zg_k10 at h0 ⊢
  rw [show (v3 + 1).toNat = v3.toNat + 1 by omega]
  show v8 = zg_hs r0 v0.toNat v2 v1.toNat v3.toNat + (if v1.toNat.testBit v3.toNat = true then zg_W v3.toNat * (5 - ((v0.toNat : Nat) : Int)) + (if r0 v3.toNat ≤ v2 then 46656 else 0) else 0)
  rw [if_pos yb, ← h0, h3, if_pos (by omega), show v3.toNat = 0 by omega, show zg_W 0 = 7776 from rfl]
  omega
def zg_r10s_w1 : zi_A := ([((10, [(3006, [])], [([((1, []), 1)], 0), ([((2, []), 1)], 0), ([((4, []), 1)], 0), ([((6, []), 1)], 0)]), 0, 1), ((80, [], [([], 8), ([((2, []), 1)], 0), ([((6, []), 1)], 0)]), 0, 1), ((80, [], [([], 4), ([((5001, []), 1)], 0), ([], 1)]), 0, 1), ((1, [(3006, [])], [([((6, []), 1)], 0)]), 0, 1)], [([((2, []), 1)], 0), ([((2, []), (-1))], 63), ([((6, []), 1)], 0), ([((6, []), (-1))], 5), ([((1, []), 1)], 0), ([((5002, []), 1)], 0), ([((5002, []), (-1))], 1), ([((6, []), 1)], 0), ([((6, []), (-1))], 0), ([((5, []), 1), ((5000, []), (-1)), ((1, []), 7776)], (-85536)), ([((5, []), (-1)), ((5000, []), 1), ((1, []), (-7776))], 85536), ([((4, []), 1), ((5003, []), (-1))], 0)], [([((5002, []), 1)], 0)], [(10, [(3006, [])], [([((1, []), 1)], 0), ([((2, []), 1)], 0), ([((4, []), 1)], 0), ([((6, []), 1)], 1), ([((5, []), 1)], 0)])], [])
theorem zg_r10s_k1 : zi_ok zg_r10s_w1 := fun ρ ν => @zg_r10s_m1 (ρ (3006, [])) (ν (1, [])) (ν (2, [])) (ν (4, [])) (ν (6, [])) (ν (5000, [])) (ν (5001, [])) (ν (5002, [])) (ν (5003, [])) (ν (5, []))
theorem zg_r10s_m2 {r0 : Nat → Int} {v0 v1 v2 v3 v4 v5 v6 v7 v8 : Int} (h0 : zk_S 10 [r0] [1 * v0 + 0, 1 * v1 + 0, 1 * v2 + 0, 1 * v3 + 0, v4]) (h1 : zk_S 80 [] [8, 1 * v1 + 0, 1 * v3 + 0, v5]) (h2 : zk_S 80 [] [4, 1 * v5 + 0, 1, v6]) (h3 : zk_S 1 [r0] [1 * v3 + 0, v7]) (c0 : 0 ≤ 1 * v1 + 0) (c1 : 0 ≤ (-1) * v1 + 63) (c2 : 0 ≤ 1 * v3 + 0) (c3 : 0 ≤ (-1) * v3 + 5) (c4 : 0 ≤ 1 * v0 + 0) (c5 : 0 ≤ 1 * v6 + 0) (c6 : 0 ≤ (-1) * v6 + 1) (c7 : 0 ≤ 1 * v3 + 0) (c8 : 0 ≤ (-1) * v3 + 0) (c9 : 0 ≤ 1 * v8 + ((-1) * v4 + (7776 * v0 + (-38880)))) (c10 : 0 ≤ (-1) * v8 + (1 * v4 + ((-7776) * v0 + 38880))) (c11 : 0 ≤ 1 * v7 + ((-1) * v2 + (-1))) (z0 : 1 * v6 + 0 ≠ 0) : (zk_S 10 [r0] [1 * v0 + 0, 1 * v1 + 0, 1 * v2 + 0, 1 * v3 + 1, 1 * v8 + 0] ∧ True) ∧ True := by
  simp only [zq_1, zq_10, zq_80, Int.one_mul, Int.add_zero, and_true, true_and] at *
  have hb : Int32.ofInt v6 = zx_o32 4 (zx_o32 8 (Int32.ofInt v1) (Int32.ofInt v3)) (Int32.ofInt 1) := by
    have e : Int32.ofInt v5 = zx_o32 8 (Int32.ofInt v1) (Int32.ofInt v3) := h1
    rw [← e]
    exact h2
  have b6 := zg_bit64 ⟨v1.toNat, by omega⟩ ⟨v3.toNat, by omega⟩
  rw [show (((⟨v1.toNat, by omega⟩ : Fin 64).val : Nat) : Int) = v1 from by show ((v1.toNat : Nat) : Int) = v1; omega, show (((⟨v3.toNat, by omega⟩ : Fin 6).val : Nat) : Int) = v3 from by show ((v3.toNat : Nat) : Int) = v3; omega, ← hb] at b6
  have b6 : Int32.ofInt v6 = if v1.toNat.testBit v3.toNat = true then Int32.ofInt 1 else Int32.ofInt 0 := b6
  have yb : v1.toNat.testBit v3.toNat = true := by
    by_cases q : v1.toNat.testBit v3.toNat = true
    · exact q
    · rw [if_neg q] at b6
      have := zg_i32 b6 (by omega) (by omega) (by omega) (by omega)
      omega
  unfold zg_k10 at h0 ⊢
  rw [show (v3 + 1).toNat = v3.toNat + 1 by omega]
  show v8 = zg_hs r0 v0.toNat v2 v1.toNat v3.toNat + (if v1.toNat.testBit v3.toNat = true then zg_W v3.toNat * (5 - ((v0.toNat : Nat) : Int)) + (if r0 v3.toNat ≤ v2 then 46656 else 0) else 0)
  rw [if_pos yb, ← h0, h3, if_neg (by omega), show v3.toNat = 0 by omega, show zg_W 0 = 7776 from rfl]
  omega
def zg_r10s_w2 : zi_A := ([((10, [(3006, [])], [([((1, []), 1)], 0), ([((2, []), 1)], 0), ([((4, []), 1)], 0), ([((6, []), 1)], 0)]), 0, 1), ((80, [], [([], 8), ([((2, []), 1)], 0), ([((6, []), 1)], 0)]), 0, 1), ((80, [], [([], 4), ([((5001, []), 1)], 0), ([], 1)]), 0, 1), ((1, [(3006, [])], [([((6, []), 1)], 0)]), 0, 1)], [([((2, []), 1)], 0), ([((2, []), (-1))], 63), ([((6, []), 1)], 0), ([((6, []), (-1))], 5), ([((1, []), 1)], 0), ([((5002, []), 1)], 0), ([((5002, []), (-1))], 1), ([((6, []), 1)], 0), ([((6, []), (-1))], 0), ([((5, []), 1), ((5000, []), (-1)), ((1, []), 7776)], (-38880)), ([((5, []), (-1)), ((5000, []), 1), ((1, []), (-7776))], 38880), ([((5003, []), 1), ((4, []), (-1))], (-1))], [([((5002, []), 1)], 0)], [(10, [(3006, [])], [([((1, []), 1)], 0), ([((2, []), 1)], 0), ([((4, []), 1)], 0), ([((6, []), 1)], 1), ([((5, []), 1)], 0)])], [])
theorem zg_r10s_k2 : zi_ok zg_r10s_w2 := fun ρ ν => @zg_r10s_m2 (ρ (3006, [])) (ν (1, [])) (ν (2, [])) (ν (4, [])) (ν (6, [])) (ν (5000, [])) (ν (5001, [])) (ν (5002, [])) (ν (5003, [])) (ν (5, []))
theorem zg_r10s_m3 {r0 : Nat → Int} {v0 v1 v2 v3 v4 v5 v6 v7 v8 : Int} (h0 : zk_S 10 [r0] [1 * v0 + 0, 1 * v1 + 0, 1 * v2 + 0, 1 * v3 + 0, v4]) (h1 : zk_S 80 [] [8, 1 * v1 + 0, 1 * v3 + 0, v5]) (h2 : zk_S 80 [] [4, 1 * v5 + 0, 1, v6]) (h3 : zk_S 1 [r0] [1 * v3 + 0, v7]) (c0 : 0 ≤ 1 * v1 + 0) (c1 : 0 ≤ (-1) * v1 + 63) (c2 : 0 ≤ 1 * v3 + 0) (c3 : 0 ≤ (-1) * v3 + 5) (c4 : 0 ≤ 1 * v0 + 0) (c5 : 0 ≤ 1 * v6 + 0) (c6 : 0 ≤ (-1) * v6 + 1) (c7 : 0 ≤ 1 * v3 + (-1)) (c8 : 0 ≤ (-1) * v3 + 1) (c9 : 0 ≤ 1 * v8 + ((-1) * v4 + (1296 * v0 + (-53136)))) (c10 : 0 ≤ (-1) * v8 + (1 * v4 + ((-1296) * v0 + 53136))) (c11 : 0 ≤ 1 * v2 + ((-1) * v7 + 0)) (z0 : 1 * v6 + 0 ≠ 0) : (zk_S 10 [r0] [1 * v0 + 0, 1 * v1 + 0, 1 * v2 + 0, 1 * v3 + 1, 1 * v8 + 0] ∧ True) ∧ True := by
  simp only [zq_1, zq_10, zq_80, Int.one_mul, Int.add_zero, and_true, true_and] at *
  have hb : Int32.ofInt v6 = zx_o32 4 (zx_o32 8 (Int32.ofInt v1) (Int32.ofInt v3)) (Int32.ofInt 1) := by
    have e : Int32.ofInt v5 = zx_o32 8 (Int32.ofInt v1) (Int32.ofInt v3) := h1
    rw [← e]
    exact h2
  have b6 := zg_bit64 ⟨v1.toNat, by omega⟩ ⟨v3.toNat, by omega⟩
  rw [show (((⟨v1.toNat, by omega⟩ : Fin 64).val : Nat) : Int) = v1 from by show ((v1.toNat : Nat) : Int) = v1; omega, show (((⟨v3.toNat, by omega⟩ : Fin 6).val : Nat) : Int) = v3 from by show ((v3.toNat : Nat) : Int) = v3; omega, ← hb] at b6
  have b6 : Int32.ofInt v6 = if v1.toNat.testBit v3.toNat = true then Int32.ofInt 1 else Int32.ofInt 0 := b6
  have yb : v1.toNat.testBit v3.toNat = true := by
    by_cases q : v1.toNat.testBit v3.toNat = true
    · exact q
    · rw [if_neg q] at b6
      have := zg_i32 b6 (by omega) (by omega) (by omega) (by omega)
      omega
  unfold zg_k10 at h0 ⊢
  rw [show (v3 + 1).toNat = v3.toNat + 1 by omega]
  show v8 = zg_hs r0 v0.toNat v2 v1.toNat v3.toNat + (if v1.toNat.testBit v3.toNat = true then zg_W v3.toNat * (5 - ((v0.toNat : Nat) : Int)) + (if r0 v3.toNat ≤ v2 then 46656 else 0) else 0)
  rw [if_pos yb, ← h0, h3, if_pos (by omega), show v3.toNat = 1 by omega, show zg_W 1 = 1296 from rfl]
  omega
def zg_r10s_w3 : zi_A := ([((10, [(3006, [])], [([((1, []), 1)], 0), ([((2, []), 1)], 0), ([((4, []), 1)], 0), ([((6, []), 1)], 0)]), 0, 1), ((80, [], [([], 8), ([((2, []), 1)], 0), ([((6, []), 1)], 0)]), 0, 1), ((80, [], [([], 4), ([((5001, []), 1)], 0), ([], 1)]), 0, 1), ((1, [(3006, [])], [([((6, []), 1)], 0)]), 0, 1)], [([((2, []), 1)], 0), ([((2, []), (-1))], 63), ([((6, []), 1)], 0), ([((6, []), (-1))], 5), ([((1, []), 1)], 0), ([((5002, []), 1)], 0), ([((5002, []), (-1))], 1), ([((6, []), 1)], (-1)), ([((6, []), (-1))], 1), ([((5, []), 1), ((5000, []), (-1)), ((1, []), 1296)], (-53136)), ([((5, []), (-1)), ((5000, []), 1), ((1, []), (-1296))], 53136), ([((4, []), 1), ((5003, []), (-1))], 0)], [([((5002, []), 1)], 0)], [(10, [(3006, [])], [([((1, []), 1)], 0), ([((2, []), 1)], 0), ([((4, []), 1)], 0), ([((6, []), 1)], 1), ([((5, []), 1)], 0)])], [])
theorem zg_r10s_k3 : zi_ok zg_r10s_w3 := fun ρ ν => @zg_r10s_m3 (ρ (3006, [])) (ν (1, [])) (ν (2, [])) (ν (4, [])) (ν (6, [])) (ν (5000, [])) (ν (5001, [])) (ν (5002, [])) (ν (5003, [])) (ν (5, []))
theorem zg_r10s_m4 {r0 : Nat → Int} {v0 v1 v2 v3 v4 v5 v6 v7 v8 : Int} (h0 : zk_S 10 [r0] [1 * v0 + 0, 1 * v1 + 0, 1 * v2 + 0, 1 * v3 + 0, v4]) (h1 : zk_S 80 [] [8, 1 * v1 + 0, 1 * v3 + 0, v5]) (h2 : zk_S 80 [] [4, 1 * v5 + 0, 1, v6]) (h3 : zk_S 1 [r0] [1 * v3 + 0, v7]) (c0 : 0 ≤ 1 * v1 + 0) (c1 : 0 ≤ (-1) * v1 + 63) (c2 : 0 ≤ 1 * v3 + 0) (c3 : 0 ≤ (-1) * v3 + 5) (c4 : 0 ≤ 1 * v0 + 0) (c5 : 0 ≤ 1 * v6 + 0) (c6 : 0 ≤ (-1) * v6 + 1) (c7 : 0 ≤ 1 * v3 + (-1)) (c8 : 0 ≤ (-1) * v3 + 1) (c9 : 0 ≤ 1 * v8 + ((-1) * v4 + (1296 * v0 + (-6480)))) (c10 : 0 ≤ (-1) * v8 + (1 * v4 + ((-1296) * v0 + 6480))) (c11 : 0 ≤ 1 * v7 + ((-1) * v2 + (-1))) (z0 : 1 * v6 + 0 ≠ 0) : (zk_S 10 [r0] [1 * v0 + 0, 1 * v1 + 0, 1 * v2 + 0, 1 * v3 + 1, 1 * v8 + 0] ∧ True) ∧ True := by
  simp only [zq_1, zq_10, zq_80, Int.one_mul, Int.add_zero, and_true, true_and] at *
  have hb : Int32.ofInt v6 = zx_o32 4 (zx_o32 8 (Int32.ofInt v1) (Int32.ofInt v3)) (Int32.ofInt 1) := by
    have e : Int32.ofInt v5 = zx_o32 8 (Int32.ofInt v1) (Int32.ofInt v3) := h1
    rw [← e]
    exact h2
  have b6 := zg_bit64 ⟨v1.toNat, by omega⟩ ⟨v3.toNat, by omega⟩
  rw [show (((⟨v1.toNat, by omega⟩ : Fin 64).val : Nat) : Int) = v1 from by show ((v1.toNat : Nat) : Int) = v1; omega, show (((⟨v3.toNat, by omega⟩ : Fin 6).val : Nat) : Int) = v3 from by show ((v3.toNat : Nat) : Int) = v3; omega, ← hb] at b6
  have b6 : Int32.ofInt v6 = if v1.toNat.testBit v3.toNat = true then Int32.ofInt 1 else Int32.ofInt 0 := b6
  have yb : v1.toNat.testBit v3.toNat = true := by
    by_cases q : v1.toNat.testBit v3.toNat = true
    · exact q
    · rw [if_neg q] at b6
      have := zg_i32 b6 (by omega) (by omega) (by omega) (by omega)
      omega
  unfold zg_k10 at h0 ⊢
  rw [show (v3 + 1).toNat = v3.toNat + 1 by omega]
  show v8 = zg_hs r0 v0.toNat v2 v1.toNat v3.toNat + (if v1.toNat.testBit v3.toNat = true then zg_W v3.toNat * (5 - ((v0.toNat : Nat) : Int)) + (if r0 v3.toNat ≤ v2 then 46656 else 0) else 0)
  rw [if_pos yb, ← h0, h3, if_neg (by omega), show v3.toNat = 1 by omega, show zg_W 1 = 1296 from rfl]
  omega
def zg_r10s_w4 : zi_A := ([((10, [(3006, [])], [([((1, []), 1)], 0), ([((2, []), 1)], 0), ([((4, []), 1)], 0), ([((6, []), 1)], 0)]), 0, 1), ((80, [], [([], 8), ([((2, []), 1)], 0), ([((6, []), 1)], 0)]), 0, 1), ((80, [], [([], 4), ([((5001, []), 1)], 0), ([], 1)]), 0, 1), ((1, [(3006, [])], [([((6, []), 1)], 0)]), 0, 1)], [([((2, []), 1)], 0), ([((2, []), (-1))], 63), ([((6, []), 1)], 0), ([((6, []), (-1))], 5), ([((1, []), 1)], 0), ([((5002, []), 1)], 0), ([((5002, []), (-1))], 1), ([((6, []), 1)], (-1)), ([((6, []), (-1))], 1), ([((5, []), 1), ((5000, []), (-1)), ((1, []), 1296)], (-6480)), ([((5, []), (-1)), ((5000, []), 1), ((1, []), (-1296))], 6480), ([((5003, []), 1), ((4, []), (-1))], (-1))], [([((5002, []), 1)], 0)], [(10, [(3006, [])], [([((1, []), 1)], 0), ([((2, []), 1)], 0), ([((4, []), 1)], 0), ([((6, []), 1)], 1), ([((5, []), 1)], 0)])], [])
theorem zg_r10s_k4 : zi_ok zg_r10s_w4 := fun ρ ν => @zg_r10s_m4 (ρ (3006, [])) (ν (1, [])) (ν (2, [])) (ν (4, [])) (ν (6, [])) (ν (5000, [])) (ν (5001, [])) (ν (5002, [])) (ν (5003, [])) (ν (5, []))
theorem zg_r10s_m5 {r0 : Nat → Int} {v0 v1 v2 v3 v4 v5 v6 v7 v8 : Int} (h0 : zk_S 10 [r0] [1 * v0 + 0, 1 * v1 + 0, 1 * v2 + 0, 1 * v3 + 0, v4]) (h1 : zk_S 80 [] [8, 1 * v1 + 0, 1 * v3 + 0, v5]) (h2 : zk_S 80 [] [4, 1 * v5 + 0, 1, v6]) (h3 : zk_S 1 [r0] [1 * v3 + 0, v7]) (c0 : 0 ≤ 1 * v1 + 0) (c1 : 0 ≤ (-1) * v1 + 63) (c2 : 0 ≤ 1 * v3 + 0) (c3 : 0 ≤ (-1) * v3 + 5) (c4 : 0 ≤ 1 * v0 + 0) (c5 : 0 ≤ 1 * v6 + 0) (c6 : 0 ≤ (-1) * v6 + 1) (c7 : 0 ≤ 1 * v3 + (-2)) (c8 : 0 ≤ (-1) * v3 + 2) (c9 : 0 ≤ 1 * v8 + ((-1) * v4 + (216 * v0 + (-47736)))) (c10 : 0 ≤ (-1) * v8 + (1 * v4 + ((-216) * v0 + 47736))) (c11 : 0 ≤ 1 * v2 + ((-1) * v7 + 0)) (z0 : 1 * v6 + 0 ≠ 0) : (zk_S 10 [r0] [1 * v0 + 0, 1 * v1 + 0, 1 * v2 + 0, 1 * v3 + 1, 1 * v8 + 0] ∧ True) ∧ True := by
  simp only [zq_1, zq_10, zq_80, Int.one_mul, Int.add_zero, and_true, true_and] at *
  have hb : Int32.ofInt v6 = zx_o32 4 (zx_o32 8 (Int32.ofInt v1) (Int32.ofInt v3)) (Int32.ofInt 1) := by
    have e : Int32.ofInt v5 = zx_o32 8 (Int32.ofInt v1) (Int32.ofInt v3) := h1
    rw [← e]
    exact h2
  have b6 := zg_bit64 ⟨v1.toNat, by omega⟩ ⟨v3.toNat, by omega⟩
  rw [show (((⟨v1.toNat, by omega⟩ : Fin 64).val : Nat) : Int) = v1 from by show ((v1.toNat : Nat) : Int) = v1; omega, show (((⟨v3.toNat, by omega⟩ : Fin 6).val : Nat) : Int) = v3 from by show ((v3.toNat : Nat) : Int) = v3; omega, ← hb] at b6
  have b6 : Int32.ofInt v6 = if v1.toNat.testBit v3.toNat = true then Int32.ofInt 1 else Int32.ofInt 0 := b6
  have yb : v1.toNat.testBit v3.toNat = true := by
    by_cases q : v1.toNat.testBit v3.toNat = true
    · exact q
    · rw [if_neg q] at b6
      have := zg_i32 b6 (by omega) (by omega) (by omega) (by omega)
      omega
  unfold zg_k10 at h0 ⊢
  rw [show (v3 + 1).toNat = v3.toNat + 1 by omega]
  show v8 = zg_hs r0 v0.toNat v2 v1.toNat v3.toNat + (if v1.toNat.testBit v3.toNat = true then zg_W v3.toNat * (5 - ((v0.toNat : Nat) : Int)) + (if r0 v3.toNat ≤ v2 then 46656 else 0) else 0)
  rw [if_pos yb, ← h0, h3, if_pos (by omega), show v3.toNat = 2 by omega, show zg_W 2 = 216 from rfl]
  omega
def zg_r10s_w5 : zi_A := ([((10, [(3006, [])], [([((1, []), 1)], 0), ([((2, []), 1)], 0), ([((4, []), 1)], 0), ([((6, []), 1)], 0)]), 0, 1), ((80, [], [([], 8), ([((2, []), 1)], 0), ([((6, []), 1)], 0)]), 0, 1), ((80, [], [([], 4), ([((5001, []), 1)], 0), ([], 1)]), 0, 1), ((1, [(3006, [])], [([((6, []), 1)], 0)]), 0, 1)], [([((2, []), 1)], 0), ([((2, []), (-1))], 63), ([((6, []), 1)], 0), ([((6, []), (-1))], 5), ([((1, []), 1)], 0), ([((5002, []), 1)], 0), ([((5002, []), (-1))], 1), ([((6, []), 1)], (-2)), ([((6, []), (-1))], 2), ([((5, []), 1), ((5000, []), (-1)), ((1, []), 216)], (-47736)), ([((5, []), (-1)), ((5000, []), 1), ((1, []), (-216))], 47736), ([((4, []), 1), ((5003, []), (-1))], 0)], [([((5002, []), 1)], 0)], [(10, [(3006, [])], [([((1, []), 1)], 0), ([((2, []), 1)], 0), ([((4, []), 1)], 0), ([((6, []), 1)], 1), ([((5, []), 1)], 0)])], [])
theorem zg_r10s_k5 : zi_ok zg_r10s_w5 := fun ρ ν => @zg_r10s_m5 (ρ (3006, [])) (ν (1, [])) (ν (2, [])) (ν (4, [])) (ν (6, [])) (ν (5000, [])) (ν (5001, [])) (ν (5002, [])) (ν (5003, [])) (ν (5, []))
theorem zg_r10s_m6 {r0 : Nat → Int} {v0 v1 v2 v3 v4 v5 v6 v7 v8 : Int} (h0 : zk_S 10 [r0] [1 * v0 + 0, 1 * v1 + 0, 1 * v2 + 0, 1 * v3 + 0, v4]) (h1 : zk_S 80 [] [8, 1 * v1 + 0, 1 * v3 + 0, v5]) (h2 : zk_S 80 [] [4, 1 * v5 + 0, 1, v6]) (h3 : zk_S 1 [r0] [1 * v3 + 0, v7]) (c0 : 0 ≤ 1 * v1 + 0) (c1 : 0 ≤ (-1) * v1 + 63) (c2 : 0 ≤ 1 * v3 + 0) (c3 : 0 ≤ (-1) * v3 + 5) (c4 : 0 ≤ 1 * v0 + 0) (c5 : 0 ≤ 1 * v6 + 0) (c6 : 0 ≤ (-1) * v6 + 1) (c7 : 0 ≤ 1 * v3 + (-2)) (c8 : 0 ≤ (-1) * v3 + 2) (c9 : 0 ≤ 1 * v8 + ((-1) * v4 + (216 * v0 + (-1080)))) (c10 : 0 ≤ (-1) * v8 + (1 * v4 + ((-216) * v0 + 1080))) (c11 : 0 ≤ 1 * v7 + ((-1) * v2 + (-1))) (z0 : 1 * v6 + 0 ≠ 0) : (zk_S 10 [r0] [1 * v0 + 0, 1 * v1 + 0, 1 * v2 + 0, 1 * v3 + 1, 1 * v8 + 0] ∧ True) ∧ True := by
  simp only [zq_1, zq_10, zq_80, Int.one_mul, Int.add_zero, and_true, true_and] at *
  have hb : Int32.ofInt v6 = zx_o32 4 (zx_o32 8 (Int32.ofInt v1) (Int32.ofInt v3)) (Int32.ofInt 1) := by
    have e : Int32.ofInt v5 = zx_o32 8 (Int32.ofInt v1) (Int32.ofInt v3) := h1
    rw [← e]
    exact h2
  have b6 := zg_bit64 ⟨v1.toNat, by omega⟩ ⟨v3.toNat, by omega⟩
  rw [show (((⟨v1.toNat, by omega⟩ : Fin 64).val : Nat) : Int) = v1 from by show ((v1.toNat : Nat) : Int) = v1; omega, show (((⟨v3.toNat, by omega⟩ : Fin 6).val : Nat) : Int) = v3 from by show ((v3.toNat : Nat) : Int) = v3; omega, ← hb] at b6
  have b6 : Int32.ofInt v6 = if v1.toNat.testBit v3.toNat = true then Int32.ofInt 1 else Int32.ofInt 0 := b6
  have yb : v1.toNat.testBit v3.toNat = true := by
    by_cases q : v1.toNat.testBit v3.toNat = true
    · exact q
    · rw [if_neg q] at b6
      have := zg_i32 b6 (by omega) (by omega) (by omega) (by omega)
      omega
  unfold zg_k10 at h0 ⊢
  rw [show (v3 + 1).toNat = v3.toNat + 1 by omega]
  show v8 = zg_hs r0 v0.toNat v2 v1.toNat v3.toNat + (if v1.toNat.testBit v3.toNat = true then zg_W v3.toNat * (5 - ((v0.toNat : Nat) : Int)) + (if r0 v3.toNat ≤ v2 then 46656 else 0) else 0)
  rw [if_pos yb, ← h0, h3, if_neg (by omega), show v3.toNat = 2 by omega, show zg_W 2 = 216 from rfl]
  omega
def zg_r10s_w6 : zi_A := ([((10, [(3006, [])], [([((1, []), 1)], 0), ([((2, []), 1)], 0), ([((4, []), 1)], 0), ([((6, []), 1)], 0)]), 0, 1), ((80, [], [([], 8), ([((2, []), 1)], 0), ([((6, []), 1)], 0)]), 0, 1), ((80, [], [([], 4), ([((5001, []), 1)], 0), ([], 1)]), 0, 1), ((1, [(3006, [])], [([((6, []), 1)], 0)]), 0, 1)], [([((2, []), 1)], 0), ([((2, []), (-1))], 63), ([((6, []), 1)], 0), ([((6, []), (-1))], 5), ([((1, []), 1)], 0), ([((5002, []), 1)], 0), ([((5002, []), (-1))], 1), ([((6, []), 1)], (-2)), ([((6, []), (-1))], 2), ([((5, []), 1), ((5000, []), (-1)), ((1, []), 216)], (-1080)), ([((5, []), (-1)), ((5000, []), 1), ((1, []), (-216))], 1080), ([((5003, []), 1), ((4, []), (-1))], (-1))], [([((5002, []), 1)], 0)], [(10, [(3006, [])], [([((1, []), 1)], 0), ([((2, []), 1)], 0), ([((4, []), 1)], 0), ([((6, []), 1)], 1), ([((5, []), 1)], 0)])], [])
theorem zg_r10s_k6 : zi_ok zg_r10s_w6 := fun ρ ν => @zg_r10s_m6 (ρ (3006, [])) (ν (1, [])) (ν (2, [])) (ν (4, [])) (ν (6, [])) (ν (5000, [])) (ν (5001, [])) (ν (5002, [])) (ν (5003, [])) (ν (5, []))
theorem zg_r10s_m7 {r0 : Nat → Int} {v0 v1 v2 v3 v4 v5 v6 v7 v8 : Int} (h0 : zk_S 10 [r0] [1 * v0 + 0, 1 * v1 + 0, 1 * v2 + 0, 1 * v3 + 0, v4]) (h1 : zk_S 80 [] [8, 1 * v1 + 0, 1 * v3 + 0, v5]) (h2 : zk_S 80 [] [4, 1 * v5 + 0, 1, v6]) (h3 : zk_S 1 [r0] [1 * v3 + 0, v7]) (c0 : 0 ≤ 1 * v1 + 0) (c1 : 0 ≤ (-1) * v1 + 63) (c2 : 0 ≤ 1 * v3 + 0) (c3 : 0 ≤ (-1) * v3 + 5) (c4 : 0 ≤ 1 * v0 + 0) (c5 : 0 ≤ 1 * v6 + 0) (c6 : 0 ≤ (-1) * v6 + 1) (c7 : 0 ≤ 1 * v3 + (-3)) (c8 : 0 ≤ (-1) * v3 + 3) (c9 : 0 ≤ 1 * v8 + ((-1) * v4 + (36 * v0 + (-46836)))) (c10 : 0 ≤ (-1) * v8 + (1 * v4 + ((-36) * v0 + 46836))) (c11 : 0 ≤ 1 * v2 + ((-1) * v7 + 0)) (z0 : 1 * v6 + 0 ≠ 0) : (zk_S 10 [r0] [1 * v0 + 0, 1 * v1 + 0, 1 * v2 + 0, 1 * v3 + 1, 1 * v8 + 0] ∧ True) ∧ True := by
  simp only [zq_1, zq_10, zq_80, Int.one_mul, Int.add_zero, and_true, true_and] at *
  have hb : Int32.ofInt v6 = zx_o32 4 (zx_o32 8 (Int32.ofInt v1) (Int32.ofInt v3)) (Int32.ofInt 1) := by
    have e : Int32.ofInt v5 = zx_o32 8 (Int32.ofInt v1) (Int32.ofInt v3) := h1
    rw [← e]
    exact h2
  have b6 := zg_bit64 ⟨v1.toNat, by omega⟩ ⟨v3.toNat, by omega⟩
  rw [show (((⟨v1.toNat, by omega⟩ : Fin 64).val : Nat) : Int) = v1 from by show ((v1.toNat : Nat) : Int) = v1; omega, show (((⟨v3.toNat, by omega⟩ : Fin 6).val : Nat) : Int) = v3 from by show ((v3.toNat : Nat) : Int) = v3; omega, ← hb] at b6
  have b6 : Int32.ofInt v6 = if v1.toNat.testBit v3.toNat = true then Int32.ofInt 1 else Int32.ofInt 0 := b6
  have yb : v1.toNat.testBit v3.toNat = true := by
    by_cases q : v1.toNat.testBit v3.toNat = true
    · exact q
    · rw [if_neg q] at b6
      have := zg_i32 b6 (by omega) (by omega) (by omega) (by omega)
      omega
  unfold zg_k10 at h0 ⊢
  rw [show (v3 + 1).toNat = v3.toNat + 1 by omega]
  show v8 = zg_hs r0 v0.toNat v2 v1.toNat v3.toNat + (if v1.toNat.testBit v3.toNat = true then zg_W v3.toNat * (5 - ((v0.toNat : Nat) : Int)) + (if r0 v3.toNat ≤ v2 then 46656 else 0) else 0)
  rw [if_pos yb, ← h0, h3, if_pos (by omega), show v3.toNat = 3 by omega, show zg_W 3 = 36 from rfl]
  omega
def zg_r10s_w7 : zi_A := ([((10, [(3006, [])], [([((1, []), 1)], 0), ([((2, []), 1)], 0), ([((4, []), 1)], 0), ([((6, []), 1)], 0)]), 0, 1), ((80, [], [([], 8), ([((2, []), 1)], 0), ([((6, []), 1)], 0)]), 0, 1), ((80, [], [([], 4), ([((5001, []), 1)], 0), ([], 1)]), 0, 1), ((1, [(3006, [])], [([((6, []), 1)], 0)]), 0, 1)], [([((2, []), 1)], 0), ([((2, []), (-1))], 63), ([((6, []), 1)], 0), ([((6, []), (-1))], 5), ([((1, []), 1)], 0), ([((5002, []), 1)], 0), ([((5002, []), (-1))], 1), ([((6, []), 1)], (-3)), ([((6, []), (-1))], 3), ([((5, []), 1), ((5000, []), (-1)), ((1, []), 36)], (-46836)), ([((5, []), (-1)), ((5000, []), 1), ((1, []), (-36))], 46836), ([((4, []), 1), ((5003, []), (-1))], 0)], [([((5002, []), 1)], 0)], [(10, [(3006, [])], [([((1, []), 1)], 0), ([((2, []), 1)], 0), ([((4, []), 1)], 0), ([((6, []), 1)], 1), ([((5, []), 1)], 0)])], [])
theorem zg_r10s_k7 : zi_ok zg_r10s_w7 := fun ρ ν => @zg_r10s_m7 (ρ (3006, [])) (ν (1, [])) (ν (2, [])) (ν (4, [])) (ν (6, [])) (ν (5000, [])) (ν (5001, [])) (ν (5002, [])) (ν (5003, [])) (ν (5, []))
theorem zg_r10s_m8 {r0 : Nat → Int} {v0 v1 v2 v3 v4 v5 v6 v7 v8 : Int} (h0 : zk_S 10 [r0] [1 * v0 + 0, 1 * v1 + 0, 1 * v2 + 0, 1 * v3 + 0, v4]) (h1 : zk_S 80 [] [8, 1 * v1 + 0, 1 * v3 + 0, v5]) (h2 : zk_S 80 [] [4, 1 * v5 + 0, 1, v6]) (h3 : zk_S 1 [r0] [1 * v3 + 0, v7]) (c0 : 0 ≤ 1 * v1 + 0) (c1 : 0 ≤ (-1) * v1 + 63) (c2 : 0 ≤ 1 * v3 + 0) (c3 : 0 ≤ (-1) * v3 + 5) (c4 : 0 ≤ 1 * v0 + 0) (c5 : 0 ≤ 1 * v6 + 0) (c6 : 0 ≤ (-1) * v6 + 1) (c7 : 0 ≤ 1 * v3 + (-3)) (c8 : 0 ≤ (-1) * v3 + 3) (c9 : 0 ≤ 1 * v8 + ((-1) * v4 + (36 * v0 + (-180)))) (c10 : 0 ≤ (-1) * v8 + (1 * v4 + ((-36) * v0 + 180))) (c11 : 0 ≤ 1 * v7 + ((-1) * v2 + (-1))) (z0 : 1 * v6 + 0 ≠ 0) : (zk_S 10 [r0] [1 * v0 + 0, 1 * v1 + 0, 1 * v2 + 0, 1 * v3 + 1, 1 * v8 + 0] ∧ True) ∧ True := by
  simp only [zq_1, zq_10, zq_80, Int.one_mul, Int.add_zero, and_true, true_and] at *
  have hb : Int32.ofInt v6 = zx_o32 4 (zx_o32 8 (Int32.ofInt v1) (Int32.ofInt v3)) (Int32.ofInt 1) := by
    have e : Int32.ofInt v5 = zx_o32 8 (Int32.ofInt v1) (Int32.ofInt v3) := h1
    rw [← e]
    exact h2
  have b6 := zg_bit64 ⟨v1.toNat, by omega⟩ ⟨v3.toNat, by omega⟩
  rw [show (((⟨v1.toNat, by omega⟩ : Fin 64).val : Nat) : Int) = v1 from by show ((v1.toNat : Nat) : Int) = v1; omega, show (((⟨v3.toNat, by omega⟩ : Fin 6).val : Nat) : Int) = v3 from by show ((v3.toNat : Nat) : Int) = v3; omega, ← hb] at b6
  have b6 : Int32.ofInt v6 = if v1.toNat.testBit v3.toNat = true then Int32.ofInt 1 else Int32.ofInt 0 := b6
  have yb : v1.toNat.testBit v3.toNat = true := by
    by_cases q : v1.toNat.testBit v3.toNat = true
    · exact q
    · rw [if_neg q] at b6
      have := zg_i32 b6 (by omega) (by omega) (by omega) (by omega)
      omega
  unfold zg_k10 at h0 ⊢
  rw [show (v3 + 1).toNat = v3.toNat + 1 by omega]
  show v8 = zg_hs r0 v0.toNat v2 v1.toNat v3.toNat + (if v1.toNat.testBit v3.toNat = true then zg_W v3.toNat * (5 - ((v0.toNat : Nat) : Int)) + (if r0 v3.toNat ≤ v2 then 46656 else 0) else 0)
  rw [if_pos yb, ← h0, h3, if_neg (by omega), show v3.toNat = 3 by omega, show zg_W 3 = 36 from rfl]
  omega
def zg_r10s_w8 : zi_A := ([((10, [(3006, [])], [([((1, []), 1)], 0), ([((2, []), 1)], 0), ([((4, []), 1)], 0), ([((6, []), 1)], 0)]), 0, 1), ((80, [], [([], 8), ([((2, []), 1)], 0), ([((6, []), 1)], 0)]), 0, 1), ((80, [], [([], 4), ([((5001, []), 1)], 0), ([], 1)]), 0, 1), ((1, [(3006, [])], [([((6, []), 1)], 0)]), 0, 1)], [([((2, []), 1)], 0), ([((2, []), (-1))], 63), ([((6, []), 1)], 0), ([((6, []), (-1))], 5), ([((1, []), 1)], 0), ([((5002, []), 1)], 0), ([((5002, []), (-1))], 1), ([((6, []), 1)], (-3)), ([((6, []), (-1))], 3), ([((5, []), 1), ((5000, []), (-1)), ((1, []), 36)], (-180)), ([((5, []), (-1)), ((5000, []), 1), ((1, []), (-36))], 180), ([((5003, []), 1), ((4, []), (-1))], (-1))], [([((5002, []), 1)], 0)], [(10, [(3006, [])], [([((1, []), 1)], 0), ([((2, []), 1)], 0), ([((4, []), 1)], 0), ([((6, []), 1)], 1), ([((5, []), 1)], 0)])], [])
theorem zg_r10s_k8 : zi_ok zg_r10s_w8 := fun ρ ν => @zg_r10s_m8 (ρ (3006, [])) (ν (1, [])) (ν (2, [])) (ν (4, [])) (ν (6, [])) (ν (5000, [])) (ν (5001, [])) (ν (5002, [])) (ν (5003, [])) (ν (5, []))
theorem zg_r10s_m9 {r0 : Nat → Int} {v0 v1 v2 v3 v4 v5 v6 v7 v8 : Int} (h0 : zk_S 10 [r0] [1 * v0 + 0, 1 * v1 + 0, 1 * v2 + 0, 1 * v3 + 0, v4]) (h1 : zk_S 80 [] [8, 1 * v1 + 0, 1 * v3 + 0, v5]) (h2 : zk_S 80 [] [4, 1 * v5 + 0, 1, v6]) (h3 : zk_S 1 [r0] [1 * v3 + 0, v7]) (c0 : 0 ≤ 1 * v1 + 0) (c1 : 0 ≤ (-1) * v1 + 63) (c2 : 0 ≤ 1 * v3 + 0) (c3 : 0 ≤ (-1) * v3 + 5) (c4 : 0 ≤ 1 * v0 + 0) (c5 : 0 ≤ 1 * v6 + 0) (c6 : 0 ≤ (-1) * v6 + 1) (c7 : 0 ≤ 1 * v3 + (-4)) (c8 : 0 ≤ (-1) * v3 + 4) (c9 : 0 ≤ 1 * v8 + ((-1) * v4 + (6 * v0 + (-46686)))) (c10 : 0 ≤ (-1) * v8 + (1 * v4 + ((-6) * v0 + 46686))) (c11 : 0 ≤ 1 * v2 + ((-1) * v7 + 0)) (z0 : 1 * v6 + 0 ≠ 0) : (zk_S 10 [r0] [1 * v0 + 0, 1 * v1 + 0, 1 * v2 + 0, 1 * v3 + 1, 1 * v8 + 0] ∧ True) ∧ True := by
  simp only [zq_1, zq_10, zq_80, Int.one_mul, Int.add_zero, and_true, true_and] at *
  have hb : Int32.ofInt v6 = zx_o32 4 (zx_o32 8 (Int32.ofInt v1) (Int32.ofInt v3)) (Int32.ofInt 1) := by
    have e : Int32.ofInt v5 = zx_o32 8 (Int32.ofInt v1) (Int32.ofInt v3) := h1
    rw [← e]
    exact h2
  have b6 := zg_bit64 ⟨v1.toNat, by omega⟩ ⟨v3.toNat, by omega⟩
  rw [show (((⟨v1.toNat, by omega⟩ : Fin 64).val : Nat) : Int) = v1 from by show ((v1.toNat : Nat) : Int) = v1; omega, show (((⟨v3.toNat, by omega⟩ : Fin 6).val : Nat) : Int) = v3 from by show ((v3.toNat : Nat) : Int) = v3; omega, ← hb] at b6
  have b6 : Int32.ofInt v6 = if v1.toNat.testBit v3.toNat = true then Int32.ofInt 1 else Int32.ofInt 0 := b6
  have yb : v1.toNat.testBit v3.toNat = true := by
    by_cases q : v1.toNat.testBit v3.toNat = true
    · exact q
    · rw [if_neg q] at b6
      have := zg_i32 b6 (by omega) (by omega) (by omega) (by omega)
      omega
  unfold zg_k10 at h0 ⊢
  rw [show (v3 + 1).toNat = v3.toNat + 1 by omega]
  show v8 = zg_hs r0 v0.toNat v2 v1.toNat v3.toNat + (if v1.toNat.testBit v3.toNat = true then zg_W v3.toNat * (5 - ((v0.toNat : Nat) : Int)) + (if r0 v3.toNat ≤ v2 then 46656 else 0) else 0)
  rw [if_pos yb, ← h0, h3, if_pos (by omega), show v3.toNat = 4 by omega, show zg_W 4 = 6 from rfl]
  omega
def zg_r10s_w9 : zi_A := ([((10, [(3006, [])], [([((1, []), 1)], 0), ([((2, []), 1)], 0), ([((4, []), 1)], 0), ([((6, []), 1)], 0)]), 0, 1), ((80, [], [([], 8), ([((2, []), 1)], 0), ([((6, []), 1)], 0)]), 0, 1), ((80, [], [([], 4), ([((5001, []), 1)], 0), ([], 1)]), 0, 1), ((1, [(3006, [])], [([((6, []), 1)], 0)]), 0, 1)], [([((2, []), 1)], 0), ([((2, []), (-1))], 63), ([((6, []), 1)], 0), ([((6, []), (-1))], 5), ([((1, []), 1)], 0), ([((5002, []), 1)], 0), ([((5002, []), (-1))], 1), ([((6, []), 1)], (-4)), ([((6, []), (-1))], 4), ([((5, []), 1), ((5000, []), (-1)), ((1, []), 6)], (-46686)), ([((5, []), (-1)), ((5000, []), 1), ((1, []), (-6))], 46686), ([((4, []), 1), ((5003, []), (-1))], 0)], [([((5002, []), 1)], 0)], [(10, [(3006, [])], [([((1, []), 1)], 0), ([((2, []), 1)], 0), ([((4, []), 1)], 0), ([((6, []), 1)], 1), ([((5, []), 1)], 0)])], [])
theorem zg_r10s_k9 : zi_ok zg_r10s_w9 := fun ρ ν => @zg_r10s_m9 (ρ (3006, [])) (ν (1, [])) (ν (2, [])) (ν (4, [])) (ν (6, [])) (ν (5000, [])) (ν (5001, [])) (ν (5002, [])) (ν (5003, [])) (ν (5, []))
theorem zg_r10s_m10 {r0 : Nat → Int} {v0 v1 v2 v3 v4 v5 v6 v7 v8 : Int} (h0 : zk_S 10 [r0] [1 * v0 + 0, 1 * v1 + 0, 1 * v2 + 0, 1 * v3 + 0, v4]) (h1 : zk_S 80 [] [8, 1 * v1 + 0, 1 * v3 + 0, v5]) (h2 : zk_S 80 [] [4, 1 * v5 + 0, 1, v6]) (h3 : zk_S 1 [r0] [1 * v3 + 0, v7]) (c0 : 0 ≤ 1 * v1 + 0) (c1 : 0 ≤ (-1) * v1 + 63) (c2 : 0 ≤ 1 * v3 + 0) (c3 : 0 ≤ (-1) * v3 + 5) (c4 : 0 ≤ 1 * v0 + 0) (c5 : 0 ≤ 1 * v6 + 0) (c6 : 0 ≤ (-1) * v6 + 1) (c7 : 0 ≤ 1 * v3 + (-4)) (c8 : 0 ≤ (-1) * v3 + 4) (c9 : 0 ≤ 1 * v8 + ((-1) * v4 + (6 * v0 + (-30)))) (c10 : 0 ≤ (-1) * v8 + (1 * v4 + ((-6) * v0 + 30))) (c11 : 0 ≤ 1 * v7 + ((-1) * v2 + (-1))) (z0 : 1 * v6 + 0 ≠ 0) : (zk_S 10 [r0] [1 * v0 + 0, 1 * v1 + 0, 1 * v2 + 0, 1 * v3 + 1, 1 * v8 + 0] ∧ True) ∧ True := by
  simp only [zq_1, zq_10, zq_80, Int.one_mul, Int.add_zero, and_true, true_and] at *
  have hb : Int32.ofInt v6 = zx_o32 4 (zx_o32 8 (Int32.ofInt v1) (Int32.ofInt v3)) (Int32.ofInt 1) := by
    have e : Int32.ofInt v5 = zx_o32 8 (Int32.ofInt v1) (Int32.ofInt v3) := h1
    rw [← e]
    exact h2
  have b6 := zg_bit64 ⟨v1.toNat, by omega⟩ ⟨v3.toNat, by omega⟩
  rw [show (((⟨v1.toNat, by omega⟩ : Fin 64).val : Nat) : Int) = v1 from by show ((v1.toNat : Nat) : Int) = v1; omega, show (((⟨v3.toNat, by omega⟩ : Fin 6).val : Nat) : Int) = v3 from by show ((v3.toNat : Nat) : Int) = v3; omega, ← hb] at b6
  have b6 : Int32.ofInt v6 = if v1.toNat.testBit v3.toNat = true then Int32.ofInt 1 else Int32.ofInt 0 := b6
  have yb : v1.toNat.testBit v3.toNat = true := by
    by_cases q : v1.toNat.testBit v3.toNat = true
    · exact q
    · rw [if_neg q] at b6
      have := zg_i32 b6 (by omega) (by omega) (by omega) (by omega)
      omega
  unfold zg_k10 at h0 ⊢
  rw [show (v3 + 1).toNat = v3.toNat + 1 by omega]
  show v8 = zg_hs r0 v0.toNat v2 v1.toNat v3.toNat + (if v1.toNat.testBit v3.toNat = true then zg_W v3.toNat * (5 - ((v0.toNat : Nat) : Int)) + (if r0 v3.toNat ≤ v2 then 46656 else 0) else 0)
  rw [if_pos yb, ← h0, h3, if_neg (by omega), show v3.toNat = 4 by omega, show zg_W 4 = 6 from rfl]
  omega
def zg_r10s_w10 : zi_A := ([((10, [(3006, [])], [([((1, []), 1)], 0), ([((2, []), 1)], 0), ([((4, []), 1)], 0), ([((6, []), 1)], 0)]), 0, 1), ((80, [], [([], 8), ([((2, []), 1)], 0), ([((6, []), 1)], 0)]), 0, 1), ((80, [], [([], 4), ([((5001, []), 1)], 0), ([], 1)]), 0, 1), ((1, [(3006, [])], [([((6, []), 1)], 0)]), 0, 1)], [([((2, []), 1)], 0), ([((2, []), (-1))], 63), ([((6, []), 1)], 0), ([((6, []), (-1))], 5), ([((1, []), 1)], 0), ([((5002, []), 1)], 0), ([((5002, []), (-1))], 1), ([((6, []), 1)], (-4)), ([((6, []), (-1))], 4), ([((5, []), 1), ((5000, []), (-1)), ((1, []), 6)], (-30)), ([((5, []), (-1)), ((5000, []), 1), ((1, []), (-6))], 30), ([((5003, []), 1), ((4, []), (-1))], (-1))], [([((5002, []), 1)], 0)], [(10, [(3006, [])], [([((1, []), 1)], 0), ([((2, []), 1)], 0), ([((4, []), 1)], 0), ([((6, []), 1)], 1), ([((5, []), 1)], 0)])], [])
theorem zg_r10s_k10 : zi_ok zg_r10s_w10 := fun ρ ν => @zg_r10s_m10 (ρ (3006, [])) (ν (1, [])) (ν (2, [])) (ν (4, [])) (ν (6, [])) (ν (5000, [])) (ν (5001, [])) (ν (5002, [])) (ν (5003, [])) (ν (5, []))
theorem zg_r10s_m11 {r0 : Nat → Int} {v0 v1 v2 v3 v4 v5 v6 v7 v8 : Int} (h0 : zk_S 10 [r0] [1 * v0 + 0, 1 * v1 + 0, 1 * v2 + 0, 1 * v3 + 0, v4]) (h1 : zk_S 80 [] [8, 1 * v1 + 0, 1 * v3 + 0, v5]) (h2 : zk_S 80 [] [4, 1 * v5 + 0, 1, v6]) (h3 : zk_S 1 [r0] [1 * v3 + 0, v7]) (c0 : 0 ≤ 1 * v1 + 0) (c1 : 0 ≤ (-1) * v1 + 63) (c2 : 0 ≤ 1 * v3 + 0) (c3 : 0 ≤ (-1) * v3 + 5) (c4 : 0 ≤ 1 * v0 + 0) (c5 : 0 ≤ 1 * v6 + 0) (c6 : 0 ≤ (-1) * v6 + 1) (c7 : 0 ≤ 1 * v3 + (-5)) (c8 : 0 ≤ (-1) * v3 + 5) (c9 : 0 ≤ 1 * v8 + ((-1) * v4 + (1 * v0 + (-46661)))) (c10 : 0 ≤ (-1) * v8 + (1 * v4 + ((-1) * v0 + 46661))) (c11 : 0 ≤ 1 * v2 + ((-1) * v7 + 0)) (z0 : 1 * v6 + 0 ≠ 0) : (zk_S 10 [r0] [1 * v0 + 0, 1 * v1 + 0, 1 * v2 + 0, 1 * v3 + 1, 1 * v8 + 0] ∧ True) ∧ True := by
  simp only [zq_1, zq_10, zq_80, Int.one_mul, Int.add_zero, and_true, true_and] at *
  have hb : Int32.ofInt v6 = zx_o32 4 (zx_o32 8 (Int32.ofInt v1) (Int32.ofInt v3)) (Int32.ofInt 1) := by
    have e : Int32.ofInt v5 = zx_o32 8 (Int32.ofInt v1) (Int32.ofInt v3) := h1
    rw [← e]
    exact h2
  have b6 := zg_bit64 ⟨v1.toNat, by omega⟩ ⟨v3.toNat, by omega⟩
  rw [show (((⟨v1.toNat, by omega⟩ : Fin 64).val : Nat) : Int) = v1 from by show ((v1.toNat : Nat) : Int) = v1; omega, show (((⟨v3.toNat, by omega⟩ : Fin 6).val : Nat) : Int) = v3 from by show ((v3.toNat : Nat) : Int) = v3; omega, ← hb] at b6
  have b6 : Int32.ofInt v6 = if v1.toNat.testBit v3.toNat = true then Int32.ofInt 1 else Int32.ofInt 0 := b6
  have yb : v1.toNat.testBit v3.toNat = true := by
    by_cases q : v1.toNat.testBit v3.toNat = true
    · exact q
    · rw [if_neg q] at b6
      have := zg_i32 b6 (by omega) (by omega) (by omega) (by omega)
      omega
  unfold zg_k10 at h0 ⊢
  rw [show (v3 + 1).toNat = v3.toNat + 1 by omega]
  show v8 = zg_hs r0 v0.toNat v2 v1.toNat v3.toNat + (if v1.toNat.testBit v3.toNat = true then zg_W v3.toNat * (5 - ((v0.toNat : Nat) : Int)) + (if r0 v3.toNat ≤ v2 then 46656 else 0) else 0)
  rw [if_pos yb, ← h0, h3, if_pos (by omega), show v3.toNat = 5 by omega, show zg_W 5 = 1 from rfl]
  omega
def zg_r10s_w11 : zi_A := ([((10, [(3006, [])], [([((1, []), 1)], 0), ([((2, []), 1)], 0), ([((4, []), 1)], 0), ([((6, []), 1)], 0)]), 0, 1), ((80, [], [([], 8), ([((2, []), 1)], 0), ([((6, []), 1)], 0)]), 0, 1), ((80, [], [([], 4), ([((5001, []), 1)], 0), ([], 1)]), 0, 1), ((1, [(3006, [])], [([((6, []), 1)], 0)]), 0, 1)], [([((2, []), 1)], 0), ([((2, []), (-1))], 63), ([((6, []), 1)], 0), ([((6, []), (-1))], 5), ([((1, []), 1)], 0), ([((5002, []), 1)], 0), ([((5002, []), (-1))], 1), ([((6, []), 1)], (-5)), ([((6, []), (-1))], 5), ([((5, []), 1), ((5000, []), (-1)), ((1, []), 1)], (-46661)), ([((5, []), (-1)), ((5000, []), 1), ((1, []), (-1))], 46661), ([((4, []), 1), ((5003, []), (-1))], 0)], [([((5002, []), 1)], 0)], [(10, [(3006, [])], [([((1, []), 1)], 0), ([((2, []), 1)], 0), ([((4, []), 1)], 0), ([((6, []), 1)], 1), ([((5, []), 1)], 0)])], [])
theorem zg_r10s_k11 : zi_ok zg_r10s_w11 := fun ρ ν => @zg_r10s_m11 (ρ (3006, [])) (ν (1, [])) (ν (2, [])) (ν (4, [])) (ν (6, [])) (ν (5000, [])) (ν (5001, [])) (ν (5002, [])) (ν (5003, [])) (ν (5, []))
theorem zg_r10s_m12 {r0 : Nat → Int} {v0 v1 v2 v3 v4 v5 v6 v7 v8 : Int} (h0 : zk_S 10 [r0] [1 * v0 + 0, 1 * v1 + 0, 1 * v2 + 0, 1 * v3 + 0, v4]) (h1 : zk_S 80 [] [8, 1 * v1 + 0, 1 * v3 + 0, v5]) (h2 : zk_S 80 [] [4, 1 * v5 + 0, 1, v6]) (h3 : zk_S 1 [r0] [1 * v3 + 0, v7]) (c0 : 0 ≤ 1 * v1 + 0) (c1 : 0 ≤ (-1) * v1 + 63) (c2 : 0 ≤ 1 * v3 + 0) (c3 : 0 ≤ (-1) * v3 + 5) (c4 : 0 ≤ 1 * v0 + 0) (c5 : 0 ≤ 1 * v6 + 0) (c6 : 0 ≤ (-1) * v6 + 1) (c7 : 0 ≤ 1 * v3 + (-5)) (c8 : 0 ≤ (-1) * v3 + 5) (c9 : 0 ≤ 1 * v8 + ((-1) * v4 + (1 * v0 + (-5)))) (c10 : 0 ≤ (-1) * v8 + (1 * v4 + ((-1) * v0 + 5))) (c11 : 0 ≤ 1 * v7 + ((-1) * v2 + (-1))) (z0 : 1 * v6 + 0 ≠ 0) : (zk_S 10 [r0] [1 * v0 + 0, 1 * v1 + 0, 1 * v2 + 0, 1 * v3 + 1, 1 * v8 + 0] ∧ True) ∧ True := by
  simp only [zq_1, zq_10, zq_80, Int.one_mul, Int.add_zero, and_true, true_and] at *
  have hb : Int32.ofInt v6 = zx_o32 4 (zx_o32 8 (Int32.ofInt v1) (Int32.ofInt v3)) (Int32.ofInt 1) := by
    have e : Int32.ofInt v5 = zx_o32 8 (Int32.ofInt v1) (Int32.ofInt v3) := h1
    rw [← e]
    exact h2
  have b6 := zg_bit64 ⟨v1.toNat, by omega⟩ ⟨v3.toNat, by omega⟩
  rw [show (((⟨v1.toNat, by omega⟩ : Fin 64).val : Nat) : Int) = v1 from by show ((v1.toNat : Nat) : Int) = v1; omega, show (((⟨v3.toNat, by omega⟩ : Fin 6).val : Nat) : Int) = v3 from by show ((v3.toNat : Nat) : Int) = v3; omega, ← hb] at b6
  have b6 : Int32.ofInt v6 = if v1.toNat.testBit v3.toNat = true then Int32.ofInt 1 else Int32.ofInt 0 := b6
  have yb : v1.toNat.testBit v3.toNat = true := by
    by_cases q : v1.toNat.testBit v3.toNat = true
    · exact q
    · rw [if_neg q] at b6
      have := zg_i32 b6 (by omega) (by omega) (by omega) (by omega)
      omega
  unfold zg_k10 at h0 ⊢
  rw [show (v3 + 1).toNat = v3.toNat + 1 by omega]
  show v8 = zg_hs r0 v0.toNat v2 v1.toNat v3.toNat + (if v1.toNat.testBit v3.toNat = true then zg_W v3.toNat * (5 - ((v0.toNat : Nat) : Int)) + (if r0 v3.toNat ≤ v2 then 46656 else 0) else 0)
  rw [if_pos yb, ← h0, h3, if_neg (by omega), show v3.toNat = 5 by omega, show zg_W 5 = 1 from rfl]
  omega
def zg_r10s_w12 : zi_A := ([((10, [(3006, [])], [([((1, []), 1)], 0), ([((2, []), 1)], 0), ([((4, []), 1)], 0), ([((6, []), 1)], 0)]), 0, 1), ((80, [], [([], 8), ([((2, []), 1)], 0), ([((6, []), 1)], 0)]), 0, 1), ((80, [], [([], 4), ([((5001, []), 1)], 0), ([], 1)]), 0, 1), ((1, [(3006, [])], [([((6, []), 1)], 0)]), 0, 1)], [([((2, []), 1)], 0), ([((2, []), (-1))], 63), ([((6, []), 1)], 0), ([((6, []), (-1))], 5), ([((1, []), 1)], 0), ([((5002, []), 1)], 0), ([((5002, []), (-1))], 1), ([((6, []), 1)], (-5)), ([((6, []), (-1))], 5), ([((5, []), 1), ((5000, []), (-1)), ((1, []), 1)], (-5)), ([((5, []), (-1)), ((5000, []), 1), ((1, []), (-1))], 5), ([((5003, []), 1), ((4, []), (-1))], (-1))], [([((5002, []), 1)], 0)], [(10, [(3006, [])], [([((1, []), 1)], 0), ([((2, []), 1)], 0), ([((4, []), 1)], 0), ([((6, []), 1)], 1), ([((5, []), 1)], 0)])], [])
theorem zg_r10s_k12 : zi_ok zg_r10s_w12 := fun ρ ν => @zg_r10s_m12 (ρ (3006, [])) (ν (1, [])) (ν (2, [])) (ν (4, [])) (ν (6, [])) (ν (5000, [])) (ν (5001, [])) (ν (5002, [])) (ν (5003, [])) (ν (5, []))
def zg_r10s : List zi_A := [zg_r10s_w0, zg_r10s_w1, zg_r10s_w2, zg_r10s_w3, zg_r10s_w4, zg_r10s_w5, zg_r10s_w6, zg_r10s_w7, zg_r10s_w8, zg_r10s_w9, zg_r10s_w10, zg_r10s_w11, zg_r10s_w12]
theorem zg_r10s_ok : ∀ A ∈ zg_r10s, zi_ok A := List.forall_mem_cons.mpr ⟨zg_r10s_k0, List.forall_mem_cons.mpr ⟨zg_r10s_k1, List.forall_mem_cons.mpr ⟨zg_r10s_k2, List.forall_mem_cons.mpr ⟨zg_r10s_k3, List.forall_mem_cons.mpr ⟨zg_r10s_k4, List.forall_mem_cons.mpr ⟨zg_r10s_k5, List.forall_mem_cons.mpr ⟨zg_r10s_k6, List.forall_mem_cons.mpr ⟨zg_r10s_k7, List.forall_mem_cons.mpr ⟨zg_r10s_k8, List.forall_mem_cons.mpr ⟨zg_r10s_k9, List.forall_mem_cons.mpr ⟨zg_r10s_k10, List.forall_mem_cons.mpr ⟨zg_r10s_k11, List.forall_mem_cons.mpr ⟨zg_r10s_k12, fun _ h => absurd h List.not_mem_nil⟩⟩⟩⟩⟩⟩⟩⟩⟩⟩⟩⟩⟩

theorem zg_r19_m0 {v0 v1 v2 : Int} (h0 : zk_S 80 [] [6, 1, 1 * v0 + 0, v1]) (c0 : 0 ≤ 1 * v2 + ((-1) * v1 + 0)) (c1 : 0 ≤ (-1) * v2 + (1 * v1 + 0)) (c2 : 0 ≤ 1 * v0 + 0) (c3 : 0 ≤ (-1) * v0 + 6) (c4 : 0 ≤ 1 * v2 + 2147483648) (c5 : 0 ≤ (-1) * v2 + 2147483647) : (zk_S 19 [] [1 * v0 + 0, 1 * v2 + 0] ∧ True) ∧ 0 ≤ (-1) * v2 + 64 ∧ 0 ≤ 1 * v2 + (-1) ∧ True := by
  simp only [zq_19, zq_80, Int.one_mul, Int.add_zero, and_true, true_and] at *
  have k : Int32.ofInt v1 = zx_o32 6 (Int32.ofInt 1) (Int32.ofInt v0) := h0
  have q := zg_shl6 ⟨v0.toNat, by omega⟩
  rw [show (((⟨v0.toNat, by omega⟩ : Fin 7).val : Nat) : Int) = v0 from by show ((v0.toNat : Nat) : Int) = v0; omega, ← k] at q
  have q : Int32.ofInt v1 = Int32.ofInt ((2 ^ v0.toNat : Nat) : Int) := q
  have p6 : (2 : Nat) ^ v0.toNat ≤ 2 ^ 6 := Nat.pow_le_pow_right (by omega) (by omega)
  have p1 : 1 ≤ (2 : Nat) ^ v0.toNat := Nat.one_le_two_pow
  have e := zg_i32w q (by omega) (by omega) (by omega) (by omega)
  refine ⟨?_, by omega, by omega⟩
  unfold zg_k19
  omega
def zg_r19_w0 : zi_A := ([((80, [], [([], 6), ([], 1), ([((4001, [1]), 1)], 0)]), 0, 1)], [([((2, []), 1), ((5000, []), (-1))], 0), ([((2, []), (-1)), ((5000, []), 1)], 0), ([((4001, [1]), 1)], 0), ([((4001, [1]), (-1))], 6), ([((2, []), 1)], 2147483648), ([((2, []), (-1))], 2147483647)], [], [(19, [], [([((4001, [1]), 1)], 0), ([((2, []), 1)], 0)])], [([((2, []), (-1))], 64), ([((2, []), 1)], (-1))])
theorem zg_r19_k0 : zi_ok zg_r19_w0 := fun ρ ν => @zg_r19_m0 (ν (4001, [1])) (ν (5000, [])) (ν (2, []))
def zg_r19 : List zi_A := [zg_r19_w0]
theorem zg_r19_ok : ∀ A ∈ zg_r19, zi_ok A := List.forall_mem_cons.mpr ⟨zg_r19_k0, fun _ h => absurd h List.not_mem_nil⟩

theorem zg_r13i_m0 {r0 r1 r2 r3 r4 : Nat → Int} {v0 v1 v2 v3 v4 v5 v6 : Int} (h0 : zk_S 24 [r0] [v0, v1]) (h1 : zk_S 23 [r0, r1] [0]) (h2 : zk_S 3 [r1] [v2, v3]) (c0 : 0 ≤ 1 * v0 + (-64)) (c1 : 0 ≤ 1 * v1 + 0) (c2 : 0 ≤ (-1) * v1 + 0) (c3 : 0 ≤ 1 * v2 + 0) (c4 : 0 ≤ (-1) * v3 + 600000) (c5 : 0 ≤ (-1) * v4 + 64) : (zk_S 13 [r0, r2, r3, r4] [1 * v5 + 0, 1 * v6 + 0, 0, 64, 1 * v4 + 0] ∧ zk_S 3 [r0] [0, 600000] ∧ True) ∧ True := by
  simp only [zq_3, zq_13, zq_23, zq_24, Int.one_mul, Int.add_zero, and_true, true_and] at *
  refine ⟨fun s hs => ⟨fun h => by omega, fun _ => ?_⟩, fun j => ?_⟩
  · rw [h0 s (by omega)]
    show v1 = 0
    omega
  · have q := h2 j
    rcases h1 j with e | e
    · rw [e]
      omega
    · rw [e]
      omega
def zg_r13i_w0 : zi_A := ([((24, [(3031, [])], []), 0, 2), ((23, [(3031, [])], [([], 0)]), 1, 0), ((3, [(5000, [])], []), 0, 2)], [([((5000, []), 1)], (-64)), ([((5001, []), 1)], 0), ([((5001, []), (-1))], 0), ([((5002, []), 1)], 0), ([((5003, []), (-1))], 600000), ([((2, []), (-1))], 64)], [], [(13, [(3031, []), (3003, []), (3006, []), (3004, [])], [([((4001, [1]), 1)], 0), ([((4001, [4]), 1)], 0), ([], 0), ([], 64), ([((2, []), 1)], 0)]), (3, [(3031, [])], [([], 0), ([], 600000)])], [])
theorem zg_r13i_k0 : zi_ok zg_r13i_w0 := fun ρ ν => @zg_r13i_m0 (ρ (3031, [])) (ρ (5000, [])) (ρ (3003, [])) (ρ (3006, [])) (ρ (3004, [])) (ν (5000, [])) (ν (5001, [])) (ν (5002, [])) (ν (5003, [])) (ν (2, [])) (ν (4001, [1])) (ν (4001, [4]))
def zg_r13i : List zi_A := [zg_r13i_w0]
theorem zg_r13i_ok : ∀ A ∈ zg_r13i, zi_ok A := List.forall_mem_cons.mpr ⟨zg_r13i_k0, fun _ h => absurd h List.not_mem_nil⟩

theorem zg_r12s_m0 {r0 r1 r2 r3 r4 : Nat → Int} {v0 v1 v2 v3 v4 v5 v6 v7 : Int} (h0 : zk_S 2 [r0, r1] [v0, v1]) (h1 : zk_S 12 [r1, r2, r3, r4] [1 * v2 + 0, 1 * v3 + 0, 1 * v4 + 0, 1 * v5 + 0]) (h2 : zk_S 11 [r2, r4] [1 * v3 + 0, 1 * v4 + 0, 1 * v5 + 0, v6]) (h3 : zk_S 10 [r3] [1 * v4 + 0, 1 * v5 + 0, 1 * v6 + 0, 1 * v2 + 0, v7]) (c0 : 0 ≤ 1 * v0 + ((-1) * v5 + 0)) (c1 : 0 ≤ (-1) * v0 + (1 * v5 + 0)) (c2 : 0 ≤ 1 * v1 + ((-1) * v7 + 0)) (c3 : 0 ≤ (-1) * v1 + (1 * v7 + 0)) (c4 : 0 ≤ 1 * v5 + 0) (c5 : 0 ≤ 1 * v4 + 0) : (zk_S 12 [r0, r2, r3, r4] [1 * v2 + 0, 1 * v3 + 0, 1 * v4 + 0, 1 * v5 + 1] ∧ True) ∧ True := by
  simp only [zq_2, zq_10, zq_11, zq_12, Int.one_mul, Int.add_zero, and_true, true_and] at *
  unfold zg_k12 at h1 ⊢
  unfold zg_k11 at h2
  unfold zg_k10 at h3
  subst h0
  intro s hs
  show (if s = v0.toNat then v1 else r1 s) = _
  by_cases e : s = v0.toNat
  · rw [if_pos e]
    unfold zg_h
    rw [show s = v5.toNat by omega, ← h2, ← h3]
    omega
  · rw [if_neg e]
    exact h1 s (by omega)
def zg_r12s_w0 : zi_A := ([((2, [(3032, [])], []), 1, 2), ((12, [(5000, []), (3003, []), (3006, []), (3004, [])], [([((4001, [1]), 1)], 0), ([((4001, [4]), 1)], 0), ([((3, []), 1)], 0), ([((4, []), 1)], 0)]), 0, 0), ((11, [(3003, []), (3004, [])], [([((4001, [4]), 1)], 0), ([((3, []), 1)], 0), ([((4, []), 1)], 0)]), 0, 1), ((10, [(3006, [])], [([((3, []), 1)], 0), ([((4, []), 1)], 0), ([((5002, []), 1)], 0), ([((4001, [1]), 1)], 0)]), 0, 1)], [([((5000, []), 1), ((4, []), (-1))], 0), ([((5000, []), (-1)), ((4, []), 1)], 0), ([((5001, []), 1), ((5003, []), (-1))], 0), ([((5001, []), (-1)), ((5003, []), 1)], 0), ([((4, []), 1)], 0), ([((3, []), 1)], 0)], [], [(12, [(3032, []), (3003, []), (3006, []), (3004, [])], [([((4001, [1]), 1)], 0), ([((4001, [4]), 1)], 0), ([((3, []), 1)], 0), ([((4, []), 1)], 1)])], [])
theorem zg_r12s_k0 : zi_ok zg_r12s_w0 := fun ρ ν => @zg_r12s_m0 (ρ (3032, [])) (ρ (5000, [])) (ρ (3003, [])) (ρ (3006, [])) (ρ (3004, [])) (ν (5000, [])) (ν (5001, [])) (ν (4001, [1])) (ν (4001, [4])) (ν (3, [])) (ν (4, [])) (ν (5002, [])) (ν (5003, []))
def zg_r12s : List zi_A := [zg_r12s_w0]
theorem zg_r12s_ok : ∀ A ∈ zg_r12s, zi_ok A := List.forall_mem_cons.mpr ⟨zg_r12s_k0, fun _ h => absurd h List.not_mem_nil⟩

theorem zg_r12i_m0 {r0 r1 r2 r3 : Nat → Int} {v0 v1 v2 : Int}  : (zk_S 12 [r0, r1, r2, r3] [1 * v0 + 0, 1 * v1 + 0, 1 * v2 + 0, 0] ∧ True) ∧ True := by
  simp only [zq_12, Int.one_mul, Int.add_zero, and_true, true_and] at *
  unfold zg_k12
  intro s hs
  omega
def zg_r12i_w0 : zi_A := ([], [], [], [(12, [(3032, []), (3003, []), (3006, []), (3004, [])], [([((4001, [1]), 1)], 0), ([((4001, [4]), 1)], 0), ([((3, []), 1)], 0), ([], 0)])], [])
theorem zg_r12i_k0 : zi_ok zg_r12i_w0 := fun ρ ν => @zg_r12i_m0 (ρ (3032, [])) (ρ (3003, [])) (ρ (3006, [])) (ρ (3004, [])) (ν (4001, [1])) (ν (4001, [4])) (ν (3, []))
def zg_r12i : List zi_A := [zg_r12i_w0]
theorem zg_r12i_ok : ∀ A ∈ zg_r12i, zi_ok A := List.forall_mem_cons.mpr ⟨zg_r12i_k0, fun _ h => absurd h List.not_mem_nil⟩

theorem zg_r13a_m0 {r0 r1 r2 r3 : Nat → Int} {v0 v1 v2 v3 : Int} (h0 : zk_S 13 [r0, r1, r2, r3] [1 * v0 + 0, 1 * v1 + 0, 1 * v2 + 0, 64, 1 * v3 + 0]) (c0 : 0 ≤ (-1) * v3 + 64) (c1 : 0 ≤ 1 * v3 + (-1)) : (zk_S 13 [r0, r1, r2, r3] [1 * v0 + 0, 1 * v1 + 0, 1 * v2 + 0, 1 * v3 + (-1), 1 * v3 + 0] ∧ True) ∧ True := by
  simp only [zq_13, Int.one_mul, Int.add_zero, and_true, true_and] at *
  unfold zg_k13 at h0 ⊢
  intro s hs
  exact ⟨fun h => by omega, fun _ => (h0 s hs).2 (by omega)⟩
def zg_r13a_w0 : zi_A := ([((13, [(3031, []), (3003, []), (3006, []), (3004, [])], [([((4001, [1]), 1)], 0), ([((4001, [4]), 1)], 0), ([((3, []), 1)], 0), ([], 64), ([((2, []), 1)], 0)]), 0, 0)], [([((2, []), (-1))], 64), ([((2, []), 1)], (-1))], [], [(13, [(3031, []), (3003, []), (3006, []), (3004, [])], [([((4001, [1]), 1)], 0), ([((4001, [4]), 1)], 0), ([((3, []), 1)], 0), ([((2, []), 1)], (-1)), ([((2, []), 1)], 0)])], [])
theorem zg_r13a_k0 : zi_ok zg_r13a_w0 := fun ρ ν => @zg_r13a_m0 (ρ (3031, [])) (ρ (3003, [])) (ρ (3006, [])) (ρ (3004, [])) (ν (4001, [1])) (ν (4001, [4])) (ν (3, [])) (ν (2, []))
def zg_r13a : List zi_A := [zg_r13a_w0]
theorem zg_r13a_ok : ∀ A ∈ zg_r13a, zi_ok A := List.forall_mem_cons.mpr ⟨zg_r13a_k0, fun _ h => absurd h List.not_mem_nil⟩

theorem zg_r13s_m0 {r0 r1 r2 r3 r4 r5 : Nat → Int} {v0 v1 v2 v3 v4 v5 v6 v7 : Int} (h0 : zk_S 2 [r0, r1] [v0, v1]) (h1 : zk_S 13 [r1, r2, r3, r4] [1 * v2 + 0, 1 * v3 + 0, 1 * v4 + 0, 1 * v5 + 0, 1 * v6 + 0]) (h2 : zk_S 12 [r5, r2, r3, r4] [1 * v2 + 0, 1 * v3 + 0, 1 * v4 + 0, 1 * v6 + 0]) (h3 : zk_S 14 [r1, r5] [1 * v5 + 0, 1, v7]) (c0 : 0 ≤ 1 * v0 + ((-1) * v5 + 0)) (c1 : 0 ≤ (-1) * v0 + (1 * v5 + 0)) (c2 : 0 ≤ 1 * v1 + ((-1) * v7 + 0)) (c3 : 0 ≤ (-1) * v1 + (1 * v7 + 0)) (c4 : 0 ≤ 1 * v5 + 0) (c5 : 0 ≤ 1 * v6 + ((-1) * v5 + (-1))) (c6 : 0 ≤ 1 * v4 + 0) (c7 : 0 ≤ (-1) * v6 + 64) : (zk_S 13 [r0, r2, r3, r4] [1 * v2 + 0, 1 * v3 + 0, 1 * v4 + 0, 1 * v5 + (-1), 1 * v6 + 0] ∧ True) ∧ True := by
  simp only [zq_2, zq_12, zq_13, zq_14, Int.one_mul, Int.add_zero, and_true, true_and] at *
  unfold zg_k13 at h1 ⊢
  unfold zg_k12 at h2
  obtain ⟨m1, m2, m3⟩ := h3
  have em : v7 = zg_mx (zg_w (zg_h r2 r3 r4 v3 v2.toNat) v4.toNat) (zg_h r2 r3 r4 v3 v2.toNat v4.toNat) v5.toNat v5.toNat := zg_mx_eq (fun x hx => (h1 x (by omega)).2 (by omega)) (fun x hx => h2 x (by omega)) m1 m2 m3
  subst h0
  intro s hs
  show (v5 + -1 < (s : Int) → (if s = v0.toNat then v1 else r1 s) = _) ∧ ((s : Int) ≤ v5 + -1 → (if s = v0.toNat then v1 else r1 s) = _)
  by_cases e : s = v0.toNat
  · rw [if_pos e]
    refine ⟨fun _ => ?_, fun h => by omega⟩
    show v1 = zg_mx (zg_w (zg_h r2 r3 r4 v3 v2.toNat) v4.toNat) (zg_h r2 r3 r4 v3 v2.toNat v4.toNat) s s
    rw [show s = v5.toNat by omega, ← em]
    omega
  · rw [if_neg e]
    exact ⟨fun h => (h1 s hs).1 (by omega), fun h => (h1 s hs).2 (by omega)⟩
def zg_r13s_w0 : zi_A := ([((2, [(3031, [])], []), 1, 2), ((13, [(5000, []), (3003, []), (3006, []), (3004, [])], [([((4001, [1]), 1)], 0), ([((4001, [4]), 1)], 0), ([((3, []), 1)], 0), ([((4, []), 1)], 0), ([((2, []), 1)], 0)]), 0, 0), ((12, [(3032, []), (3003, []), (3006, []), (3004, [])], [([((4001, [1]), 1)], 0), ([((4001, [4]), 1)], 0), ([((3, []), 1)], 0), ([((2, []), 1)], 0)]), 0, 0), ((14, [(5000, []), (3032, [])], [([((4, []), 1)], 0), ([], 1)]), 0, 1)], [([((5000, []), 1), ((4, []), (-1))], 0), ([((5000, []), (-1)), ((4, []), 1)], 0), ([((5001, []), 1), ((5002, []), (-1))], 0), ([((5001, []), (-1)), ((5002, []), 1)], 0), ([((4, []), 1)], 0), ([((2, []), 1), ((4, []), (-1))], (-1)), ([((3, []), 1)], 0), ([((2, []), (-1))], 64)], [], [(13, [(3031, []), (3003, []), (3006, []), (3004, [])], [([((4001, [1]), 1)], 0), ([((4001, [4]), 1)], 0), ([((3, []), 1)], 0), ([((4, []), 1)], (-1)), ([((2, []), 1)], 0)])], [])
theorem zg_r13s_k0 : zi_ok zg_r13s_w0 := fun ρ ν => @zg_r13s_m0 (ρ (3031, [])) (ρ (5000, [])) (ρ (3003, [])) (ρ (3006, [])) (ρ (3004, [])) (ρ (3032, [])) (ν (5000, [])) (ν (5001, [])) (ν (4001, [1])) (ν (4001, [4])) (ν (3, [])) (ν (4, [])) (ν (2, [])) (ν (5002, []))
def zg_r13s : List zi_A := [zg_r13s_w0]
theorem zg_r13s_ok : ∀ A ∈ zg_r13s, zi_ok A := List.forall_mem_cons.mpr ⟨zg_r13s_k0, fun _ h => absurd h List.not_mem_nil⟩

theorem zg_r13b_m0 {r0 r1 r2 r3 : Nat → Int} {v0 v1 v2 v3 v4 : Int} (h0 : zk_S 13 [r0, r1, r2, r3] [1 * v0 + 0, 1 * v1 + 0, 1 * v2 + 0, 1 * v3 + 0, 1 * v4 + 0]) (c0 : 0 ≤ 1 * v3 + 0) (c1 : 0 ≤ (-1) * v3 + 0) (c2 : 0 ≤ 1 * v2 + 0) (c3 : 0 ≤ (-1) * v4 + 64) : (zk_S 13 [r0, r1, r2, r3] [1 * v0 + 0, 1 * v1 + 0, 1 * v2 + 1, 64, 1 * v4 + 0] ∧ True) ∧ True := by
  simp only [zq_13, Int.one_mul, Int.add_zero, and_true, true_and] at *
  unfold zg_k13 at h0 ⊢
  intro s hs
  rw [show (v2 + 1).toNat = v2.toNat + 1 by omega]
  refine ⟨fun h => absurd hs (by omega), fun h => ?_⟩
  · by_cases e : s = 0
    · subst e
      exact (h0 0 hs).2 (by omega)
    · exact (h0 s hs).1 (by omega)
def zg_r13b_w0 : zi_A := ([((13, [(3031, []), (3003, []), (3006, []), (3004, [])], [([((4001, [1]), 1)], 0), ([((4001, [4]), 1)], 0), ([((3, []), 1)], 0), ([((4, []), 1)], 0), ([((2, []), 1)], 0)]), 0, 0)], [([((4, []), 1)], 0), ([((4, []), (-1))], 0), ([((3, []), 1)], 0), ([((2, []), (-1))], 64)], [], [(13, [(3031, []), (3003, []), (3006, []), (3004, [])], [([((4001, [1]), 1)], 0), ([((4001, [4]), 1)], 0), ([((3, []), 1)], 1), ([], 64), ([((2, []), 1)], 0)])], [])
theorem zg_r13b_k0 : zi_ok zg_r13b_w0 := fun ρ ν => @zg_r13b_m0 (ρ (3031, [])) (ρ (3003, [])) (ρ (3006, [])) (ρ (3004, [])) (ν (4001, [1])) (ν (4001, [4])) (ν (3, [])) (ν (4, [])) (ν (2, []))
def zg_r13b : List zi_A := [zg_r13b_w0]
theorem zg_r13b_ok : ∀ A ∈ zg_r13b, zi_ok A := List.forall_mem_cons.mpr ⟨zg_r13b_k0, fun _ h => absurd h List.not_mem_nil⟩

theorem zg_r13v_m0 {r0 r1 r2 r3 r4 : Nat → Int} {v0 v1 v2 v3 v4 v5 v6 v7 v8 : Int} (h0 : zk_S 13 [r0, r1, r2, r3] [1 * v0 + 0, 1 * v1 + 0, 1 * v2 + 0, 1 * v3 + 0, 1 * v4 + 0]) (h1 : zk_S 12 [r4, r1, r2, r3] [1 * v0 + 0, 1 * v1 + 0, 1 * v2 + 0, 1 * v4 + 0]) (h2 : zk_S 14 [r0, r4] [1 * v3 + 0, 1, v5]) (h3 : zk_S 3 [r2] [v6, v7]) (c0 : 0 ≤ 1 * v8 + ((-1) * v5 + 0)) (c1 : 0 ≤ (-1) * v8 + (1 * v5 + 0)) (c2 : 0 ≤ 1 * v3 + 0) (c3 : 0 ≤ 1 * v4 + ((-1) * v3 + (-1))) (c4 : 0 ≤ 1 * v2 + 0) (c5 : 0 ≤ (-1) * v2 + 4) (c6 : 0 ≤ (-1) * v4 + 64) (c7 : 0 ≤ 1 * v0 + 0) (c8 : 0 ≤ (-1) * v0 + 6) : (True) ∧ 0 ≤ 1 * v8 + 0 ∧ 0 ≤ (-1) * v8 + 326591 ∧ True := by
  simp only [zq_3, zq_12, zq_13, zq_14, Int.one_mul, Int.add_zero, and_true, true_and] at *
  unfold zg_k13 at h0
  unfold zg_k12 at h1
  obtain ⟨m1, m2, m3⟩ := h2
  have em : v5 = zg_mx (zg_w (zg_h r1 r2 r3 v1 v0.toNat) v2.toNat) (zg_h r1 r2 r3 v1 v0.toNat v2.toNat) v3.toNat v3.toNat := zg_mx_eq (fun x hx => (h0 x (by omega)).2 (by omega)) (fun x hx => h1 x (by omega)) m1 m2 m3
  have w : 0 ≤ v5 ∧ v5 ≤ zg_C v3.toNat := by
    rw [em]
    exact zg_w_C (night := r1) (needs := r2) (blue := r3) (limit := v1) (m := v0.toNat) (by omega) (b := v2.toNat + 1) (by omega) (s := v3.toNat) (by omega)
  have c := (zg_C_le ⟨v3.toNat, by omega⟩).1
  have c : zg_C v3.toNat ≤ 326591 := c
  omega
def zg_r13v_w0 : zi_A := ([((13, [(3031, []), (3003, []), (3006, []), (3004, [])], [([((4001, [1]), 1)], 0), ([((4001, [4]), 1)], 0), ([((3, []), 1)], 0), ([((4, []), 1)], 0), ([((2, []), 1)], 0)]), 0, 0), ((12, [(3032, []), (3003, []), (3006, []), (3004, [])], [([((4001, [1]), 1)], 0), ([((4001, [4]), 1)], 0), ([((3, []), 1)], 0), ([((2, []), 1)], 0)]), 0, 0), ((14, [(3031, []), (3032, [])], [([((4, []), 1)], 0), ([], 1)]), 0, 1), ((3, [(3006, [])], []), 0, 2)], [([((4500, []), 1), ((5000, []), (-1))], 0), ([((4500, []), (-1)), ((5000, []), 1)], 0), ([((4, []), 1)], 0), ([((2, []), 1), ((4, []), (-1))], (-1)), ([((3, []), 1)], 0), ([((3, []), (-1))], 4), ([((2, []), (-1))], 64), ([((4001, [1]), 1)], 0), ([((4001, [1]), (-1))], 6)], [], [], [([((4500, []), 1)], 0), ([((4500, []), (-1))], 326591)])
theorem zg_r13v_k0 : zi_ok zg_r13v_w0 := fun ρ ν => @zg_r13v_m0 (ρ (3031, [])) (ρ (3003, [])) (ρ (3006, [])) (ρ (3004, [])) (ρ (3032, [])) (ν (4001, [1])) (ν (4001, [4])) (ν (3, [])) (ν (4, [])) (ν (2, [])) (ν (5000, [])) (ν (5001, [])) (ν (5002, [])) (ν (4500, []))
def zg_r13v : List zi_A := [zg_r13v_w0]
theorem zg_r13v_ok : ∀ A ∈ zg_r13v, zi_ok A := List.forall_mem_cons.mpr ⟨zg_r13v_k0, fun _ h => absurd h List.not_mem_nil⟩

theorem zg_r14j_m0 {r0 r1 : Nat → Int} {v0 v1 v2 : Int} (h0 : zk_S 1 [r0] [1 * v0 + 0, v1]) (c0 : 0 ≤ 1 * v2 + ((-1) * v1 + 0)) (c1 : 0 ≤ (-1) * v2 + (1 * v1 + 0)) (c2 : 0 ≤ 1 * v0 + 0) : (zk_S 14 [r0, r1] [1 * v0 + 0, 1 * v0 + 1, 1 * v2 + 0] ∧ zk_S 16 [] [1 * v0 + 0, 1 * v0 + 0] ∧ True) ∧ True := by
  simp only [zq_1, zq_14, zq_16, Int.one_mul, Int.add_zero, and_true, true_and] at *
  refine ⟨⟨by omega, fun q q0 hq hp => ?_, Or.inl (by omega)⟩, ?_⟩
  · have := Nat.and_le_right (n := q) (m := v0.toNat)
    omega
  · unfold zg_k16
    exact Nat.and_self _
def zg_r14j_w0 : zi_A := ([((1, [(3031, [])], [([((1, []), 1)], 0)]), 0, 1)], [([((2, []), 1), ((5000, []), (-1))], 0), ([((2, []), (-1)), ((5000, []), 1)], 0), ([((1, []), 1)], 0)], [], [(14, [(3031, []), (3032, [])], [([((1, []), 1)], 0), ([((1, []), 1)], 1), ([((2, []), 1)], 0)]), (16, [], [([((1, []), 1)], 0), ([((1, []), 1)], 0)])], [])
theorem zg_r14j_k0 : zi_ok zg_r14j_w0 := fun ρ ν => @zg_r14j_m0 (ρ (3031, [])) (ρ (3032, [])) (ν (1, [])) (ν (5000, [])) (ν (2, []))
def zg_r14j : List zi_A := [zg_r14j_w0]
theorem zg_r14j_ok : ∀ A ∈ zg_r14j, zi_ok A := List.forall_mem_cons.mpr ⟨zg_r14j_k0, fun _ h => absurd h List.not_mem_nil⟩

theorem zg_r14s_m0 {r0 r1 : Nat → Int} {v0 v1 v2 v3 v4 v5 v6 : Int} (h0 : zk_S 14 [r0, r1] [1 * v0 + 0, 1 * v1 + 1, v2]) (h1 : zk_S 71 [] [1 * v0 + 0, 1 * v1 + 0, v3]) (h2 : zk_S 1 [r0] [1 * v3 + 0, v4]) (h3 : zk_S 1 [r1] [1 * v1 + 0, v5]) (h4 : zk_S 16 [] [1 * v0 + 0, 1 * v1 + 0]) (c0 : 0 ≤ 1 * v0 + 0) (c1 : 0 ≤ (-1) * v0 + 63) (c2 : 0 ≤ 1 * v1 + (-1)) (c3 : 0 ≤ (-1) * v1 + 63) (c4 : 0 ≤ 1 * v3 + 0) (c5 : 0 ≤ (-1) * v3 + 63) (c6 : 0 ≤ 1 * v6 + ((-1) * v4 + ((-1) * v5 + 0))) (c7 : 0 ≤ (-1) * v6 + (1 * v4 + (1 * v5 + 0))) (c8 : 0 ≤ 1 * v4 + (1 * v5 + ((-1) * v2 + 0))) : (zk_S 14 [r0, r1] [1 * v0 + 0, 1 * v1 + 0, 1 * v6 + 0] ∧ True) ∧ True := by
  simp only [zq_1, zq_14, zq_16, zq_71, Int.one_mul, Int.add_zero, and_true, true_and] at *
  obtain ⟨m1, m2, m3⟩ := h0
  have hx : Int32.ofInt v3 = Int32.ofInt v0 ^^^ Int32.ofInt v1 := h1
  have x6 := zg_xor64 ⟨v0.toNat, by omega⟩ ⟨v1.toNat, by omega⟩
  rw [show (((⟨v0.toNat, by omega⟩ : Fin 64).val : Nat) : Int) = v0 from by show ((v0.toNat : Nat) : Int) = v0; omega, show (((⟨v1.toNat, by omega⟩ : Fin 64).val : Nat) : Int) = v1 from by show ((v1.toNat : Nat) : Int) = v1; omega, ← hx] at x6
  have x6 : Int32.ofInt v3 = Int32.ofInt ((v0.toNat ^^^ v1.toNat : Nat) : Int) := x6
  have xl := zg_xor_lt (s := v0.toNat) (q := v1.toNat) (by omega) (by omega)
  have ex := zg_i32 x6 (by omega) (by omega) (by omega) (by omega)
  unfold zg_k16 at h4
  have rx : r0 (v0.toNat ^^^ v1.toNat) = v4 := by rw [show v0.toNat ^^^ v1.toNat = v3.toNat by omega]; exact h2
  refine ⟨by omega, fun q q0 hq hp => ?_, ?_⟩
  · clear m3
    by_cases e : q = v1.toNat
    · rw [e, rx, h3]
      omega
    · have := m2 q q0 hq (by omega)
      omega
  · exact Or.inr ⟨v1.toNat, by omega, h4, by omega, by rw [rx, h3]; omega⟩
def zg_r14s_w0 : zi_A := ([((14, [(3031, []), (3032, [])], [([((1, []), 1)], 0), ([((3, []), 1)], 1)]), 0, 1), ((71, [], [([((1, []), 1)], 0), ([((3, []), 1)], 0)]), 0, 1), ((1, [(3031, [])], [([((5001, []), 1)], 0)]), 0, 1), ((1, [(3032, [])], [([((3, []), 1)], 0)]), 0, 1), ((16, [], [([((1, []), 1)], 0), ([((3, []), 1)], 0)]), 0, 0)], [([((1, []), 1)], 0), ([((1, []), (-1))], 63), ([((3, []), 1)], (-1)), ([((3, []), (-1))], 63), ([((5001, []), 1)], 0), ([((5001, []), (-1))], 63), ([((2, []), 1), ((5002, []), (-1)), ((5003, []), (-1))], 0), ([((2, []), (-1)), ((5002, []), 1), ((5003, []), 1)], 0), ([((5002, []), 1), ((5003, []), 1), ((5000, []), (-1))], 0)], [], [(14, [(3031, []), (3032, [])], [([((1, []), 1)], 0), ([((3, []), 1)], 0), ([((2, []), 1)], 0)])], [])
theorem zg_r14s_k0 : zi_ok zg_r14s_w0 := fun ρ ν => @zg_r14s_m0 (ρ (3031, [])) (ρ (3032, [])) (ν (1, [])) (ν (3, [])) (ν (5000, [])) (ν (5001, [])) (ν (5002, [])) (ν (5003, [])) (ν (2, []))
theorem zg_r14s_m1 {r0 r1 : Nat → Int} {v0 v1 v2 v3 v4 v5 v6 : Int} (h0 : zk_S 14 [r0, r1] [1 * v0 + 0, 1 * v1 + 1, v2]) (h1 : zk_S 71 [] [1 * v0 + 0, 1 * v1 + 0, v3]) (h2 : zk_S 1 [r0] [1 * v3 + 0, v4]) (h3 : zk_S 1 [r1] [1 * v1 + 0, v5]) (h4 : zk_S 16 [] [1 * v0 + 0, 1 * v1 + 0]) (c0 : 0 ≤ 1 * v0 + 0) (c1 : 0 ≤ (-1) * v0 + 63) (c2 : 0 ≤ 1 * v1 + (-1)) (c3 : 0 ≤ (-1) * v1 + 63) (c4 : 0 ≤ 1 * v3 + 0) (c5 : 0 ≤ (-1) * v3 + 63) (c6 : 0 ≤ 1 * v6 + ((-1) * v2 + 0)) (c7 : 0 ≤ (-1) * v6 + (1 * v2 + 0)) (c8 : 0 ≤ 1 * v2 + ((-1) * v4 + ((-1) * v5 + 0))) : (zk_S 14 [r0, r1] [1 * v0 + 0, 1 * v1 + 0, 1 * v6 + 0] ∧ True) ∧ True := by
  simp only [zq_1, zq_14, zq_16, zq_71, Int.one_mul, Int.add_zero, and_true, true_and] at *
  obtain ⟨m1, m2, m3⟩ := h0
  have hx : Int32.ofInt v3 = Int32.ofInt v0 ^^^ Int32.ofInt v1 := h1
  have x6 := zg_xor64 ⟨v0.toNat, by omega⟩ ⟨v1.toNat, by omega⟩
  rw [show (((⟨v0.toNat, by omega⟩ : Fin 64).val : Nat) : Int) = v0 from by show ((v0.toNat : Nat) : Int) = v0; omega, show (((⟨v1.toNat, by omega⟩ : Fin 64).val : Nat) : Int) = v1 from by show ((v1.toNat : Nat) : Int) = v1; omega, ← hx] at x6
  have x6 : Int32.ofInt v3 = Int32.ofInt ((v0.toNat ^^^ v1.toNat : Nat) : Int) := x6
  have xl := zg_xor_lt (s := v0.toNat) (q := v1.toNat) (by omega) (by omega)
  have ex := zg_i32 x6 (by omega) (by omega) (by omega) (by omega)
  unfold zg_k16 at h4
  have rx : r0 (v0.toNat ^^^ v1.toNat) = v4 := by rw [show v0.toNat ^^^ v1.toNat = v3.toNat by omega]; exact h2
  refine ⟨by omega, fun q q0 hq hp => ?_, ?_⟩
  · clear m3
    by_cases e : q = v1.toNat
    · rw [e, rx, h3]
      omega
    · have := m2 q q0 hq (by omega)
      omega
  · rcases m3 with m3 | ⟨q, q1, q2, q3, q4⟩
    · exact Or.inl (by omega)
    · exact Or.inr ⟨q, q1, q2, by omega, by omega⟩
def zg_r14s_w1 : zi_A := ([((14, [(3031, []), (3032, [])], [([((1, []), 1)], 0), ([((3, []), 1)], 1)]), 0, 1), ((71, [], [([((1, []), 1)], 0), ([((3, []), 1)], 0)]), 0, 1), ((1, [(3031, [])], [([((5001, []), 1)], 0)]), 0, 1), ((1, [(3032, [])], [([((3, []), 1)], 0)]), 0, 1), ((16, [], [([((1, []), 1)], 0), ([((3, []), 1)], 0)]), 0, 0)], [([((1, []), 1)], 0), ([((1, []), (-1))], 63), ([((3, []), 1)], (-1)), ([((3, []), (-1))], 63), ([((5001, []), 1)], 0), ([((5001, []), (-1))], 63), ([((2, []), 1), ((5000, []), (-1))], 0), ([((2, []), (-1)), ((5000, []), 1)], 0), ([((5000, []), 1), ((5002, []), (-1)), ((5003, []), (-1))], 0)], [], [(14, [(3031, []), (3032, [])], [([((1, []), 1)], 0), ([((3, []), 1)], 0), ([((2, []), 1)], 0)])], [])
theorem zg_r14s_k1 : zi_ok zg_r14s_w1 := fun ρ ν => @zg_r14s_m1 (ρ (3031, [])) (ρ (3032, [])) (ν (1, [])) (ν (3, [])) (ν (5000, [])) (ν (5001, [])) (ν (5002, [])) (ν (5003, [])) (ν (2, []))
def zg_r14s : List zi_A := [zg_r14s_w0, zg_r14s_w1]
theorem zg_r14s_ok : ∀ A ∈ zg_r14s, zi_ok A := List.forall_mem_cons.mpr ⟨zg_r14s_k0, List.forall_mem_cons.mpr ⟨zg_r14s_k1, fun _ h => absurd h List.not_mem_nil⟩⟩

theorem zg_r14p_m0 {r0 r1 : Nat → Int} {v0 v1 v2 v3 v4 v5 : Int} (h0 : zk_S 80 [] [4, v0, v1, v2]) (h1 : zk_S 14 [r0, r1] [1 * v3 + 0, 1 * v0 + 1, v4]) (h2 : zk_S 16 [] [1 * v3 + 0, 1 * v0 + 1]) (c0 : 0 ≤ 1 * v1 + ((-1) * v3 + 0)) (c1 : 0 ≤ (-1) * v1 + (1 * v3 + 0)) (c2 : 0 ≤ 1 * v2 + ((-1) * v5 + 0)) (c3 : 0 ≤ (-1) * v2 + (1 * v5 + 0)) (c4 : 0 ≤ 1 * v3 + 0) (c5 : 0 ≤ (-1) * v3 + 63) (c6 : 0 ≤ 1 * v0 + 0) (c7 : 0 ≤ (-1) * v0 + 62) (c8 : 0 ≤ 1 * v5 + 0) (c9 : 0 ≤ (-1) * v5 + 63) : (zk_S 14 [r0, r1] [1 * v3 + 0, 1 * v5 + 1, 1 * v4 + 0] ∧ zk_S 16 [] [1 * v3 + 0, 1 * v5 + 0] ∧ True) ∧ True := by
  simp only [zq_14, zq_16, zq_80, Int.one_mul, Int.add_zero, and_true, true_and] at *
  obtain ⟨m1, m2, m3⟩ := h1
  unfold zg_k16 at h2 ⊢
  have ha : Int32.ofInt v2 = zx_o32 4 (Int32.ofInt v0) (Int32.ofInt v1) := h0
  have a6 := zg_and64 ⟨v0.toNat, by omega⟩ ⟨v3.toNat, by omega⟩
  rw [show (((⟨v0.toNat, by omega⟩ : Fin 64).val : Nat) : Int) = v0 from by show ((v0.toNat : Nat) : Int) = v0; omega, show (((⟨v3.toNat, by omega⟩ : Fin 64).val : Nat) : Int) = v1 from by show ((v3.toNat : Nat) : Int) = v1; omega, ← ha] at a6
  have a6 : Int32.ofInt v2 = Int32.ofInt ((v0.toNat &&& v3.toNat : Nat) : Int) := a6
  have al := Nat.and_le_right (n := v0.toNat) (m := v3.toNat)
  have ea := zg_i32 a6 (by omega) (by omega) (by omega) (by omega)
  have e1 : (v0 + 1).toNat - 1 = v0.toNat := by clear m3; omega
  have e5 : v5.toNat = v0.toNat &&& v3.toNat := by clear m3; omega
  have nx : ∀ q : Nat, 0 < q → q &&& v3.toNat = q → (v5.toNat + 1 ≤ q ↔ (v0 + 1).toNat ≤ q) := fun q q0 hq => by
    clear m3
    have := zg_next (s := v3.toNat) (o := (v0 + 1).toNat) (by omega) h2 (by omega) (by omega) hq q0
    rw [e1, ← e5] at this
    exact this
  refine ⟨⟨m1, fun q q0 hq hp => m2 q q0 hq (by clear m3; have := (nx q q0 hq).mp (by omega); omega), ?_⟩, ?_⟩
  · rcases m3 with m3 | ⟨q, q1, q2, q3, q4⟩
    · exact Or.inl m3
    · exact Or.inr ⟨q, q1, q2, by have := (nx q q1 q2).mpr (by omega); omega, q4⟩
  · rw [e5, Nat.and_assoc, Nat.and_self]
def zg_r14p_w0 : zi_A := ([((80, [], [([], 4)]), 0, 3), ((14, [(3031, []), (3032, [])], [([((1, []), 1)], 0), ([((5000, []), 1)], 1)]), 0, 1), ((16, [], [([((1, []), 1)], 0), ([((5000, []), 1)], 1)]), 0, 0)], [([((5001, []), 1), ((1, []), (-1))], 0), ([((5001, []), (-1)), ((1, []), 1)], 0), ([((5002, []), 1), ((3, []), (-1))], 0), ([((5002, []), (-1)), ((3, []), 1)], 0), ([((1, []), 1)], 0), ([((1, []), (-1))], 63), ([((5000, []), 1)], 0), ([((5000, []), (-1))], 62), ([((3, []), 1)], 0), ([((3, []), (-1))], 63)], [], [(14, [(3031, []), (3032, [])], [([((1, []), 1)], 0), ([((3, []), 1)], 1), ([((5003, []), 1)], 0)]), (16, [], [([((1, []), 1)], 0), ([((3, []), 1)], 0)])], [])
theorem zg_r14p_k0 : zi_ok zg_r14p_w0 := fun ρ ν => @zg_r14p_m0 (ρ (3031, [])) (ρ (3032, [])) (ν (5000, [])) (ν (5001, [])) (ν (5002, [])) (ν (1, [])) (ν (5003, [])) (ν (3, []))
def zg_r14p : List zi_A := [zg_r14p_w0]
theorem zg_r14p_ok : ∀ A ∈ zg_r14p, zi_ok A := List.forall_mem_cons.mpr ⟨zg_r14p_k0, fun _ h => absurd h List.not_mem_nil⟩

theorem zg_r18_m0 {r0 r1 r2 r3 : Nat → Int} {v0 v1 v2 v3 v4 v5 : Int} (h0 : zk_S 13 [r0, r1, r2, r3] [1 * v0 + 0, 1 * v1 + 0, 1 * v2 + 0, 64, 1 * v3 + 0]) (h1 : zk_S 19 [] [1 * v0 + 0, 1 * v3 + 0]) (h2 : zk_S 1 [r0] [1 * v3 + (-1), v4]) (c0 : 0 ≤ 1 * v5 + ((-1) * v4 + 0)) (c1 : 0 ≤ (-1) * v5 + (1 * v4 + 0)) (c2 : 0 ≤ 1 * v2 + 0) (c3 : 0 ≤ (-1) * v2 + 5) (c4 : 0 ≤ 1 * v0 + 0) (c5 : 0 ≤ (-1) * v0 + 6) (c6 : 0 ≤ 1 * v3 + (-1)) : (zk_S 18 [r1, r2, r3] [1 * v0 + 0, 1 * v1 + 0, 1 * v2 + 0, 1 * v5 + 0] ∧ True) ∧ True := by
  simp only [zq_1, zq_13, zq_18, zq_19, Int.one_mul, Int.add_zero, and_true, true_and] at *
  unfold zg_k13 at h0
  unfold zg_k19 at h1
  unfold zg_k18
  have q := (h0 (v3 + -1).toNat (by omega)).2 (by
    have p6 : (2 : Nat) ^ v0.toNat ≤ 2 ^ 6 := Nat.pow_le_pow_right (by omega) (by omega)
    omega)
  rw [show 2 ^ v0.toNat - 1 = (v3 + -1).toNat by omega, ← q, h2]
  omega
def zg_r18_w0 : zi_A := ([((13, [(3031, []), (3003, []), (3006, []), (3004, [])], [([((4001, [1]), 1)], 0), ([((4001, [4]), 1)], 0), ([((4001, [0]), 1)], 0), ([], 64), ([((2, []), 1)], 0)]), 0, 0), ((19, [], [([((4001, [1]), 1)], 0), ([((2, []), 1)], 0)]), 0, 0), ((1, [(3031, [])], [([((2, []), 1)], (-1))]), 0, 1)], [([((4030, [2]), 1), ((5000, []), (-1))], 0), ([((4030, [2]), (-1)), ((5000, []), 1)], 0), ([((4001, [0]), 1)], 0), ([((4001, [0]), (-1))], 5), ([((4001, [1]), 1)], 0), ([((4001, [1]), (-1))], 6), ([((2, []), 1)], (-1))], [], [(18, [(3003, []), (3006, []), (3004, [])], [([((4001, [1]), 1)], 0), ([((4001, [4]), 1)], 0), ([((4001, [0]), 1)], 0), ([((4030, [2]), 1)], 0)])], [])
theorem zg_r18_k0 : zi_ok zg_r18_w0 := fun ρ ν => @zg_r18_m0 (ρ (3031, [])) (ρ (3003, [])) (ρ (3006, [])) (ρ (3004, [])) (ν (4001, [1])) (ν (4001, [4])) (ν (4001, [0])) (ν (2, [])) (ν (5000, [])) (ν (4030, [2]))
def zg_r18 : List zi_A := [zg_r18_w0]
theorem zg_r18_ok : ∀ A ∈ zg_r18, zi_ok A := List.forall_mem_cons.mpr ⟨zg_r18_k0, fun _ h => absurd h List.not_mem_nil⟩

theorem zg_r18v_m0 {r0 r1 r2 : Nat → Int} {v0 v1 v2 v3 v4 v5 : Int} (h0 : zk_S 18 [r0, r1, r2] [1 * v0 + 0, 1 * v1 + 0, 1 * v2 + 0, 1 * v3 + 0]) (h1 : zk_S 3 [r1] [v4, v5]) (c0 : 0 ≤ 1 * v4 + 0) (c1 : 0 ≤ 1 * v0 + 0) (c2 : 0 ≤ (-1) * v0 + 6) (c3 : 0 ≤ 1 * v2 + 0) (c4 : 0 ≤ (-1) * v2 + 5) : (True) ∧ 0 ≤ 1 * v3 + 0 ∧ 0 ≤ (-1) * v3 + 326591 ∧ True := by
  simp only [zq_3, zq_18, Int.one_mul, Int.add_zero, and_true, true_and] at *
  unfold zg_k18 at h0
  have p6 := zg_full_lt (m := v0.toNat) (by omega)
  have w := zg_w_C (night := r0) (needs := r1) (blue := r2) (limit := v1) (m := v0.toNat) (by omega) (b := v2.toNat) (by omega) (s := 2 ^ v0.toNat - 1) p6
  have c := (zg_C_le ⟨2 ^ v0.toNat - 1, p6⟩).1
  have c : zg_C (2 ^ v0.toNat - 1) ≤ 326591 := c
  omega
def zg_r18v_w0 : zi_A := ([((18, [(3003, []), (3006, []), (3004, [])], [([((4001, [1]), 1)], 0), ([((4001, [4]), 1)], 0), ([((4001, [0]), 1)], 0), ([((4030, [2]), 1)], 0)]), 0, 0), ((3, [(3006, [])], []), 0, 2)], [([((5000, []), 1)], 0), ([((4001, [1]), 1)], 0), ([((4001, [1]), (-1))], 6), ([((4001, [0]), 1)], 0), ([((4001, [0]), (-1))], 5)], [], [], [([((4030, [2]), 1)], 0), ([((4030, [2]), (-1))], 326591)])
theorem zg_r18v_k0 : zi_ok zg_r18v_w0 := fun ρ ν => @zg_r18v_m0 (ρ (3003, [])) (ρ (3006, [])) (ρ (3004, [])) (ν (4001, [1])) (ν (4001, [4])) (ν (4001, [0])) (ν (4030, [2])) (ν (5000, [])) (ν (5001, []))
def zg_r18v : List zi_A := [zg_r18v_w0]
theorem zg_r18v_ok : ∀ A ∈ zg_r18v, zi_ok A := List.forall_mem_cons.mpr ⟨zg_r18v_k0, fun _ h => absurd h List.not_mem_nil⟩

theorem zg_r59a_m0 {v0 v1 v2 : Int} (h0 : zk_S 80 [] [2, 1 * v0 + 0, 46656, v1]) (c0 : 0 ≤ 1 * v0 + 0) (c1 : 0 ≤ (-1) * v0 + 326591) (c2 : 0 ≤ 1 * v1 + 0) (c3 : 0 ≤ (-1) * v1 + 1000000) (c4 : 0 ≤ 1 * v2 + ((-1) * v1 + 0)) (c5 : 0 ≤ (-1) * v2 + (1 * v1 + 0)) : (zk_S 59 [] [1 * v0 + 0, (-1), 1 * v2 + 0] ∧ True) ∧ True := by
  simp only [zq_59, zq_80, Int.one_mul, Int.add_zero, and_true, true_and] at *
  have e := zg_div h0 (by omega) (by omega) (by omega) (by omega) (by omega) (by omega)
  unfold zg_k59
  rw [if_pos (by omega)]
  omega
def zg_r59a_w0 : zi_A := ([((80, [], [([], 2), ([((4030, [2]), 1)], 0), ([], 46656)]), 0, 1)], [([((4030, [2]), 1)], 0), ([((4030, [2]), (-1))], 326591), ([((5000, []), 1)], 0), ([((5000, []), (-1))], 1000000), ([((4500, []), 1), ((5000, []), (-1))], 0), ([((4500, []), (-1)), ((5000, []), 1)], 0)], [], [(59, [], [([((4030, [2]), 1)], 0), ([], (-1)), ([((4500, []), 1)], 0)])], [])
theorem zg_r59a_k0 : zi_ok zg_r59a_w0 := fun ρ ν => @zg_r59a_m0 (ν (4030, [2])) (ν (5000, [])) (ν (4500, []))
def zg_r59a : List zi_A := [zg_r59a_w0]
theorem zg_r59a_ok : ∀ A ∈ zg_r59a, zi_ok A := List.forall_mem_cons.mpr ⟨zg_r59a_k0, fun _ h => absurd h List.not_mem_nil⟩

theorem zg_r59b_m0 {v0 v1 v2 v3 v4 v5 v6 : Int} (h0 : zk_S 80 [] [3, 1 * v0 + 0, 46656, v1]) (h1 : zk_S 80 [] [2, 1 * v1 + 0, 7776, v2]) (h2 : zk_S 80 [] [3, 1 * v2 + 0, 6, v3]) (c0 : 0 ≤ 1 * v4 + 0) (c1 : 0 ≤ (-1) * v4 + 0) (c2 : 0 ≤ 1 * v0 + 0) (c3 : 0 ≤ (-1) * v0 + 326591) (c4 : 0 ≤ 1 * v1 + 0) (c5 : 0 ≤ (-1) * v1 + 1000000) (c6 : 0 ≤ 1 * v2 + 0) (c7 : 0 ≤ (-1) * v2 + 1000000) (c8 : 0 ≤ 1 * v3 + 0) (c9 : 0 ≤ (-1) * v3 + 1000000) (c10 : 0 ≤ 1 * v5 + ((-1) * v3 + 0)) (c11 : 0 ≤ (-1) * v5 + (1 * v3 + 0)) (c12 : 0 ≤ 1 * v3 + 0) (c13 : 0 ≤ (-1) * v3 + 0) (c14 : 0 ≤ 1 * v6 + 1) (c15 : 0 ≤ (-1) * v6 + (-1)) : (zk_S 59 [] [1 * v0 + 0, 0, 1 * v6 + 0] ∧ True) ∧ True := by
  simp only [zq_59, zq_80, Int.one_mul, Int.add_zero, and_true, true_and] at *
  have e1 := zg_rem h0 (by omega) (by omega) (by omega) (by omega) (by omega) (by omega)
  have e2 := zg_div h1 (by omega) (by omega) (by omega) (by omega) (by omega) (by omega)
  have e3 := zg_rem h2 (by omega) (by omega) (by omega) (by omega) (by omega) (by omega)
  unfold zg_k59
  rw [if_neg (by omega), show zg_W (0 : Int).toNat = 7776 from rfl, ← e1, ← e2, ← e3, if_pos (by omega)]
  omega
def zg_r59b_w0 : zi_A := ([((80, [], [([], 3), ([((4030, [2]), 1)], 0), ([], 46656)]), 0, 1), ((80, [], [([], 2), ([((5000, []), 1)], 0), ([], 7776)]), 0, 1), ((80, [], [([], 3), ([((5001, []), 1)], 0), ([], 6)]), 0, 1)], [([((1, []), 1)], 0), ([((1, []), (-1))], 0), ([((4030, [2]), 1)], 0), ([((4030, [2]), (-1))], 326591), ([((5000, []), 1)], 0), ([((5000, []), (-1))], 1000000), ([((5001, []), 1)], 0), ([((5001, []), (-1))], 1000000), ([((5002, []), 1)], 0), ([((5002, []), (-1))], 1000000), ([((2, []), 1), ((5002, []), (-1))], 0), ([((2, []), (-1)), ((5002, []), 1)], 0), ([((5002, []), 1)], 0), ([((5002, []), (-1))], 0), ([((4500, []), 1)], 1), ([((4500, []), (-1))], (-1))], [], [(59, [], [([((4030, [2]), 1)], 0), ([], 0), ([((4500, []), 1)], 0)])], [])
theorem zg_r59b_k0 : zi_ok zg_r59b_w0 := fun ρ ν => @zg_r59b_m0 (ν (4030, [2])) (ν (5000, [])) (ν (5001, [])) (ν (5002, [])) (ν (1, [])) (ν (2, [])) (ν (4500, []))
theorem zg_r59b_m1 {v0 v1 v2 v3 v4 v5 v6 : Int} (h0 : zk_S 80 [] [3, 1 * v0 + 0, 46656, v1]) (h1 : zk_S 80 [] [2, 1 * v1 + 0, 7776, v2]) (h2 : zk_S 80 [] [3, 1 * v2 + 0, 6, v3]) (c0 : 0 ≤ 1 * v4 + 0) (c1 : 0 ≤ (-1) * v4 + 0) (c2 : 0 ≤ 1 * v0 + 0) (c3 : 0 ≤ (-1) * v0 + 326591) (c4 : 0 ≤ 1 * v1 + 0) (c5 : 0 ≤ (-1) * v1 + 1000000) (c6 : 0 ≤ 1 * v2 + 0) (c7 : 0 ≤ (-1) * v2 + 1000000) (c8 : 0 ≤ 1 * v3 + 0) (c9 : 0 ≤ (-1) * v3 + 1000000) (c10 : 0 ≤ 1 * v5 + ((-1) * v3 + 0)) (c11 : 0 ≤ (-1) * v5 + (1 * v3 + 0)) (c12 : 0 ≤ 1 * v3 + (-1)) (c13 : 0 ≤ 1 * v6 + (1 * v3 + (-5))) (c14 : 0 ≤ (-1) * v6 + ((-1) * v3 + 5)) : (zk_S 59 [] [1 * v0 + 0, 0, 1 * v6 + 0] ∧ True) ∧ True := by
  simp only [zq_59, zq_80, Int.one_mul, Int.add_zero, and_true, true_and] at *
  have e1 := zg_rem h0 (by omega) (by omega) (by omega) (by omega) (by omega) (by omega)
  have e2 := zg_div h1 (by omega) (by omega) (by omega) (by omega) (by omega) (by omega)
  have e3 := zg_rem h2 (by omega) (by omega) (by omega) (by omega) (by omega) (by omega)
  unfold zg_k59
  rw [if_neg (by omega), show zg_W (0 : Int).toNat = 7776 from rfl, ← e1, ← e2, ← e3, if_neg (by omega)]
  omega
def zg_r59b_w1 : zi_A := ([((80, [], [([], 3), ([((4030, [2]), 1)], 0), ([], 46656)]), 0, 1), ((80, [], [([], 2), ([((5000, []), 1)], 0), ([], 7776)]), 0, 1), ((80, [], [([], 3), ([((5001, []), 1)], 0), ([], 6)]), 0, 1)], [([((1, []), 1)], 0), ([((1, []), (-1))], 0), ([((4030, [2]), 1)], 0), ([((4030, [2]), (-1))], 326591), ([((5000, []), 1)], 0), ([((5000, []), (-1))], 1000000), ([((5001, []), 1)], 0), ([((5001, []), (-1))], 1000000), ([((5002, []), 1)], 0), ([((5002, []), (-1))], 1000000), ([((2, []), 1), ((5002, []), (-1))], 0), ([((2, []), (-1)), ((5002, []), 1)], 0), ([((5002, []), 1)], (-1)), ([((4500, []), 1), ((5002, []), 1)], (-5)), ([((4500, []), (-1)), ((5002, []), (-1))], 5)], [], [(59, [], [([((4030, [2]), 1)], 0), ([], 0), ([((4500, []), 1)], 0)])], [])
theorem zg_r59b_k1 : zi_ok zg_r59b_w1 := fun ρ ν => @zg_r59b_m1 (ν (4030, [2])) (ν (5000, [])) (ν (5001, [])) (ν (5002, [])) (ν (1, [])) (ν (2, [])) (ν (4500, []))
theorem zg_r59b_m2 {v0 v1 v2 v3 v4 v5 v6 : Int} (h0 : zk_S 80 [] [3, 1 * v0 + 0, 46656, v1]) (h1 : zk_S 80 [] [2, 1 * v1 + 0, 1296, v2]) (h2 : zk_S 80 [] [3, 1 * v2 + 0, 6, v3]) (c0 : 0 ≤ 1 * v4 + (-1)) (c1 : 0 ≤ (-1) * v4 + 1) (c2 : 0 ≤ 1 * v0 + 0) (c3 : 0 ≤ (-1) * v0 + 326591) (c4 : 0 ≤ 1 * v1 + 0) (c5 : 0 ≤ (-1) * v1 + 1000000) (c6 : 0 ≤ 1 * v2 + 0) (c7 : 0 ≤ (-1) * v2 + 1000000) (c8 : 0 ≤ 1 * v3 + 0) (c9 : 0 ≤ (-1) * v3 + 1000000) (c10 : 0 ≤ 1 * v5 + ((-1) * v3 + 0)) (c11 : 0 ≤ (-1) * v5 + (1 * v3 + 0)) (c12 : 0 ≤ 1 * v3 + 0) (c13 : 0 ≤ (-1) * v3 + 0) (c14 : 0 ≤ 1 * v6 + 1) (c15 : 0 ≤ (-1) * v6 + (-1)) : (zk_S 59 [] [1 * v0 + 0, 1, 1 * v6 + 0] ∧ True) ∧ True := by
  simp only [zq_59, zq_80, Int.one_mul, Int.add_zero, and_true, true_and] at *
  have e1 := zg_rem h0 (by omega) (by omega) (by omega) (by omega) (by omega) (by omega)
  have e2 := zg_div h1 (by omega) (by omega) (by omega) (by omega) (by omega) (by omega)
  have e3 := zg_rem h2 (by omega) (by omega) (by omega) (by omega) (by omega) (by omega)
  unfold zg_k59
  rw [if_neg (by omega), show zg_W (1 : Int).toNat = 1296 from rfl, ← e1, ← e2, ← e3, if_pos (by omega)]
  omega
def zg_r59b_w2 : zi_A := ([((80, [], [([], 3), ([((4030, [2]), 1)], 0), ([], 46656)]), 0, 1), ((80, [], [([], 2), ([((5000, []), 1)], 0), ([], 1296)]), 0, 1), ((80, [], [([], 3), ([((5001, []), 1)], 0), ([], 6)]), 0, 1)], [([((1, []), 1)], (-1)), ([((1, []), (-1))], 1), ([((4030, [2]), 1)], 0), ([((4030, [2]), (-1))], 326591), ([((5000, []), 1)], 0), ([((5000, []), (-1))], 1000000), ([((5001, []), 1)], 0), ([((5001, []), (-1))], 1000000), ([((5002, []), 1)], 0), ([((5002, []), (-1))], 1000000), ([((2, []), 1), ((5002, []), (-1))], 0), ([((2, []), (-1)), ((5002, []), 1)], 0), ([((5002, []), 1)], 0), ([((5002, []), (-1))], 0), ([((4500, []), 1)], 1), ([((4500, []), (-1))], (-1))], [], [(59, [], [([((4030, [2]), 1)], 0), ([], 1), ([((4500, []), 1)], 0)])], [])
theorem zg_r59b_k2 : zi_ok zg_r59b_w2 := fun ρ ν => @zg_r59b_m2 (ν (4030, [2])) (ν (5000, [])) (ν (5001, [])) (ν (5002, [])) (ν (1, [])) (ν (2, [])) (ν (4500, []))
theorem zg_r59b_m3 {v0 v1 v2 v3 v4 v5 v6 : Int} (h0 : zk_S 80 [] [3, 1 * v0 + 0, 46656, v1]) (h1 : zk_S 80 [] [2, 1 * v1 + 0, 1296, v2]) (h2 : zk_S 80 [] [3, 1 * v2 + 0, 6, v3]) (c0 : 0 ≤ 1 * v4 + (-1)) (c1 : 0 ≤ (-1) * v4 + 1) (c2 : 0 ≤ 1 * v0 + 0) (c3 : 0 ≤ (-1) * v0 + 326591) (c4 : 0 ≤ 1 * v1 + 0) (c5 : 0 ≤ (-1) * v1 + 1000000) (c6 : 0 ≤ 1 * v2 + 0) (c7 : 0 ≤ (-1) * v2 + 1000000) (c8 : 0 ≤ 1 * v3 + 0) (c9 : 0 ≤ (-1) * v3 + 1000000) (c10 : 0 ≤ 1 * v5 + ((-1) * v3 + 0)) (c11 : 0 ≤ (-1) * v5 + (1 * v3 + 0)) (c12 : 0 ≤ 1 * v3 + (-1)) (c13 : 0 ≤ 1 * v6 + (1 * v3 + (-5))) (c14 : 0 ≤ (-1) * v6 + ((-1) * v3 + 5)) : (zk_S 59 [] [1 * v0 + 0, 1, 1 * v6 + 0] ∧ True) ∧ True := by
  simp only [zq_59, zq_80, Int.one_mul, Int.add_zero, and_true, true_and] at *
  have e1 := zg_rem h0 (by omega) (by omega) (by omega) (by omega) (by omega) (by omega)
  have e2 := zg_div h1 (by omega) (by omega) (by omega) (by omega) (by omega) (by omega)
  have e3 := zg_rem h2 (by omega) (by omega) (by omega) (by omega) (by omega) (by omega)
  unfold zg_k59
  rw [if_neg (by omega), show zg_W (1 : Int).toNat = 1296 from rfl, ← e1, ← e2, ← e3, if_neg (by omega)]
  omega
def zg_r59b_w3 : zi_A := ([((80, [], [([], 3), ([((4030, [2]), 1)], 0), ([], 46656)]), 0, 1), ((80, [], [([], 2), ([((5000, []), 1)], 0), ([], 1296)]), 0, 1), ((80, [], [([], 3), ([((5001, []), 1)], 0), ([], 6)]), 0, 1)], [([((1, []), 1)], (-1)), ([((1, []), (-1))], 1), ([((4030, [2]), 1)], 0), ([((4030, [2]), (-1))], 326591), ([((5000, []), 1)], 0), ([((5000, []), (-1))], 1000000), ([((5001, []), 1)], 0), ([((5001, []), (-1))], 1000000), ([((5002, []), 1)], 0), ([((5002, []), (-1))], 1000000), ([((2, []), 1), ((5002, []), (-1))], 0), ([((2, []), (-1)), ((5002, []), 1)], 0), ([((5002, []), 1)], (-1)), ([((4500, []), 1), ((5002, []), 1)], (-5)), ([((4500, []), (-1)), ((5002, []), (-1))], 5)], [], [(59, [], [([((4030, [2]), 1)], 0), ([], 1), ([((4500, []), 1)], 0)])], [])
theorem zg_r59b_k3 : zi_ok zg_r59b_w3 := fun ρ ν => @zg_r59b_m3 (ν (4030, [2])) (ν (5000, [])) (ν (5001, [])) (ν (5002, [])) (ν (1, [])) (ν (2, [])) (ν (4500, []))
theorem zg_r59b_m4 {v0 v1 v2 v3 v4 v5 v6 : Int} (h0 : zk_S 80 [] [3, 1 * v0 + 0, 46656, v1]) (h1 : zk_S 80 [] [2, 1 * v1 + 0, 216, v2]) (h2 : zk_S 80 [] [3, 1 * v2 + 0, 6, v3]) (c0 : 0 ≤ 1 * v4 + (-2)) (c1 : 0 ≤ (-1) * v4 + 2) (c2 : 0 ≤ 1 * v0 + 0) (c3 : 0 ≤ (-1) * v0 + 326591) (c4 : 0 ≤ 1 * v1 + 0) (c5 : 0 ≤ (-1) * v1 + 1000000) (c6 : 0 ≤ 1 * v2 + 0) (c7 : 0 ≤ (-1) * v2 + 1000000) (c8 : 0 ≤ 1 * v3 + 0) (c9 : 0 ≤ (-1) * v3 + 1000000) (c10 : 0 ≤ 1 * v5 + ((-1) * v3 + 0)) (c11 : 0 ≤ (-1) * v5 + (1 * v3 + 0)) (c12 : 0 ≤ 1 * v3 + 0) (c13 : 0 ≤ (-1) * v3 + 0) (c14 : 0 ≤ 1 * v6 + 1) (c15 : 0 ≤ (-1) * v6 + (-1)) : (zk_S 59 [] [1 * v0 + 0, 2, 1 * v6 + 0] ∧ True) ∧ True := by
  simp only [zq_59, zq_80, Int.one_mul, Int.add_zero, and_true, true_and] at *
  have e1 := zg_rem h0 (by omega) (by omega) (by omega) (by omega) (by omega) (by omega)
  have e2 := zg_div h1 (by omega) (by omega) (by omega) (by omega) (by omega) (by omega)
  have e3 := zg_rem h2 (by omega) (by omega) (by omega) (by omega) (by omega) (by omega)
  unfold zg_k59
  rw [if_neg (by omega), show zg_W (2 : Int).toNat = 216 from rfl, ← e1, ← e2, ← e3, if_pos (by omega)]
  omega
def zg_r59b_w4 : zi_A := ([((80, [], [([], 3), ([((4030, [2]), 1)], 0), ([], 46656)]), 0, 1), ((80, [], [([], 2), ([((5000, []), 1)], 0), ([], 216)]), 0, 1), ((80, [], [([], 3), ([((5001, []), 1)], 0), ([], 6)]), 0, 1)], [([((1, []), 1)], (-2)), ([((1, []), (-1))], 2), ([((4030, [2]), 1)], 0), ([((4030, [2]), (-1))], 326591), ([((5000, []), 1)], 0), ([((5000, []), (-1))], 1000000), ([((5001, []), 1)], 0), ([((5001, []), (-1))], 1000000), ([((5002, []), 1)], 0), ([((5002, []), (-1))], 1000000), ([((2, []), 1), ((5002, []), (-1))], 0), ([((2, []), (-1)), ((5002, []), 1)], 0), ([((5002, []), 1)], 0), ([((5002, []), (-1))], 0), ([((4500, []), 1)], 1), ([((4500, []), (-1))], (-1))], [], [(59, [], [([((4030, [2]), 1)], 0), ([], 2), ([((4500, []), 1)], 0)])], [])
theorem zg_r59b_k4 : zi_ok zg_r59b_w4 := fun ρ ν => @zg_r59b_m4 (ν (4030, [2])) (ν (5000, [])) (ν (5001, [])) (ν (5002, [])) (ν (1, [])) (ν (2, [])) (ν (4500, []))
theorem zg_r59b_m5 {v0 v1 v2 v3 v4 v5 v6 : Int} (h0 : zk_S 80 [] [3, 1 * v0 + 0, 46656, v1]) (h1 : zk_S 80 [] [2, 1 * v1 + 0, 216, v2]) (h2 : zk_S 80 [] [3, 1 * v2 + 0, 6, v3]) (c0 : 0 ≤ 1 * v4 + (-2)) (c1 : 0 ≤ (-1) * v4 + 2) (c2 : 0 ≤ 1 * v0 + 0) (c3 : 0 ≤ (-1) * v0 + 326591) (c4 : 0 ≤ 1 * v1 + 0) (c5 : 0 ≤ (-1) * v1 + 1000000) (c6 : 0 ≤ 1 * v2 + 0) (c7 : 0 ≤ (-1) * v2 + 1000000) (c8 : 0 ≤ 1 * v3 + 0) (c9 : 0 ≤ (-1) * v3 + 1000000) (c10 : 0 ≤ 1 * v5 + ((-1) * v3 + 0)) (c11 : 0 ≤ (-1) * v5 + (1 * v3 + 0)) (c12 : 0 ≤ 1 * v3 + (-1)) (c13 : 0 ≤ 1 * v6 + (1 * v3 + (-5))) (c14 : 0 ≤ (-1) * v6 + ((-1) * v3 + 5)) : (zk_S 59 [] [1 * v0 + 0, 2, 1 * v6 + 0] ∧ True) ∧ True := by
  simp only [zq_59, zq_80, Int.one_mul, Int.add_zero, and_true, true_and] at *
  have e1 := zg_rem h0 (by omega) (by omega) (by omega) (by omega) (by omega) (by omega)
  have e2 := zg_div h1 (by omega) (by omega) (by omega) (by omega) (by omega) (by omega)
  have e3 := zg_rem h2 (by omega) (by omega) (by omega) (by omega) (by omega) (by omega)
  unfold zg_k59
  rw [if_neg (by omega), show zg_W (2 : Int).toNat = 216 from rfl, ← e1, ← e2, ← e3, if_neg (by omega)]
  omega
def zg_r59b_w5 : zi_A := ([((80, [], [([], 3), ([((4030, [2]), 1)], 0), ([], 46656)]), 0, 1), ((80, [], [([], 2), ([((5000, []), 1)], 0), ([], 216)]), 0, 1), ((80, [], [([], 3), ([((5001, []), 1)], 0), ([], 6)]), 0, 1)], [([((1, []), 1)], (-2)), ([((1, []), (-1))], 2), ([((4030, [2]), 1)], 0), ([((4030, [2]), (-1))], 326591), ([((5000, []), 1)], 0), ([((5000, []), (-1))], 1000000), ([((5001, []), 1)], 0), ([((5001, []), (-1))], 1000000), ([((5002, []), 1)], 0), ([((5002, []), (-1))], 1000000), ([((2, []), 1), ((5002, []), (-1))], 0), ([((2, []), (-1)), ((5002, []), 1)], 0), ([((5002, []), 1)], (-1)), ([((4500, []), 1), ((5002, []), 1)], (-5)), ([((4500, []), (-1)), ((5002, []), (-1))], 5)], [], [(59, [], [([((4030, [2]), 1)], 0), ([], 2), ([((4500, []), 1)], 0)])], [])
theorem zg_r59b_k5 : zi_ok zg_r59b_w5 := fun ρ ν => @zg_r59b_m5 (ν (4030, [2])) (ν (5000, [])) (ν (5001, [])) (ν (5002, [])) (ν (1, [])) (ν (2, [])) (ν (4500, []))
theorem zg_r59b_m6 {v0 v1 v2 v3 v4 v5 v6 : Int} (h0 : zk_S 80 [] [3, 1 * v0 + 0, 46656, v1]) (h1 : zk_S 80 [] [2, 1 * v1 + 0, 36, v2]) (h2 : zk_S 80 [] [3, 1 * v2 + 0, 6, v3]) (c0 : 0 ≤ 1 * v4 + (-3)) (c1 : 0 ≤ (-1) * v4 + 3) (c2 : 0 ≤ 1 * v0 + 0) (c3 : 0 ≤ (-1) * v0 + 326591) (c4 : 0 ≤ 1 * v1 + 0) (c5 : 0 ≤ (-1) * v1 + 1000000) (c6 : 0 ≤ 1 * v2 + 0) (c7 : 0 ≤ (-1) * v2 + 1000000) (c8 : 0 ≤ 1 * v3 + 0) (c9 : 0 ≤ (-1) * v3 + 1000000) (c10 : 0 ≤ 1 * v5 + ((-1) * v3 + 0)) (c11 : 0 ≤ (-1) * v5 + (1 * v3 + 0)) (c12 : 0 ≤ 1 * v3 + 0) (c13 : 0 ≤ (-1) * v3 + 0) (c14 : 0 ≤ 1 * v6 + 1) (c15 : 0 ≤ (-1) * v6 + (-1)) : (zk_S 59 [] [1 * v0 + 0, 3, 1 * v6 + 0] ∧ True) ∧ True := by
  simp only [zq_59, zq_80, Int.one_mul, Int.add_zero, and_true, true_and] at *
  have e1 := zg_rem h0 (by omega) (by omega) (by omega) (by omega) (by omega) (by omega)
  have e2 := zg_div h1 (by omega) (by omega) (by omega) (by omega) (by omega) (by omega)
  have e3 := zg_rem h2 (by omega) (by omega) (by omega) (by omega) (by omega) (by omega)
  unfold zg_k59
  rw [if_neg (by omega), show zg_W (3 : Int).toNat = 36 from rfl, ← e1, ← e2, ← e3, if_pos (by omega)]
  omega
def zg_r59b_w6 : zi_A := ([((80, [], [([], 3), ([((4030, [2]), 1)], 0), ([], 46656)]), 0, 1), ((80, [], [([], 2), ([((5000, []), 1)], 0), ([], 36)]), 0, 1), ((80, [], [([], 3), ([((5001, []), 1)], 0), ([], 6)]), 0, 1)], [([((1, []), 1)], (-3)), ([((1, []), (-1))], 3), ([((4030, [2]), 1)], 0), ([((4030, [2]), (-1))], 326591), ([((5000, []), 1)], 0), ([((5000, []), (-1))], 1000000), ([((5001, []), 1)], 0), ([((5001, []), (-1))], 1000000), ([((5002, []), 1)], 0), ([((5002, []), (-1))], 1000000), ([((2, []), 1), ((5002, []), (-1))], 0), ([((2, []), (-1)), ((5002, []), 1)], 0), ([((5002, []), 1)], 0), ([((5002, []), (-1))], 0), ([((4500, []), 1)], 1), ([((4500, []), (-1))], (-1))], [], [(59, [], [([((4030, [2]), 1)], 0), ([], 3), ([((4500, []), 1)], 0)])], [])
theorem zg_r59b_k6 : zi_ok zg_r59b_w6 := fun ρ ν => @zg_r59b_m6 (ν (4030, [2])) (ν (5000, [])) (ν (5001, [])) (ν (5002, [])) (ν (1, [])) (ν (2, [])) (ν (4500, []))
theorem zg_r59b_m7 {v0 v1 v2 v3 v4 v5 v6 : Int} (h0 : zk_S 80 [] [3, 1 * v0 + 0, 46656, v1]) (h1 : zk_S 80 [] [2, 1 * v1 + 0, 36, v2]) (h2 : zk_S 80 [] [3, 1 * v2 + 0, 6, v3]) (c0 : 0 ≤ 1 * v4 + (-3)) (c1 : 0 ≤ (-1) * v4 + 3) (c2 : 0 ≤ 1 * v0 + 0) (c3 : 0 ≤ (-1) * v0 + 326591) (c4 : 0 ≤ 1 * v1 + 0) (c5 : 0 ≤ (-1) * v1 + 1000000) (c6 : 0 ≤ 1 * v2 + 0) (c7 : 0 ≤ (-1) * v2 + 1000000) (c8 : 0 ≤ 1 * v3 + 0) (c9 : 0 ≤ (-1) * v3 + 1000000) (c10 : 0 ≤ 1 * v5 + ((-1) * v3 + 0)) (c11 : 0 ≤ (-1) * v5 + (1 * v3 + 0)) (c12 : 0 ≤ 1 * v3 + (-1)) (c13 : 0 ≤ 1 * v6 + (1 * v3 + (-5))) (c14 : 0 ≤ (-1) * v6 + ((-1) * v3 + 5)) : (zk_S 59 [] [1 * v0 + 0, 3, 1 * v6 + 0] ∧ True) ∧ True := by
  simp only [zq_59, zq_80, Int.one_mul, Int.add_zero, and_true, true_and] at *
  have e1 := zg_rem h0 (by omega) (by omega) (by omega) (by omega) (by omega) (by omega)
  have e2 := zg_div h1 (by omega) (by omega) (by omega) (by omega) (by omega) (by omega)
  have e3 := zg_rem h2 (by omega) (by omega) (by omega) (by omega) (by omega) (by omega)
  unfold zg_k59
  rw [if_neg (by omega), show zg_W (3 : Int).toNat = 36 from rfl, ← e1, ← e2, ← e3, if_neg (by omega)]
  omega
def zg_r59b_w7 : zi_A := ([((80, [], [([], 3), ([((4030, [2]), 1)], 0), ([], 46656)]), 0, 1), ((80, [], [([], 2), ([((5000, []), 1)], 0), ([], 36)]), 0, 1), ((80, [], [([], 3), ([((5001, []), 1)], 0), ([], 6)]), 0, 1)], [([((1, []), 1)], (-3)), ([((1, []), (-1))], 3), ([((4030, [2]), 1)], 0), ([((4030, [2]), (-1))], 326591), ([((5000, []), 1)], 0), ([((5000, []), (-1))], 1000000), ([((5001, []), 1)], 0), ([((5001, []), (-1))], 1000000), ([((5002, []), 1)], 0), ([((5002, []), (-1))], 1000000), ([((2, []), 1), ((5002, []), (-1))], 0), ([((2, []), (-1)), ((5002, []), 1)], 0), ([((5002, []), 1)], (-1)), ([((4500, []), 1), ((5002, []), 1)], (-5)), ([((4500, []), (-1)), ((5002, []), (-1))], 5)], [], [(59, [], [([((4030, [2]), 1)], 0), ([], 3), ([((4500, []), 1)], 0)])], [])
theorem zg_r59b_k7 : zi_ok zg_r59b_w7 := fun ρ ν => @zg_r59b_m7 (ν (4030, [2])) (ν (5000, [])) (ν (5001, [])) (ν (5002, [])) (ν (1, [])) (ν (2, [])) (ν (4500, []))
theorem zg_r59b_m8 {v0 v1 v2 v3 v4 v5 v6 : Int} (h0 : zk_S 80 [] [3, 1 * v0 + 0, 46656, v1]) (h1 : zk_S 80 [] [2, 1 * v1 + 0, 6, v2]) (h2 : zk_S 80 [] [3, 1 * v2 + 0, 6, v3]) (c0 : 0 ≤ 1 * v4 + (-4)) (c1 : 0 ≤ (-1) * v4 + 4) (c2 : 0 ≤ 1 * v0 + 0) (c3 : 0 ≤ (-1) * v0 + 326591) (c4 : 0 ≤ 1 * v1 + 0) (c5 : 0 ≤ (-1) * v1 + 1000000) (c6 : 0 ≤ 1 * v2 + 0) (c7 : 0 ≤ (-1) * v2 + 1000000) (c8 : 0 ≤ 1 * v3 + 0) (c9 : 0 ≤ (-1) * v3 + 1000000) (c10 : 0 ≤ 1 * v5 + ((-1) * v3 + 0)) (c11 : 0 ≤ (-1) * v5 + (1 * v3 + 0)) (c12 : 0 ≤ 1 * v3 + 0) (c13 : 0 ≤ (-1) * v3 + 0) (c14 : 0 ≤ 1 * v6 + 1) (c15 : 0 ≤ (-1) * v6 + (-1)) : (zk_S 59 [] [1 * v0 + 0, 4, 1 * v6 + 0] ∧ True) ∧ True := by
  simp only [zq_59, zq_80, Int.one_mul, Int.add_zero, and_true, true_and] at *
  have e1 := zg_rem h0 (by omega) (by omega) (by omega) (by omega) (by omega) (by omega)
  have e2 := zg_div h1 (by omega) (by omega) (by omega) (by omega) (by omega) (by omega)
  have e3 := zg_rem h2 (by omega) (by omega) (by omega) (by omega) (by omega) (by omega)
  unfold zg_k59
  rw [if_neg (by omega), show zg_W (4 : Int).toNat = 6 from rfl, ← e1, ← e2, ← e3, if_pos (by omega)]
  omega
def zg_r59b_w8 : zi_A := ([((80, [], [([], 3), ([((4030, [2]), 1)], 0), ([], 46656)]), 0, 1), ((80, [], [([], 2), ([((5000, []), 1)], 0), ([], 6)]), 0, 1), ((80, [], [([], 3), ([((5001, []), 1)], 0), ([], 6)]), 0, 1)], [([((1, []), 1)], (-4)), ([((1, []), (-1))], 4), ([((4030, [2]), 1)], 0), ([((4030, [2]), (-1))], 326591), ([((5000, []), 1)], 0), ([((5000, []), (-1))], 1000000), ([((5001, []), 1)], 0), ([((5001, []), (-1))], 1000000), ([((5002, []), 1)], 0), ([((5002, []), (-1))], 1000000), ([((2, []), 1), ((5002, []), (-1))], 0), ([((2, []), (-1)), ((5002, []), 1)], 0), ([((5002, []), 1)], 0), ([((5002, []), (-1))], 0), ([((4500, []), 1)], 1), ([((4500, []), (-1))], (-1))], [], [(59, [], [([((4030, [2]), 1)], 0), ([], 4), ([((4500, []), 1)], 0)])], [])
theorem zg_r59b_k8 : zi_ok zg_r59b_w8 := fun ρ ν => @zg_r59b_m8 (ν (4030, [2])) (ν (5000, [])) (ν (5001, [])) (ν (5002, [])) (ν (1, [])) (ν (2, [])) (ν (4500, []))
theorem zg_r59b_m9 {v0 v1 v2 v3 v4 v5 v6 : Int} (h0 : zk_S 80 [] [3, 1 * v0 + 0, 46656, v1]) (h1 : zk_S 80 [] [2, 1 * v1 + 0, 6, v2]) (h2 : zk_S 80 [] [3, 1 * v2 + 0, 6, v3]) (c0 : 0 ≤ 1 * v4 + (-4)) (c1 : 0 ≤ (-1) * v4 + 4) (c2 : 0 ≤ 1 * v0 + 0) (c3 : 0 ≤ (-1) * v0 + 326591) (c4 : 0 ≤ 1 * v1 + 0) (c5 : 0 ≤ (-1) * v1 + 1000000) (c6 : 0 ≤ 1 * v2 + 0) (c7 : 0 ≤ (-1) * v2 + 1000000) (c8 : 0 ≤ 1 * v3 + 0) (c9 : 0 ≤ (-1) * v3 + 1000000) (c10 : 0 ≤ 1 * v5 + ((-1) * v3 + 0)) (c11 : 0 ≤ (-1) * v5 + (1 * v3 + 0)) (c12 : 0 ≤ 1 * v3 + (-1)) (c13 : 0 ≤ 1 * v6 + (1 * v3 + (-5))) (c14 : 0 ≤ (-1) * v6 + ((-1) * v3 + 5)) : (zk_S 59 [] [1 * v0 + 0, 4, 1 * v6 + 0] ∧ True) ∧ True := by
  simp only [zq_59, zq_80, Int.one_mul, Int.add_zero, and_true, true_and] at *
  have e1 := zg_rem h0 (by omega) (by omega) (by omega) (by omega) (by omega) (by omega)
  have e2 := zg_div h1 (by omega) (by omega) (by omega) (by omega) (by omega) (by omega)
  have e3 := zg_rem h2 (by omega) (by omega) (by omega) (by omega) (by omega) (by omega)
  unfold zg_k59
  rw [if_neg (by omega), show zg_W (4 : Int).toNat = 6 from rfl, ← e1, ← e2, ← e3, if_neg (by omega)]
  omega
def zg_r59b_w9 : zi_A := ([((80, [], [([], 3), ([((4030, [2]), 1)], 0), ([], 46656)]), 0, 1), ((80, [], [([], 2), ([((5000, []), 1)], 0), ([], 6)]), 0, 1), ((80, [], [([], 3), ([((5001, []), 1)], 0), ([], 6)]), 0, 1)], [([((1, []), 1)], (-4)), ([((1, []), (-1))], 4), ([((4030, [2]), 1)], 0), ([((4030, [2]), (-1))], 326591), ([((5000, []), 1)], 0), ([((5000, []), (-1))], 1000000), ([((5001, []), 1)], 0), ([((5001, []), (-1))], 1000000), ([((5002, []), 1)], 0), ([((5002, []), (-1))], 1000000), ([((2, []), 1), ((5002, []), (-1))], 0), ([((2, []), (-1)), ((5002, []), 1)], 0), ([((5002, []), 1)], (-1)), ([((4500, []), 1), ((5002, []), 1)], (-5)), ([((4500, []), (-1)), ((5002, []), (-1))], 5)], [], [(59, [], [([((4030, [2]), 1)], 0), ([], 4), ([((4500, []), 1)], 0)])], [])
theorem zg_r59b_k9 : zi_ok zg_r59b_w9 := fun ρ ν => @zg_r59b_m9 (ν (4030, [2])) (ν (5000, [])) (ν (5001, [])) (ν (5002, [])) (ν (1, [])) (ν (2, [])) (ν (4500, []))
theorem zg_r59b_m10 {v0 v1 v2 v3 v4 v5 v6 : Int} (h0 : zk_S 80 [] [3, 1 * v0 + 0, 46656, v1]) (h1 : zk_S 80 [] [2, 1 * v1 + 0, 1, v2]) (h2 : zk_S 80 [] [3, 1 * v2 + 0, 6, v3]) (c0 : 0 ≤ 1 * v4 + (-5)) (c1 : 0 ≤ (-1) * v4 + 5) (c2 : 0 ≤ 1 * v0 + 0) (c3 : 0 ≤ (-1) * v0 + 326591) (c4 : 0 ≤ 1 * v1 + 0) (c5 : 0 ≤ (-1) * v1 + 1000000) (c6 : 0 ≤ 1 * v2 + 0) (c7 : 0 ≤ (-1) * v2 + 1000000) (c8 : 0 ≤ 1 * v3 + 0) (c9 : 0 ≤ (-1) * v3 + 1000000) (c10 : 0 ≤ 1 * v5 + ((-1) * v3 + 0)) (c11 : 0 ≤ (-1) * v5 + (1 * v3 + 0)) (c12 : 0 ≤ 1 * v3 + 0) (c13 : 0 ≤ (-1) * v3 + 0) (c14 : 0 ≤ 1 * v6 + 1) (c15 : 0 ≤ (-1) * v6 + (-1)) : (zk_S 59 [] [1 * v0 + 0, 5, 1 * v6 + 0] ∧ True) ∧ True := by
  simp only [zq_59, zq_80, Int.one_mul, Int.add_zero, and_true, true_and] at *
  have e1 := zg_rem h0 (by omega) (by omega) (by omega) (by omega) (by omega) (by omega)
  have e2 := zg_div h1 (by omega) (by omega) (by omega) (by omega) (by omega) (by omega)
  have e3 := zg_rem h2 (by omega) (by omega) (by omega) (by omega) (by omega) (by omega)
  unfold zg_k59
  rw [if_neg (by omega), show zg_W (5 : Int).toNat = 1 from rfl, ← e1, ← e2, ← e3, if_pos (by omega)]
  omega
def zg_r59b_w10 : zi_A := ([((80, [], [([], 3), ([((4030, [2]), 1)], 0), ([], 46656)]), 0, 1), ((80, [], [([], 2), ([((5000, []), 1)], 0), ([], 1)]), 0, 1), ((80, [], [([], 3), ([((5001, []), 1)], 0), ([], 6)]), 0, 1)], [([((1, []), 1)], (-5)), ([((1, []), (-1))], 5), ([((4030, [2]), 1)], 0), ([((4030, [2]), (-1))], 326591), ([((5000, []), 1)], 0), ([((5000, []), (-1))], 1000000), ([((5001, []), 1)], 0), ([((5001, []), (-1))], 1000000), ([((5002, []), 1)], 0), ([((5002, []), (-1))], 1000000), ([((2, []), 1), ((5002, []), (-1))], 0), ([((2, []), (-1)), ((5002, []), 1)], 0), ([((5002, []), 1)], 0), ([((5002, []), (-1))], 0), ([((4500, []), 1)], 1), ([((4500, []), (-1))], (-1))], [], [(59, [], [([((4030, [2]), 1)], 0), ([], 5), ([((4500, []), 1)], 0)])], [])
theorem zg_r59b_k10 : zi_ok zg_r59b_w10 := fun ρ ν => @zg_r59b_m10 (ν (4030, [2])) (ν (5000, [])) (ν (5001, [])) (ν (5002, [])) (ν (1, [])) (ν (2, [])) (ν (4500, []))
theorem zg_r59b_m11 {v0 v1 v2 v3 v4 v5 v6 : Int} (h0 : zk_S 80 [] [3, 1 * v0 + 0, 46656, v1]) (h1 : zk_S 80 [] [2, 1 * v1 + 0, 1, v2]) (h2 : zk_S 80 [] [3, 1 * v2 + 0, 6, v3]) (c0 : 0 ≤ 1 * v4 + (-5)) (c1 : 0 ≤ (-1) * v4 + 5) (c2 : 0 ≤ 1 * v0 + 0) (c3 : 0 ≤ (-1) * v0 + 326591) (c4 : 0 ≤ 1 * v1 + 0) (c5 : 0 ≤ (-1) * v1 + 1000000) (c6 : 0 ≤ 1 * v2 + 0) (c7 : 0 ≤ (-1) * v2 + 1000000) (c8 : 0 ≤ 1 * v3 + 0) (c9 : 0 ≤ (-1) * v3 + 1000000) (c10 : 0 ≤ 1 * v5 + ((-1) * v3 + 0)) (c11 : 0 ≤ (-1) * v5 + (1 * v3 + 0)) (c12 : 0 ≤ 1 * v3 + (-1)) (c13 : 0 ≤ 1 * v6 + (1 * v3 + (-5))) (c14 : 0 ≤ (-1) * v6 + ((-1) * v3 + 5)) : (zk_S 59 [] [1 * v0 + 0, 5, 1 * v6 + 0] ∧ True) ∧ True := by
  simp only [zq_59, zq_80, Int.one_mul, Int.add_zero, and_true, true_and] at *
  have e1 := zg_rem h0 (by omega) (by omega) (by omega) (by omega) (by omega) (by omega)
  have e2 := zg_div h1 (by omega) (by omega) (by omega) (by omega) (by omega) (by omega)
  have e3 := zg_rem h2 (by omega) (by omega) (by omega) (by omega) (by omega) (by omega)
  unfold zg_k59
  rw [if_neg (by omega), show zg_W (5 : Int).toNat = 1 from rfl, ← e1, ← e2, ← e3, if_neg (by omega)]
  omega
def zg_r59b_w11 : zi_A := ([((80, [], [([], 3), ([((4030, [2]), 1)], 0), ([], 46656)]), 0, 1), ((80, [], [([], 2), ([((5000, []), 1)], 0), ([], 1)]), 0, 1), ((80, [], [([], 3), ([((5001, []), 1)], 0), ([], 6)]), 0, 1)], [([((1, []), 1)], (-5)), ([((1, []), (-1))], 5), ([((4030, [2]), 1)], 0), ([((4030, [2]), (-1))], 326591), ([((5000, []), 1)], 0), ([((5000, []), (-1))], 1000000), ([((5001, []), 1)], 0), ([((5001, []), (-1))], 1000000), ([((5002, []), 1)], 0), ([((5002, []), (-1))], 1000000), ([((2, []), 1), ((5002, []), (-1))], 0), ([((2, []), (-1)), ((5002, []), 1)], 0), ([((5002, []), 1)], (-1)), ([((4500, []), 1), ((5002, []), 1)], (-5)), ([((4500, []), (-1)), ((5002, []), (-1))], 5)], [], [(59, [], [([((4030, [2]), 1)], 0), ([], 5), ([((4500, []), 1)], 0)])], [])
theorem zg_r59b_k11 : zi_ok zg_r59b_w11 := fun ρ ν => @zg_r59b_m11 (ν (4030, [2])) (ν (5000, [])) (ν (5001, [])) (ν (5002, [])) (ν (1, [])) (ν (2, [])) (ν (4500, []))
def zg_r59b : List zi_A := [zg_r59b_w0, zg_r59b_w1, zg_r59b_w2, zg_r59b_w3, zg_r59b_w4, zg_r59b_w5, zg_r59b_w6, zg_r59b_w7, zg_r59b_w8, zg_r59b_w9, zg_r59b_w10, zg_r59b_w11]
theorem zg_r59b_ok : ∀ A ∈ zg_r59b, zi_ok A := List.forall_mem_cons.mpr ⟨zg_r59b_k0, List.forall_mem_cons.mpr ⟨zg_r59b_k1, List.forall_mem_cons.mpr ⟨zg_r59b_k2, List.forall_mem_cons.mpr ⟨zg_r59b_k3, List.forall_mem_cons.mpr ⟨zg_r59b_k4, List.forall_mem_cons.mpr ⟨zg_r59b_k5, List.forall_mem_cons.mpr ⟨zg_r59b_k6, List.forall_mem_cons.mpr ⟨zg_r59b_k7, List.forall_mem_cons.mpr ⟨zg_r59b_k8, List.forall_mem_cons.mpr ⟨zg_r59b_k9, List.forall_mem_cons.mpr ⟨zg_r59b_k10, List.forall_mem_cons.mpr ⟨zg_r59b_k11, fun _ h => absurd h List.not_mem_nil⟩⟩⟩⟩⟩⟩⟩⟩⟩⟩⟩⟩

theorem zg_r17_m0 {r0 r1 r2 r3 : Nat → Int} {v0 v1 v2 v3 v4 v5 : Int} (h0 : zk_S 90 [r0, r1, r2, r3] [99, 9, 1 * v0 + 0, 1 * v1 + 0, 1, v2]) (h1 : zk_S 90 [] [103, 1 * v3 + 0, 1 * v2 + 0, 0, 0]) (h2 : zk_S 3 [r3] [v4, v5]) (c0 : 0 ≤ 1 * v0 + 0) (c1 : 0 ≤ (-1) * v0 + 6) (c2 : 0 ≤ 1 * v2 + 0) (c3 : 0 ≤ (-1) * v2 + 255) (c4 : 0 ≤ 1 * v3 + 0) (c5 : 0 ≤ 1 * v4 + 0) : (zk_S 17 [r0, r1, r3, r2] [1 * v0 + 0, 1 * v1 + 0, 1 * v3 + 0] ∧ True) ∧ True := by
  simp only [zq_3, zq_17, zq_90, Int.one_mul, Int.add_zero, and_true, true_and] at *
  exact zg_count c0 (by omega) (h0.2.2) (h1.2.2) c4 c2 (by omega)
def zg_r17_w0 : zi_A := ([((90, [(3073, []), (3088, []), (3089, []), (3072, [])], [([], 99), ([], 9), ([((4067, [6]), 1)], 0), ([((4067, [13]), 1)], 0), ([], 1)]), 0, 1), ((90, [], [([], 103), ([((2, []), 1)], 0), ([((5000, []), 1)], 0), ([], 0), ([], 0)]), 0, 0), ((3, [(3072, [])], []), 0, 2)], [([((4067, [6]), 1)], 0), ([((4067, [6]), (-1))], 6), ([((5000, []), 1)], 0), ([((5000, []), (-1))], 255), ([((2, []), 1)], 0), ([((5001, []), 1)], 0)], [], [(17, [(3073, []), (3088, []), (3072, []), (3089, [])], [([((4067, [6]), 1)], 0), ([((4067, [13]), 1)], 0), ([((2, []), 1)], 0)])], [])
theorem zg_r17_k0 : zi_ok zg_r17_w0 := fun ρ ν => @zg_r17_m0 (ρ (3073, [])) (ρ (3088, [])) (ρ (3089, [])) (ρ (3072, [])) (ν (4067, [6])) (ν (4067, [13])) (ν (5000, [])) (ν (2, [])) (ν (5001, [])) (ν (5002, []))
def zg_r17 : List zi_A := [zg_r17_w0]
theorem zg_r17_ok : ∀ A ∈ zg_r17, zi_ok A := List.forall_mem_cons.mpr ⟨zg_r17_k0, fun _ h => absurd h List.not_mem_nil⟩

theorem zg_r15n_m0 {r0 r1 r2 r3 r4 : Nat → Int} {v0 v1 v2 v3 v4 v5 : Int} (h0 : zk_S 15 [r0, r1, r2, r3, r4] [1 * v0 + 0, 1 * v1 + 0, 1 * v2 + 0, 1 * v3 + 0, 1, 1 * v4 + 0]) (h1 : zk_S 17 [r0, r1, r2, r3] [1 * v0 + 0, 1 * v1 + 0, 1 * v5 + 0]) (c0 : 0 ≤ 1 * v3 + ((-1) * v0 + 0)) (c1 : 0 ≤ (-1) * v3 + (1 * v0 + 0)) (c2 : 0 ≤ 1 * v4 + ((-1) * v5 + 0)) (c3 : 0 ≤ 1 * v0 + 0) (c4 : 0 ≤ (-1) * v0 + 6) (c5 : 0 ≤ 1 * v2 + 0) (c6 : 0 ≤ (-1) * v2 + 5) : (zk_S 15 [r0, r1, r2, r3, r4] [1 * v0 + 0, 1 * v1 + 0, 1 * v2 + 0, 1 * v3 + 0, 0, 1 * v4 + 0] ∧ True) ∧ True := by
  simp only [zq_15, zq_17, Int.one_mul, Int.add_zero, and_true, true_and] at *
  obtain ⟨a1, a2, a3⟩ := h0
  unfold zg_k17 at h1
  have ek : v3.toNat = v0.toNat := by omega
  rw [ek] at a1 a2
  rw [Int.one_mul] at a2
  have c := zg_cn_0 (ni := r1) (n := r2) (u := r3) (li := v1) (m := v0.toNat) (be := r0)
  have l := zg_leaf (best' := r4) (ms' := v4) (by omega) (by omega) a1 a2 (Or.inl ⟨by omega, rfl, fun j _ => rfl⟩) a3 c
  refine ⟨by rw [ek]; exact a1, ?_, a3⟩
  rw [ek, Int.zero_mul, Int.add_zero]
  exact l
def zg_r15n_w0 : zi_A := ([((15, [(3073, []), (3088, []), (3072, []), (3089, []), (3091, [])], [([((4067, [6]), 1)], 0), ([((4067, [13]), 1)], 0), ([((4067, [1]), 1)], 0), ([((1, []), 1)], 0), ([], 1), ([((4067, [39]), 1)], 0)]), 0, 0), ((17, [(3073, []), (3088, []), (3072, []), (3089, [])], [([((4067, [6]), 1)], 0), ([((4067, [13]), 1)], 0), ([((2, []), 1)], 0)]), 0, 0)], [([((1, []), 1), ((4067, [6]), (-1))], 0), ([((1, []), (-1)), ((4067, [6]), 1)], 0), ([((4067, [39]), 1), ((2, []), (-1))], 0), ([((4067, [6]), 1)], 0), ([((4067, [6]), (-1))], 6), ([((4067, [1]), 1)], 0), ([((4067, [1]), (-1))], 5)], [], [(15, [(3073, []), (3088, []), (3072, []), (3089, []), (3091, [])], [([((4067, [6]), 1)], 0), ([((4067, [13]), 1)], 0), ([((4067, [1]), 1)], 0), ([((1, []), 1)], 0), ([], 0), ([((4067, [39]), 1)], 0)])], [])
theorem zg_r15n_k0 : zi_ok zg_r15n_w0 := fun ρ ν => @zg_r15n_m0 (ρ (3073, [])) (ρ (3088, [])) (ρ (3072, [])) (ρ (3089, [])) (ρ (3091, [])) (ν (4067, [6])) (ν (4067, [13])) (ν (4067, [1])) (ν (1, [])) (ν (4067, [39])) (ν (2, []))
def zg_r15n : List zi_A := [zg_r15n_w0]
theorem zg_r15n_ok : ∀ A ∈ zg_r15n, zi_ok A := List.forall_mem_cons.mpr ⟨zg_r15n_k0, fun _ h => absurd h List.not_mem_nil⟩

theorem zg_r15m_m0 {r0 r1 r2 r3 r4 r5 : Nat → Int} {v0 v1 v2 v3 v4 v5 v6 v7 : Int} (h0 : zk_S 15 [r0, r1, r2, r3, r4] [1 * v0 + 0, 1 * v1 + 0, 1 * v2 + 0, 1 * v3 + 0, 1, v4]) (h1 : zk_S 17 [r0, r1, r2, r3] [1 * v0 + 0, 1 * v1 + 0, 1 * v5 + 0]) (h2 : zk_S 68 [r5, r0] [0, 0, 1 * v6 + 0]) (c0 : 0 ≤ 1 * v3 + ((-1) * v0 + 0)) (c1 : 0 ≤ (-1) * v3 + (1 * v0 + 0)) (c2 : 0 ≤ 1 * v7 + ((-1) * v5 + 0)) (c3 : 0 ≤ (-1) * v7 + (1 * v5 + 0)) (c4 : 0 ≤ 1 * v5 + ((-1) * v4 + (-1))) (c5 : 0 ≤ 1 * v6 + ((-1) * v0 + 0)) (c6 : 0 ≤ 1 * v0 + 0) (c7 : 0 ≤ (-1) * v0 + 6) (c8 : 0 ≤ 1 * v2 + 0) (c9 : 0 ≤ (-1) * v2 + 5) : (zk_S 15 [r0, r1, r2, r3, r5] [1 * v0 + 0, 1 * v1 + 0, 1 * v2 + 0, 1 * v3 + 0, 0, 1 * v7 + 0] ∧ True) ∧ True := by
  simp only [zq_15, zq_17, zq_68, Int.one_mul, Int.add_zero, and_true, true_and] at *
  obtain ⟨a1, a2, a3⟩ := h0
  unfold zg_k17 at h1
  have ek : v3.toNat = v0.toNat := by omega
  rw [ek] at a1 a2
  rw [Int.one_mul] at a2
  have c := zg_cn_0 (ni := r1) (n := r2) (u := r3) (li := v1) (m := v0.toNat) (be := r0)
  have l := zg_leaf (best' := r5) (ms' := v7) (by omega) (by omega) a1 a2 (Or.inr ⟨by omega, by omega, fun j hj => by
    have q := h2 j (by omega)
    rw [show (0 : Int).toNat + j = j by simp] at q
    exact q⟩) a3 c
  refine ⟨by rw [ek]; exact a1, ?_, by omega⟩
  rw [ek, Int.zero_mul, Int.add_zero]
  exact l
def zg_r15m_w0 : zi_A := ([((15, [(3073, []), (3088, []), (3072, []), (3089, [])], [([((4067, [6]), 1)], 0), ([((4067, [13]), 1)], 0), ([((4067, [1]), 1)], 0), ([((1, []), 1)], 0), ([], 1)]), 1, 1), ((17, [(3073, []), (3088, []), (3072, []), (3089, [])], [([((4067, [6]), 1)], 0), ([((4067, [13]), 1)], 0), ([((2, []), 1)], 0)]), 0, 0), ((68, [(3091, []), (3073, [])], [([], 0), ([], 0), ([((3, []), 1)], 0)]), 0, 0)], [([((1, []), 1), ((4067, [6]), (-1))], 0), ([((1, []), (-1)), ((4067, [6]), 1)], 0), ([((4067, [39]), 1), ((2, []), (-1))], 0), ([((4067, [39]), (-1)), ((2, []), 1)], 0), ([((2, []), 1), ((5000, []), (-1))], (-1)), ([((3, []), 1), ((4067, [6]), (-1))], 0), ([((4067, [6]), 1)], 0), ([((4067, [6]), (-1))], 6), ([((4067, [1]), 1)], 0), ([((4067, [1]), (-1))], 5)], [], [(15, [(3073, []), (3088, []), (3072, []), (3089, []), (3091, [])], [([((4067, [6]), 1)], 0), ([((4067, [13]), 1)], 0), ([((4067, [1]), 1)], 0), ([((1, []), 1)], 0), ([], 0), ([((4067, [39]), 1)], 0)])], [])
theorem zg_r15m_k0 : zi_ok zg_r15m_w0 := fun ρ ν => @zg_r15m_m0 (ρ (3073, [])) (ρ (3088, [])) (ρ (3072, [])) (ρ (3089, [])) (ρ (5000, [])) (ρ (3091, [])) (ν (4067, [6])) (ν (4067, [13])) (ν (4067, [1])) (ν (1, [])) (ν (5000, [])) (ν (2, [])) (ν (3, [])) (ν (4067, [39]))
def zg_r15m : List zi_A := [zg_r15m_w0]
theorem zg_r15m_ok : ∀ A ∈ zg_r15m, zi_ok A := List.forall_mem_cons.mpr ⟨zg_r15m_k0, fun _ h => absurd h List.not_mem_nil⟩

theorem zg_r49i_m0 {r0 r1 r2 r3 r4 : Nat → Int} {v0 v1 v2 v3 v4 : Int} (h0 : zk_S 15 [r0, r1, r2, r3, r4] [1 * v0 + 0, 1 * v1 + 0, 1 * v2 + 0, 1 * v3 + 0, 1, 1 * v4 + 0]) (c0 : 0 ≤ 1 * v3 + 0) (c1 : 0 ≤ 1 * v0 + ((-1) * v3 + (-1))) (c2 : 0 ≤ (-1) * v0 + 6) : (zk_S 49 [r0, r1, r2, r3, r4] [1 * v0 + 0, 1 * v1 + 0, 1 * v2 + 0, 1 * v3 + 0, 0, 1 * v4 + 0] ∧ True) ∧ True := by
  simp only [zq_15, zq_49, Int.one_mul, Int.add_zero, and_true, true_and] at *
  obtain ⟨a1, a2, a3⟩ := h0
  have z := zg_ZW (k := v3.toNat) (by omega)
  refine ⟨a1, ?_, a3⟩
  by_cases c : (0 : Int) ≤ v2
  · rw [if_pos c]
    rw [Int.one_mul, z.1] at a2
    rw [show (6 - (0 : Int)) * zg_W v3.toNat = 6 * zg_W v3.toNat by omega]
    exact a2
  · have hv : ∀ a : Nat → Int, ¬ zg_va a v2 v0.toNat := fun a ha => by
      have := ha v3.toNat (by omega)
      omega
    rcases a2 with ⟨s1, s2⟩ | ⟨s1, s2, s3⟩
    · exact Or.inl ⟨s1, fun a ha => absurd ha (hv a)⟩
    · exact absurd s2 (hv r4)
def zg_r49i_w0 : zi_A := ([((15, [(3073, []), (3088, []), (3072, []), (3089, []), (3091, [])], [([((4067, [6]), 1)], 0), ([((4067, [13]), 1)], 0), ([((4067, [1]), 1)], 0), ([((1, []), 1)], 0), ([], 1), ([((4067, [39]), 1)], 0)]), 0, 0)], [([((1, []), 1)], 0), ([((4067, [6]), 1), ((1, []), (-1))], (-1)), ([((4067, [6]), (-1))], 6)], [], [(49, [(3073, []), (3088, []), (3072, []), (3089, []), (3091, [])], [([((4067, [6]), 1)], 0), ([((4067, [13]), 1)], 0), ([((4067, [1]), 1)], 0), ([((1, []), 1)], 0), ([], 0), ([((4067, [39]), 1)], 0)])], [])
theorem zg_r49i_k0 : zi_ok zg_r49i_w0 := fun ρ ν => @zg_r49i_m0 (ρ (3073, [])) (ρ (3088, [])) (ρ (3072, [])) (ρ (3089, [])) (ρ (3091, [])) (ν (4067, [6])) (ν (4067, [13])) (ν (4067, [1])) (ν (1, [])) (ν (4067, [39]))
def zg_r49i : List zi_A := [zg_r49i_w0]
theorem zg_r49i_ok : ∀ A ∈ zg_r49i, zi_ok A := List.forall_mem_cons.mpr ⟨zg_r49i_k0, fun _ h => absurd h List.not_mem_nil⟩

theorem zg_r49c_m0 {r0 r1 r2 r3 r4 r5 : Nat → Int} {v0 v1 v2 v3 v4 v5 v6 v7 : Int} (h0 : zk_S 2 [r0, r1] [v0, v1]) (h1 : zk_S 49 [r1, r2, r3, r4, r5] [1 * v2 + 0, 1 * v3 + 0, 1 * v4 + 0, 1 * v5 + 0, 1 * v6 + 0, 1 * v7 + 0]) (c0 : 0 ≤ 1 * v0 + ((-1) * v5 + 0)) (c1 : 0 ≤ (-1) * v0 + (1 * v5 + 0)) (c2 : 0 ≤ 1 * v5 + 0) (c3 : 0 ≤ 1 * v2 + ((-1) * v5 + (-1))) (c4 : 0 ≤ (-1) * v2 + 6) (c5 : 0 ≤ 1 * v6 + 0) (c6 : 0 ≤ 1 * v4 + ((-1) * v6 + (-1))) (c7 : 0 ≤ (-1) * v4 + 5) (c8 : 0 ≤ 1 * v1 + ((-1) * v6 + 0)) (c9 : 0 ≤ (-1) * v1 + (1 * v6 + 0)) : (zk_S 15 [r0, r2, r3, r4, r5] [1 * v2 + 0, 1 * v3 + 0, 1 * v4 + 0, 1 * v5 + 1, 1, 1 * v7 + 0] ∧ True) ∧ True := by
  simp only [zq_2, zq_15, zq_49, Int.one_mul, Int.add_zero, and_true, true_and] at *
  obtain ⟨a1, a2, a3⟩ := h1
  subst h0
  have ek : (v5 + 1).toNat = v5.toNat + 1 := by omega
  have ep : ∀ j : Nat, j < v5.toNat → r1 j = (if j = v0.toNat then v1 else r1 j) := fun j hj => by rw [if_neg (by omega)]
  have va : zg_va (fun j => if j = v0.toNat then v1 else r1 j) v4 (v5.toNat + 1) := fun j hj => by
    show -1 ≤ (if j = v0.toNat then v1 else r1 j) ∧ (if j = v0.toNat then v1 else r1 j) < v4
    by_cases e : j = v0.toNat
    · rw [if_pos e]
      omega
    · rw [if_neg e]
      exact a1 j (by omega)
  have lp : zg_lo (fun j => if j = v0.toNat then v1 else r1 j) v5.toNat = zg_lo r1 v5.toNat := (zg_lo_congr ep).symm
  have ev : (if v5.toNat = v0.toNat then v1 else r1 v5.toNat) = v1 := if_pos (by omega)
  have z := zg_ZW (k := v5.toNat) (by omega)
  refine ⟨by rw [ek]; exact va, ?_, a3⟩
  rw [if_pos (by omega)] at a2
  rw [ek, zg_lo_s, lp, ev, Int.one_mul, z.2]
  unfold zg_rk
  rw [if_pos (by omega)]
  have e : zg_lo r1 v5.toNat + zg_W v5.toNat * (5 - v1) + zg_W v5.toNat = zg_lo r1 v5.toNat + (6 - v6) * zg_W v5.toNat := by
    rw [show v1 = v6 by omega, Int.mul_comm (zg_W v5.toNat), show (6 - v6) = (5 - v6) + 1 by omega, Int.add_mul, Int.one_mul]
    omega
  rw [e]
  exact a2
def zg_r49c_w0 : zi_A := ([((2, [(3073, [])], []), 1, 2), ((49, [(5000, []), (3088, []), (3072, []), (3089, []), (3091, [])], [([((4067, [6]), 1)], 0), ([((4067, [13]), 1)], 0), ([((4067, [1]), 1)], 0), ([((1, []), 1)], 0), ([((3, []), 1)], 0), ([((4067, [39]), 1)], 0)]), 0, 0)], [([((5000, []), 1), ((1, []), (-1))], 0), ([((5000, []), (-1)), ((1, []), 1)], 0), ([((1, []), 1)], 0), ([((4067, [6]), 1), ((1, []), (-1))], (-1)), ([((4067, [6]), (-1))], 6), ([((3, []), 1)], 0), ([((4067, [1]), 1), ((3, []), (-1))], (-1)), ([((4067, [1]), (-1))], 5), ([((5001, []), 1), ((3, []), (-1))], 0), ([((5001, []), (-1)), ((3, []), 1)], 0)], [], [(15, [(3073, []), (3088, []), (3072, []), (3089, []), (3091, [])], [([((4067, [6]), 1)], 0), ([((4067, [13]), 1)], 0), ([((4067, [1]), 1)], 0), ([((1, []), 1)], 1), ([], 1), ([((4067, [39]), 1)], 0)])], [])
theorem zg_r49c_k0 : zi_ok zg_r49c_w0 := fun ρ ν => @zg_r49c_m0 (ρ (3073, [])) (ρ (5000, [])) (ρ (3088, [])) (ρ (3072, [])) (ρ (3089, [])) (ρ (3091, [])) (ν (5000, [])) (ν (5001, [])) (ν (4067, [6])) (ν (4067, [13])) (ν (4067, [1])) (ν (1, [])) (ν (3, [])) (ν (4067, [39]))
theorem zg_r49c_m1 {r0 r1 r2 r3 r4 r5 : Nat → Int} {v0 v1 v2 v3 v4 v5 v6 v7 : Int} (h0 : zk_S 2 [r0, r1] [v0, v1]) (h1 : zk_S 49 [r1, r2, r3, r4, r5] [1 * v2 + 0, 1 * v3 + 0, 1 * v4 + 0, 1 * v5 + 0, 1 * v6 + 0, 1 * v7 + 0]) (c0 : 0 ≤ 1 * v0 + ((-1) * v5 + 0)) (c1 : 0 ≤ (-1) * v0 + (1 * v5 + 0)) (c2 : 0 ≤ 1 * v5 + 0) (c3 : 0 ≤ 1 * v2 + ((-1) * v5 + (-1))) (c4 : 0 ≤ (-1) * v2 + 6) (c5 : 0 ≤ 1 * v4 + 0) (c6 : 0 ≤ (-1) * v4 + 5) (c7 : 0 ≤ 1 * v6 + ((-1) * v4 + 0)) (c8 : 0 ≤ (-1) * v6 + (1 * v4 + 0)) (c9 : 0 ≤ 1 * v1 + 1) (c10 : 0 ≤ (-1) * v1 + (-1)) : (zk_S 15 [r0, r2, r3, r4, r5] [1 * v2 + 0, 1 * v3 + 0, 1 * v4 + 0, 1 * v5 + 1, 1, 1 * v7 + 0] ∧ True) ∧ True := by
  simp only [zq_2, zq_15, zq_49, Int.one_mul, Int.add_zero, and_true, true_and] at *
  obtain ⟨a1, a2, a3⟩ := h1
  subst h0
  have ek : (v5 + 1).toNat = v5.toNat + 1 := by omega
  have ep : ∀ j : Nat, j < v5.toNat → r1 j = (if j = v0.toNat then v1 else r1 j) := fun j hj => by rw [if_neg (by omega)]
  have va : zg_va (fun j => if j = v0.toNat then v1 else r1 j) v4 (v5.toNat + 1) := fun j hj => by
    show -1 ≤ (if j = v0.toNat then v1 else r1 j) ∧ (if j = v0.toNat then v1 else r1 j) < v4
    by_cases e : j = v0.toNat
    · rw [if_pos e]
      omega
    · rw [if_neg e]
      exact a1 j (by omega)
  have lp : zg_lo (fun j => if j = v0.toNat then v1 else r1 j) v5.toNat = zg_lo r1 v5.toNat := (zg_lo_congr ep).symm
  have ev : (if v5.toNat = v0.toNat then v1 else r1 v5.toNat) = v1 := if_pos (by omega)
  have z := zg_ZW (k := v5.toNat) (by omega)
  refine ⟨by rw [ek]; exact va, ?_, a3⟩
  rw [if_pos (by omega), show v6 = v4 by omega] at a2
  rw [ek, zg_lo_s, lp, ev, Int.one_mul, z.2]
  unfold zg_rk
  rw [if_neg (by omega), Int.mul_zero, Int.add_zero]
  refine zg_gap ?_ (fun a ha ht => zg_gapk (by omega) (by omega) (by omega) (by omega) ha a1 ht) a2
  have w := zg_W_in (j := v5.toNat) (by omega)
  have := Int.mul_le_mul_of_nonneg_right (show (1 : Int) ≤ 6 - v4 by omega) (show 0 ≤ zg_W v5.toNat by omega)
  omega
def zg_r49c_w1 : zi_A := ([((2, [(3073, [])], []), 1, 2), ((49, [(5000, []), (3088, []), (3072, []), (3089, []), (3091, [])], [([((4067, [6]), 1)], 0), ([((4067, [13]), 1)], 0), ([((4067, [1]), 1)], 0), ([((1, []), 1)], 0), ([((3, []), 1)], 0), ([((4067, [39]), 1)], 0)]), 0, 0)], [([((5000, []), 1), ((1, []), (-1))], 0), ([((5000, []), (-1)), ((1, []), 1)], 0), ([((1, []), 1)], 0), ([((4067, [6]), 1), ((1, []), (-1))], (-1)), ([((4067, [6]), (-1))], 6), ([((4067, [1]), 1)], 0), ([((4067, [1]), (-1))], 5), ([((3, []), 1), ((4067, [1]), (-1))], 0), ([((3, []), (-1)), ((4067, [1]), 1)], 0), ([((5001, []), 1)], 1), ([((5001, []), (-1))], (-1))], [], [(15, [(3073, []), (3088, []), (3072, []), (3089, []), (3091, [])], [([((4067, [6]), 1)], 0), ([((4067, [13]), 1)], 0), ([((4067, [1]), 1)], 0), ([((1, []), 1)], 1), ([], 1), ([((4067, [39]), 1)], 0)])], [])
theorem zg_r49c_k1 : zi_ok zg_r49c_w1 := fun ρ ν => @zg_r49c_m1 (ρ (3073, [])) (ρ (5000, [])) (ρ (3088, [])) (ρ (3072, [])) (ρ (3089, [])) (ρ (3091, [])) (ν (5000, [])) (ν (5001, [])) (ν (4067, [6])) (ν (4067, [13])) (ν (4067, [1])) (ν (1, [])) (ν (3, [])) (ν (4067, [39]))
def zg_r49c : List zi_A := [zg_r49c_w0, zg_r49c_w1]
theorem zg_r49c_ok : ∀ A ∈ zg_r49c, zi_ok A := List.forall_mem_cons.mpr ⟨zg_r49c_k0, List.forall_mem_cons.mpr ⟨zg_r49c_k1, fun _ h => absurd h List.not_mem_nil⟩⟩

theorem zg_r49s_m0 {r0 r1 r2 r3 r4 r5 : Nat → Int} {v0 v1 v2 v3 v4 v5 v6 : Int} (h0 : zk_S 15 [r0, r1, r2, r3, r4] [1 * v0 + 0, 1 * v1 + 0, 1 * v2 + 0, 1 * v3 + 1, 0, 1 * v4 + 0]) (h1 : zk_S 8 [r0, r5] []) (h2 : zk_S 1 [r5] [1 * v3 + 0, v5]) (c0 : 0 ≤ 1 * v3 + 0) (c1 : 0 ≤ 1 * v0 + ((-1) * v3 + (-1))) (c2 : 0 ≤ (-1) * v0 + 6) (c3 : 0 ≤ 1 * v2 + 0) (c4 : 0 ≤ (-1) * v2 + 5) (c5 : 0 ≤ 1 * v5 + ((-1) * v6 + 0)) (c6 : 0 ≤ (-1) * v5 + (1 * v6 + 0)) (c7 : 0 ≤ 1 * v6 + 0) (c8 : 0 ≤ 1 * v2 + ((-1) * v6 + (-1))) : (zk_S 49 [r0, r1, r2, r3, r4] [1 * v0 + 0, 1 * v1 + 0, 1 * v2 + 0, 1 * v3 + 0, 1 * v6 + 1, 1 * v4 + 0] ∧ True) ∧ True := by
  simp only [zq_1, zq_8, zq_15, zq_49, Int.one_mul, Int.add_zero, and_true, true_and] at *
  obtain ⟨a1, a2, a3⟩ := h0
  have ek : (v3 + 1).toNat = v3.toNat + 1 := by omega
  rw [ek] at a1 a2
  have eb : r0 v3.toNat = v5 := by rw [h1]; exact h2
  rw [Int.zero_mul, Int.add_zero, zg_lo_s, eb] at a2
  refine ⟨fun j hj => a1 j (by omega), ?_, a3⟩
  rw [if_pos (by omega)]
  unfold zg_rk at a2
  rw [if_pos (by omega), show v5 = v6 by omega, Int.mul_comm] at a2
  rw [show 6 - (v6 + 1) = 5 - v6 by omega]
  exact a2
def zg_r49s_w0 : zi_A := ([((15, [(3073, []), (3088, []), (3072, []), (3089, []), (3091, [])], [([((4067, [6]), 1)], 0), ([((4067, [13]), 1)], 0), ([((4067, [1]), 1)], 0), ([((1, []), 1)], 1), ([], 0), ([((4067, [39]), 1)], 0)]), 0, 0), ((8, [(3073, [])], []), 1, 0), ((1, [(5000, [])], [([((1, []), 1)], 0)]), 0, 1)], [([((1, []), 1)], 0), ([((4067, [6]), 1), ((1, []), (-1))], (-1)), ([((4067, [6]), (-1))], 6), ([((4067, [1]), 1)], 0), ([((4067, [1]), (-1))], 5), ([((5000, []), 1), ((3, []), (-1))], 0), ([((5000, []), (-1)), ((3, []), 1)], 0), ([((3, []), 1)], 0), ([((4067, [1]), 1), ((3, []), (-1))], (-1))], [], [(49, [(3073, []), (3088, []), (3072, []), (3089, []), (3091, [])], [([((4067, [6]), 1)], 0), ([((4067, [13]), 1)], 0), ([((4067, [1]), 1)], 0), ([((1, []), 1)], 0), ([((3, []), 1)], 1), ([((4067, [39]), 1)], 0)])], [])
theorem zg_r49s_k0 : zi_ok zg_r49s_w0 := fun ρ ν => @zg_r49s_m0 (ρ (3073, [])) (ρ (3088, [])) (ρ (3072, [])) (ρ (3089, [])) (ρ (3091, [])) (ρ (5000, [])) (ν (4067, [6])) (ν (4067, [13])) (ν (4067, [1])) (ν (1, [])) (ν (4067, [39])) (ν (5000, [])) (ν (3, []))
theorem zg_r49s_m1 {r0 r1 r2 r3 r4 r5 : Nat → Int} {v0 v1 v2 v3 v4 v5 v6 : Int} (h0 : zk_S 15 [r0, r1, r2, r3, r4] [1 * v0 + 0, 1 * v1 + 0, 1 * v2 + 0, 1 * v3 + 1, 0, 1 * v4 + 0]) (h1 : zk_S 8 [r0, r5] []) (h2 : zk_S 1 [r5] [1 * v3 + 0, v5]) (c0 : 0 ≤ 1 * v3 + 0) (c1 : 0 ≤ 1 * v0 + ((-1) * v3 + (-1))) (c2 : 0 ≤ (-1) * v0 + 6) (c3 : 0 ≤ 1 * v2 + 0) (c4 : 0 ≤ (-1) * v2 + 5) (c5 : 0 ≤ 1 * v5 + 1) (c6 : 0 ≤ (-1) * v5 + (-1)) (c7 : 0 ≤ 1 * v6 + ((-1) * v2 + 0)) (c8 : 0 ≤ (-1) * v6 + (1 * v2 + 0)) : (zk_S 49 [r0, r1, r2, r3, r4] [1 * v0 + 0, 1 * v1 + 0, 1 * v2 + 0, 1 * v3 + 0, 1 * v6 + 1, 1 * v4 + 0] ∧ True) ∧ True := by
  simp only [zq_1, zq_8, zq_15, zq_49, Int.one_mul, Int.add_zero, and_true, true_and] at *
  obtain ⟨a1, a2, a3⟩ := h0
  have ek : (v3 + 1).toNat = v3.toNat + 1 := by omega
  rw [ek] at a1 a2
  have eb : r0 v3.toNat = v5 := by rw [h1]; exact h2
  rw [Int.zero_mul, Int.add_zero, zg_lo_s, eb] at a2
  refine ⟨fun j hj => a1 j (by omega), ?_, a3⟩
  rw [if_neg (by omega)]
  unfold zg_rk at a2
  rw [if_neg (by omega), Int.mul_zero] at a2
  exact a2
def zg_r49s_w1 : zi_A := ([((15, [(3073, []), (3088, []), (3072, []), (3089, []), (3091, [])], [([((4067, [6]), 1)], 0), ([((4067, [13]), 1)], 0), ([((4067, [1]), 1)], 0), ([((1, []), 1)], 1), ([], 0), ([((4067, [39]), 1)], 0)]), 0, 0), ((8, [(3073, [])], []), 1, 0), ((1, [(5000, [])], [([((1, []), 1)], 0)]), 0, 1)], [([((1, []), 1)], 0), ([((4067, [6]), 1), ((1, []), (-1))], (-1)), ([((4067, [6]), (-1))], 6), ([((4067, [1]), 1)], 0), ([((4067, [1]), (-1))], 5), ([((5000, []), 1)], 1), ([((5000, []), (-1))], (-1)), ([((3, []), 1), ((4067, [1]), (-1))], 0), ([((3, []), (-1)), ((4067, [1]), 1)], 0)], [], [(49, [(3073, []), (3088, []), (3072, []), (3089, []), (3091, [])], [([((4067, [6]), 1)], 0), ([((4067, [13]), 1)], 0), ([((4067, [1]), 1)], 0), ([((1, []), 1)], 0), ([((3, []), 1)], 1), ([((4067, [39]), 1)], 0)])], [])
theorem zg_r49s_k1 : zi_ok zg_r49s_w1 := fun ρ ν => @zg_r49s_m1 (ρ (3073, [])) (ρ (3088, [])) (ρ (3072, [])) (ρ (3089, [])) (ρ (3091, [])) (ρ (5000, [])) (ν (4067, [6])) (ν (4067, [13])) (ν (4067, [1])) (ν (1, [])) (ν (4067, [39])) (ν (5000, [])) (ν (3, []))
def zg_r49s : List zi_A := [zg_r49s_w0, zg_r49s_w1]
theorem zg_r49s_ok : ∀ A ∈ zg_r49s, zi_ok A := List.forall_mem_cons.mpr ⟨zg_r49s_k0, List.forall_mem_cons.mpr ⟨zg_r49s_k1, fun _ h => absurd h List.not_mem_nil⟩⟩

theorem zg_r49e_m0 {r0 r1 r2 r3 r4 r5 : Nat → Int} {v0 v1 v2 v3 v4 v5 v6 v7 v8 : Int} (h0 : zk_S 2 [r0, r1] [v0, v1]) (h1 : zk_S 49 [r1, r2, r3, r4, r5] [1 * v2 + 0, 1 * v3 + 0, 1 * v4 + 0, 1 * v5 + 0, v6, v7]) (c0 : 0 ≤ 1 * v0 + ((-1) * v5 + 0)) (c1 : 0 ≤ (-1) * v0 + (1 * v5 + 0)) (c2 : 0 ≤ 1 * v6 + ((-1) * v4 + (-1))) (c3 : 0 ≤ 1 * v5 + 0) (c4 : 0 ≤ (-1) * v2 + 6) (c5 : 0 ≤ 1 * v2 + ((-1) * v5 + (-1))) (c6 : 0 ≤ 1 * v7 + ((-1) * v8 + 0)) (c7 : 0 ≤ (-1) * v7 + (1 * v8 + 0)) : (zk_S 15 [r0, r2, r3, r4, r5] [1 * v2 + 0, 1 * v3 + 0, 1 * v4 + 0, 1 * v5 + 0, 0, 1 * v8 + 0] ∧ True) ∧ True := by
  simp only [zq_2, zq_15, zq_49, Int.one_mul, Int.add_zero, and_true, true_and] at *
  obtain ⟨a1, a2, a3⟩ := h1
  subst h0
  rw [if_neg (by omega), Int.add_zero] at a2
  have ep : ∀ j : Nat, j < v5.toNat → r1 j = (if j = v0.toNat then v1 else r1 j) := fun j hj => by rw [if_neg (by omega)]
  refine ⟨zg_va_congr ep a1, ?_, by omega⟩
  have lp : zg_lo (fun j => if j = v0.toNat then v1 else r1 j) v5.toNat = zg_lo r1 v5.toNat := (zg_lo_congr ep).symm
  rw [Int.zero_mul, Int.add_zero, lp, show v8 = v7 by omega]
  exact a2
def zg_r49e_w0 : zi_A := ([((2, [(3073, [])], []), 1, 2), ((49, [(5000, []), (3088, []), (3072, []), (3089, []), (3091, [])], [([((4067, [6]), 1)], 0), ([((4067, [13]), 1)], 0), ([((4067, [1]), 1)], 0), ([((1, []), 1)], 0)]), 0, 2)], [([((5000, []), 1), ((1, []), (-1))], 0), ([((5000, []), (-1)), ((1, []), 1)], 0), ([((5002, []), 1), ((4067, [1]), (-1))], (-1)), ([((1, []), 1)], 0), ([((4067, [6]), (-1))], 6), ([((4067, [6]), 1), ((1, []), (-1))], (-1)), ([((5003, []), 1), ((4067, [39]), (-1))], 0), ([((5003, []), (-1)), ((4067, [39]), 1)], 0)], [], [(15, [(3073, []), (3088, []), (3072, []), (3089, []), (3091, [])], [([((4067, [6]), 1)], 0), ([((4067, [13]), 1)], 0), ([((4067, [1]), 1)], 0), ([((1, []), 1)], 0), ([], 0), ([((4067, [39]), 1)], 0)])], [])
theorem zg_r49e_k0 : zi_ok zg_r49e_w0 := fun ρ ν => @zg_r49e_m0 (ρ (3073, [])) (ρ (5000, [])) (ρ (3088, [])) (ρ (3072, [])) (ρ (3089, [])) (ρ (3091, [])) (ν (5000, [])) (ν (5001, [])) (ν (4067, [6])) (ν (4067, [13])) (ν (4067, [1])) (ν (1, [])) (ν (5002, [])) (ν (5003, [])) (ν (4067, [39]))
def zg_r49e : List zi_A := [zg_r49e_w0]
theorem zg_r49e_ok : ∀ A ∈ zg_r49e, zi_ok A := List.forall_mem_cons.mpr ⟨zg_r49e_k0, fun _ h => absurd h List.not_mem_nil⟩

theorem zg_r15i_m0 {r0 r1 r2 r3 r4 : Nat → Int} {v0 v1 v2 v3 : Int} (c0 : 0 ≤ 1 * v0 + 1) (c1 : 0 ≤ (-1) * v0 + (-1)) (c2 : 0 ≤ 1 * v1 + 0) (c3 : 0 ≤ (-1) * v1 + 6) (c4 : 0 ≤ 1 * v2 + 0) (c5 : 0 ≤ (-1) * v2 + 5) : (zk_S 15 [r0, r1, r2, r3, r4] [1 * v1 + 0, 1 * v3 + 0, 1 * v2 + 0, 0, 1, 1 * v0 + 0] ∧ True) ∧ True := by
  simp only [zq_15, Int.one_mul, Int.add_zero, and_true, true_and] at *
  refine ⟨fun j hj => absurd hj (Nat.not_lt_zero j), Or.inl ⟨by omega, fun a ha => ?_⟩, by omega⟩
  have l := zg_lo_in (by omega) (by omega) ha
  show zg_lo a v1.toNat < 0 + 1 * 46656
  omega
def zg_r15i_w0 : zi_A := ([], [([((4067, [39]), 1)], 1), ([((4067, [39]), (-1))], (-1)), ([((4067, [6]), 1)], 0), ([((4067, [6]), (-1))], 6), ([((4067, [1]), 1)], 0), ([((4067, [1]), (-1))], 5)], [], [(15, [(3073, []), (3088, []), (3072, []), (3089, []), (3091, [])], [([((4067, [6]), 1)], 0), ([((4067, [13]), 1)], 0), ([((4067, [1]), 1)], 0), ([], 0), ([], 1), ([((4067, [39]), 1)], 0)])], [])
theorem zg_r15i_k0 : zi_ok zg_r15i_w0 := fun ρ ν => @zg_r15i_m0 (ρ (3073, [])) (ρ (3088, [])) (ρ (3072, [])) (ρ (3089, [])) (ρ (3091, [])) (ν (4067, [39])) (ν (4067, [6])) (ν (4067, [1])) (ν (4067, [13]))
def zg_r15i : List zi_A := [zg_r15i_w0]
theorem zg_r15i_ok : ∀ A ∈ zg_r15i, zi_ok A := List.forall_mem_cons.mpr ⟨zg_r15i_k0, fun _ h => absurd h List.not_mem_nil⟩

theorem zg_r60_m0 {r0 r1 r2 r3 r4 : Nat → Int} {v0 v1 v2 v3 v4 v5 : Int} (h0 : zk_S 15 [r0, r1, r2, r3, r4] [1 * v0 + 0, 1 * v1 + 0, 1 * v2 + 0, 0, 0, 1 * v3 + 0]) (c0 : 0 ≤ 1 * v4 + ((-1) * v3 + 0)) (c1 : 0 ≤ (-1) * v4 + (1 * v3 + 0)) (c2 : 0 ≤ 1 * v5 + 1) (c3 : 0 ≤ (-1) * v5 + (-1)) : (zk_S 60 [r4] [1 * v3 + 0, 1 * v5 + 0, 1 * v4 + 0] ∧ True) ∧ True := by
  simp only [zq_15, zq_60, Int.one_mul, Int.add_zero, and_true, true_and] at *
  unfold zg_k60
  rw [if_pos (by omega)]
  omega
def zg_r60_w0 : zi_A := ([((15, [(3073, []), (3088, []), (3072, []), (3089, []), (3091, [])], [([((4067, [6]), 1)], 0), ([((4067, [13]), 1)], 0), ([((4067, [1]), 1)], 0), ([], 0), ([], 0), ([((4067, [39]), 1)], 0)]), 0, 0)], [([((4500, []), 1), ((4067, [39]), (-1))], 0), ([((4500, []), (-1)), ((4067, [39]), 1)], 0), ([((1, []), 1)], 1), ([((1, []), (-1))], (-1))], [], [(60, [(3091, [])], [([((4067, [39]), 1)], 0), ([((1, []), 1)], 0), ([((4500, []), 1)], 0)])], [])
theorem zg_r60_k0 : zi_ok zg_r60_w0 := fun ρ ν => @zg_r60_m0 (ρ (3073, [])) (ρ (3088, [])) (ρ (3072, [])) (ρ (3089, [])) (ρ (3091, [])) (ν (4067, [6])) (ν (4067, [13])) (ν (4067, [1])) (ν (4067, [39])) (ν (4500, [])) (ν (1, []))
theorem zg_r60_m1 {r0 r1 r2 r3 r4 : Nat → Int} {v0 v1 v2 v3 v4 v5 v6 : Int} (h0 : zk_S 15 [r0, r1, r2, r3, r4] [1 * v0 + 0, 1 * v1 + 0, 1 * v2 + 0, 0, 0, 1 * v3 + 0]) (h1 : zk_S 1 [r4] [1 * v4 + 0, v5]) (c0 : 0 ≤ 1 * v4 + 0) (c1 : 0 ≤ (-1) * v5 + (-1)) (c2 : 0 ≤ 1 * v6 + 2) (c3 : 0 ≤ (-1) * v6 + (-2)) : (zk_S 60 [r4] [1 * v3 + 0, 1 * v4 + 0, 1 * v6 + 0] ∧ True) ∧ True := by
  simp only [zq_1, zq_15, zq_60, Int.one_mul, Int.add_zero, and_true, true_and] at *
  unfold zg_k60
  rw [if_neg (by omega), h1, if_pos (by omega)]
  omega
def zg_r60_w1 : zi_A := ([((15, [(3073, []), (3088, []), (3072, []), (3089, []), (3091, [])], [([((4067, [6]), 1)], 0), ([((4067, [13]), 1)], 0), ([((4067, [1]), 1)], 0), ([], 0), ([], 0), ([((4067, [39]), 1)], 0)]), 0, 0), ((1, [(3091, [])], [([((1, []), 1)], 0)]), 0, 1)], [([((1, []), 1)], 0), ([((5000, []), (-1))], (-1)), ([((4500, []), 1)], 2), ([((4500, []), (-1))], (-2))], [], [(60, [(3091, [])], [([((4067, [39]), 1)], 0), ([((1, []), 1)], 0), ([((4500, []), 1)], 0)])], [])
theorem zg_r60_k1 : zi_ok zg_r60_w1 := fun ρ ν => @zg_r60_m1 (ρ (3073, [])) (ρ (3088, [])) (ρ (3072, [])) (ρ (3089, [])) (ρ (3091, [])) (ν (4067, [6])) (ν (4067, [13])) (ν (4067, [1])) (ν (4067, [39])) (ν (1, [])) (ν (5000, [])) (ν (4500, []))
theorem zg_r60_m2 {r0 r1 r2 r3 r4 : Nat → Int} {v0 v1 v2 v3 v4 v5 v6 : Int} (h0 : zk_S 15 [r0, r1, r2, r3, r4] [1 * v0 + 0, 1 * v1 + 0, 1 * v2 + 0, 0, 0, 1 * v3 + 0]) (h1 : zk_S 1 [r4] [1 * v4 + 0, v5]) (c0 : 0 ≤ 1 * v4 + 0) (c1 : 0 ≤ 1 * v5 + 0) (c2 : 0 ≤ 1 * v6 + ((-1) * v5 + 0)) (c3 : 0 ≤ (-1) * v6 + (1 * v5 + 0)) : (zk_S 60 [r4] [1 * v3 + 0, 1 * v4 + 0, 1 * v6 + 0] ∧ True) ∧ True := by
  simp only [zq_1, zq_15, zq_60, Int.one_mul, Int.add_zero, and_true, true_and] at *
  unfold zg_k60
  rw [if_neg (by omega), h1, if_neg (by omega)]
  omega
def zg_r60_w2 : zi_A := ([((15, [(3073, []), (3088, []), (3072, []), (3089, []), (3091, [])], [([((4067, [6]), 1)], 0), ([((4067, [13]), 1)], 0), ([((4067, [1]), 1)], 0), ([], 0), ([], 0), ([((4067, [39]), 1)], 0)]), 0, 0), ((1, [(3091, [])], [([((1, []), 1)], 0)]), 0, 1)], [([((1, []), 1)], 0), ([((5000, []), 1)], 0), ([((4500, []), 1), ((5000, []), (-1))], 0), ([((4500, []), (-1)), ((5000, []), 1)], 0)], [], [(60, [(3091, [])], [([((4067, [39]), 1)], 0), ([((1, []), 1)], 0), ([((4500, []), 1)], 0)])], [])
theorem zg_r60_k2 : zi_ok zg_r60_w2 := fun ρ ν => @zg_r60_m2 (ρ (3073, [])) (ρ (3088, [])) (ρ (3072, [])) (ρ (3089, [])) (ρ (3091, [])) (ν (4067, [6])) (ν (4067, [13])) (ν (4067, [1])) (ν (4067, [39])) (ν (1, [])) (ν (5000, [])) (ν (4500, []))
def zg_r60 : List zi_A := [zg_r60_w0, zg_r60_w1, zg_r60_w2]
theorem zg_r60_ok : ∀ A ∈ zg_r60, zi_ok A := List.forall_mem_cons.mpr ⟨zg_r60_k0, List.forall_mem_cons.mpr ⟨zg_r60_k1, List.forall_mem_cons.mpr ⟨zg_r60_k2, fun _ h => absurd h List.not_mem_nil⟩⟩⟩

theorem zg_r50_m0 {v0 v1 v2 v3 : Int} (h0 : zk_S 59 [] [1 * v0 + 0, (-1), v1]) (c0 : 0 ≤ 1 * v2 + 1) (c1 : 0 ≤ (-1) * v2 + (-1)) (c2 : 0 ≤ 1 * v3 + ((-1) * v1 + 0)) (c3 : 0 ≤ (-1) * v3 + (1 * v1 + 0)) : (zk_S 50 [] [1 * v0 + 0, 1 * v2 + 0, 1 * v3 + 0] ∧ True) ∧ True := by
  simp only [zq_50, zq_59, Int.one_mul, Int.add_zero, and_true, true_and] at *
  unfold zg_k59 at h0
  unfold zg_k50
  rw [if_pos (by omega)] at h0
  rw [if_pos (by omega)]
  omega
def zg_r50_w0 : zi_A := ([((59, [], [([((4030, [2]), 1)], 0), ([], (-1))]), 0, 1)], [([((1, []), 1)], 1), ([((1, []), (-1))], (-1)), ([((4500, []), 1), ((5000, []), (-1))], 0), ([((4500, []), (-1)), ((5000, []), 1)], 0)], [], [(50, [], [([((4030, [2]), 1)], 0), ([((1, []), 1)], 0), ([((4500, []), 1)], 0)])], [])
theorem zg_r50_k0 : zi_ok zg_r50_w0 := fun ρ ν => @zg_r50_m0 (ν (4030, [2])) (ν (5000, [])) (ν (1, [])) (ν (4500, []))
theorem zg_r50_m1 {v0 v1 v2 v3 : Int} (h0 : zk_S 59 [] [1 * v0 + 0, 1 * v1 + 0, v2]) (c0 : 0 ≤ 1 * v2 + 1) (c1 : 0 ≤ (-1) * v2 + (-1)) (c2 : 0 ≤ 1 * v3 + 2) (c3 : 0 ≤ (-1) * v3 + (-2)) (c4 : 0 ≤ 1 * v1 + 0) : (zk_S 50 [] [1 * v0 + 0, 1 * v1 + 0, 1 * v3 + 0] ∧ True) ∧ True := by
  simp only [zq_50, zq_59, Int.one_mul, Int.add_zero, and_true, true_and] at *
  unfold zg_k59 at h0
  unfold zg_k50
  rw [if_neg (by omega)] at h0 ⊢
  by_cases c : v0 % 46656 / zg_W v1.toNat % 6 = 0
  · rw [if_pos c]
    omega
  · rw [if_neg c] at h0
    have := Int.emod_lt_of_pos (v0 % 46656 / zg_W v1.toNat) (show (0 : Int) < 6 by omega)
    omega
def zg_r50_w1 : zi_A := ([((59, [], [([((4030, [2]), 1)], 0), ([((1, []), 1)], 0)]), 0, 1)], [([((5000, []), 1)], 1), ([((5000, []), (-1))], (-1)), ([((4500, []), 1)], 2), ([((4500, []), (-1))], (-2)), ([((1, []), 1)], 0)], [], [(50, [], [([((4030, [2]), 1)], 0), ([((1, []), 1)], 0), ([((4500, []), 1)], 0)])], [])
theorem zg_r50_k1 : zi_ok zg_r50_w1 := fun ρ ν => @zg_r50_m1 (ν (4030, [2])) (ν (1, [])) (ν (5000, [])) (ν (4500, []))
theorem zg_r50_m2 {v0 v1 v2 v3 : Int} (h0 : zk_S 59 [] [1 * v0 + 0, 1 * v1 + 0, v2]) (c0 : 0 ≤ 1 * v2 + 0) (c1 : 0 ≤ 1 * v1 + 0) (c2 : 0 ≤ 1 * v3 + ((-1) * v2 + 0)) (c3 : 0 ≤ (-1) * v3 + (1 * v2 + 0)) : (zk_S 50 [] [1 * v0 + 0, 1 * v1 + 0, 1 * v3 + 0] ∧ True) ∧ True := by
  simp only [zq_50, zq_59, Int.one_mul, Int.add_zero, and_true, true_and] at *
  unfold zg_k59 at h0
  unfold zg_k50
  rw [if_neg (by omega)] at h0 ⊢
  by_cases c : v0 % 46656 / zg_W v1.toNat % 6 = 0
  · rw [if_pos c] at h0
    omega
  · rw [if_neg c] at h0 ⊢
    omega
def zg_r50_w2 : zi_A := ([((59, [], [([((4030, [2]), 1)], 0), ([((1, []), 1)], 0)]), 0, 1)], [([((5000, []), 1)], 0), ([((1, []), 1)], 0), ([((4500, []), 1), ((5000, []), (-1))], 0), ([((4500, []), (-1)), ((5000, []), 1)], 0)], [], [(50, [], [([((4030, [2]), 1)], 0), ([((1, []), 1)], 0), ([((4500, []), 1)], 0)])], [])
theorem zg_r50_k2 : zi_ok zg_r50_w2 := fun ρ ν => @zg_r50_m2 (ν (4030, [2])) (ν (1, [])) (ν (5000, [])) (ν (4500, []))
def zg_r50 : List zi_A := [zg_r50_w0, zg_r50_w1, zg_r50_w2]
theorem zg_r50_ok : ∀ A ∈ zg_r50, zi_ok A := List.forall_mem_cons.mpr ⟨zg_r50_k0, List.forall_mem_cons.mpr ⟨zg_r50_k1, List.forall_mem_cons.mpr ⟨zg_r50_k2, fun _ h => absurd h List.not_mem_nil⟩⟩⟩

theorem zg_r60f_m0 {r0 r1 r2 r3 r4 r5 r6 r7 r8 r9 : Nat → Int} {v0 v1 v2 v3 v4 v5 v6 v7 v8 v9 v10 v11 v12 v13 v14 : Int} (h0 : zk_S 50 [] [1 * v0 + 0, v1, v2]) (h1 : zk_S 18 [r0, r1, r2] [1 * v3 + 0, 1 * v4 + 0, 1 * v5 + 0, 1 * v0 + 0]) (h2 : zk_S 15 [r3, r4, r5, r6, r7] [1 * v6 + 0, 1 * v7 + 0, 1 * v8 + 0, 0, 0, 1 * v9 + 0]) (h3 : zk_S 60 [r7] [1 * v9 + 0, 1 * v1 + 0, v10]) (h4 : zk_S 8 [r0, r8] []) (h5 : zk_S 8 [r1, r5] []) (h6 : zk_S 8 [r2, r9] []) (h7 : zk_S 68 [r4, r8] [0, 0, v11]) (h8 : zk_S 68 [r6, r9] [0, 0, v12]) (h9 : zk_S 3 [r5] [v13, v14]) (c0 : 0 ≤ 1 * v11 + ((-1) * v5 + 0)) (c1 : 0 ≤ 1 * v12 + ((-1) * v5 + 0)) (c2 : 0 ≤ 1 * v13 + 0) (c3 : 0 ≤ 1 * v3 + ((-1) * v1 + (-1))) (c4 : 0 ≤ 1 * v1 + 1) (c5 : 0 ≤ 1 * v5 + 0) (c6 : 0 ≤ (-1) * v5 + 5) (c7 : 0 ≤ 1 * v3 + 0) (c8 : 0 ≤ (-1) * v3 + 6) (c9 : 0 ≤ 1 * v3 + ((-1) * v6 + 0)) (c10 : 0 ≤ (-1) * v3 + (1 * v6 + 0)) (c11 : 0 ≤ 1 * v5 + ((-1) * v8 + 0)) (c12 : 0 ≤ (-1) * v5 + (1 * v8 + 0)) (c13 : 0 ≤ 1 * v4 + ((-1) * v7 + 0)) (c14 : 0 ≤ (-1) * v4 + (1 * v7 + 0)) : (True) ∧ 0 ≤ 1 * v2 + ((-1) * v10 + 0) ∧ 0 ≤ (-1) * v2 + (1 * v10 + 0) ∧ True := by
  simp only [zq_3, zq_8, zq_15, zq_18, zq_50, zq_60, zq_68, Int.one_mul, Int.add_zero, and_true, true_and] at *
  have key : v2 = v10 := by
    obtain ⟨-, a2, -⟩ := h2
    unfold zg_k50 at h0
    unfold zg_k18 at h1
    unfold zg_k60 at h3
    have a2 : zg_st r4 r5 r6 r7 v7 v6.toNat v8 0 v9 := by
      have e : zg_lo r3 (0 : Int).toNat + 0 * zg_Z (0 : Int).toNat = 0 := rfl
      rw [e] at a2
      exact a2
    rw [show v8 = ((v8.toNat : Nat) : Int) by omega] at a2
    obtain ⟨b1, b2, b3⟩ := zg_best (by omega) (by omega) (fun j => by have := h9 j; omega) a2
    have hw : zg_w (zg_h r0 r1 r2 v4 v3.toNat) v5.toNat (2 ^ v3.toNat - 1) = zg_w (zg_h r4 r5 r6 v7 v6.toNat) v8.toNat (2 ^ v6.toNat - 1) := by
      rw [show v3 = v6 by omega, show v4 = v7 by omega, show v5 = v8 by omega, h5]
      refine zg_w_congr (fun b hb s => zg_h_congr ?_ ?_ s) _
      · have q := h7 b (by omega)
        rw [show (0 : Int).toNat + b = b by simp] at q
        rw [h4, q]
      · have q := h8 b (by omega)
        rw [show (0 : Int).toNat + b = b by simp] at q
        rw [h6, q]
    rw [hw, b1] at h1
    have l := zg_lo_in (a := r7) (n := ((v8.toNat : Nat) : Int)) (m := v6.toNat) (by omega) (by omega) b2
    have e1 : v0 / 46656 = v9 := by omega
    have e2 : v0 % 46656 = zg_lo r7 v6.toNat := by omega
    rw [h0, h3]
    by_cases k0 : v1 < 0
    · rw [if_pos k0, if_pos k0]
      exact e1
    · rw [if_neg k0, if_neg k0, e2, zg_digit (by omega) (by omega) b2 (by omega)]
      unfold zg_r zg_rk
      rw [if_pos (show v1.toNat < v6.toNat by omega)]
      obtain ⟨d1, d2⟩ := b2 v1.toNat (by omega)
      by_cases c : 0 ≤ r7 v1.toNat
      · rw [if_pos c, if_neg (show ¬ (5 - r7 v1.toNat = 0) by omega), if_neg (show ¬ (r7 v1.toNat < 0) by omega)]
        omega
      · rw [if_neg c, if_pos rfl, if_pos (show r7 v1.toNat < 0 by omega)]
  omega
def zg_r60f_w0 : zi_A := ([((50, [], [([((4030, [2]), 1)], 0)]), 0, 2), ((18, [(3003, []), (3006, []), (3004, [])], [([((4001, [1]), 1)], 0), ([((4001, [4]), 1)], 0), ([((4001, [0]), 1)], 0), ([((4030, [2]), 1)], 0)]), 0, 0), ((15, [(3073, []), (3088, []), (3072, []), (3089, []), (3091, [])], [([((4067, [6]), 1)], 0), ([((4067, [13]), 1)], 0), ([((4067, [1]), 1)], 0), ([], 0), ([], 0), ([((4067, [39]), 1)], 0)]), 0, 0), ((60, [(3091, [])], [([((4067, [39]), 1)], 0), ([((5000, []), 1)], 0)]), 0, 1), ((8, [(3003, []), (3069, [])], []), 0, 0), ((8, [(3006, []), (3072, [])], []), 0, 0), ((8, [(3004, []), (3070, [])], []), 0, 0), ((68, [(3088, []), (3069, [])], [([], 0), ([], 0)]), 0, 1), ((68, [(3089, []), (3070, [])], [([], 0), ([], 0)]), 0, 1), ((3, [(3072, [])], []), 0, 2)], [([((5003, []), 1), ((4001, [0]), (-1))], 0), ([((5004, []), 1), ((4001, [0]), (-1))], 0), ([((5005, []), 1)], 0), ([((4001, [1]), 1), ((5000, []), (-1))], (-1)), ([((5000, []), 1)], 1), ([((4001, [0]), 1)], 0), ([((4001, [0]), (-1))], 5), ([((4001, [1]), 1)], 0), ([((4001, [1]), (-1))], 6), ([((4001, [1]), 1), ((4067, [6]), (-1))], 0), ([((4001, [1]), (-1)), ((4067, [6]), 1)], 0), ([((4001, [0]), 1), ((4067, [1]), (-1))], 0), ([((4001, [0]), (-1)), ((4067, [1]), 1)], 0), ([((4001, [4]), 1), ((4067, [13]), (-1))], 0), ([((4001, [4]), (-1)), ((4067, [13]), 1)], 0)], [], [], [([((5001, []), 1), ((5002, []), (-1))], 0), ([((5001, []), (-1)), ((5002, []), 1)], 0)])
theorem zg_r60f_k0 : zi_ok zg_r60f_w0 := fun ρ ν => @zg_r60f_m0 (ρ (3003, [])) (ρ (3006, [])) (ρ (3004, [])) (ρ (3073, [])) (ρ (3088, [])) (ρ (3072, [])) (ρ (3089, [])) (ρ (3091, [])) (ρ (3069, [])) (ρ (3070, [])) (ν (4030, [2])) (ν (5000, [])) (ν (5001, [])) (ν (4001, [1])) (ν (4001, [4])) (ν (4001, [0])) (ν (4067, [6])) (ν (4067, [13])) (ν (4067, [1])) (ν (4067, [39])) (ν (5002, [])) (ν (5003, [])) (ν (5004, [])) (ν (5005, [])) (ν (5006, []))
def zg_r60f : List zi_A := [zg_r60f_w0]
theorem zg_r60f_ok : ∀ A ∈ zg_r60f, zi_ok A := List.forall_mem_cons.mpr ⟨zg_r60f_k0, fun _ h => absurd h List.not_mem_nil⟩
end
