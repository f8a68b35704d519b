noncomputable section
/-! DEALS: what the rules of deals say (wip/p41/deals.py, dealpf.py) -/
theorem zd_S_of {e n u : Nat → Int} {bo li b x r : Int} (h : r = ((zx_SI e n u bo li b x : Nat) : Int)) (hb : 0 ≤ b) : zd_S e n u bo li b.toNat x = r := by
  unfold zd_S
  rw [show ((b.toNat : Nat) : Int) = b by omega]
  exact h.symm
theorem zd_c_s {bed needs : Nat → Int} {b n : Int} {k : Nat} : ∀ {m : Nat}, zd_c bed needs b n (k + 1) m = zd_c bed needs b n k m + (if k < m ∧ bed k = b ∧ needs k = n then 1 else 0)
  | 0 => by
    rw [if_neg (fun q => absurd q.1 (Nat.not_lt_zero k))]
    rfl
  | m + 1 => by
    have ih := zd_c_s (bed := bed) (needs := needs) (b := b) (n := n) (k := k) (m := m)
    show zd_c bed needs b n (k + 1) m + (if bed m = b ∧ (needs m < n ∨ (needs m = n ∧ m < k + 1)) then 1 else 0) = (zd_c bed needs b n k m + (if bed m = b ∧ (needs m < n ∨ (needs m = n ∧ m < k)) then 1 else 0)) + _
    rw [ih]
    by_cases e : m = k
    · subst e
      rw [if_neg (fun q => absurd q.1 (Nat.lt_irrefl m))]
      by_cases h1 : bed m = b
      · by_cases h2 : needs m = n
        · rw [if_pos ⟨h1, Or.inr ⟨h2, by omega⟩⟩, if_neg (fun q => by omega), if_pos ⟨by omega, h1, h2⟩]
        · rw [if_neg (c := m < m + 1 ∧ bed m = b ∧ needs m = n) (fun q => h2 q.2.2)]
          by_cases h3 : needs m < n
          · rw [if_pos ⟨h1, Or.inl h3⟩, if_pos ⟨h1, Or.inl h3⟩]
          · rw [if_neg (fun q => by omega), if_neg (fun q => by omega)]
      · rw [if_neg (fun q => h1 q.1), if_neg (fun q => h1 q.1), if_neg (fun q => h1 q.2.1)]
    · have e1 : (bed m = b ∧ (needs m < n ∨ (needs m = n ∧ m < k + 1))) ↔ (bed m = b ∧ (needs m < n ∨ (needs m = n ∧ m < k))) := by omega
      have e2 : (k < m ∧ bed k = b ∧ needs k = n) ↔ (k < m + 1 ∧ bed k = b ∧ needs k = n) := by omega
      simp only [e1, e2]
      omega
theorem zd_c_mono {bed needs : Nat → Int} {b n n' : Int} {k k' : Nat} (h : n < n' ∨ (n = n' ∧ k ≤ k')) : ∀ {m : Nat}, zd_c bed needs b n k m ≤ zd_c bed needs b n' k' m
  | 0 => Nat.le_refl _
  | m + 1 => by
    have ih := zd_c_mono (bed := bed) (needs := needs) (b := b) h (m := m)
    show zd_c bed needs b n k m + (if bed m = b ∧ (needs m < n ∨ (needs m = n ∧ m < k)) then 1 else 0) ≤ zd_c bed needs b n' k' m + (if bed m = b ∧ (needs m < n' ∨ (needs m = n' ∧ m < k')) then 1 else 0)
    by_cases c : bed m = b ∧ (needs m < n ∨ (needs m = n ∧ m < k))
    · rw [if_pos c, if_pos ⟨c.1, by omega⟩]
      omega
    · rw [if_neg c]
      split <;> omega
theorem zd_c_0 {bed needs : Nat → Int} {b n : Int} {k m : Nat} : zd_c bed needs b n 0 m ≤ zd_c bed needs b n k m := zd_c_mono (Or.inr ⟨rfl, Nat.zero_le _⟩)
theorem zd_c_1 {bed needs : Nat → Int} {b n : Int} {k m : Nat} : zd_c bed needs b n k m ≤ zd_c bed needs b (n + 1) 0 m := zd_c_mono (Or.inl (by omega))
theorem zd_c_e {bed needs : Nat → Int} {b n : Int} {k : Nat} : ∀ {m : Nat}, m ≤ k → zd_c bed needs b n k m = zd_c bed needs b (n + 1) 0 m
  | 0, _ => rfl
  | m + 1, h => by
    have ih := zd_c_e (bed := bed) (needs := needs) (b := b) (n := n) (k := k) (m := m) (by omega)
    show zd_c bed needs b n k m + (if bed m = b ∧ (needs m < n ∨ (needs m = n ∧ m < k)) then 1 else 0) = zd_c bed needs b (n + 1) 0 m + (if bed m = b ∧ (needs m < n + 1 ∨ (needs m = n + 1 ∧ m < 0)) then 1 else 0)
    have e1 : (bed m = b ∧ (needs m < n ∨ (needs m = n ∧ m < k))) ↔ (bed m = b ∧ (needs m < n + 1 ∨ (needs m = n + 1 ∧ m < 0))) := by omega
    simp only [ih, e1]
theorem zd_c_m {bed needs : Nat → Int} {b n : Int} {k : Nat} : ∀ {m : Nat}, zd_c bed needs b n k m ≤ m
  | 0 => Nat.le_refl _
  | m + 1 => by
    have ih := zd_c_m (bed := bed) (needs := needs) (b := b) (n := n) (k := k) (m := m)
    show zd_c bed needs b n k m + (if bed m = b ∧ (needs m < n ∨ (needs m = n ∧ m < k)) then 1 else 0) ≤ m + 1
    split <;> omega
theorem zd_cn_m {bed : Nat → Int} {b : Int} : ∀ {m : Nat}, zx_cn bed b m ≤ m
  | 0 => Nat.le_refl _
  | m + 1 => by
    have ih := zd_cn_m (bed := bed) (b := b) (m := m)
    show zx_cn bed b m + (if bed m = b then 1 else 0) ≤ m + 1
    split <;> omega
theorem zd_c_cn {bed needs : Nat → Int} {b n : Int} {k : Nat} : ∀ {m : Nat}, zd_c bed needs b n k m ≤ zx_cn bed b m
  | 0 => Nat.le_refl _
  | m + 1 => by
    have ih := zd_c_cn (bed := bed) (needs := needs) (b := b) (n := n) (k := k) (m := m)
    show zd_c bed needs b n k m + (if bed m = b ∧ (needs m < n ∨ (needs m = n ∧ m < k)) then 1 else 0) ≤ zx_cn bed b m + (if bed m = b then 1 else 0)
    by_cases c : bed m = b
    · rw [if_pos c]
      split <;> omega
    · rw [if_neg c, if_neg (fun q => c q.1)]
      omega
theorem zd_cn_c {bed needs : Nat → Int} {b n : Int} (hn : ∀ j : Nat, needs j < n) : ∀ {m : Nat}, zx_cn bed b m = zd_c bed needs b n 0 m
  | 0 => rfl
  | m + 1 => by
    have ih := zd_cn_c (bed := bed) (b := b) hn (m := m)
    show zx_cn bed b m + (if bed m = b then 1 else 0) = zd_c bed needs b n 0 m + (if bed m = b ∧ (needs m < n ∨ (needs m = n ∧ m < 0)) then 1 else 0)
    have e1 : (bed m = b) ↔ (bed m = b ∧ (needs m < n ∨ (needs m = n ∧ m < 0))) := ⟨fun q => ⟨q, Or.inl (hn m)⟩, fun q => q.1⟩
    rw [ih]
    by_cases c : bed m = b
    · rw [if_pos c, if_pos (e1.mp c)]
    · rw [if_neg c, if_neg (fun q => c q.1)]
theorem zd_si_c {bed needs : Nat → Int} {b nn v : Int} : ∀ {m : Nat}, zx_si bed needs b nn v m = zd_c bed needs b (v / nn + 1) 0 m
  | 0 => rfl
  | m + 1 => by
    have ih := zd_si_c (bed := bed) (needs := needs) (b := b) (nn := nn) (v := v) (m := m)
    show zx_si bed needs b nn v m + (if bed m = b ∧ needs m ≤ v / nn then 1 else 0) = zd_c bed needs b (v / nn + 1) 0 m + (if bed m = b ∧ (needs m < v / nn + 1 ∨ (needs m = v / nn + 1 ∧ m < 0)) then 1 else 0)
    have e1 : (bed m = b ∧ needs m ≤ v / nn) ↔ (bed m = b ∧ (needs m < v / nn + 1 ∨ (needs m = v / nn + 1 ∧ m < 0))) := by omega
    simp only [ih, e1]
theorem zd_mul32 {x y w : Int} (h : Int32.ofInt w = zx_o32 (1 : Int).toNat (Int32.ofInt x) (Int32.ofInt y)) (x0 : 0 ≤ x) (x1 : x ≤ 30) (y0 : 0 ≤ y) (y1 : y ≤ 8) (w0 : 0 ≤ w) (w1 : w ≤ 240) : w = x * y := by
  have h : Int32.ofInt w = Int32.ofInt x * Int32.ofInt y := h
  rw [← Int32.ofInt_mul] at h
  have p0 : 0 ≤ x * y := Int.mul_nonneg x0 y0
  have p1 : x * y ≤ 30 * 8 := Int.mul_le_mul x1 y1 y0 (by omega)
  have e1 : (Int32.ofInt w).toInt = w := Int32.toInt_ofInt_of_le (by omega) (by omega)
  have e2 : (Int32.ofInt (x * y)).toInt = x * y := Int32.toInt_ofInt_of_le (by omega) (by omega)
  rw [← e1, h, e2]
/-- what so many cost, found by needs from 0 on -/
theorem zd_price {price bed needs blue : Nat → Int} {boys limit b n priced : Int} (a1 : priced = ((zd_c bed needs b n (0 : Int).toNat boys.toNat : Nat) : Int)) (a2 : price (9 * b.toNat) = 0) (a3 : ∀ i : Nat, 1 ≤ i → i ≤ 8 → ((i : Int) ≤ priced → ∃ z : Int, 0 ≤ z ∧ price (9 * b.toNat + i) = z * ((zx_cn bed b boys.toNat : Nat) : Int) ∧ zd_c bed needs b z 0 boys.toNat < i ∧ i ≤ zd_c bed needs b (z + 1) 0 boys.toNat) ∧ (priced < (i : Int) → price (9 * b.toNat + i) = 1000)) (a4 : limit ≤ blue b.toNat → priced = 0) (hn : ¬ limit ≤ blue b.toNat → 31 ≤ n ∧ ∀ j : Nat, needs j ≤ 30) {i : Nat} (i8 : i ≤ 8) (hb : 0 ≤ b) : 0 ≤ price (9 * b.toNat + i) ∧ ∀ x : Int, 0 ≤ x → x ≤ 99 → (price (9 * b.toNat + i) ≤ x ↔ (i : Int) ≤ zd_S bed needs blue boys limit b.toNat x) := by
  by_cases i0 : i = 0
  · subst i0
    have e : price (9 * b.toNat + 0) = 0 := a2
    rw [e]
    exact ⟨Int.le_refl _, fun x x0 x9 => ⟨fun _ => zd_S_0 _ _, fun _ => x0⟩⟩
  · obtain ⟨k1, k2⟩ := a3 i (by omega) i8
    have hS : ∀ x : Int, zd_S bed needs blue boys limit b.toNat x = if limit ≤ blue b.toNat then 0 else ((zd_c bed needs b (x / ((zx_cn bed b boys.toNat : Nat) : Int) + 1) 0 boys.toNat : Nat) : Int) := fun x => by
      unfold zd_S zx_SI
      rw [show ((b.toNat : Nat) : Int) = b by omega]
      by_cases c : limit ≤ blue b.toNat
      · rw [if_pos c, if_pos c]
        rfl
      · rw [if_neg c, if_neg c, zd_si_c]
    by_cases c : (i : Int) ≤ priced
    · obtain ⟨z, z0, z1, z2, z3⟩ := k1 c
      have nb : ¬ limit ≤ blue b.toNat := fun q => by have := a4 q; omega
      have cn := zd_c_cn (bed := bed) (needs := needs) (b := b) (n := z + 1) (k := 0) (m := boys.toNat)
      have cp : (0 : Int) < ((zx_cn bed b boys.toNat : Nat) : Int) := by omega
      rw [z1]
      refine ⟨Int.mul_nonneg z0 (by omega), fun x x0 x9 => ?_⟩
      rw [hS, if_neg nb]
      have hd : z * ((zx_cn bed b boys.toNat : Nat) : Int) ≤ x ↔ z ≤ x / ((zx_cn bed b boys.toNat : Nat) : Int) := (Int.le_ediv_iff_mul_le cp).symm
      rw [hd]
      constructor
      · intro q
        have := zd_c_mono (bed := bed) (needs := needs) (b := b) (n := z + 1) (n' := x / ((zx_cn bed b boys.toNat : Nat) : Int) + 1) (k := 0) (k' := 0) (by omega) (m := boys.toNat)
        omega
      · intro q
        by_cases c2 : z ≤ x / ((zx_cn bed b boys.toNat : Nat) : Int)
        · exact c2
        · have := zd_c_mono (bed := bed) (needs := needs) (b := b) (n := x / ((zx_cn bed b boys.toNat : Nat) : Int) + 1) (n' := z) (k := 0) (k' := 0) (by omega) (m := boys.toNat)
          omega
    · rw [k2 (by omega)]
      refine ⟨by omega, fun x x0 x9 => ⟨fun q => by omega, fun q => ?_⟩⟩
      rw [hS] at q
      split at q
      · omega
      · rename_i nb
        obtain ⟨n1, n2⟩ := hn nb
        have t1 := zd_c_cn (bed := bed) (needs := needs) (b := b) (n := x / ((zx_cn bed b boys.toNat : Nat) : Int) + 1) (k := 0) (m := boys.toNat)
        have t2 := zd_cn_c (bed := bed) (needs := needs) (b := b) (n := n) (fun j => by have := n2 j; omega) (m := boys.toNat)
        rw [show (0 : Int).toNat = 0 from rfl] at a1
        omega
theorem zd_ms_eq {l : Nat → Int} {v d : Int} (d0 : 0 ≤ d) : ∀ {j : Nat}, (∀ s : Nat, 1 ≤ s → s ≤ j → (l s ≤ v ↔ (s : Int) ≤ d)) → zd_ms l v j = if d ≤ (j : Int) then d else (j : Int)
  | 0, _ => by
    show (0 : Int) = if d ≤ ((0 : Nat) : Int) then d else ((0 : Nat) : Int)
    split <;> omega
  | j + 1, h => by
    have ih := zd_ms_eq d0 (j := j) fun s s1 s2 => h s s1 (by omega)
    have hj := h (j + 1) (by omega) (by omega)
    show (if l (j + 1) ≤ v then ((j + 1 : Nat) : Int) else zd_ms l v j) = _
    rw [ih]
    by_cases c : l (j + 1) ≤ v
    · rw [if_pos c]
      have := hj.mp c
      split <;> omega
    · rw [if_neg c]
      have : ¬ ((j + 1 : Nat) : Int) ≤ d := fun q => c (hj.mpr q)
      rw [if_pos (show d ≤ (j : Int) by omega), if_pos (by omega)]

theorem zd_57i_m0 {r0 r1 r2 r3 : Nat → Int} {v0 v1 v2 : Int}  : (zk_S 57 [r0, r1, r2, r3] [1 * v0 + 0, 1 * v1 + 0, 1 * v2 + 0, 1 * v2 + 1, 0] ∧ True) ∧ True := by
  simp only [zq_57, Int.one_mul, Int.add_zero, and_true, true_and] at *
  unfold zd_k57
  intro b left b0 b1 l0 l9 h
  omega
def zd_57i_w0 : zi_A := ([], [], [], [(57, [(3073, []), (3072, []), (3089, []), (3092, [])], [([((4067, [6]), 1)], 0), ([((4067, [13]), 1)], 0), ([((4067, [1]), 1)], 0), ([((4067, [1]), 1)], 1), ([], 0)])], [])
theorem zd_57i_k0 : zi_ok zd_57i_w0 := fun ρ ν => @zd_57i_m0 (ρ (3073, [])) (ρ (3072, [])) (ρ (3089, [])) (ρ (3092, [])) (ν (4067, [6])) (ν (4067, [13])) (ν (4067, [1]))
def zd_57i : List zi_A := [zd_57i_w0]
theorem zd_57i_ok : ∀ A ∈ zd_57i, zi_ok A := List.forall_mem_cons.mpr ⟨zd_57i_k0, fun _ h => absurd h List.not_mem_nil⟩

theorem zd_57t_m0 {r0 r1 r2 r3 r4 : Nat → Int} {v0 v1 v2 v3 v4 v5 : Int} (h0 : zk_S 2 [r0, r1] [v0, v1]) (h1 : zk_S 57 [r2, r3, r4, r1] [1 * v2 + 0, 1 * v3 + 0, 1 * v4 + 0, 1 * v4 + 1, 1 * v5 + 0]) (c0 : 0 ≤ 1 * v0 + ((-100) * v4 + ((-1) * v5 + 0))) (c1 : 0 ≤ (-1) * v0 + (100 * v4 + (1 * v5 + 0))) (c2 : 0 ≤ 1 * v1 + 0) (c3 : 0 ≤ (-1) * v1 + 0) (c4 : 0 ≤ 1 * v5 + 0) (c5 : 0 ≤ 1 * v4 + 0) : (zk_S 57 [r2, r3, r4, r0] [1 * v2 + 0, 1 * v3 + 0, 1 * v4 + 0, 1 * v4 + 1, 1 * v5 + 1] ∧ True) ∧ True := by
  simp only [zq_2, zq_57, Int.one_mul, Int.add_zero, and_true, true_and] at *
  unfold zd_k57 at h1 ⊢
  subst h0
  intro b left b0 b1 l0 l9 h
  show (if (100 * b + left).toNat = v0.toNat then v1 else r1 (100 * b + left).toNat) = _
  by_cases e : (100 * b + left).toNat = v0.toNat
  · rw [if_pos e, show v4.toNat - b.toNat = 0 by omega]
    show v1 = 0
    omega
  · rw [if_neg e]
    exact h1 b left b0 b1 l0 l9 (by omega)
def zd_57t_w0 : zi_A := ([((2, [(3092, [])], []), 1, 2), ((57, [(3073, []), (3072, []), (3089, []), (5000, [])], [([((4067, [6]), 1)], 0), ([((4067, [13]), 1)], 0), ([((4067, [1]), 1)], 0), ([((4067, [1]), 1)], 1), ([((1, []), 1)], 0)]), 0, 0)], [([((5000, []), 1), ((4067, [1]), (-100)), ((1, []), (-1))], 0), ([((5000, []), (-1)), ((4067, [1]), 100), ((1, []), 1)], 0), ([((5001, []), 1)], 0), ([((5001, []), (-1))], 0), ([((1, []), 1)], 0), ([((4067, [1]), 1)], 0)], [], [(57, [(3073, []), (3072, []), (3089, []), (3092, [])], [([((4067, [6]), 1)], 0), ([((4067, [13]), 1)], 0), ([((4067, [1]), 1)], 0), ([((4067, [1]), 1)], 1), ([((1, []), 1)], 1)])], [])
theorem zd_57t_k0 : zi_ok zd_57t_w0 := fun ρ ν => @zd_57t_m0 (ρ (3092, [])) (ρ (5000, [])) (ρ (3073, [])) (ρ (3072, [])) (ρ (3089, [])) (ν (5000, [])) (ν (5001, [])) (ν (4067, [6])) (ν (4067, [13])) (ν (4067, [1])) (ν (1, []))
def zd_57t : List zi_A := [zd_57t_w0]
theorem zd_57t_ok : ∀ A ∈ zd_57t, zi_ok A := List.forall_mem_cons.mpr ⟨zd_57t_k0, fun _ h => absurd h List.not_mem_nil⟩

theorem zd_57b_m0 {r0 r1 r2 r3 : Nat → Int} {v0 v1 v2 v3 : Int} (h0 : zk_S 57 [r0, r1, r2, r3] [1 * v0 + 0, 1 * v1 + 0, 1 * v2 + 0, 1 * v2 + 1, 1 * v3 + 0]) (c0 : 0 ≤ 1 * v3 + (-100)) : (zk_S 57 [r0, r1, r2, r3] [1 * v0 + 0, 1 * v1 + 0, 1 * v2 + 0, 1 * v2 + 0, 0] ∧ True) ∧ True := by
  simp only [zq_57, Int.one_mul, Int.add_zero, and_true, true_and] at *
  unfold zd_k57 at h0 ⊢
  intro b left b0 b1 l0 l9 h
  exact h0 b left b0 b1 l0 l9 (by omega)
def zd_57b_w0 : zi_A := ([((57, [(3073, []), (3072, []), (3089, []), (3092, [])], [([((4067, [6]), 1)], 0), ([((4067, [13]), 1)], 0), ([((4067, [1]), 1)], 0), ([((4067, [1]), 1)], 1), ([((1, []), 1)], 0)]), 0, 0)], [([((1, []), 1)], (-100))], [], [(57, [(3073, []), (3072, []), (3089, []), (3092, [])], [([((4067, [6]), 1)], 0), ([((4067, [13]), 1)], 0), ([((4067, [1]), 1)], 0), ([((4067, [1]), 1)], 0), ([], 0)])], [])
theorem zd_57b_k0 : zi_ok zd_57b_w0 := fun ρ ν => @zd_57b_m0 (ρ (3073, [])) (ρ (3072, [])) (ρ (3089, [])) (ρ (3092, [])) (ν (4067, [6])) (ν (4067, [13])) (ν (4067, [1])) (ν (1, []))
def zd_57b : List zi_A := [zd_57b_w0]
theorem zd_57b_ok : ∀ A ∈ zd_57b, zi_ok A := List.forall_mem_cons.mpr ⟨zd_57b_k0, fun _ h => absurd h List.not_mem_nil⟩

theorem zd_57c_m0 {r0 r1 r2 r3 : Nat → Int} {v0 v1 v2 v3 v4 : Int} (h0 : zk_S 57 [r0, r1, r2, r3] [1 * v0 + 0, 1 * v1 + 0, 1 * v2 + 0, 1 * v3 + 1, 1 * v4 + 0]) (c0 : 0 ≤ 1 * v4 + (-100)) : (zk_S 57 [r0, r1, r2, r3] [1 * v0 + 0, 1 * v1 + 0, 1 * v2 + 0, 1 * v3 + 0, 0] ∧ True) ∧ True := by
  simp only [zq_57, Int.one_mul, Int.add_zero, and_true, true_and] at *
  unfold zd_k57 at h0 ⊢
  intro b left b0 b1 l0 l9 h
  exact h0 b left b0 b1 l0 l9 (by omega)
def zd_57c_w0 : zi_A := ([((57, [(3073, []), (3072, []), (3089, []), (3092, [])], [([((4067, [6]), 1)], 0), ([((4067, [13]), 1)], 0), ([((4067, [1]), 1)], 0), ([((1, []), 1)], 1), ([((2, []), 1)], 0)]), 0, 0)], [([((2, []), 1)], (-100))], [], [(57, [(3073, []), (3072, []), (3089, []), (3092, [])], [([((4067, [6]), 1)], 0), ([((4067, [13]), 1)], 0), ([((4067, [1]), 1)], 0), ([((1, []), 1)], 0), ([], 0)])], [])
theorem zd_57c_k0 : zi_ok zd_57c_w0 := fun ρ ν => @zd_57c_m0 (ρ (3073, [])) (ρ (3072, [])) (ρ (3089, [])) (ρ (3092, [])) (ν (4067, [6])) (ν (4067, [13])) (ν (4067, [1])) (ν (1, [])) (ν (2, []))
def zd_57c : List zi_A := [zd_57c_w0]
theorem zd_57c_ok : ∀ A ∈ zd_57c, zi_ok A := List.forall_mem_cons.mpr ⟨zd_57c_k0, fun _ h => absurd h List.not_mem_nil⟩

theorem zd_56i_m0 {r0 r1 r2 r3 : Nat → Int} {v0 v1 v2 v3 : Int}  : (zk_S 56 [r0, r1, r2, r3] [1 * v0 + 0, 1 * v1 + 0, 1 * v2 + 0, 1 * v3 + 0, 0, 0] ∧ True) ∧ True := by
  simp only [zq_56, Int.one_mul, Int.add_zero, and_true, true_and] at *
  exact (rfl : (0 : Int) = zd_mx (zd_S r0 r1 r2 v0 v1 v2.toNat) (fun y => r3 (100 * (v2 + 1) + y).toNat) v3 0)
def zd_56i_w0 : zi_A := ([], [], [], [(56, [(3073, []), (3072, []), (3089, []), (3092, [])], [([((4067, [6]), 1)], 0), ([((4067, [13]), 1)], 0), ([((1, []), 1)], 0), ([((2, []), 1)], 0), ([], 0), ([], 0)])], [])
theorem zd_56i_k0 : zi_ok zd_56i_w0 := fun ρ ν => @zd_56i_m0 (ρ (3073, [])) (ρ (3072, [])) (ρ (3089, [])) (ρ (3092, [])) (ν (4067, [6])) (ν (4067, [13])) (ν (1, [])) (ν (2, []))
def zd_56i : List zi_A := [zd_56i_w0]
theorem zd_56i_ok : ∀ A ∈ zd_56i, zi_ok A := List.forall_mem_cons.mpr ⟨zd_56i_k0, fun _ h => absurd h List.not_mem_nil⟩

theorem zd_56s_m0 {r0 r1 r2 r3 : Nat → Int} {v0 v1 v2 v3 v4 v5 v6 v7 v8 : Int} (h0 : zk_S 56 [r0, r1, r2, r3] [1 * v0 + 0, 1 * v1 + 0, 1 * v2 + 0, 1 * v3 + 0, 1 * v4 + 0, v5]) (h1 : zk_S 51 [r0, r1, r2] [1 * v0 + 0, 1 * v1 + 0, 1 * v2 + 0, 1 * v4 + 0, v6]) (h2 : zk_S 1 [r3] [100 * v2 + (1 * v3 + ((-1) * v4 + 100)), v7]) (c0 : 0 ≤ 1 * v4 + 0) (c1 : 0 ≤ 1 * v2 + 0) (c2 : 0 ≤ 1 * v3 + ((-1) * v4 + 0)) (c3 : 0 ≤ 1 * v8 + ((-1) * v6 + ((-1) * v7 + 0))) (c4 : 0 ≤ (-1) * v8 + (1 * v6 + (1 * v7 + 0))) (c5 : 0 ≤ 1 * v6 + (1 * v7 + ((-1) * v5 + 0))) : (zk_S 56 [r0, r1, r2, r3] [1 * v0 + 0, 1 * v1 + 0, 1 * v2 + 0, 1 * v3 + 0, 1 * v4 + 1, 1 * v8 + 0] ∧ True) ∧ True := by
  simp only [zq_1, zq_51, zq_56, Int.one_mul, Int.add_zero, and_true, true_and] at *
  unfold zd_k56 at h0 ⊢
  have hS := zd_S_of h1 c1
  have e4 : ((v4.toNat : Nat) : Int) = v4 := by omega
  have k : zd_mx (zd_S r0 r1 r2 v0 v1 v2.toNat) (fun y => r3 (100 * (v2 + 1) + y).toNat) v3 (v4.toNat + 1) = zd_max (zd_mx (zd_S r0 r1 r2 v0 v1 v2.toNat) (fun y => r3 (100 * (v2 + 1) + y).toNat) v3 v4.toNat) (zd_S r0 r1 r2 v0 v1 v2.toNat ((v4.toNat : Nat) : Int) + r3 (100 * (v2 + 1) + (v3 - ((v4.toNat : Nat) : Int))).toNat) := rfl
  rw [show (v4 + 1).toNat = v4.toNat + 1 by omega, k, ← h0, e4, hS, show 100 * (v2 + 1) + (v3 - v4) = 100 * v2 + (v3 + ((-1) * v4 + 100)) by omega, h2]
  unfold zd_max
  split <;> omega
def zd_56s_w0 : zi_A := ([((56, [(3073, []), (3072, []), (3089, []), (3092, [])], [([((4067, [6]), 1)], 0), ([((4067, [13]), 1)], 0), ([((1, []), 1)], 0), ([((2, []), 1)], 0), ([((4, []), 1)], 0)]), 0, 1), ((51, [(3073, []), (3072, []), (3089, [])], [([((4067, [6]), 1)], 0), ([((4067, [13]), 1)], 0), ([((1, []), 1)], 0), ([((4, []), 1)], 0)]), 0, 1), ((1, [(3092, [])], [([((1, []), 100), ((2, []), 1), ((4, []), (-1))], 100)]), 0, 1)], [([((4, []), 1)], 0), ([((1, []), 1)], 0), ([((2, []), 1), ((4, []), (-1))], 0), ([((3, []), 1), ((5001, []), (-1)), ((5002, []), (-1))], 0), ([((3, []), (-1)), ((5001, []), 1), ((5002, []), 1)], 0), ([((5001, []), 1), ((5002, []), 1), ((5000, []), (-1))], 0)], [], [(56, [(3073, []), (3072, []), (3089, []), (3092, [])], [([((4067, [6]), 1)], 0), ([((4067, [13]), 1)], 0), ([((1, []), 1)], 0), ([((2, []), 1)], 0), ([((4, []), 1)], 1), ([((3, []), 1)], 0)])], [])
theorem zd_56s_k0 : zi_ok zd_56s_w0 := fun ρ ν => @zd_56s_m0 (ρ (3073, [])) (ρ (3072, [])) (ρ (3089, [])) (ρ (3092, [])) (ν (4067, [6])) (ν (4067, [13])) (ν (1, [])) (ν (2, [])) (ν (4, [])) (ν (5000, [])) (ν (5001, [])) (ν (5002, [])) (ν (3, []))
theorem zd_56s_m1 {r0 r1 r2 r3 : Nat → Int} {v0 v1 v2 v3 v4 v5 v6 v7 v8 : Int} (h0 : zk_S 56 [r0, r1, r2, r3] [1 * v0 + 0, 1 * v1 + 0, 1 * v2 + 0, 1 * v3 + 0, 1 * v4 + 0, v5]) (h1 : zk_S 51 [r0, r1, r2] [1 * v0 + 0, 1 * v1 + 0, 1 * v2 + 0, 1 * v4 + 0, v6]) (h2 : zk_S 1 [r3] [100 * v2 + (1 * v3 + ((-1) * v4 + 100)), v7]) (c0 : 0 ≤ 1 * v4 + 0) (c1 : 0 ≤ 1 * v2 + 0) (c2 : 0 ≤ 1 * v3 + ((-1) * v4 + 0)) (c3 : 0 ≤ 1 * v8 + ((-1) * v5 + 0)) (c4 : 0 ≤ (-1) * v8 + (1 * v5 + 0)) (c5 : 0 ≤ 1 * v5 + ((-1) * v6 + ((-1) * v7 + 0))) : (zk_S 56 [r0, r1, r2, r3] [1 * v0 + 0, 1 * v1 + 0, 1 * v2 + 0, 1 * v3 + 0, 1 * v4 + 1, 1 * v8 + 0] ∧ True) ∧ True := by
  simp only [zq_1, zq_51, zq_56, Int.one_mul, Int.add_zero, and_true, true_and] at *
  unfold zd_k56 at h0 ⊢
  have hS := zd_S_of h1 c1
  have e4 : ((v4.toNat : Nat) : Int) = v4 := by omega
  have k : zd_mx (zd_S r0 r1 r2 v0 v1 v2.toNat) (fun y => r3 (100 * (v2 + 1) + y).toNat) v3 (v4.toNat + 1) = zd_max (zd_mx (zd_S r0 r1 r2 v0 v1 v2.toNat) (fun y => r3 (100 * (v2 + 1) + y).toNat) v3 v4.toNat) (zd_S r0 r1 r2 v0 v1 v2.toNat ((v4.toNat : Nat) : Int) + r3 (100 * (v2 + 1) + (v3 - ((v4.toNat : Nat) : Int))).toNat) := rfl
  rw [show (v4 + 1).toNat = v4.toNat + 1 by omega, k, ← h0, e4, hS, show 100 * (v2 + 1) + (v3 - v4) = 100 * v2 + (v3 + ((-1) * v4 + 100)) by omega, h2]
  unfold zd_max
  split <;> omega
def zd_56s_w1 : zi_A := ([((56, [(3073, []), (3072, []), (3089, []), (3092, [])], [([((4067, [6]), 1)], 0), ([((4067, [13]), 1)], 0), ([((1, []), 1)], 0), ([((2, []), 1)], 0), ([((4, []), 1)], 0)]), 0, 1), ((51, [(3073, []), (3072, []), (3089, [])], [([((4067, [6]), 1)], 0), ([((4067, [13]), 1)], 0), ([((1, []), 1)], 0), ([((4, []), 1)], 0)]), 0, 1), ((1, [(3092, [])], [([((1, []), 100), ((2, []), 1), ((4, []), (-1))], 100)]), 0, 1)], [([((4, []), 1)], 0), ([((1, []), 1)], 0), ([((2, []), 1), ((4, []), (-1))], 0), ([((3, []), 1), ((5000, []), (-1))], 0), ([((3, []), (-1)), ((5000, []), 1)], 0), ([((5000, []), 1), ((5001, []), (-1)), ((5002, []), (-1))], 0)], [], [(56, [(3073, []), (3072, []), (3089, []), (3092, [])], [([((4067, [6]), 1)], 0), ([((4067, [13]), 1)], 0), ([((1, []), 1)], 0), ([((2, []), 1)], 0), ([((4, []), 1)], 1), ([((3, []), 1)], 0)])], [])
theorem zd_56s_k1 : zi_ok zd_56s_w1 := fun ρ ν => @zd_56s_m1 (ρ (3073, [])) (ρ (3072, [])) (ρ (3089, [])) (ρ (3092, [])) (ν (4067, [6])) (ν (4067, [13])) (ν (1, [])) (ν (2, [])) (ν (4, [])) (ν (5000, [])) (ν (5001, [])) (ν (5002, [])) (ν (3, []))
def zd_56s : List zi_A := [zd_56s_w0, zd_56s_w1]
theorem zd_56s_ok : ∀ A ∈ zd_56s, zi_ok A := List.forall_mem_cons.mpr ⟨zd_56s_k0, List.forall_mem_cons.mpr ⟨zd_56s_k1, fun _ h => absurd h List.not_mem_nil⟩⟩

theorem zd_57s_m0 {r0 r1 r2 r3 r4 : Nat → Int} {v0 v1 v2 v3 v4 v5 v6 v7 : Int} (h0 : zk_S 2 [r0, r1] [v0, v1]) (h1 : zk_S 57 [r2, r3, r4, r1] [1 * v2 + 0, 1 * v3 + 0, 1 * v4 + 0, 1 * v5 + 1, 1 * v6 + 0]) (h2 : zk_S 56 [r2, r3, r4, r1] [1 * v2 + 0, 1 * v3 + 0, 1 * v5 + 0, 1 * v6 + 0, 1 * v6 + 1, v7]) (c0 : 0 ≤ 1 * v1 + ((-1) * v7 + 0)) (c1 : 0 ≤ (-1) * v1 + (1 * v7 + 0)) (c2 : 0 ≤ 1 * v0 + ((-100) * v5 + ((-1) * v6 + 0))) (c3 : 0 ≤ (-1) * v0 + (100 * v5 + (1 * v6 + 0))) (c4 : 0 ≤ 1 * v6 + 0) (c5 : 0 ≤ (-1) * v6 + 99) (c6 : 0 ≤ 1 * v5 + 0) (c7 : 0 ≤ 1 * v4 + ((-1) * v5 + (-1))) : (zk_S 57 [r2, r3, r4, r0] [1 * v2 + 0, 1 * v3 + 0, 1 * v4 + 0, 1 * v5 + 1, 1 * v6 + 1] ∧ True) ∧ True := by
  simp only [zq_2, zq_56, zq_57, Int.one_mul, Int.add_zero, and_true, true_and] at *
  unfold zd_k57 at h1 ⊢
  unfold zd_k56 at h2
  subst h0
  intro b left b0 b1 l0 l9 h
  show (if (100 * b + left).toNat = v0.toNat then v1 else r1 (100 * b + left).toNat) = _
  by_cases e : (100 * b + left).toNat = v0.toNat
  · have eb : b = v5 := by omega
    have el : left = v6 := by omega
    rw [if_pos e, eb, el, zd_bd_b (S := zd_S r2 r3 r4 v2 v3) (n := v4.toNat) (b := v5.toNat) (by omega), show v1 = v7 by omega, h2, show (v6 + 1).toNat = v6.toNat + 1 by omega]
    refine zd_mx_congr fun y hy => ⟨rfl, ?_⟩
    have q := h1 (v5 + 1) (v6 - (y : Int)) (by omega) (by omega) (by omega) (by omega) (by omega)
    rw [show (v5 + 1).toNat = v5.toNat + 1 by omega] at q
    exact q
  · rw [if_neg e]
    exact h1 b left b0 b1 l0 l9 (by omega)
def zd_57s_w0 : zi_A := ([((2, [(3092, [])], []), 1, 2), ((57, [(3073, []), (3072, []), (3089, []), (5000, [])], [([((4067, [6]), 1)], 0), ([((4067, [13]), 1)], 0), ([((4067, [1]), 1)], 0), ([((1, []), 1)], 1), ([((2, []), 1)], 0)]), 0, 0), ((56, [(3073, []), (3072, []), (3089, []), (5000, [])], [([((4067, [6]), 1)], 0), ([((4067, [13]), 1)], 0), ([((1, []), 1)], 0), ([((2, []), 1)], 0), ([((2, []), 1)], 1)]), 0, 1)], [([((5001, []), 1), ((5002, []), (-1))], 0), ([((5001, []), (-1)), ((5002, []), 1)], 0), ([((5000, []), 1), ((1, []), (-100)), ((2, []), (-1))], 0), ([((5000, []), (-1)), ((1, []), 100), ((2, []), 1)], 0), ([((2, []), 1)], 0), ([((2, []), (-1))], 99), ([((1, []), 1)], 0), ([((4067, [1]), 1), ((1, []), (-1))], (-1))], [], [(57, [(3073, []), (3072, []), (3089, []), (3092, [])], [([((4067, [6]), 1)], 0), ([((4067, [13]), 1)], 0), ([((4067, [1]), 1)], 0), ([((1, []), 1)], 1), ([((2, []), 1)], 1)])], [])
theorem zd_57s_k0 : zi_ok zd_57s_w0 := fun ρ ν => @zd_57s_m0 (ρ (3092, [])) (ρ (5000, [])) (ρ (3073, [])) (ρ (3072, [])) (ρ (3089, [])) (ν (5000, [])) (ν (5001, [])) (ν (4067, [6])) (ν (4067, [13])) (ν (4067, [1])) (ν (1, [])) (ν (2, [])) (ν (5002, []))
def zd_57s : List zi_A := [zd_57s_w0]
theorem zd_57s_ok : ∀ A ∈ zd_57s, zi_ok A := List.forall_mem_cons.mpr ⟨zd_57s_k0, fun _ h => absurd h List.not_mem_nil⟩

theorem zd_38b_m0 {r0 r1 r2 r3 : Nat → Int} {v0 v1 v2 v3 v4 v5 v6 : Int} (h0 : zk_S 57 [r0, r1, r2, r3] [1 * v0 + 0, 1 * v1 + 0, 1 * v2 + 0, 0, 0]) (h1 : zk_S 1 [r3] [1 * v3 + 0, v4]) (c0 : 0 ≤ 1 * v5 + ((-1) * v4 + 0)) (c1 : 0 ≤ (-1) * v5 + (1 * v4 + 0)) (c2 : 0 ≤ (-1) * v6 + (-1)) (c3 : 0 ≤ 1 * v3 + 0) (c4 : 0 ≤ (-1) * v3 + 99) (c5 : 0 ≤ 1 * v2 + 0) : (zk_S 38 [r0, r1, r2] [1 * v0 + 0, 1 * v1 + 0, 1 * v2 + 0, 1 * v3 + 0, 1 * v6 + 0, 1 * v5 + 0] ∧ True) ∧ True := by
  simp only [zq_1, zq_38, zq_57, Int.one_mul, Int.add_zero, and_true, true_and] at *
  unfold zd_k57 at h0
  unfold zd_k38 zd_R
  rw [if_neg (by omega)]
  have q := h0 0 v3 (by omega) (by omega) (by omega) (by omega) (by omega)
  rw [show (100 * 0 + v3) = v3 by omega, h1, show v2.toNat - (0 : Int).toNat = v2.toNat from rfl] at q
  omega
def zd_38b_w0 : zi_A := ([((57, [(3073, []), (3072, []), (3089, []), (3092, [])], [([((4067, [6]), 1)], 0), ([((4067, [13]), 1)], 0), ([((4067, [1]), 1)], 0), ([], 0), ([], 0)]), 0, 0), ((1, [(3092, [])], [([((1, []), 1)], 0)]), 0, 1)], [([((4500, []), 1), ((5000, []), (-1))], 0), ([((4500, []), (-1)), ((5000, []), 1)], 0), ([((2, []), (-1))], (-1)), ([((1, []), 1)], 0), ([((1, []), (-1))], 99), ([((4067, [1]), 1)], 0)], [], [(38, [(3073, []), (3072, []), (3089, [])], [([((4067, [6]), 1)], 0), ([((4067, [13]), 1)], 0), ([((4067, [1]), 1)], 0), ([((1, []), 1)], 0), ([((2, []), 1)], 0), ([((4500, []), 1)], 0)])], [])
theorem zd_38b_k0 : zi_ok zd_38b_w0 := fun ρ ν => @zd_38b_m0 (ρ (3073, [])) (ρ (3072, [])) (ρ (3089, [])) (ρ (3092, [])) (ν (4067, [6])) (ν (4067, [13])) (ν (4067, [1])) (ν (1, [])) (ν (5000, [])) (ν (4500, [])) (ν (2, []))
def zd_38b : List zi_A := [zd_38b_w0]
theorem zd_38b_ok : ∀ A ∈ zd_38b, zi_ok A := List.forall_mem_cons.mpr ⟨zd_38b_k0, fun _ h => absurd h List.not_mem_nil⟩

theorem zd_58i_m0 {r0 r1 r2 : Nat → Int} {v0 v1 v2 v3 v4 : Int} (c0 : 0 ≤ 1 * v1 + ((-1) * v0 + 0)) (c1 : 0 ≤ (-1) * v1 + (1 * v0 + 0)) : (zk_S 58 [r0, r1, r2] [1 * v2 + 0, 1 * v3 + 0, 1 * v4 + 0, 0, 1 * v0 + 0, 1 * v1 + 0] ∧ True) ∧ True := by
  simp only [zq_58, Int.one_mul, Int.add_zero, and_true, true_and] at *
  unfold zd_k58
  show v1 = v0
  omega
def zd_58i_w0 : zi_A := ([], [([((3, []), 1), ((1, []), (-1))], 0), ([((3, []), (-1)), ((1, []), 1)], 0)], [], [(58, [(3073, []), (3072, []), (3089, [])], [([((4067, [6]), 1)], 0), ([((4067, [13]), 1)], 0), ([((4067, [1]), 1)], 0), ([], 0), ([((1, []), 1)], 0), ([((3, []), 1)], 0)])], [])
theorem zd_58i_k0 : zi_ok zd_58i_w0 := fun ρ ν => @zd_58i_m0 (ρ (3073, [])) (ρ (3072, [])) (ρ (3089, [])) (ν (1, [])) (ν (3, [])) (ν (4067, [6])) (ν (4067, [13])) (ν (4067, [1]))
def zd_58i : List zi_A := [zd_58i_w0]
theorem zd_58i_ok : ∀ A ∈ zd_58i, zi_ok A := List.forall_mem_cons.mpr ⟨zd_58i_k0, fun _ h => absurd h List.not_mem_nil⟩

theorem zd_39i_m0 {r0 r1 r2 : Nat → Int} {v0 v1 v2 v3 v4 : Int}  : (zk_S 39 [r0, r1, r2] [1 * v0 + 0, 1 * v1 + 0, 1 * v2 + 0, 1 * v3 + 0, 1 * v4 + 0, 0] ∧ True) ∧ True := by
  simp only [zq_39, Int.one_mul, Int.add_zero, and_true, true_and] at *
  unfold zd_k39
  intro y y0 y1
  omega
def zd_39i_w0 : zi_A := ([], [], [], [(39, [(3073, []), (3072, []), (3089, [])], [([((4067, [6]), 1)], 0), ([((4067, [13]), 1)], 0), ([((4067, [1]), 1)], 0), ([((4, []), 1)], 0), ([((3, []), 1)], 0), ([], 0)])], [])
theorem zd_39i_k0 : zi_ok zd_39i_w0 := fun ρ ν => @zd_39i_m0 (ρ (3073, [])) (ρ (3072, [])) (ρ (3089, [])) (ν (4067, [6])) (ν (4067, [13])) (ν (4067, [1])) (ν (4, [])) (ν (3, []))
def zd_39i : List zi_A := [zd_39i_w0]
theorem zd_39i_ok : ∀ A ∈ zd_39i, zi_ok A := List.forall_mem_cons.mpr ⟨zd_39i_k0, fun _ h => absurd h List.not_mem_nil⟩

theorem zd_39s_m0 {r0 r1 r2 r3 : Nat → Int} {v0 v1 v2 v3 v4 v5 v6 v7 v8 : Int} (h0 : zk_S 39 [r0, r1, r2] [1 * v0 + 0, 1 * v1 + 0, 1 * v2 + 0, 1 * v3 + 0, 1 * v4 + 0, 1 * v5 + 0]) (h1 : zk_S 57 [r0, r1, r2, r3] [1 * v0 + 0, 1 * v1 + 0, 1 * v2 + 0, 0, 0]) (h2 : zk_S 51 [r0, r1, r2] [1 * v0 + 0, 1 * v1 + 0, 1 * v3 + 0, 1 * v5 + 0, v6]) (h3 : zk_S 1 [r3] [100 * v3 + (1 * v4 + ((-1) * v5 + 100)), v7]) (h4 : zk_S 1 [r3] [100 * v3 + (1 * v4 + 0), v8]) (c0 : 0 ≤ 1 * v3 + 0) (c1 : 0 ≤ 1 * v2 + ((-1) * v3 + (-1))) (c2 : 0 ≤ 1 * v4 + 0) (c3 : 0 ≤ (-1) * v4 + 99) (c4 : 0 ≤ 1 * v5 + 0) (c5 : 0 ≤ 1 * v4 + ((-1) * v5 + 0)) (z0 : 1 * v6 + (1 * v7 + ((-1) * v8 + 0)) ≠ 0) : (zk_S 39 [r0, r1, r2] [1 * v0 + 0, 1 * v1 + 0, 1 * v2 + 0, 1 * v3 + 0, 1 * v4 + 0, 1 * v5 + 1] ∧ True) ∧ True := by
  simp only [zq_1, zq_39, zq_51, zq_57, Int.one_mul, Int.add_zero, and_true, true_and] at *
  unfold zd_k39 at h0 ⊢
  unfold zd_k57 at h1
  have q1 := h1 (v3 + 1) (v4 - v5) (by omega) (by omega) (by omega) (by omega) (by omega)
  have q2 := h1 v3 v4 (by omega) (by omega) (by omega) (by omega) (by omega)
  rw [show 100 * (v3 + 1) + (v4 - v5) = 100 * v3 + (v4 + ((-1) * v5 + 100)) by omega, h3, show (v3 + 1).toNat = v3.toNat + 1 by omega] at q1
  rw [h4] at q2
  intro y y0 y1
  by_cases e : y < v5
  · exact h0 y y0 e
  · have ey : y = v5 := by omega
    rw [ey, zd_S_of h2 c0, ← q1, ← q2]
    omega
def zd_39s_w0 : zi_A := ([((39, [(3073, []), (3072, []), (3089, [])], [([((4067, [6]), 1)], 0), ([((4067, [13]), 1)], 0), ([((4067, [1]), 1)], 0), ([((4, []), 1)], 0), ([((3, []), 1)], 0), ([((5, []), 1)], 0)]), 0, 0), ((57, [(3073, []), (3072, []), (3089, []), (3092, [])], [([((4067, [6]), 1)], 0), ([((4067, [13]), 1)], 0), ([((4067, [1]), 1)], 0), ([], 0), ([], 0)]), 0, 0), ((51, [(3073, []), (3072, []), (3089, [])], [([((4067, [6]), 1)], 0), ([((4067, [13]), 1)], 0), ([((4, []), 1)], 0), ([((5, []), 1)], 0)]), 0, 1), ((1, [(3092, [])], [([((4, []), 100), ((3, []), 1), ((5, []), (-1))], 100)]), 0, 1), ((1, [(3092, [])], [([((4, []), 100), ((3, []), 1)], 0)]), 0, 1)], [([((4, []), 1)], 0), ([((4067, [1]), 1), ((4, []), (-1))], (-1)), ([((3, []), 1)], 0), ([((3, []), (-1))], 99), ([((5, []), 1)], 0), ([((3, []), 1), ((5, []), (-1))], 0)], [([((5000, []), 1), ((5001, []), 1), ((5002, []), (-1))], 0)], [(39, [(3073, []), (3072, []), (3089, [])], [([((4067, [6]), 1)], 0), ([((4067, [13]), 1)], 0), ([((4067, [1]), 1)], 0), ([((4, []), 1)], 0), ([((3, []), 1)], 0), ([((5, []), 1)], 1)])], [])
theorem zd_39s_k0 : zi_ok zd_39s_w0 := fun ρ ν => @zd_39s_m0 (ρ (3073, [])) (ρ (3072, [])) (ρ (3089, [])) (ρ (3092, [])) (ν (4067, [6])) (ν (4067, [13])) (ν (4067, [1])) (ν (4, [])) (ν (3, [])) (ν (5, [])) (ν (5000, [])) (ν (5001, [])) (ν (5002, []))
def zd_39s : List zi_A := [zd_39s_w0]
theorem zd_39s_ok : ∀ A ∈ zd_39s, zi_ok A := List.forall_mem_cons.mpr ⟨zd_39s_k0, fun _ h => absurd h List.not_mem_nil⟩

theorem zd_38h_m0 {r0 r1 r2 r3 : Nat → Int} {v0 v1 v2 v3 v4 v5 v6 v7 v8 v9 : Int} (h0 : zk_S 39 [r0, r1, r2] [1 * v0 + 0, 1 * v1 + 0, 1 * v2 + 0, 1 * v3 + 0, 1 * v4 + 0, 1 * v5 + 0]) (h1 : zk_S 57 [r0, r1, r2, r3] [1 * v0 + 0, 1 * v1 + 0, 1 * v2 + 0, 0, 0]) (h2 : zk_S 51 [r0, r1, r2] [1 * v0 + 0, 1 * v1 + 0, 1 * v3 + 0, 1 * v5 + 0, v6]) (h3 : zk_S 1 [r3] [100 * v3 + (1 * v4 + ((-1) * v5 + 100)), v7]) (h4 : zk_S 1 [r3] [100 * v3 + (1 * v4 + 0), v8]) (h5 : zk_S 58 [r0, r1, r2] [1 * v0 + 0, 1 * v1 + 0, 1 * v2 + 0, 1 * v3 + 0, 1 * v9 + 0, 1 * v4 + 0]) (c0 : 0 ≤ 1 * v3 + 0) (c1 : 0 ≤ 1 * v2 + ((-1) * v3 + (-1))) (c2 : 0 ≤ 1 * v4 + 0) (c3 : 0 ≤ (-1) * v4 + 99) (c4 : 0 ≤ 1 * v5 + 0) (c5 : 0 ≤ 1 * v4 + ((-1) * v5 + 0)) (c6 : 0 ≤ 1 * v6 + (1 * v7 + ((-1) * v8 + 0))) (c7 : 0 ≤ (-1) * v6 + ((-1) * v7 + (1 * v8 + 0))) : (zk_S 58 [r0, r1, r2] [1 * v0 + 0, 1 * v1 + 0, 1 * v2 + 0, 1 * v3 + 1, 1 * v9 + 0, 1 * v4 + ((-1) * v5 + 0)] ∧ zk_S 38 [r0, r1, r2] [1 * v0 + 0, 1 * v1 + 0, 1 * v2 + 0, 1 * v9 + 0, 1 * v3 + 0, 1 * v5 + 0] ∧ True) ∧ True := by
  simp only [zq_1, zq_38, zq_39, zq_51, zq_57, zq_58, Int.one_mul, Int.add_zero, and_true, true_and] at *
  unfold zd_k39 at h0
  unfold zd_k57 at h1
  unfold zd_k58 at h5 ⊢
  unfold zd_k38
  have q1 := h1 (v3 + 1) (v4 - v5) (by omega) (by omega) (by omega) (by omega) (by omega)
  have q2 := h1 v3 v4 (by omega) (by omega) (by omega) (by omega) (by omega)
  rw [show 100 * (v3 + 1) + (v4 - v5) = 100 * v3 + (v4 + ((-1) * v5 + 100)) by omega, h3, show (v3 + 1).toNat = v3.toNat + 1 by omega] at q1
  rw [h4] at q2
  have hb := zd_bd_b (S := zd_S r0 r1 r2 v0 v1) (n := v2.toNat) (b := v3.toNat) (by omega) (left := v4)
  have fx : zd_fx (zd_S r0 r1 r2 v0 v1 v3.toNat) (zd_bd (zd_S r0 r1 r2 v0 v1) v2.toNat (v2.toNat - (v3.toNat + 1))) v4 = v5 := zd_fx_eq c4 (by omega) (by rw [zd_S_of h2 c0, ← hb, ← q1, ← q2]; omega) (fun y y0 y1 => by rw [← hb]; exact h0 y y0 y1)
  refine ⟨?_, ?_⟩
  · rw [show (v3 + 1).toNat = v3.toNat + 1 by omega]
    show _ = zd_left (zd_S r0 r1 r2 v0 v1) v2.toNat v9 v3.toNat - zd_fx (zd_S r0 r1 r2 v0 v1 v3.toNat) (zd_bd (zd_S r0 r1 r2 v0 v1) v2.toNat (v2.toNat - (v3.toNat + 1))) (zd_left (zd_S r0 r1 r2 v0 v1) v2.toNat v9 v3.toNat)
    rw [← h5, fx]
    omega
  · unfold zd_R
    rw [if_pos c0, ← h5, fx]
def zd_38h_w0 : zi_A := ([((39, [(3073, []), (3072, []), (3089, [])], [([((4067, [6]), 1)], 0), ([((4067, [13]), 1)], 0), ([((4067, [1]), 1)], 0), ([((4, []), 1)], 0), ([((3, []), 1)], 0), ([((5, []), 1)], 0)]), 0, 0), ((57, [(3073, []), (3072, []), (3089, []), (3092, [])], [([((4067, [6]), 1)], 0), ([((4067, [13]), 1)], 0), ([((4067, [1]), 1)], 0), ([], 0), ([], 0)]), 0, 0), ((51, [(3073, []), (3072, []), (3089, [])], [([((4067, [6]), 1)], 0), ([((4067, [13]), 1)], 0), ([((4, []), 1)], 0), ([((5, []), 1)], 0)]), 0, 1), ((1, [(3092, [])], [([((4, []), 100), ((3, []), 1), ((5, []), (-1))], 100)]), 0, 1), ((1, [(3092, [])], [([((4, []), 100), ((3, []), 1)], 0)]), 0, 1), ((58, [(3073, []), (3072, []), (3089, [])], [([((4067, [6]), 1)], 0), ([((4067, [13]), 1)], 0), ([((4067, [1]), 1)], 0), ([((4, []), 1)], 0), ([((1, []), 1)], 0), ([((3, []), 1)], 0)]), 0, 0)], [([((4, []), 1)], 0), ([((4067, [1]), 1), ((4, []), (-1))], (-1)), ([((3, []), 1)], 0), ([((3, []), (-1))], 99), ([((5, []), 1)], 0), ([((3, []), 1), ((5, []), (-1))], 0), ([((5000, []), 1), ((5001, []), 1), ((5002, []), (-1))], 0), ([((5000, []), (-1)), ((5001, []), (-1)), ((5002, []), 1)], 0)], [], [(58, [(3073, []), (3072, []), (3089, [])], [([((4067, [6]), 1)], 0), ([((4067, [13]), 1)], 0), ([((4067, [1]), 1)], 0), ([((4, []), 1)], 1), ([((1, []), 1)], 0), ([((3, []), 1), ((5, []), (-1))], 0)]), (38, [(3073, []), (3072, []), (3089, [])], [([((4067, [6]), 1)], 0), ([((4067, [13]), 1)], 0), ([((4067, [1]), 1)], 0), ([((1, []), 1)], 0), ([((4, []), 1)], 0), ([((5, []), 1)], 0)])], [])
theorem zd_38h_k0 : zi_ok zd_38h_w0 := fun ρ ν => @zd_38h_m0 (ρ (3073, [])) (ρ (3072, [])) (ρ (3089, [])) (ρ (3092, [])) (ν (4067, [6])) (ν (4067, [13])) (ν (4067, [1])) (ν (4, [])) (ν (3, [])) (ν (5, [])) (ν (5000, [])) (ν (5001, [])) (ν (5002, [])) (ν (1, []))
def zd_38h : List zi_A := [zd_38h_w0]
theorem zd_38h_ok : ∀ A ∈ zd_38h, zi_ok A := List.forall_mem_cons.mpr ⟨zd_38h_k0, fun _ h => absurd h List.not_mem_nil⟩

theorem zd_24i_m0 {r0 : Nat → Int} {v0 : Int}  : (zk_S 24 [r0] [0, 1 * v0 + 0] ∧ zk_S 23 [r0, r0] [1 * v0 + 0] ∧ True) ∧ True := by
  simp only [zq_23, zq_24, Int.one_mul, Int.add_zero, and_true, true_and] at *
  exact ⟨fun j hj => by omega, fun j => Or.inr rfl⟩
def zd_24i_w0 : zi_A := ([], [], [], [(24, [(0, [])], [([], 0), ([((1, []), 1)], 0)]), (23, [(0, []), (0, [])], [([((1, []), 1)], 0)])], [])
theorem zd_24i_k0 : zi_ok zd_24i_w0 := fun ρ ν => @zd_24i_m0 (ρ (0, [])) (ν (1, []))
def zd_24i : List zi_A := [zd_24i_w0]
theorem zd_24i_ok : ∀ A ∈ zd_24i, zi_ok A := List.forall_mem_cons.mpr ⟨zd_24i_k0, fun _ h => absurd h List.not_mem_nil⟩

theorem zd_24s_m0 {r0 r1 r2 : Nat → Int} {v0 v1 v2 v3 : Int} (h0 : zk_S 2 [r0, r1] [v0, v1]) (h1 : zk_S 24 [r1] [1 * v2 + 0, 1 * v3 + 0]) (h2 : zk_S 23 [r1, r2] [1 * v3 + 0]) (c0 : 0 ≤ 1 * v0 + ((-1) * v2 + 0)) (c1 : 0 ≤ (-1) * v0 + (1 * v2 + 0)) (c2 : 0 ≤ 1 * v1 + ((-1) * v3 + 0)) (c3 : 0 ≤ (-1) * v1 + (1 * v3 + 0)) (c4 : 0 ≤ 1 * v2 + 0) : (zk_S 24 [r0] [1 * v2 + 1, 1 * v3 + 0] ∧ zk_S 23 [r0, r2] [1 * v3 + 0] ∧ True) ∧ True := by
  simp only [zq_2, zq_23, zq_24, Int.one_mul, Int.add_zero, and_true, true_and] at *
  subst h0
  refine ⟨fun j hj => ?_, fun j => ?_⟩
  · show (if j = v0.toNat then v1 else r1 j) = v3
    by_cases e : j = v0.toNat
    · rw [if_pos e]
      omega
    · rw [if_neg e]
      exact h1 j (by omega)
  · show (if j = v0.toNat then v1 else r1 j) = v3 ∨ (if j = v0.toNat then v1 else r1 j) = r2 j
    by_cases e : j = v0.toNat
    · rw [if_pos e]
      exact Or.inl (by omega)
    · rw [if_neg e]
      exact h2 j
def zd_24s_w0 : zi_A := ([((2, [(0, [])], []), 1, 2), ((24, [(5000, [])], [([((2, []), 1)], 0), ([((1, []), 1)], 0)]), 0, 0), ((23, [(5000, [])], [([((1, []), 1)], 0)]), 1, 0)], [([((5000, []), 1), ((2, []), (-1))], 0), ([((5000, []), (-1)), ((2, []), 1)], 0), ([((5001, []), 1), ((1, []), (-1))], 0), ([((5001, []), (-1)), ((1, []), 1)], 0), ([((2, []), 1)], 0)], [], [(24, [(0, [])], [([((2, []), 1)], 1), ([((1, []), 1)], 0)]), (23, [(0, []), (5001, [])], [([((1, []), 1)], 0)])], [])
theorem zd_24s_k0 : zi_ok zd_24s_w0 := fun ρ ν => @zd_24s_m0 (ρ (0, [])) (ρ (5000, [])) (ρ (5001, [])) (ν (5000, [])) (ν (5001, [])) (ν (2, [])) (ν (1, []))
def zd_24s : List zi_A := [zd_24s_w0]
theorem zd_24s_ok : ∀ A ∈ zd_24s, zi_ok A := List.forall_mem_cons.mpr ⟨zd_24s_k0, fun _ h => absurd h List.not_mem_nil⟩

theorem zd_3b_m0 {r0 r1 : Nat → Int} {v0 v1 : Int} (h0 : zk_S 23 [r0, r1] [1000]) (h1 : zk_S 3 [r1] [v0, v1]) (c0 : 0 ≤ 1 * v0 + 0) (c1 : 0 ≤ (-1) * v1 + 1000) : (zk_S 3 [r0] [0, 1000] ∧ True) ∧ True := by
  simp only [zq_3, zq_23, Int.one_mul, Int.add_zero, and_true, true_and] at *
  intro j
  have q := h1 j
  rcases h0 j with e | e
  · rw [e]
    omega
  · rw [e]
    omega
def zd_3b_w0 : zi_A := ([((23, [(3036, [])], [([], 1000)]), 1, 0), ((3, [(5000, [])], []), 0, 2)], [([((5000, []), 1)], 0), ([((5001, []), (-1))], 1000)], [], [(3, [(3036, [])], [([], 0), ([], 1000)])], [])
theorem zd_3b_k0 : zi_ok zd_3b_w0 := fun ρ ν => @zd_3b_m0 (ρ (3036, [])) (ρ (5000, [])) (ν (5000, [])) (ν (5001, []))
def zd_3b : List zi_A := [zd_3b_w0]
theorem zd_3b_ok : ∀ A ∈ zd_3b, zi_ok A := List.forall_mem_cons.mpr ⟨zd_3b_k0, fun _ h => absurd h List.not_mem_nil⟩

theorem zd_32i_m0 {r0 : Nat → Int} {v0 : Int}  : (zk_S 32 [r0] [1 * v0 + 0, 0] ∧ True) ∧ True := by
  simp only [zq_32, Int.one_mul, Int.add_zero, and_true, true_and] at *
  unfold zd_k32
  intro i hi
  omega
def zd_32i_w0 : zi_A := ([], [], [], [(32, [(3035, [])], [([((2, []), 1)], 0), ([], 0)])], [])
theorem zd_32i_k0 : zi_ok zd_32i_w0 := fun ρ ν => @zd_32i_m0 (ρ (3035, [])) (ν (2, []))
def zd_32i : List zi_A := [zd_32i_w0]
theorem zd_32i_ok : ∀ A ∈ zd_32i, zi_ok A := List.forall_mem_cons.mpr ⟨zd_32i_k0, fun _ h => absurd h List.not_mem_nil⟩

theorem zd_32s_m0 {r0 r1 r2 : Nat → Int} {v0 v1 v2 v3 : Int} (h0 : zk_S 2 [r0, r1] [v0, v1]) (h1 : zk_S 32 [r1] [1 * v2 + 0, 1 * v3 + 0]) (h2 : zk_S 65 [r1, r2] [9 * v2 + 0, 9 * v2 + 9]) (c0 : 0 ≤ 1 * v0 + ((-9) * v2 + ((-1) * v3 + 0))) (c1 : 0 ≤ (-1) * v0 + (9 * v2 + (1 * v3 + 0))) (c2 : 0 ≤ 1 * v2 + 0) (c3 : 0 ≤ 1 * v3 + 0) (c4 : 0 ≤ (-1) * v3 + 8) (c5 : 0 ≤ (-1) * v3 + 0) (c6 : 0 ≤ 1 * v1 + 0) (c7 : 0 ≤ (-1) * v1 + 0) : (zk_S 32 [r0] [1 * v2 + 0, 1 * v3 + 1] ∧ zk_S 65 [r0, r2] [9 * v2 + 0, 9 * v2 + 9] ∧ True) ∧ True := by
  simp only [zq_2, zq_32, zq_65, Int.one_mul, Int.add_zero, and_true, true_and] at *
  subst h0
  refine ⟨fun i hi => ?_, fun j hj => ?_⟩
  · show (if 9 * v2.toNat + i = v0.toNat then v1 else r1 (9 * v2.toNat + i)) = _
    by_cases e : 9 * v2.toNat + i = v0.toNat
    · rw [if_pos e, if_pos (by omega)]
      omega
    · rw [if_neg e]
      exact h1 i (by omega)
  · show (if j = v0.toNat then v1 else r1 j) = r2 j
    rw [if_neg (by omega)]
    exact h2 j hj
def zd_32s_w0 : zi_A := ([((2, [(3035, [])], []), 1, 2), ((32, [(5000, [])], [([((2, []), 1)], 0), ([((4, []), 1)], 0)]), 0, 0), ((65, [(5000, [])], [([((2, []), 9)], 0), ([((2, []), 9)], 9)]), 1, 0)], [([((5000, []), 1), ((2, []), (-9)), ((4, []), (-1))], 0), ([((5000, []), (-1)), ((2, []), 9), ((4, []), 1)], 0), ([((2, []), 1)], 0), ([((4, []), 1)], 0), ([((4, []), (-1))], 8), ([((4, []), (-1))], 0), ([((5001, []), 1)], 0), ([((5001, []), (-1))], 0)], [], [(32, [(3035, [])], [([((2, []), 1)], 0), ([((4, []), 1)], 1)]), (65, [(3035, []), (5001, [])], [([((2, []), 9)], 0), ([((2, []), 9)], 9)])], [])
theorem zd_32s_k0 : zi_ok zd_32s_w0 := fun ρ ν => @zd_32s_m0 (ρ (3035, [])) (ρ (5000, [])) (ρ (5001, [])) (ν (5000, [])) (ν (5001, [])) (ν (2, [])) (ν (4, []))
theorem zd_32s_m1 {r0 r1 r2 : Nat → Int} {v0 v1 v2 v3 : Int} (h0 : zk_S 2 [r0, r1] [v0, v1]) (h1 : zk_S 32 [r1] [1 * v2 + 0, 1 * v3 + 0]) (h2 : zk_S 65 [r1, r2] [9 * v2 + 0, 9 * v2 + 9]) (c0 : 0 ≤ 1 * v0 + ((-9) * v2 + ((-1) * v3 + 0))) (c1 : 0 ≤ (-1) * v0 + (9 * v2 + (1 * v3 + 0))) (c2 : 0 ≤ 1 * v2 + 0) (c3 : 0 ≤ 1 * v3 + 0) (c4 : 0 ≤ (-1) * v3 + 8) (c5 : 0 ≤ 1 * v3 + (-1)) (c6 : 0 ≤ 1 * v1 + (-1000)) (c7 : 0 ≤ (-1) * v1 + 1000) : (zk_S 32 [r0] [1 * v2 + 0, 1 * v3 + 1] ∧ zk_S 65 [r0, r2] [9 * v2 + 0, 9 * v2 + 9] ∧ True) ∧ True := by
  simp only [zq_2, zq_32, zq_65, Int.one_mul, Int.add_zero, and_true, true_and] at *
  subst h0
  refine ⟨fun i hi => ?_, fun j hj => ?_⟩
  · show (if 9 * v2.toNat + i = v0.toNat then v1 else r1 (9 * v2.toNat + i)) = _
    by_cases e : 9 * v2.toNat + i = v0.toNat
    · rw [if_pos e, if_neg (by omega)]
      omega
    · rw [if_neg e]
      exact h1 i (by omega)
  · show (if j = v0.toNat then v1 else r1 j) = r2 j
    rw [if_neg (by omega)]
    exact h2 j hj
def zd_32s_w1 : zi_A := ([((2, [(3035, [])], []), 1, 2), ((32, [(5000, [])], [([((2, []), 1)], 0), ([((4, []), 1)], 0)]), 0, 0), ((65, [(5000, [])], [([((2, []), 9)], 0), ([((2, []), 9)], 9)]), 1, 0)], [([((5000, []), 1), ((2, []), (-9)), ((4, []), (-1))], 0), ([((5000, []), (-1)), ((2, []), 9), ((4, []), 1)], 0), ([((2, []), 1)], 0), ([((4, []), 1)], 0), ([((4, []), (-1))], 8), ([((4, []), 1)], (-1)), ([((5001, []), 1)], (-1000)), ([((5001, []), (-1))], 1000)], [], [(32, [(3035, [])], [([((2, []), 1)], 0), ([((4, []), 1)], 1)]), (65, [(3035, []), (5001, [])], [([((2, []), 9)], 0), ([((2, []), 9)], 9)])], [])
theorem zd_32s_k1 : zi_ok zd_32s_w1 := fun ρ ν => @zd_32s_m1 (ρ (3035, [])) (ρ (5000, [])) (ρ (5001, [])) (ν (5000, [])) (ν (5001, [])) (ν (2, [])) (ν (4, []))
def zd_32s : List zi_A := [zd_32s_w0, zd_32s_w1]
theorem zd_32s_ok : ∀ A ∈ zd_32s, zi_ok A := List.forall_mem_cons.mpr ⟨zd_32s_k0, List.forall_mem_cons.mpr ⟨zd_32s_k1, fun _ h => absurd h List.not_mem_nil⟩⟩

theorem zd_33i_m0 {r0 r1 r2 r3 : Nat → Int} {v0 v1 v2 v3 v4 v5 : Int} (h0 : zk_S 32 [r0] [1 * v0 + 0, v1]) (h1 : zk_S 3 [r1] [v2, v3]) (c0 : 0 ≤ 1 * v1 + (-9)) (c1 : 0 ≤ 1 * v2 + 0) (c2 : 0 ≤ 1 * v0 + 0) : (zk_S 33 [r0, r2, r1, r3] [1 * v4 + 0, 1 * v5 + 0, 1 * v0 + 0, 0, 0, 0] ∧ True) ∧ True := by
  simp only [zq_3, zq_32, zq_33, Int.one_mul, Int.add_zero, and_true, true_and] at *
  have hc : ∀ m : Nat, zd_c r2 r1 v0 0 0 m = 0 := fun m => by
    induction m with
    | zero => rfl
    | succ m ih =>
      show zd_c r2 r1 v0 0 0 m + (if r2 m = v0 ∧ (r1 m < 0 ∨ (r1 m = 0 ∧ m < 0)) then 1 else 0) = 0
      rw [ih, if_neg (fun q => by have := h1 m; omega)]
  refine ⟨?_, ?_, fun i i1 i8 => ⟨fun h => by omega, fun _ => ?_⟩, fun _ => rfl⟩
  · show (0 : Int) = ((zd_c r2 r1 v0 0 0 v4.toNat : Nat) : Int)
    rw [hc]
    rfl
  · exact (h0 0 (by omega)).trans (if_pos rfl)
  · have q := h0 i (by omega)
    rw [if_neg (by omega)] at q
    exact q
def zd_33i_w0 : zi_A := ([((32, [(3035, [])], [([((2, []), 1)], 0)]), 0, 1), ((3, [(3006, [])], []), 0, 2)], [([((5000, []), 1)], (-9)), ([((5001, []), 1)], 0), ([((2, []), 1)], 0)], [], [(33, [(3035, []), (3007, []), (3006, []), (3004, [])], [([((4001, [1]), 1)], 0), ([((4001, [4]), 1)], 0), ([((2, []), 1)], 0), ([], 0), ([], 0), ([], 0)])], [])
theorem zd_33i_k0 : zi_ok zd_33i_w0 := fun ρ ν => @zd_33i_m0 (ρ (3035, [])) (ρ (3006, [])) (ρ (3007, [])) (ρ (3004, [])) (ν (2, [])) (ν (5000, [])) (ν (5001, [])) (ν (5002, [])) (ν (4001, [1])) (ν (4001, [4]))
def zd_33i : List zi_A := [zd_33i_w0]
theorem zd_33i_ok : ∀ A ∈ zd_33i, zi_ok A := List.forall_mem_cons.mpr ⟨zd_33i_k0, fun _ h => absurd h List.not_mem_nil⟩

theorem zd_33s_m0 {r0 r1 r2 r3 r4 r5 r6 : Nat → Int} {v0 v1 v2 v3 v4 v5 v6 v7 v8 v9 v10 v11 v12 v13 v14 : Int} (h0 : zk_S 2 [r0, r1] [v0, v1]) (h1 : zk_S 33 [r1, r2, r3, r4] [1 * v2 + 0, 1 * v3 + 0, 1 * v4 + 0, 1 * v5 + 0, 1 * v6 + 0, v7]) (h2 : zk_S 1 [r2] [1 * v6 + 0, v8]) (h3 : zk_S 1 [r3] [1 * v6 + 0, v9]) (h4 : zk_S 43 [r5, r2] [1 * v2 + 0, 1 * v10 + 0]) (h5 : zk_S 1 [r5] [1 * v4 + 0, v11]) (h6 : zk_S 80 [] [1, 1 * v5 + 0, 1 * v11 + 0, v12]) (h7 : zk_S 1 [r4] [1 * v4 + 0, v13]) (h8 : zk_S 65 [r1, r6] [9 * v4 + 0, 9 * v4 + 9]) (c0 : 0 ≤ 1 * v8 + ((-1) * v4 + 0)) (c1 : 0 ≤ (-1) * v8 + (1 * v4 + 0)) (c2 : 0 ≤ 1 * v9 + ((-1) * v5 + 0)) (c3 : 0 ≤ (-1) * v9 + (1 * v5 + 0)) (c4 : 0 ≤ 1 * v14 + ((-1) * v7 + (-1))) (c5 : 0 ≤ (-1) * v14 + (1 * v7 + 1)) (c6 : 0 ≤ 1 * v0 + ((-9) * v4 + ((-1) * v14 + 0))) (c7 : 0 ≤ (-1) * v0 + (9 * v4 + (1 * v14 + 0))) (c8 : 0 ≤ 1 * v1 + ((-1) * v12 + 0)) (c9 : 0 ≤ (-1) * v1 + (1 * v12 + 0)) (c10 : 0 ≤ (-1) * v7 + 7) (c11 : 0 ≤ 1 * v7 + 0) (c12 : 0 ≤ 1 * v5 + 0) (c13 : 0 ≤ (-1) * v5 + 30) (c14 : 0 ≤ 1 * v11 + 0) (c15 : 0 ≤ (-1) * v11 + 8) (c16 : 0 ≤ 1 * v12 + 0) (c17 : 0 ≤ (-1) * v12 + 240) (c18 : 0 ≤ 1 * v4 + 0) (c19 : 0 ≤ (-1) * v4 + 4) (c20 : 0 ≤ 1 * v10 + ((-1) * v4 + (-1))) (c21 : 0 ≤ 1 * v6 + 0) (c22 : 0 ≤ 1 * v2 + ((-1) * v6 + (-1))) (c23 : 0 ≤ 1 * v3 + ((-1) * v13 + (-1))) : (zk_S 33 [r0, r2, r3, r4] [1 * v2 + 0, 1 * v3 + 0, 1 * v4 + 0, 1 * v5 + 0, 1 * v6 + 1, 1 * v14 + 0] ∧ zk_S 65 [r0, r6] [9 * v4 + 0, 9 * v4 + 9] ∧ True) ∧ True := by
  simp only [zq_1, zq_2, zq_33, zq_43, zq_65, zq_80, Int.one_mul, Int.add_zero, and_true, true_and] at *
  obtain ⟨a1, a2, a3, a4⟩ := h1
  have e8 : r2 v6.toNat = v4 := by omega
  have e9 : r3 v6.toNat = v5 := by omega
  have hcn : v11 = ((zx_cn r2 v4 v2.toNat : Nat) : Int) := by
    have q := h4 v4.toNat (by omega)
    rw [if_pos (by omega), show ((v4.toNat : Nat) : Int) = v4 by omega] at q
    omega
  have hw : v12 = v5 * v11 := zd_mul32 h6 (by omega) (by omega) (by omega) (by omega) (by omega) (by omega)
  have cs := zd_c_s (bed := r2) (needs := r3) (b := v4) (n := v5) (k := v6.toNat) (m := v2.toNat)
  rw [if_pos ⟨by omega, e8, e9⟩] at cs
  have m1 := zd_c_0 (bed := r2) (needs := r3) (b := v4) (n := v5) (k := v6.toNat) (m := v2.toNat)
  have m2 := zd_c_1 (bed := r2) (needs := r3) (b := v4) (n := v5) (k := v6.toNat + 1) (m := v2.toNat)
  subst h0
  refine ⟨⟨?_, ?_, fun i i1 i8 => ?_, fun h => by omega⟩, fun j hj => ?_⟩
  · rw [show (v6 + 1).toNat = v6.toNat + 1 by omega, cs]
    omega
  · show (if 9 * v4.toNat = v0.toNat then v1 else r1 (9 * v4.toNat)) = 0
    rw [if_neg (by omega)]
    exact a2
  · show ((i : Int) ≤ v14 → ∃ z : Int, 0 ≤ z ∧ (if 9 * v4.toNat + i = v0.toNat then v1 else r1 (9 * v4.toNat + i)) = z * ((zx_cn r2 v4 v2.toNat : Nat) : Int) ∧ zd_c r2 r3 v4 z 0 v2.toNat < i ∧ i ≤ zd_c r2 r3 v4 (z + 1) 0 v2.toNat) ∧ (v14 < (i : Int) → (if 9 * v4.toNat + i = v0.toNat then v1 else r1 (9 * v4.toNat + i)) = 1000)
    by_cases e : 9 * v4.toNat + i = v0.toNat
    · rw [if_pos e]
      refine ⟨fun _ => ⟨v5, c12, by rw [← hcn, ← hw]; omega, by omega, by omega⟩, fun h => by omega⟩
    · rw [if_neg e]
      exact ⟨fun h => (a3 i i1 i8).1 (by omega), fun h => (a3 i i1 i8).2 (by omega)⟩
  · show (if j = v0.toNat then v1 else r1 j) = r6 j
    rw [if_neg (by omega)]
    exact h8 j hj
def zd_33s_w0 : zi_A := ([((2, [(3035, [])], []), 1, 2), ((33, [(5000, []), (3007, []), (3006, []), (3004, [])], [([((4001, [1]), 1)], 0), ([((4001, [4]), 1)], 0), ([((2, []), 1)], 0), ([((5, []), 1)], 0), ([((6, []), 1)], 0)]), 0, 1), ((1, [(3007, [])], [([((6, []), 1)], 0)]), 0, 1), ((1, [(3006, [])], [([((6, []), 1)], 0)]), 0, 1), ((43, [(3010, []), (3007, [])], [([((4001, [1]), 1)], 0), ([((4001, [0]), 1)], 0)]), 0, 0), ((1, [(3010, [])], [([((2, []), 1)], 0)]), 0, 1), ((80, [], [([], 1), ([((5, []), 1)], 0), ([((5005, []), 1)], 0)]), 0, 1), ((1, [(3004, [])], [([((2, []), 1)], 0)]), 0, 1), ((65, [(5000, [])], [([((2, []), 9)], 0), ([((2, []), 9)], 9)]), 1, 0)], [([((5003, []), 1), ((2, []), (-1))], 0), ([((5003, []), (-1)), ((2, []), 1)], 0), ([((5004, []), 1), ((5, []), (-1))], 0), ([((5004, []), (-1)), ((5, []), 1)], 0), ([((4, []), 1), ((5002, []), (-1))], (-1)), ([((4, []), (-1)), ((5002, []), 1)], 1), ([((5000, []), 1), ((2, []), (-9)), ((4, []), (-1))], 0), ([((5000, []), (-1)), ((2, []), 9), ((4, []), 1)], 0), ([((5001, []), 1), ((5006, []), (-1))], 0), ([((5001, []), (-1)), ((5006, []), 1)], 0), ([((5002, []), (-1))], 7), ([((5002, []), 1)], 0), ([((5, []), 1)], 0), ([((5, []), (-1))], 30), ([((5005, []), 1)], 0), ([((5005, []), (-1))], 8), ([((5006, []), 1)], 0), ([((5006, []), (-1))], 240), ([((2, []), 1)], 0), ([((2, []), (-1))], 4), ([((4001, [0]), 1), ((2, []), (-1))], (-1)), ([((6, []), 1)], 0), ([((4001, [1]), 1), ((6, []), (-1))], (-1)), ([((4001, [4]), 1), ((5007, []), (-1))], (-1))], [], [(33, [(3035, []), (3007, []), (3006, []), (3004, [])], [([((4001, [1]), 1)], 0), ([((4001, [4]), 1)], 0), ([((2, []), 1)], 0), ([((5, []), 1)], 0), ([((6, []), 1)], 1), ([((4, []), 1)], 0)]), (65, [(3035, []), (5001, [])], [([((2, []), 9)], 0), ([((2, []), 9)], 9)])], [])
theorem zd_33s_k0 : zi_ok zd_33s_w0 := fun ρ ν => @zd_33s_m0 (ρ (3035, [])) (ρ (5000, [])) (ρ (3007, [])) (ρ (3006, [])) (ρ (3004, [])) (ρ (3010, [])) (ρ (5001, [])) (ν (5000, [])) (ν (5001, [])) (ν (4001, [1])) (ν (4001, [4])) (ν (2, [])) (ν (5, [])) (ν (6, [])) (ν (5002, [])) (ν (5003, [])) (ν (5004, [])) (ν (4001, [0])) (ν (5005, [])) (ν (5006, [])) (ν (5007, [])) (ν (4, []))
theorem zd_33s_m1 {r0 r1 r2 r3 : Nat → Int} {v0 v1 v2 v3 v4 v5 v6 : Int} (h0 : zk_S 33 [r0, r1, r2, r3] [1 * v0 + 0, 1 * v1 + 0, 1 * v2 + 0, 1 * v3 + 0, 1 * v4 + 0, 1 * v5 + 0]) (h1 : zk_S 1 [r1] [1 * v4 + 0, v6]) (c0 : 0 ≤ 1 * v4 + 0) (z0 : 1 * v6 + ((-1) * v2 + 0) ≠ 0) : (zk_S 33 [r0, r1, r2, r3] [1 * v0 + 0, 1 * v1 + 0, 1 * v2 + 0, 1 * v3 + 0, 1 * v4 + 1, 1 * v5 + 0] ∧ True) ∧ True := by
  simp only [zq_1, zq_33, Int.one_mul, Int.add_zero, and_true, true_and] at *
  obtain ⟨a1, a2, a3, a4⟩ := h0
  have cs := zd_c_s (bed := r1) (needs := r2) (b := v2) (n := v3) (k := v4.toNat) (m := v0.toNat)
  rw [if_neg (fun q => by omega)] at cs
  exact ⟨by rw [show (v4 + 1).toNat = v4.toNat + 1 by omega, cs]; omega, a2, a3, a4⟩
def zd_33s_w1 : zi_A := ([((33, [(3035, []), (3007, []), (3006, []), (3004, [])], [([((4001, [1]), 1)], 0), ([((4001, [4]), 1)], 0), ([((2, []), 1)], 0), ([((5, []), 1)], 0), ([((6, []), 1)], 0), ([((4, []), 1)], 0)]), 0, 0), ((1, [(3007, [])], [([((6, []), 1)], 0)]), 0, 1)], [([((6, []), 1)], 0)], [([((5000, []), 1), ((2, []), (-1))], 0)], [(33, [(3035, []), (3007, []), (3006, []), (3004, [])], [([((4001, [1]), 1)], 0), ([((4001, [4]), 1)], 0), ([((2, []), 1)], 0), ([((5, []), 1)], 0), ([((6, []), 1)], 1), ([((4, []), 1)], 0)])], [])
theorem zd_33s_k1 : zi_ok zd_33s_w1 := fun ρ ν => @zd_33s_m1 (ρ (3035, [])) (ρ (3007, [])) (ρ (3006, [])) (ρ (3004, [])) (ν (4001, [1])) (ν (4001, [4])) (ν (2, [])) (ν (5, [])) (ν (6, [])) (ν (4, [])) (ν (5000, []))
theorem zd_33s_m2 {r0 r1 r2 r3 : Nat → Int} {v0 v1 v2 v3 v4 v5 v6 : Int} (h0 : zk_S 33 [r0, r1, r2, r3] [1 * v0 + 0, 1 * v1 + 0, 1 * v2 + 0, 1 * v3 + 0, 1 * v4 + 0, 1 * v5 + 0]) (h1 : zk_S 1 [r2] [1 * v4 + 0, v6]) (c0 : 0 ≤ 1 * v4 + 0) (z0 : 1 * v6 + ((-1) * v3 + 0) ≠ 0) : (zk_S 33 [r0, r1, r2, r3] [1 * v0 + 0, 1 * v1 + 0, 1 * v2 + 0, 1 * v3 + 0, 1 * v4 + 1, 1 * v5 + 0] ∧ True) ∧ True := by
  simp only [zq_1, zq_33, Int.one_mul, Int.add_zero, and_true, true_and] at *
  obtain ⟨a1, a2, a3, a4⟩ := h0
  have cs := zd_c_s (bed := r1) (needs := r2) (b := v2) (n := v3) (k := v4.toNat) (m := v0.toNat)
  rw [if_neg (fun q => by omega)] at cs
  exact ⟨by rw [show (v4 + 1).toNat = v4.toNat + 1 by omega, cs]; omega, a2, a3, a4⟩
def zd_33s_w2 : zi_A := ([((33, [(3035, []), (3007, []), (3006, []), (3004, [])], [([((4001, [1]), 1)], 0), ([((4001, [4]), 1)], 0), ([((2, []), 1)], 0), ([((5, []), 1)], 0), ([((6, []), 1)], 0), ([((4, []), 1)], 0)]), 0, 0), ((1, [(3006, [])], [([((6, []), 1)], 0)]), 0, 1)], [([((6, []), 1)], 0)], [([((5000, []), 1), ((5, []), (-1))], 0)], [(33, [(3035, []), (3007, []), (3006, []), (3004, [])], [([((4001, [1]), 1)], 0), ([((4001, [4]), 1)], 0), ([((2, []), 1)], 0), ([((5, []), 1)], 0), ([((6, []), 1)], 1), ([((4, []), 1)], 0)])], [])
theorem zd_33s_k2 : zi_ok zd_33s_w2 := fun ρ ν => @zd_33s_m2 (ρ (3035, [])) (ρ (3007, [])) (ρ (3006, [])) (ρ (3004, [])) (ν (4001, [1])) (ν (4001, [4])) (ν (2, [])) (ν (5, [])) (ν (6, [])) (ν (4, [])) (ν (5000, []))
theorem zd_33s_m3 {r0 r1 r2 r3 : Nat → Int} {v0 v1 v2 v3 v4 v5 v6 v7 : Int} (h0 : zk_S 33 [r0, r1, r2, r3] [1 * v0 + 0, 1 * v1 + 0, 1 * v2 + 0, 1 * v3 + 0, 1 * v4 + 0, 1 * v5 + 0]) (h1 : zk_S 1 [r1] [1 * v4 + 0, v6]) (h2 : zk_S 1 [r2] [1 * v4 + 0, v7]) (c0 : 0 ≤ 1 * v6 + ((-1) * v2 + 0)) (c1 : 0 ≤ (-1) * v6 + (1 * v2 + 0)) (c2 : 0 ≤ 1 * v7 + ((-1) * v3 + 0)) (c3 : 0 ≤ (-1) * v7 + (1 * v3 + 0)) (c4 : 0 ≤ 1 * v5 + (-8)) (c5 : 0 ≤ (-1) * v0 + 8) (c6 : 0 ≤ 1 * v4 + 0) (c7 : 0 ≤ 1 * v0 + ((-1) * v4 + (-1))) : (zk_S 33 [r0, r1, r2, r3] [1 * v0 + 0, 1 * v1 + 0, 1 * v2 + 0, 1 * v3 + 0, 1 * v4 + 1, 1 * v5 + 0] ∧ True) ∧ True := by
  simp only [zq_1, zq_33, Int.one_mul, Int.add_zero, and_true, true_and] at *
  obtain ⟨a1, a2, a3, a4⟩ := h0
  have cs := zd_c_s (bed := r1) (needs := r2) (b := v2) (n := v3) (k := v4.toNat) (m := v0.toNat)
  rw [if_pos ⟨by omega, by omega, by omega⟩] at cs
  have := zd_c_m (bed := r1) (needs := r2) (b := v2) (n := v3) (k := v4.toNat + 1) (m := v0.toNat)
  omega
def zd_33s_w3 : zi_A := ([((33, [(3035, []), (3007, []), (3006, []), (3004, [])], [([((4001, [1]), 1)], 0), ([((4001, [4]), 1)], 0), ([((2, []), 1)], 0), ([((5, []), 1)], 0), ([((6, []), 1)], 0), ([((4, []), 1)], 0)]), 0, 0), ((1, [(3007, [])], [([((6, []), 1)], 0)]), 0, 1), ((1, [(3006, [])], [([((6, []), 1)], 0)]), 0, 1)], [([((5000, []), 1), ((2, []), (-1))], 0), ([((5000, []), (-1)), ((2, []), 1)], 0), ([((5001, []), 1), ((5, []), (-1))], 0), ([((5001, []), (-1)), ((5, []), 1)], 0), ([((4, []), 1)], (-8)), ([((4001, [1]), (-1))], 8), ([((6, []), 1)], 0), ([((4001, [1]), 1), ((6, []), (-1))], (-1))], [], [(33, [(3035, []), (3007, []), (3006, []), (3004, [])], [([((4001, [1]), 1)], 0), ([((4001, [4]), 1)], 0), ([((2, []), 1)], 0), ([((5, []), 1)], 0), ([((6, []), 1)], 1), ([((4, []), 1)], 0)])], [])
theorem zd_33s_k3 : zi_ok zd_33s_w3 := fun ρ ν => @zd_33s_m3 (ρ (3035, [])) (ρ (3007, [])) (ρ (3006, [])) (ρ (3004, [])) (ν (4001, [1])) (ν (4001, [4])) (ν (2, [])) (ν (5, [])) (ν (6, [])) (ν (4, [])) (ν (5000, [])) (ν (5001, []))
def zd_33s : List zi_A := [zd_33s_w0, zd_33s_w1, zd_33s_w2, zd_33s_w3]
theorem zd_33s_ok : ∀ A ∈ zd_33s, zi_ok A := List.forall_mem_cons.mpr ⟨zd_33s_k0, List.forall_mem_cons.mpr ⟨zd_33s_k1, List.forall_mem_cons.mpr ⟨zd_33s_k2, List.forall_mem_cons.mpr ⟨zd_33s_k3, fun _ h => absurd h List.not_mem_nil⟩⟩⟩⟩

theorem zd_43b_m0 {r0 r1 : Nat → Int} {v0 v1 v2 v3 : Int} (h0 : zk_S 43 [r0, r1] [1 * v0 + 0, 1 * v1 + 0]) (h1 : zk_S 1 [r0] [1 * v2 + 0, v3]) (c0 : 0 ≤ 1 * v2 + 0) (c1 : 0 ≤ (-1) * v2 + 4) (c2 : 0 ≤ 1 * v1 + ((-1) * v2 + (-1))) (c3 : 0 ≤ (-1) * v0 + 8) (c4 : 0 ≤ 1 * v0 + 0) : (True) ∧ 0 ≤ 1 * v3 + 0 ∧ 0 ≤ (-1) * v3 + 8 ∧ True := by
  simp only [zq_1, zq_43, Int.one_mul, Int.add_zero, and_true, true_and] at *
  have q := h0 v2.toNat (by omega)
  rw [if_pos (by omega), h1, show ((v2.toNat : Nat) : Int) = v2 by omega] at q
  have := zd_cn_m (bed := r1) (b := v2) (m := v0.toNat)
  omega
def zd_43b_w0 : zi_A := ([((43, [(3010, []), (3007, [])], [([((4001, [1]), 1)], 0), ([((4001, [0]), 1)], 0)]), 0, 0), ((1, [(3010, [])], [([((2, []), 1)], 0)]), 0, 1)], [([((2, []), 1)], 0), ([((2, []), (-1))], 4), ([((4001, [0]), 1), ((2, []), (-1))], (-1)), ([((4001, [1]), (-1))], 8), ([((4001, [1]), 1)], 0)], [], [], [([((5000, []), 1)], 0), ([((5000, []), (-1))], 8)])
theorem zd_43b_k0 : zi_ok zd_43b_w0 := fun ρ ν => @zd_43b_m0 (ρ (3010, [])) (ρ (3007, [])) (ν (4001, [1])) (ν (4001, [0])) (ν (2, [])) (ν (5000, []))
def zd_43b : List zi_A := [zd_43b_w0]
theorem zd_43b_ok : ∀ A ∈ zd_43b, zi_ok A := List.forall_mem_cons.mpr ⟨zd_43b_k0, fun _ h => absurd h List.not_mem_nil⟩

theorem zd_33n_m0 {r0 r1 r2 r3 r4 r5 : Nat → Int} {v0 v1 v2 v3 v4 v5 : Int} (h0 : zk_S 33 [r0, r1, r2, r3] [1 * v0 + 0, 1 * v1 + 0, 1 * v2 + 0, 1 * v3 + 0, 1 * v4 + 0, 1 * v5 + 0]) (h1 : zk_S 65 [r0, r4] [9 * v2 + 0, 9 * v2 + 9]) (h2 : zk_S 65 [r4, r5] [9 * v2 + 0, 9 * v2 + 9]) (c0 : 0 ≤ 1 * v4 + ((-1) * v0 + 0)) (c1 : 0 ≤ 1 * v0 + 0) (c2 : 0 ≤ 1 * v4 + 0) : (zk_S 33 [r0, r1, r2, r3] [1 * v0 + 0, 1 * v1 + 0, 1 * v2 + 0, 1 * v3 + 1, 0, 1 * v5 + 0] ∧ zk_S 65 [r0, r5] [9 * v2 + 0, 9 * v2 + 9] ∧ True) ∧ True := by
  simp only [zq_33, zq_65, Int.one_mul, Int.add_zero, and_true, true_and] at *
  obtain ⟨a1, a2, a3, a4⟩ := h0
  have ce := zd_c_e (bed := r1) (needs := r2) (b := v2) (n := v3) (k := v4.toNat) (m := v0.toNat) (by omega)
  refine ⟨⟨?_, a2, a3, a4⟩, fun j hj => ?_⟩
  · show v5 = ((zd_c r1 r2 v2 (v3 + 1) 0 v0.toNat : Nat) : Int)
    rw [← ce]
    exact a1
  · rw [h1 j hj]
    exact h2 j hj
def zd_33n_w0 : zi_A := ([((33, [(3035, []), (3007, []), (3006, []), (3004, [])], [([((4001, [1]), 1)], 0), ([((4001, [4]), 1)], 0), ([((2, []), 1)], 0), ([((5, []), 1)], 0), ([((6, []), 1)], 0), ([((4, []), 1)], 0)]), 0, 0), ((65, [(3035, [])], [([((2, []), 9)], 0), ([((2, []), 9)], 9)]), 1, 0), ((65, [(5000, [])], [([((2, []), 9)], 0), ([((2, []), 9)], 9)]), 1, 0)], [([((6, []), 1), ((4001, [1]), (-1))], 0), ([((4001, [1]), 1)], 0), ([((6, []), 1)], 0)], [], [(33, [(3035, []), (3007, []), (3006, []), (3004, [])], [([((4001, [1]), 1)], 0), ([((4001, [4]), 1)], 0), ([((2, []), 1)], 0), ([((5, []), 1)], 1), ([], 0), ([((4, []), 1)], 0)]), (65, [(3035, []), (5001, [])], [([((2, []), 9)], 0), ([((2, []), 9)], 9)])], [])
theorem zd_33n_k0 : zi_ok zd_33n_w0 := fun ρ ν => @zd_33n_m0 (ρ (3035, [])) (ρ (3007, [])) (ρ (3006, [])) (ρ (3004, [])) (ρ (5000, [])) (ρ (5001, [])) (ν (4001, [1])) (ν (4001, [4])) (ν (2, [])) (ν (5, [])) (ν (6, [])) (ν (4, []))
def zd_33n : List zi_A := [zd_33n_w0]
theorem zd_33n_ok : ∀ A ∈ zd_33n, zi_ok A := List.forall_mem_cons.mpr ⟨zd_33n_k0, fun _ h => absurd h List.not_mem_nil⟩

theorem zd_34_m0 {r0 r1 r2 r3 r4 r5 : Nat → Int} {v0 v1 v2 v3 v4 v5 v6 : Int} (h0 : zk_S 33 [r0, r1, r2, r3] [1 * v0 + 0, 1 * v1 + 0, 1 * v2 + 0, 1 * v3 + 0, 0, 1 * v4 + 0]) (h1 : zk_S 3 [r2] [v5, v6]) (h2 : zk_S 65 [r0, r4] [9 * v2 + 0, 9 * v2 + 9]) (h3 : zk_S 65 [r4, r5] [9 * v2 + 0, 9 * v2 + 9]) (c0 : 0 ≤ 1 * v3 + (-31)) (c1 : 0 ≤ (-1) * v6 + 30) (c2 : 0 ≤ 1 * v2 + 0) (c3 : 0 ≤ (-1) * v0 + 8) (c4 : 0 ≤ 1 * v0 + 0) : (zk_S 34 [r0, r1, r2, r3] [1 * v0 + 0, 1 * v1 + 0, 1 * v2 + 0] ∧ zk_S 65 [r0, r5] [9 * v2 + 0, 9 * v2 + 9] ∧ True) ∧ True := by
  simp only [zq_3, zq_33, zq_34, zq_65, Int.one_mul, Int.add_zero, and_true, true_and] at *
  obtain ⟨a1, a2, a3, a4⟩ := h0
  refine ⟨fun i i8 => ?_, fun j hj => ?_⟩
  · show 0 ≤ r0 (9 * v2.toNat + i) ∧ ∀ x : Int, 0 ≤ x → x ≤ 99 → (r0 (9 * v2.toNat + i) ≤ x ↔ (i : Int) ≤ zd_S r1 r2 r3 v0 v1 v2.toNat x)
    refine zd_price (n := v3) (priced := v4) a1 a2 a3 a4 (fun hb => ⟨by omega, fun j => by have := h1 j; omega⟩) i8 (by omega)
  · rw [h2 j hj]
    exact h3 j hj
def zd_34_w0 : zi_A := ([((33, [(3035, []), (3007, []), (3006, []), (3004, [])], [([((4001, [1]), 1)], 0), ([((4001, [4]), 1)], 0), ([((2, []), 1)], 0), ([((5, []), 1)], 0), ([], 0), ([((4, []), 1)], 0)]), 0, 0), ((3, [(3006, [])], []), 0, 2), ((65, [(3035, [])], [([((2, []), 9)], 0), ([((2, []), 9)], 9)]), 1, 0), ((65, [(5000, [])], [([((2, []), 9)], 0), ([((2, []), 9)], 9)]), 1, 0)], [([((5, []), 1)], (-31)), ([((5001, []), (-1))], 30), ([((2, []), 1)], 0), ([((4001, [1]), (-1))], 8), ([((4001, [1]), 1)], 0)], [], [(34, [(3035, []), (3007, []), (3006, []), (3004, [])], [([((4001, [1]), 1)], 0), ([((4001, [4]), 1)], 0), ([((2, []), 1)], 0)]), (65, [(3035, []), (5001, [])], [([((2, []), 9)], 0), ([((2, []), 9)], 9)])], [])
theorem zd_34_k0 : zi_ok zd_34_w0 := fun ρ ν => @zd_34_m0 (ρ (3035, [])) (ρ (3007, [])) (ρ (3006, [])) (ρ (3004, [])) (ρ (5000, [])) (ρ (5001, [])) (ν (4001, [1])) (ν (4001, [4])) (ν (2, [])) (ν (5, [])) (ν (4, [])) (ν (5000, [])) (ν (5001, []))
theorem zd_34_m1 {r0 r1 r2 r3 r4 r5 : Nat → Int} {v0 v1 v2 v3 v4 v5 v6 v7 : Int} (h0 : zk_S 33 [r0, r1, r2, r3] [1 * v0 + 0, 1 * v1 + 0, 1 * v2 + 0, 1 * v3 + 0, 0, 1 * v4 + 0]) (h1 : zk_S 3 [r2] [v5, v6]) (h2 : zk_S 65 [r0, r4] [9 * v2 + 0, 9 * v2 + 9]) (h3 : zk_S 65 [r4, r5] [9 * v2 + 0, 9 * v2 + 9]) (h4 : zk_S 1 [r3] [1 * v2 + 0, v7]) (c0 : 0 ≤ 1 * v7 + ((-1) * v1 + 0)) (c1 : 0 ≤ 1 * v2 + 0) (c2 : 0 ≤ (-1) * v0 + 8) (c3 : 0 ≤ 1 * v0 + 0) : (zk_S 34 [r0, r1, r2, r3] [1 * v0 + 0, 1 * v1 + 0, 1 * v2 + 0] ∧ zk_S 65 [r0, r5] [9 * v2 + 0, 9 * v2 + 9] ∧ True) ∧ True := by
  simp only [zq_1, zq_3, zq_33, zq_34, zq_65, Int.one_mul, Int.add_zero, and_true, true_and] at *
  obtain ⟨a1, a2, a3, a4⟩ := h0
  refine ⟨fun i i8 => ?_, fun j hj => ?_⟩
  · show 0 ≤ r0 (9 * v2.toNat + i) ∧ ∀ x : Int, 0 ≤ x → x ≤ 99 → (r0 (9 * v2.toNat + i) ≤ x ↔ (i : Int) ≤ zd_S r1 r2 r3 v0 v1 v2.toNat x)
    refine zd_price (n := v3) (priced := v4) a1 a2 a3 a4 (fun hb => by omega) i8 (by omega)
  · rw [h2 j hj]
    exact h3 j hj
def zd_34_w1 : zi_A := ([((33, [(3035, []), (3007, []), (3006, []), (3004, [])], [([((4001, [1]), 1)], 0), ([((4001, [4]), 1)], 0), ([((2, []), 1)], 0), ([((5, []), 1)], 0), ([], 0), ([((4, []), 1)], 0)]), 0, 0), ((3, [(3006, [])], []), 0, 2), ((65, [(3035, [])], [([((2, []), 9)], 0), ([((2, []), 9)], 9)]), 1, 0), ((65, [(5000, [])], [([((2, []), 9)], 0), ([((2, []), 9)], 9)]), 1, 0), ((1, [(3004, [])], [([((2, []), 1)], 0)]), 0, 1)], [([((5002, []), 1), ((4001, [4]), (-1))], 0), ([((2, []), 1)], 0), ([((4001, [1]), (-1))], 8), ([((4001, [1]), 1)], 0)], [], [(34, [(3035, []), (3007, []), (3006, []), (3004, [])], [([((4001, [1]), 1)], 0), ([((4001, [4]), 1)], 0), ([((2, []), 1)], 0)]), (65, [(3035, []), (5001, [])], [([((2, []), 9)], 0), ([((2, []), 9)], 9)])], [])
theorem zd_34_k1 : zi_ok zd_34_w1 := fun ρ ν => @zd_34_m1 (ρ (3035, [])) (ρ (3007, [])) (ρ (3006, [])) (ρ (3004, [])) (ρ (5000, [])) (ρ (5001, [])) (ν (4001, [1])) (ν (4001, [4])) (ν (2, [])) (ν (5, [])) (ν (4, [])) (ν (5000, [])) (ν (5001, [])) (ν (5002, []))
def zd_34 : List zi_A := [zd_34_w0, zd_34_w1]
theorem zd_34_ok : ∀ A ∈ zd_34, zi_ok A := List.forall_mem_cons.mpr ⟨zd_34_k0, List.forall_mem_cons.mpr ⟨zd_34_k1, fun _ h => absurd h List.not_mem_nil⟩⟩

theorem zd_36i_m0 {r0 r1 r2 r3 r4 r5 : Nat → Int} {v0 v1 v2 v3 v4 v5 v6 : Int} (h0 : zk_S 2 [r0, r1] [v0, v1]) (h1 : zk_S 24 [r1] [v2, v3]) (c0 : 0 ≤ 1 * v2 + (-54)) (c1 : 0 ≤ 1 * v3 + (-1000)) (c2 : 0 ≤ (-1) * v3 + 1000) (c3 : 0 ≤ 1 * v0 + ((-9) * v4 + 0)) (c4 : 0 ≤ (-1) * v0 + (9 * v4 + 0)) (c5 : 0 ≤ 1 * v1 + 0) (c6 : 0 ≤ (-1) * v1 + 0) (c7 : 0 ≤ 1 * v4 + 0) (c8 : 0 ≤ (-1) * v4 + 5) : (zk_S 36 [r0, r2, r3, r4] [1 * v5 + 0, 1 * v6 + 0, 1 * v4 + 0, 1 * v4 + 0, 0] ∧ zk_S 35 [r5, r2, r3, r4] [1 * v5 + 0, 1 * v6 + 0, 1 * v4 + 0, 1 * v4 + 0] ∧ True) ∧ True := by
  simp only [zq_2, zq_24, zq_35, zq_36, Int.one_mul, Int.add_zero, and_true, true_and] at *
  subst h0
  refine ⟨fun b s hb hs h => ?_, fun b hb hb2 => by omega⟩
  have eb : (b : Int) = v4 := by omega
  rw [show v4.toNat - b = 0 by omega]
  show 0 ≤ (if 9 * b + s = v0.toNat then v1 else r1 (9 * b + s)) ∧ ∀ x : Int, 0 ≤ x → x ≤ 99 → ((if 9 * b + s = v0.toNat then v1 else r1 (9 * b + s)) ≤ x ↔ (s : Int) ≤ 0)
  by_cases e : 9 * b + s = v0.toNat
  · simp only [if_pos e]
    exact ⟨by omega, fun x x0 x9 => ⟨fun _ => by omega, fun _ => by omega⟩⟩
  · simp only [if_neg e]
    rw [h1 (9 * b + s) (by omega)]
    exact ⟨by omega, fun x x0 x9 => ⟨fun _ => by omega, fun _ => by omega⟩⟩
def zd_36i_w0 : zi_A := ([((2, [(3036, [])], []), 1, 2), ((24, [(5000, [])], []), 0, 2)], [([((5002, []), 1)], (-54)), ([((5003, []), 1)], (-1000)), ([((5003, []), (-1))], 1000), ([((5000, []), 1), ((4001, [0]), (-9))], 0), ([((5000, []), (-1)), ((4001, [0]), 9)], 0), ([((5001, []), 1)], 0), ([((5001, []), (-1))], 0), ([((4001, [0]), 1)], 0), ([((4001, [0]), (-1))], 5)], [], [(36, [(3036, []), (3007, []), (3006, []), (3004, [])], [([((4001, [1]), 1)], 0), ([((4001, [4]), 1)], 0), ([((4001, [0]), 1)], 0), ([((4001, [0]), 1)], 0), ([], 0)]), (35, [(3035, []), (3007, []), (3006, []), (3004, [])], [([((4001, [1]), 1)], 0), ([((4001, [4]), 1)], 0), ([((4001, [0]), 1)], 0), ([((4001, [0]), 1)], 0)])], [])
theorem zd_36i_k0 : zi_ok zd_36i_w0 := fun ρ ν => @zd_36i_m0 (ρ (3036, [])) (ρ (5000, [])) (ρ (3007, [])) (ρ (3006, [])) (ρ (3004, [])) (ρ (3035, [])) (ν (5000, [])) (ν (5001, [])) (ν (5002, [])) (ν (5003, [])) (ν (4001, [0])) (ν (4001, [1])) (ν (4001, [4]))
def zd_36i : List zi_A := [zd_36i_w0]
theorem zd_36i_ok : ∀ A ∈ zd_36i, zi_ok A := List.forall_mem_cons.mpr ⟨zd_36i_k0, fun _ h => absurd h List.not_mem_nil⟩

theorem zd_35_m0 {r0 r1 r2 r3 r4 : Nat → Int} {v0 v1 v2 v3 : Int} (h0 : zk_S 34 [r0, r1, r2, r3] [1 * v0 + 0, 1 * v1 + 0, 1 * v2 + 0]) (h1 : zk_S 65 [r0, r4] [9 * v2 + 0, 9 * v2 + 9]) (h2 : zk_S 35 [r4, r1, r2, r3] [1 * v0 + 0, 1 * v1 + 0, 1 * v3 + 0, 1 * v2 + 1]) (c0 : 0 ≤ 1 * v2 + 0) (c1 : 0 ≤ 1 * v3 + ((-1) * v2 + (-1))) : (zk_S 35 [r0, r1, r2, r3] [1 * v0 + 0, 1 * v1 + 0, 1 * v3 + 0, 1 * v2 + 0] ∧ True) ∧ True := by
  simp only [zq_34, zq_35, zq_65, Int.one_mul, Int.add_zero, and_true, true_and] at *
  intro b hb hb2
  by_cases e : (b : Int) = v2
  · unfold zd_k34 at h0
    rw [show v2.toNat = b by omega] at h0
    exact h0
  · have q := h2 b (by omega) hb2
    intro i hi
    show 0 ≤ r0 (9 * b + i) ∧ ∀ x : Int, 0 ≤ x → x ≤ 99 → (r0 (9 * b + i) ≤ x ↔ (i : Int) ≤ zd_S r1 r2 r3 v0 v1 b x)
    rw [h1 (9 * b + i) (by omega)]
    exact q i hi
def zd_35_w0 : zi_A := ([((34, [(3035, []), (3007, []), (3006, []), (3004, [])], [([((4001, [1]), 1)], 0), ([((4001, [4]), 1)], 0), ([((3, []), 1)], 0)]), 0, 0), ((65, [(3035, [])], [([((3, []), 9)], 0), ([((3, []), 9)], 9)]), 1, 0), ((35, [(5000, []), (3007, []), (3006, []), (3004, [])], [([((4001, [1]), 1)], 0), ([((4001, [4]), 1)], 0), ([((4001, [0]), 1)], 0), ([((3, []), 1)], 1)]), 0, 0)], [([((3, []), 1)], 0), ([((4001, [0]), 1), ((3, []), (-1))], (-1))], [], [(35, [(3035, []), (3007, []), (3006, []), (3004, [])], [([((4001, [1]), 1)], 0), ([((4001, [4]), 1)], 0), ([((4001, [0]), 1)], 0), ([((3, []), 1)], 0)])], [])
theorem zd_35_k0 : zi_ok zd_35_w0 := fun ρ ν => @zd_35_m0 (ρ (3035, [])) (ρ (3007, [])) (ρ (3006, [])) (ρ (3004, [])) (ρ (5000, [])) (ν (4001, [1])) (ν (4001, [4])) (ν (3, [])) (ν (4001, [0]))
def zd_35 : List zi_A := [zd_35_w0]
theorem zd_35_ok : ∀ A ∈ zd_35, zi_ok A := List.forall_mem_cons.mpr ⟨zd_35_k0, fun _ h => absurd h List.not_mem_nil⟩

theorem zd_27i_m0 {r0 r1 : Nat → Int} {v0 v1 v2 : Int} (c0 : 0 ≤ 1 * v0 + (-1000)) (c1 : 0 ≤ (-1) * v0 + 1000) : (zk_S 27 [r0, r1] [1 * v1 + 0, 1 * v2 + 0, 0, 1 * v0 + 0] ∧ True) ∧ True := by
  simp only [zq_27, Int.one_mul, Int.add_zero, and_true, true_and] at *
  unfold zd_k27
  show v0 = 1000
  omega
def zd_27i_w0 : zi_A := ([], [([((3, []), 1)], (-1000)), ([((3, []), (-1))], 1000)], [], [(27, [(3035, []), (3036, [])], [([((1, []), 1)], 0), ([((2, []), 1)], 0), ([], 0), ([((3, []), 1)], 0)])], [])
theorem zd_27i_k0 : zi_ok zd_27i_w0 := fun ρ ν => @zd_27i_m0 (ρ (3035, [])) (ρ (3036, [])) (ν (3, [])) (ν (1, [])) (ν (2, []))
def zd_27i : List zi_A := [zd_27i_w0]
theorem zd_27i_ok : ∀ A ∈ zd_27i, zi_ok A := List.forall_mem_cons.mpr ⟨zd_27i_k0, fun _ h => absurd h List.not_mem_nil⟩

theorem zd_27s_m0 {r0 r1 : Nat → Int} {v0 v1 v2 v3 v4 v5 v6 : Int} (h0 : zk_S 27 [r0, r1] [1 * v0 + 0, 1 * v1 + 0, 1 * v2 + 0, v3]) (h1 : zk_S 1 [r0] [9 * v0 + (1 * v2 + 0), v4]) (h2 : zk_S 1 [r1] [9 * v0 + (1 * v1 + ((-1) * v2 + 9)), v5]) (c0 : 0 ≤ 1 * v0 + 0) (c1 : 0 ≤ 1 * v2 + 0) (c2 : 0 ≤ 1 * v1 + ((-1) * v2 + 0)) (c3 : 0 ≤ 1 * v6 + ((-1) * v4 + ((-1) * v5 + 0))) (c4 : 0 ≤ (-1) * v6 + (1 * v4 + (1 * v5 + 0))) (c5 : 0 ≤ 1 * v3 + ((-1) * v4 + ((-1) * v5 + 0))) : (zk_S 27 [r0, r1] [1 * v0 + 0, 1 * v1 + 0, 1 * v2 + 1, 1 * v6 + 0] ∧ True) ∧ True := by
  simp only [zq_1, zq_27, Int.one_mul, Int.add_zero, and_true, true_and] at *
  unfold zd_k27 at h0 ⊢
  have k : zd_mn (fun i => r0 (9 * v0.toNat + i)) (fun j => r1 (9 * (v0.toNat + 1) + j)) v1.toNat (v2.toNat + 1) = zd_min (zd_mn (fun i => r0 (9 * v0.toNat + i)) (fun j => r1 (9 * (v0.toNat + 1) + j)) v1.toNat v2.toNat) (r0 (9 * v0.toNat + v2.toNat) + r1 (9 * (v0.toNat + 1) + (v1.toNat - v2.toNat))) := rfl
  rw [show (v2 + 1).toNat = v2.toNat + 1 by omega, k, ← h0, show 9 * v0.toNat + v2.toNat = (9 * v0 + v2).toNat by omega, h1, show 9 * (v0.toNat + 1) + (v1.toNat - v2.toNat) = (9 * v0 + (v1 + ((-1) * v2 + 9))).toNat by omega, h2]
  unfold zd_min
  split <;> omega
def zd_27s_w0 : zi_A := ([((27, [(3035, []), (3036, [])], [([((1, []), 1)], 0), ([((2, []), 1)], 0), ([((4, []), 1)], 0)]), 0, 1), ((1, [(3035, [])], [([((1, []), 9), ((4, []), 1)], 0)]), 0, 1), ((1, [(3036, [])], [([((1, []), 9), ((2, []), 1), ((4, []), (-1))], 9)]), 0, 1)], [([((1, []), 1)], 0), ([((4, []), 1)], 0), ([((2, []), 1), ((4, []), (-1))], 0), ([((3, []), 1), ((5001, []), (-1)), ((5002, []), (-1))], 0), ([((3, []), (-1)), ((5001, []), 1), ((5002, []), 1)], 0), ([((5000, []), 1), ((5001, []), (-1)), ((5002, []), (-1))], 0)], [], [(27, [(3035, []), (3036, [])], [([((1, []), 1)], 0), ([((2, []), 1)], 0), ([((4, []), 1)], 1), ([((3, []), 1)], 0)])], [])
theorem zd_27s_k0 : zi_ok zd_27s_w0 := fun ρ ν => @zd_27s_m0 (ρ (3035, [])) (ρ (3036, [])) (ν (1, [])) (ν (2, [])) (ν (4, [])) (ν (5000, [])) (ν (5001, [])) (ν (5002, [])) (ν (3, []))
theorem zd_27s_m1 {r0 r1 : Nat → Int} {v0 v1 v2 v3 v4 v5 v6 : Int} (h0 : zk_S 27 [r0, r1] [1 * v0 + 0, 1 * v1 + 0, 1 * v2 + 0, v3]) (h1 : zk_S 1 [r0] [9 * v0 + (1 * v2 + 0), v4]) (h2 : zk_S 1 [r1] [9 * v0 + (1 * v1 + ((-1) * v2 + 9)), v5]) (c0 : 0 ≤ 1 * v0 + 0) (c1 : 0 ≤ 1 * v2 + 0) (c2 : 0 ≤ 1 * v1 + ((-1) * v2 + 0)) (c3 : 0 ≤ 1 * v6 + ((-1) * v3 + 0)) (c4 : 0 ≤ (-1) * v6 + (1 * v3 + 0)) (c5 : 0 ≤ 1 * v4 + (1 * v5 + ((-1) * v3 + 0))) : (zk_S 27 [r0, r1] [1 * v0 + 0, 1 * v1 + 0, 1 * v2 + 1, 1 * v6 + 0] ∧ True) ∧ True := by
  simp only [zq_1, zq_27, Int.one_mul, Int.add_zero, and_true, true_and] at *
  unfold zd_k27 at h0 ⊢
  have k : zd_mn (fun i => r0 (9 * v0.toNat + i)) (fun j => r1 (9 * (v0.toNat + 1) + j)) v1.toNat (v2.toNat + 1) = zd_min (zd_mn (fun i => r0 (9 * v0.toNat + i)) (fun j => r1 (9 * (v0.toNat + 1) + j)) v1.toNat v2.toNat) (r0 (9 * v0.toNat + v2.toNat) + r1 (9 * (v0.toNat + 1) + (v1.toNat - v2.toNat))) := rfl
  rw [show (v2 + 1).toNat = v2.toNat + 1 by omega, k, ← h0, show 9 * v0.toNat + v2.toNat = (9 * v0 + v2).toNat by omega, h1, show 9 * (v0.toNat + 1) + (v1.toNat - v2.toNat) = (9 * v0 + (v1 + ((-1) * v2 + 9))).toNat by omega, h2]
  unfold zd_min
  split <;> omega
def zd_27s_w1 : zi_A := ([((27, [(3035, []), (3036, [])], [([((1, []), 1)], 0), ([((2, []), 1)], 0), ([((4, []), 1)], 0)]), 0, 1), ((1, [(3035, [])], [([((1, []), 9), ((4, []), 1)], 0)]), 0, 1), ((1, [(3036, [])], [([((1, []), 9), ((2, []), 1), ((4, []), (-1))], 9)]), 0, 1)], [([((1, []), 1)], 0), ([((4, []), 1)], 0), ([((2, []), 1), ((4, []), (-1))], 0), ([((3, []), 1), ((5000, []), (-1))], 0), ([((3, []), (-1)), ((5000, []), 1)], 0), ([((5001, []), 1), ((5002, []), 1), ((5000, []), (-1))], 0)], [], [(27, [(3035, []), (3036, [])], [([((1, []), 1)], 0), ([((2, []), 1)], 0), ([((4, []), 1)], 1), ([((3, []), 1)], 0)])], [])
theorem zd_27s_k1 : zi_ok zd_27s_w1 := fun ρ ν => @zd_27s_m1 (ρ (3035, [])) (ρ (3036, [])) (ν (1, [])) (ν (2, [])) (ν (4, [])) (ν (5000, [])) (ν (5001, [])) (ν (5002, [])) (ν (3, []))
def zd_27s : List zi_A := [zd_27s_w0, zd_27s_w1]
theorem zd_27s_ok : ∀ A ∈ zd_27s, zi_ok A := List.forall_mem_cons.mpr ⟨zd_27s_k0, List.forall_mem_cons.mpr ⟨zd_27s_k1, fun _ h => absurd h List.not_mem_nil⟩⟩

theorem zd_36s_m0 {r0 r1 r2 r3 r4 r5 : Nat → Int} {v0 v1 v2 v3 v4 v5 v6 v7 : Int} (h0 : zk_S 2 [r0, r1] [v0, v1]) (h1 : zk_S 36 [r1, r2, r3, r4] [1 * v2 + 0, 1 * v3 + 0, 1 * v4 + 0, 1 * v5 + 1, 1 * v6 + 0]) (h2 : zk_S 35 [r5, r2, r3, r4] [1 * v2 + 0, 1 * v3 + 0, 1 * v4 + 0, 1 * v5 + 0]) (h3 : zk_S 27 [r5, r1] [1 * v5 + 0, 1 * v6 + 0, 1 * v6 + 1, v7]) (c0 : 0 ≤ 1 * v1 + ((-1) * v7 + 0)) (c1 : 0 ≤ (-1) * v1 + (1 * v7 + 0)) (c2 : 0 ≤ 1 * v0 + ((-9) * v5 + ((-1) * v6 + 0))) (c3 : 0 ≤ (-1) * v0 + (9 * v5 + (1 * v6 + 0))) (c4 : 0 ≤ 1 * v5 + 0) (c5 : 0 ≤ 1 * v4 + ((-1) * v5 + (-1))) (c6 : 0 ≤ 1 * v6 + 0) (c7 : 0 ≤ (-1) * v6 + 8) : (zk_S 36 [r0, r2, r3, r4] [1 * v2 + 0, 1 * v3 + 0, 1 * v4 + 0, 1 * v5 + 1, 1 * v6 + 1] ∧ True) ∧ True := by
  simp only [zq_2, zq_27, zq_35, zq_36, Int.one_mul, Int.add_zero, and_true, true_and] at *
  subst h0
  intro b s hb hs h
  show 0 ≤ (if 9 * b + s = v0.toNat then v1 else r1 (9 * b + s)) ∧ ∀ x : Int, 0 ≤ x → x ≤ 99 → ((if 9 * b + s = v0.toNat then v1 else r1 (9 * b + s)) ≤ x ↔ (s : Int) ≤ zd_bd (zd_S r2 r3 r4 v2 v3) v4.toNat (v4.toNat - b) x)
  by_cases e : 9 * b + s = v0.toNat
  · have eb : (b : Int) = v5 := by omega
    have es : (s : Int) = v6 := by omega
    simp only [if_pos e]
    have hp := h2 b (by omega) (by omega)
    have hl : zd_HP (fun j => r1 (9 * (b + 1) + j)) (zd_bd (zd_S r2 r3 r4 v2 v3) v4.toNat (v4.toNat - (b + 1))) := fun j hj => h1 (b + 1) j (by omega) hj (Or.inl (by omega))
    have st := zd_step hp hl (zd_S_0 b) (fun x => zd_bd_0) s hs
    have ev : v1 = zd_mn (fun i => r5 (9 * b + i)) (fun j => r1 (9 * (b + 1) + j)) s (s + 1) := by
      unfold zd_k27 at h3
      rw [show v5.toNat = b by omega, show v6.toNat = s by omega, show (v6 + 1).toNat = s + 1 by omega] at h3
      omega
    rw [ev]
    refine ⟨st.1, fun x x0 x9 => ?_⟩
    rw [zd_bd_b (b := b) (by omega)]
    exact st.2 x x0 x9
  · simp only [if_neg e]
    exact h1 b s hb hs (by omega)
def zd_36s_w0 : zi_A := ([((2, [(3036, [])], []), 1, 2), ((36, [(5000, []), (3007, []), (3006, []), (3004, [])], [([((4001, [1]), 1)], 0), ([((4001, [4]), 1)], 0), ([((4001, [0]), 1)], 0), ([((3, []), 1)], 1), ([((4, []), 1)], 0)]), 0, 0), ((35, [(3035, []), (3007, []), (3006, []), (3004, [])], [([((4001, [1]), 1)], 0), ([((4001, [4]), 1)], 0), ([((4001, [0]), 1)], 0), ([((3, []), 1)], 0)]), 0, 0), ((27, [(3035, []), (5000, [])], [([((3, []), 1)], 0), ([((4, []), 1)], 0), ([((4, []), 1)], 1)]), 0, 1)], [([((5001, []), 1), ((5002, []), (-1))], 0), ([((5001, []), (-1)), ((5002, []), 1)], 0), ([((5000, []), 1), ((3, []), (-9)), ((4, []), (-1))], 0), ([((5000, []), (-1)), ((3, []), 9), ((4, []), 1)], 0), ([((3, []), 1)], 0), ([((4001, [0]), 1), ((3, []), (-1))], (-1)), ([((4, []), 1)], 0), ([((4, []), (-1))], 8)], [], [(36, [(3036, []), (3007, []), (3006, []), (3004, [])], [([((4001, [1]), 1)], 0), ([((4001, [4]), 1)], 0), ([((4001, [0]), 1)], 0), ([((3, []), 1)], 1), ([((4, []), 1)], 1)])], [])
theorem zd_36s_k0 : zi_ok zd_36s_w0 := fun ρ ν => @zd_36s_m0 (ρ (3036, [])) (ρ (5000, [])) (ρ (3007, [])) (ρ (3006, [])) (ρ (3004, [])) (ρ (3035, [])) (ν (5000, [])) (ν (5001, [])) (ν (4001, [1])) (ν (4001, [4])) (ν (4001, [0])) (ν (3, [])) (ν (4, [])) (ν (5002, []))
def zd_36s : List zi_A := [zd_36s_w0]
theorem zd_36s_ok : ∀ A ∈ zd_36s, zi_ok A := List.forall_mem_cons.mpr ⟨zd_36s_k0, fun _ h => absurd h List.not_mem_nil⟩

theorem zd_36b_m0 {r0 r1 r2 r3 : Nat → Int} {v0 v1 v2 v3 v4 : Int} (h0 : zk_S 36 [r0, r1, r2, r3] [1 * v0 + 0, 1 * v1 + 0, 1 * v2 + 0, 1 * v3 + 1, 1 * v4 + 0]) (c0 : 0 ≤ 1 * v4 + (-9)) : (zk_S 36 [r0, r1, r2, r3] [1 * v0 + 0, 1 * v1 + 0, 1 * v2 + 0, 1 * v3 + 0, 0] ∧ True) ∧ True := by
  simp only [zq_36, Int.one_mul, Int.add_zero, and_true, true_and] at *
  intro b s hb hs h
  exact h0 b s hb hs (by omega)
def zd_36b_w0 : zi_A := ([((36, [(3036, []), (3007, []), (3006, []), (3004, [])], [([((4001, [1]), 1)], 0), ([((4001, [4]), 1)], 0), ([((4001, [0]), 1)], 0), ([((3, []), 1)], 1), ([((4, []), 1)], 0)]), 0, 0)], [([((4, []), 1)], (-9))], [], [(36, [(3036, []), (3007, []), (3006, []), (3004, [])], [([((4001, [1]), 1)], 0), ([((4001, [4]), 1)], 0), ([((4001, [0]), 1)], 0), ([((3, []), 1)], 0), ([], 0)])], [])
theorem zd_36b_k0 : zi_ok zd_36b_w0 := fun ρ ν => @zd_36b_m0 (ρ (3036, [])) (ρ (3007, [])) (ρ (3006, [])) (ρ (3004, [])) (ν (4001, [1])) (ν (4001, [4])) (ν (4001, [0])) (ν (3, [])) (ν (4, []))
def zd_36b : List zi_A := [zd_36b_w0]
theorem zd_36b_ok : ∀ A ∈ zd_36b, zi_ok A := List.forall_mem_cons.mpr ⟨zd_36b_k0, fun _ h => absurd h List.not_mem_nil⟩

theorem zd_31i_m0 {r0 : Nat → Int} {v0 : Int}  : (zk_S 31 [r0] [1 * v0 + 0, 1, 0] ∧ True) ∧ True := by
  simp only [zq_31, Int.one_mul, Int.add_zero, and_true, true_and] at *
  exact (rfl : (0 : Int) = zd_ms r0 v0 0)
def zd_31i_w0 : zi_A := ([], [], [], [(31, [(3036, [])], [([((2, []), 1)], 0), ([], 1), ([], 0)])], [])
theorem zd_31i_k0 : zi_ok zd_31i_w0 := fun ρ ν => @zd_31i_m0 (ρ (3036, [])) (ν (2, []))
def zd_31i : List zi_A := [zd_31i_w0]
theorem zd_31i_ok : ∀ A ∈ zd_31i, zi_ok A := List.forall_mem_cons.mpr ⟨zd_31i_k0, fun _ h => absurd h List.not_mem_nil⟩

theorem zd_31s_m0 {r0 : Nat → Int} {v0 v1 v2 v3 v4 : Int} (h0 : zk_S 31 [r0] [1 * v0 + 0, 1 * v1 + 0, v2]) (h1 : zk_S 1 [r0] [1 * v1 + 0, v3]) (c0 : 0 ≤ 1 * v0 + ((-1) * v3 + 0)) (c1 : 0 ≤ 1 * v1 + (-1)) (c2 : 0 ≤ 1 * v4 + ((-1) * v1 + 0)) (c3 : 0 ≤ (-1) * v4 + (1 * v1 + 0)) : (zk_S 31 [r0] [1 * v0 + 0, 1 * v1 + 1, 1 * v4 + 0] ∧ True) ∧ True := by
  simp only [zq_1, zq_31, Int.one_mul, Int.add_zero, and_true, true_and] at *
  unfold zd_k31 at h0 ⊢
  rw [show (v1 + 1 - 1).toNat = (v1 - 1).toNat + 1 by omega]
  show v4 = if r0 ((v1 - 1).toNat + 1) ≤ v0 then (((v1 - 1).toNat + 1 : Nat) : Int) else zd_ms r0 v0 (v1 - 1).toNat
  rw [← h0, show (v1 - 1).toNat + 1 = v1.toNat by omega, h1, if_pos (by omega)]
  omega
def zd_31s_w0 : zi_A := ([((31, [(3036, [])], [([((2, []), 1)], 0), ([((4, []), 1)], 0)]), 0, 1), ((1, [(3036, [])], [([((4, []), 1)], 0)]), 0, 1)], [([((2, []), 1), ((5001, []), (-1))], 0), ([((4, []), 1)], (-1)), ([((3, []), 1), ((4, []), (-1))], 0), ([((3, []), (-1)), ((4, []), 1)], 0)], [], [(31, [(3036, [])], [([((2, []), 1)], 0), ([((4, []), 1)], 1), ([((3, []), 1)], 0)])], [])
theorem zd_31s_k0 : zi_ok zd_31s_w0 := fun ρ ν => @zd_31s_m0 (ρ (3036, [])) (ν (2, [])) (ν (4, [])) (ν (5000, [])) (ν (5001, [])) (ν (3, []))
theorem zd_31s_m1 {r0 : Nat → Int} {v0 v1 v2 v3 v4 : Int} (h0 : zk_S 31 [r0] [1 * v0 + 0, 1 * v1 + 0, v2]) (h1 : zk_S 1 [r0] [1 * v1 + 0, v3]) (c0 : 0 ≤ 1 * v3 + ((-1) * v0 + (-1))) (c1 : 0 ≤ 1 * v1 + (-1)) (c2 : 0 ≤ 1 * v4 + ((-1) * v2 + 0)) (c3 : 0 ≤ (-1) * v4 + (1 * v2 + 0)) : (zk_S 31 [r0] [1 * v0 + 0, 1 * v1 + 1, 1 * v4 + 0] ∧ True) ∧ True := by
  simp only [zq_1, zq_31, Int.one_mul, Int.add_zero, and_true, true_and] at *
  unfold zd_k31 at h0 ⊢
  rw [show (v1 + 1 - 1).toNat = (v1 - 1).toNat + 1 by omega]
  show v4 = if r0 ((v1 - 1).toNat + 1) ≤ v0 then (((v1 - 1).toNat + 1 : Nat) : Int) else zd_ms r0 v0 (v1 - 1).toNat
  rw [← h0, show (v1 - 1).toNat + 1 = v1.toNat by omega, h1, if_neg (by omega)]
  omega
def zd_31s_w1 : zi_A := ([((31, [(3036, [])], [([((2, []), 1)], 0), ([((4, []), 1)], 0)]), 0, 1), ((1, [(3036, [])], [([((4, []), 1)], 0)]), 0, 1)], [([((5001, []), 1), ((2, []), (-1))], (-1)), ([((4, []), 1)], (-1)), ([((3, []), 1), ((5000, []), (-1))], 0), ([((3, []), (-1)), ((5000, []), 1)], 0)], [], [(31, [(3036, [])], [([((2, []), 1)], 0), ([((4, []), 1)], 1), ([((3, []), 1)], 0)])], [])
theorem zd_31s_k1 : zi_ok zd_31s_w1 := fun ρ ν => @zd_31s_m1 (ρ (3036, [])) (ν (2, [])) (ν (4, [])) (ν (5000, [])) (ν (5001, [])) (ν (3, []))
def zd_31s : List zi_A := [zd_31s_w0, zd_31s_w1]
theorem zd_31s_ok : ∀ A ∈ zd_31s, zi_ok A := List.forall_mem_cons.mpr ⟨zd_31s_k0, List.forall_mem_cons.mpr ⟨zd_31s_k1, fun _ h => absurd h List.not_mem_nil⟩⟩

theorem zd_38m_m0 {r0 r1 r2 r3 : Nat → Int} {v0 v1 v2 v3 v4 : Int} (h0 : zk_S 31 [r0] [1 * v0 + 0, 9, 1 * v1 + 0]) (h1 : zk_S 36 [r0, r1, r2, r3] [1 * v2 + 0, 1 * v3 + 0, 1 * v4 + 0, 0, 0]) (c0 : 0 ≤ 1 * v0 + 0) (c1 : 0 ≤ (-1) * v0 + 99) (c2 : 0 ≤ (-1) * v2 + 8) (c3 : 0 ≤ 1 * v4 + 0) : (zk_S 38 [r1, r2, r3] [1 * v2 + 0, 1 * v3 + 0, 1 * v4 + 0, 1 * v0 + 0, (-1), 1 * v1 + 0] ∧ True) ∧ True := by
  simp only [zq_31, zq_36, zq_38, Int.one_mul, Int.add_zero, and_true, true_and] at *
  have d8 := zd_bd_8 (bed := r1) (needs := r2) (blue := r3) (boys := v2) (limit := v3) (n := v4.toNat) (m := v4.toNat) (Nat.le_refl _) (by omega) (left := v0)
  have d0 := zd_bd_0 (S := zd_S r1 r2 r3 v2 v3) (n := v4.toNat) (m := v4.toNat) (left := v0)
  have q := zd_ms_eq (l := r0) (v := v0) d0 (j := 8) fun s s1 s8 => by
    have w := (h1 0 s (by omega) s8 (by omega)).2 v0 (by omega) (by omega)
    rw [show 9 * 0 + s = s by omega, show v4.toNat - 0 = v4.toNat from rfl] at w
    exact w
  unfold zd_k38 zd_R
  unfold zd_k31 at h0
  rw [if_neg (by omega), h0, show ((9 : Int) - 1).toNat = 8 from rfl, q]
  exact if_pos d8
def zd_38m_w0 : zi_A := ([((31, [(3036, [])], [([((2, []), 1)], 0), ([], 9), ([((3, []), 1)], 0)]), 0, 0), ((36, [(3036, []), (3007, []), (3006, []), (3004, [])], [([((4001, [1]), 1)], 0), ([((4001, [4]), 1)], 0), ([((4001, [0]), 1)], 0), ([], 0), ([], 0)]), 0, 0)], [([((2, []), 1)], 0), ([((2, []), (-1))], 99), ([((4001, [1]), (-1))], 8), ([((4001, [0]), 1)], 0)], [], [(38, [(3007, []), (3006, []), (3004, [])], [([((4001, [1]), 1)], 0), ([((4001, [4]), 1)], 0), ([((4001, [0]), 1)], 0), ([((2, []), 1)], 0), ([], (-1)), ([((3, []), 1)], 0)])], [])
theorem zd_38m_k0 : zi_ok zd_38m_w0 := fun ρ ν => @zd_38m_m0 (ρ (3036, [])) (ρ (3007, [])) (ρ (3006, [])) (ρ (3004, [])) (ν (2, [])) (ν (3, [])) (ν (4001, [1])) (ν (4001, [4])) (ν (4001, [0]))
def zd_38m : List zi_A := [zd_38m_w0]
theorem zd_38m_ok : ∀ A ∈ zd_38m, zi_ok A := List.forall_mem_cons.mpr ⟨zd_38m_k0, fun _ h => absurd h List.not_mem_nil⟩

theorem zd_37i_m0 {r0 r1 r2 r3 : Nat → Int} {v0 v1 v2 v3 v4 v5 v6 : Int} (h0 : zk_S 38 [r0, r1, r2] [1 * v0 + 0, 1 * v1 + 0, 1 * v2 + 0, 1 * v3 + 0, (-1), 1 * v4 + 0]) (c0 : 0 ≤ 1 * v5 + ((-1) * v3 + 0)) (c1 : 0 ≤ (-1) * v5 + (1 * v3 + 0)) (c2 : 0 ≤ 1 * v6 + ((-1) * v4 + 0)) (c3 : 0 ≤ (-1) * v6 + (1 * v4 + 0)) (c4 : 0 ≤ 1 * v2 + 0) : (zk_S 37 [r3, r0, r1, r2] [1 * v0 + 0, 1 * v1 + 0, 1 * v2 + 0, 1 * v3 + 0, 0, 1 * v5 + 0, 1 * v6 + 0] ∧ True) ∧ True := by
  simp only [zq_37, zq_38, Int.one_mul, Int.add_zero, and_true, true_and] at *
  unfold zd_k38 zd_R at h0
  rw [if_neg (by omega)] at h0
  refine ⟨?_, ?_, fun j hj => by omega⟩
  · show v5 = v3
    omega
  · show v6 = zd_bd (zd_S r0 r1 r2 v0 v1) v2.toNat v2.toNat v5
    rw [show v5 = v3 by omega, ← h0]
    omega
def zd_37i_w0 : zi_A := ([((38, [(3007, []), (3006, []), (3004, [])], [([((4001, [1]), 1)], 0), ([((4001, [4]), 1)], 0), ([((4001, [0]), 1)], 0), ([((2, []), 1)], 0), ([], (-1)), ([((3, []), 1)], 0)]), 0, 0)], [([((4, []), 1), ((2, []), (-1))], 0), ([((4, []), (-1)), ((2, []), 1)], 0), ([((5, []), 1), ((3, []), (-1))], 0), ([((5, []), (-1)), ((3, []), 1)], 0), ([((4001, [0]), 1)], 0)], [], [(37, [(3034, []), (3007, []), (3006, []), (3004, [])], [([((4001, [1]), 1)], 0), ([((4001, [4]), 1)], 0), ([((4001, [0]), 1)], 0), ([((2, []), 1)], 0), ([], 0), ([((4, []), 1)], 0), ([((5, []), 1)], 0)])], [])
theorem zd_37i_k0 : zi_ok zd_37i_w0 := fun ρ ν => @zd_37i_m0 (ρ (3007, [])) (ρ (3006, [])) (ρ (3004, [])) (ρ (3034, [])) (ν (4001, [1])) (ν (4001, [4])) (ν (4001, [0])) (ν (2, [])) (ν (3, [])) (ν (4, [])) (ν (5, []))
def zd_37i : List zi_A := [zd_37i_w0]
theorem zd_37i_ok : ∀ A ∈ zd_37i, zi_ok A := List.forall_mem_cons.mpr ⟨zd_37i_k0, fun _ h => absurd h List.not_mem_nil⟩

theorem zd_29i_m0 {r0 r1 : Nat → Int} {v0 v1 v2 : Int}  : (zk_S 29 [r0, r1] [1 * v0 + 0, 1 * v1 + 0, 1 * v2 + 0, 0] ∧ True) ∧ True := by
  simp only [zq_29, Int.one_mul, Int.add_zero, and_true, true_and] at *
  unfold zd_k29
  intro i hi
  omega
def zd_29i_w0 : zi_A := ([], [], [], [(29, [(3035, []), (3036, [])], [([((6, []), 1)], 0), ([((4, []), 1)], 0), ([((5, []), 1)], 0), ([], 0)])], [])
theorem zd_29i_k0 : zi_ok zd_29i_w0 := fun ρ ν => @zd_29i_m0 (ρ (3035, [])) (ρ (3036, [])) (ν (6, [])) (ν (4, [])) (ν (5, []))
def zd_29i : List zi_A := [zd_29i_w0]
theorem zd_29i_ok : ∀ A ∈ zd_29i, zi_ok A := List.forall_mem_cons.mpr ⟨zd_29i_k0, fun _ h => absurd h List.not_mem_nil⟩

theorem zd_29s_m0 {r0 r1 : Nat → Int} {v0 v1 v2 v3 v4 v5 : Int} (h0 : zk_S 29 [r0, r1] [1 * v0 + 0, 1 * v1 + 0, 1 * v2 + 0, 1 * v3 + 0]) (h1 : zk_S 1 [r0] [9 * v0 + (1 * v3 + 0), v4]) (h2 : zk_S 1 [r1] [9 * v0 + (1 * v2 + ((-1) * v3 + 9)), v5]) (c0 : 0 ≤ 1 * v4 + (1 * v5 + ((-1) * v1 + (-1)))) (c1 : 0 ≤ 1 * v0 + 0) (c2 : 0 ≤ 1 * v3 + 0) (c3 : 0 ≤ 1 * v2 + ((-1) * v3 + 0)) : (zk_S 29 [r0, r1] [1 * v0 + 0, 1 * v1 + 0, 1 * v2 + 0, 1 * v3 + 1] ∧ True) ∧ True := by
  simp only [zq_1, zq_29, Int.one_mul, Int.add_zero, and_true, true_and] at *
  unfold zd_k29 at h0 ⊢
  intro i hi
  by_cases e : (i : Int) < v3
  · exact h0 i e
  · have ei : i = v3.toNat := by omega
    rw [ei, show 9 * v0.toNat + v3.toNat = (9 * v0 + v3).toNat by omega, h1, show 9 * (v0.toNat + 1) + (v2.toNat - v3.toNat) = (9 * v0 + (v2 + ((-1) * v3 + 9))).toNat by omega, h2]
    omega
def zd_29s_w0 : zi_A := ([((29, [(3035, []), (3036, [])], [([((6, []), 1)], 0), ([((4, []), 1)], 0), ([((5, []), 1)], 0), ([((7, []), 1)], 0)]), 0, 0), ((1, [(3035, [])], [([((6, []), 9), ((7, []), 1)], 0)]), 0, 1), ((1, [(3036, [])], [([((6, []), 9), ((5, []), 1), ((7, []), (-1))], 9)]), 0, 1)], [([((5000, []), 1), ((5001, []), 1), ((4, []), (-1))], (-1)), ([((6, []), 1)], 0), ([((7, []), 1)], 0), ([((5, []), 1), ((7, []), (-1))], 0)], [], [(29, [(3035, []), (3036, [])], [([((6, []), 1)], 0), ([((4, []), 1)], 0), ([((5, []), 1)], 0), ([((7, []), 1)], 1)])], [])
theorem zd_29s_k0 : zi_ok zd_29s_w0 := fun ρ ν => @zd_29s_m0 (ρ (3035, [])) (ρ (3036, [])) (ν (6, [])) (ν (4, [])) (ν (5, [])) (ν (7, [])) (ν (5000, [])) (ν (5001, []))
def zd_29s : List zi_A := [zd_29s_w0]
theorem zd_29s_ok : ∀ A ∈ zd_29s, zi_ok A := List.forall_mem_cons.mpr ⟨zd_29s_k0, fun _ h => absurd h List.not_mem_nil⟩

theorem zd_37s_m0 {r0 r1 r2 r3 r4 r5 r6 : Nat → Int} {v0 v1 v2 v3 v4 v5 v6 v7 v8 v9 v10 : Int} (h0 : zk_S 2 [r0, r1] [v0, v1]) (h1 : zk_S 37 [r1, r2, r3, r4] [1 * v2 + 0, 1 * v3 + 0, 1 * v4 + 0, 1 * v5 + 0, 1 * v6 + 0, 1 * v7 + 0, 1 * v8 + 0]) (h2 : zk_S 29 [r5, r6] [1 * v6 + 0, 1 * v7 + 0, 1 * v8 + 0, 1 * v9 + 0]) (h3 : zk_S 35 [r5, r2, r3, r4] [1 * v2 + 0, 1 * v3 + 0, 1 * v4 + 0, 0]) (h4 : zk_S 36 [r6, r2, r3, r4] [1 * v2 + 0, 1 * v3 + 0, 1 * v4 + 0, 0, 0]) (h5 : zk_S 1 [r5] [9 * v6 + (1 * v9 + 0), v10]) (c0 : 0 ≤ 1 * v1 + ((-1) * v10 + 0)) (c1 : 0 ≤ (-1) * v1 + (1 * v10 + 0)) (c2 : 0 ≤ 1 * v0 + ((-1) * v6 + 0)) (c3 : 0 ≤ (-1) * v0 + (1 * v6 + 0)) (c4 : 0 ≤ 1 * v6 + 0) (c5 : 0 ≤ 1 * v4 + ((-1) * v6 + (-1))) (c6 : 0 ≤ 1 * v9 + 0) (c7 : 0 ≤ 1 * v8 + ((-1) * v9 + 0)) (c8 : 0 ≤ (-1) * v2 + 8) (c9 : 0 ≤ 1 * v5 + 0) (c10 : 0 ≤ (-1) * v5 + 99) (c11 : 0 ≤ 1 * v9 + ((-1) * v8 + 0)) : (zk_S 37 [r0, r2, r3, r4] [1 * v2 + 0, 1 * v3 + 0, 1 * v4 + 0, 1 * v5 + 0, 1 * v6 + 1, 1 * v7 + ((-1) * v10 + 0), 1 * v8 + ((-1) * v9 + 0)] ∧ True) ∧ 0 ≤ 1 * v10 + 0 ∧ 0 ≤ 1 * v7 + ((-1) * v10 + 0) ∧ True := by
  simp only [zq_1, zq_2, zq_29, zq_35, zq_36, zq_37, Int.one_mul, Int.add_zero, and_true, true_and] at *
  obtain ⟨a1, a2, a3⟩ := h1
  have l0 := zd_left_in (S := zd_S r2 r3 r4 v2 v3) (n := v4.toNat) (v := v5) (b := v6.toNat) (by omega) zd_S_0
  rw [← a1] at l0
  have hp := h3 v6.toNat (by omega) (by omega)
  have hl : zd_HP (fun j => r6 (9 * (v6.toNat + 1) + j)) (zd_bd (zd_S r2 r3 r4 v2 v3) v4.toNat (v4.toNat - (v6.toNat + 1))) := fun j hj => h4 (v6.toNat + 1) j (by omega) hj (Or.inl (by omega))
  have w8 := zd_bd_8 (bed := r2) (needs := r3) (blue := r4) (boys := v2) (limit := v3) (n := v4.toNat) (m := v4.toNat - v6.toNat) (by omega) (by omega) (left := v7)
  rw [← a2] at w8
  have hb := zd_bd_b (S := zd_S r2 r3 r4 v2 v3) (n := v4.toNat) (b := v6.toNat) (by omega) (left := v7)
  rw [← a2] at hb
  have e9 : r5 (9 * v6.toNat + v9.toNat) = v10 := by
    rw [show 9 * v6.toNat + v9.toNat = (9 * v6 + v9).toNat by omega]
    exact h5
  obtain ⟨k1, k2, k3, k4, k5⟩ := zd_hand hp hl (zd_S_0 v6.toNat) (fun x => zd_bd_0) (w := v8.toNat) (i := v9.toNat) (left := v7) l0.1 (by omega) (by omega) (by rw [← hb]; omega) (by omega) (Or.inl (by omega)) (fun i' hi' => h2 i' (by omega))
  simp only [e9] at k1 k2 k3 k4 k5
  have fx : zd_fx (zd_S r2 r3 r4 v2 v3 v6.toNat) (zd_bd (zd_S r2 r3 r4 v2 v3) v4.toNat (v4.toNat - (v6.toNat + 1))) v7 = v10 := zd_fx_eq k1 k2 (by rw [k3, ← hb]; omega) (fun y y0 y1 => by rw [← hb]; have := k5 y y0 y1; omega)
  subst h0
  refine ⟨⟨?_, ?_, fun j hj => ?_⟩, by omega, by omega⟩
  · rw [show (v6 + 1).toNat = v6.toNat + 1 by omega]
    show _ = zd_left (zd_S r2 r3 r4 v2 v3) v4.toNat v5 v6.toNat - zd_fx (zd_S r2 r3 r4 v2 v3 v6.toNat) (zd_bd (zd_S r2 r3 r4 v2 v3) v4.toNat (v4.toNat - (v6.toNat + 1))) (zd_left (zd_S r2 r3 r4 v2 v3) v4.toNat v5 v6.toNat)
    rw [← a1, fx]
    omega
  · rw [show (v6 + 1).toNat = v6.toNat + 1 by omega, show v7 + (-1) * v10 = v7 - v10 by omega, k4]
    omega
  · show (if j = v0.toNat then v1 else r1 j) = _
    by_cases e : j = v0.toNat
    · rw [if_pos e]
      unfold zd_R
      rw [if_pos (by omega), show ((j : Nat) : Int).toNat = v6.toNat by omega, ← a1, fx]
      omega
    · rw [if_neg e]
      exact a3 j (by omega)
def zd_37s_w0 : zi_A := ([((2, [(3034, [])], []), 1, 2), ((37, [(5000, []), (3007, []), (3006, []), (3004, [])], [([((4001, [1]), 1)], 0), ([((4001, [4]), 1)], 0), ([((4001, [0]), 1)], 0), ([((2, []), 1)], 0), ([((6, []), 1)], 0), ([((4, []), 1)], 0), ([((5, []), 1)], 0)]), 0, 0), ((29, [(3035, []), (3036, [])], [([((6, []), 1)], 0), ([((4, []), 1)], 0), ([((5, []), 1)], 0), ([((7, []), 1)], 0)]), 0, 0), ((35, [(3035, []), (3007, []), (3006, []), (3004, [])], [([((4001, [1]), 1)], 0), ([((4001, [4]), 1)], 0), ([((4001, [0]), 1)], 0), ([], 0)]), 0, 0), ((36, [(3036, []), (3007, []), (3006, []), (3004, [])], [([((4001, [1]), 1)], 0), ([((4001, [4]), 1)], 0), ([((4001, [0]), 1)], 0), ([], 0), ([], 0)]), 0, 0), ((1, [(3035, [])], [([((6, []), 9), ((7, []), 1)], 0)]), 0, 1)], [([((5001, []), 1), ((5002, []), (-1))], 0), ([((5001, []), (-1)), ((5002, []), 1)], 0), ([((5000, []), 1), ((6, []), (-1))], 0), ([((5000, []), (-1)), ((6, []), 1)], 0), ([((6, []), 1)], 0), ([((4001, [0]), 1), ((6, []), (-1))], (-1)), ([((7, []), 1)], 0), ([((5, []), 1), ((7, []), (-1))], 0), ([((4001, [1]), (-1))], 8), ([((2, []), 1)], 0), ([((2, []), (-1))], 99), ([((7, []), 1), ((5, []), (-1))], 0)], [], [(37, [(3034, []), (3007, []), (3006, []), (3004, [])], [([((4001, [1]), 1)], 0), ([((4001, [4]), 1)], 0), ([((4001, [0]), 1)], 0), ([((2, []), 1)], 0), ([((6, []), 1)], 1), ([((4, []), 1), ((5002, []), (-1))], 0), ([((5, []), 1), ((7, []), (-1))], 0)])], [([((5002, []), 1)], 0), ([((4, []), 1), ((5002, []), (-1))], 0)])
theorem zd_37s_k0 : zi_ok zd_37s_w0 := fun ρ ν => @zd_37s_m0 (ρ (3034, [])) (ρ (5000, [])) (ρ (3007, [])) (ρ (3006, [])) (ρ (3004, [])) (ρ (3035, [])) (ρ (3036, [])) (ν (5000, [])) (ν (5001, [])) (ν (4001, [1])) (ν (4001, [4])) (ν (4001, [0])) (ν (2, [])) (ν (6, [])) (ν (4, [])) (ν (5, [])) (ν (7, [])) (ν (5002, []))
theorem zd_37s_m1 {r0 r1 r2 r3 r4 r5 r6 : Nat → Int} {v0 v1 v2 v3 v4 v5 v6 v7 v8 v9 v10 v11 : Int} (h0 : zk_S 2 [r0, r1] [v0, v1]) (h1 : zk_S 37 [r1, r2, r3, r4] [1 * v2 + 0, 1 * v3 + 0, 1 * v4 + 0, 1 * v5 + 0, 1 * v6 + 0, 1 * v7 + 0, 1 * v8 + 0]) (h2 : zk_S 29 [r5, r6] [1 * v6 + 0, 1 * v7 + 0, 1 * v8 + 0, 1 * v9 + 0]) (h3 : zk_S 35 [r5, r2, r3, r4] [1 * v2 + 0, 1 * v3 + 0, 1 * v4 + 0, 0]) (h4 : zk_S 36 [r6, r2, r3, r4] [1 * v2 + 0, 1 * v3 + 0, 1 * v4 + 0, 0, 0]) (h5 : zk_S 1 [r5] [9 * v6 + (1 * v9 + 0), v10]) (h6 : zk_S 1 [r6] [9 * v6 + (1 * v8 + ((-1) * v9 + 9)), v11]) (c0 : 0 ≤ 1 * v1 + ((-1) * v10 + 0)) (c1 : 0 ≤ (-1) * v1 + (1 * v10 + 0)) (c2 : 0 ≤ 1 * v0 + ((-1) * v6 + 0)) (c3 : 0 ≤ (-1) * v0 + (1 * v6 + 0)) (c4 : 0 ≤ 1 * v6 + 0) (c5 : 0 ≤ 1 * v4 + ((-1) * v6 + (-1))) (c6 : 0 ≤ 1 * v9 + 0) (c7 : 0 ≤ 1 * v8 + ((-1) * v9 + 0)) (c8 : 0 ≤ (-1) * v2 + 8) (c9 : 0 ≤ 1 * v5 + 0) (c10 : 0 ≤ (-1) * v5 + 99) (c11 : 0 ≤ 1 * v7 + ((-1) * v10 + ((-1) * v11 + 0))) : (zk_S 37 [r0, r2, r3, r4] [1 * v2 + 0, 1 * v3 + 0, 1 * v4 + 0, 1 * v5 + 0, 1 * v6 + 1, 1 * v7 + ((-1) * v10 + 0), 1 * v8 + ((-1) * v9 + 0)] ∧ True) ∧ 0 ≤ 1 * v10 + 0 ∧ 0 ≤ 1 * v7 + ((-1) * v10 + 0) ∧ True := by
  simp only [zq_1, zq_2, zq_29, zq_35, zq_36, zq_37, Int.one_mul, Int.add_zero, and_true, true_and] at *
  obtain ⟨a1, a2, a3⟩ := h1
  have l0 := zd_left_in (S := zd_S r2 r3 r4 v2 v3) (n := v4.toNat) (v := v5) (b := v6.toNat) (by omega) zd_S_0
  rw [← a1] at l0
  have hp := h3 v6.toNat (by omega) (by omega)
  have hl : zd_HP (fun j => r6 (9 * (v6.toNat + 1) + j)) (zd_bd (zd_S r2 r3 r4 v2 v3) v4.toNat (v4.toNat - (v6.toNat + 1))) := fun j hj => h4 (v6.toNat + 1) j (by omega) hj (Or.inl (by omega))
  have w8 := zd_bd_8 (bed := r2) (needs := r3) (blue := r4) (boys := v2) (limit := v3) (n := v4.toNat) (m := v4.toNat - v6.toNat) (by omega) (by omega) (left := v7)
  rw [← a2] at w8
  have hb := zd_bd_b (S := zd_S r2 r3 r4 v2 v3) (n := v4.toNat) (b := v6.toNat) (by omega) (left := v7)
  rw [← a2] at hb
  have e9 : r5 (9 * v6.toNat + v9.toNat) = v10 := by
    rw [show 9 * v6.toNat + v9.toNat = (9 * v6 + v9).toNat by omega]
    exact h5
  obtain ⟨k1, k2, k3, k4, k5⟩ := zd_hand hp hl (zd_S_0 v6.toNat) (fun x => zd_bd_0) (w := v8.toNat) (i := v9.toNat) (left := v7) l0.1 (by omega) (by omega) (by rw [← hb]; omega) (by omega) (Or.inr (by
    show r5 (9 * v6.toNat + v9.toNat) + r6 (9 * (v6.toNat + 1) + (v8.toNat - v9.toNat)) ≤ v7
    rw [e9, show 9 * (v6.toNat + 1) + (v8.toNat - v9.toNat) = (9 * v6 + (v8 + ((-1) * v9 + 9))).toNat by omega, h6]
    omega)) (fun i' hi' => h2 i' (by omega))
  simp only [e9] at k1 k2 k3 k4 k5
  have fx : zd_fx (zd_S r2 r3 r4 v2 v3 v6.toNat) (zd_bd (zd_S r2 r3 r4 v2 v3) v4.toNat (v4.toNat - (v6.toNat + 1))) v7 = v10 := zd_fx_eq k1 k2 (by rw [k3, ← hb]; omega) (fun y y0 y1 => by rw [← hb]; have := k5 y y0 y1; omega)
  subst h0
  refine ⟨⟨?_, ?_, fun j hj => ?_⟩, by omega, by omega⟩
  · rw [show (v6 + 1).toNat = v6.toNat + 1 by omega]
    show _ = zd_left (zd_S r2 r3 r4 v2 v3) v4.toNat v5 v6.toNat - zd_fx (zd_S r2 r3 r4 v2 v3 v6.toNat) (zd_bd (zd_S r2 r3 r4 v2 v3) v4.toNat (v4.toNat - (v6.toNat + 1))) (zd_left (zd_S r2 r3 r4 v2 v3) v4.toNat v5 v6.toNat)
    rw [← a1, fx]
    omega
  · rw [show (v6 + 1).toNat = v6.toNat + 1 by omega, show v7 + (-1) * v10 = v7 - v10 by omega, k4]
    omega
  · show (if j = v0.toNat then v1 else r1 j) = _
    by_cases e : j = v0.toNat
    · rw [if_pos e]
      unfold zd_R
      rw [if_pos (by omega), show ((j : Nat) : Int).toNat = v6.toNat by omega, ← a1, fx]
      omega
    · rw [if_neg e]
      exact a3 j (by omega)
def zd_37s_w1 : zi_A := ([((2, [(3034, [])], []), 1, 2), ((37, [(5000, []), (3007, []), (3006, []), (3004, [])], [([((4001, [1]), 1)], 0), ([((4001, [4]), 1)], 0), ([((4001, [0]), 1)], 0), ([((2, []), 1)], 0), ([((6, []), 1)], 0), ([((4, []), 1)], 0), ([((5, []), 1)], 0)]), 0, 0), ((29, [(3035, []), (3036, [])], [([((6, []), 1)], 0), ([((4, []), 1)], 0), ([((5, []), 1)], 0), ([((7, []), 1)], 0)]), 0, 0), ((35, [(3035, []), (3007, []), (3006, []), (3004, [])], [([((4001, [1]), 1)], 0), ([((4001, [4]), 1)], 0), ([((4001, [0]), 1)], 0), ([], 0)]), 0, 0), ((36, [(3036, []), (3007, []), (3006, []), (3004, [])], [([((4001, [1]), 1)], 0), ([((4001, [4]), 1)], 0), ([((4001, [0]), 1)], 0), ([], 0), ([], 0)]), 0, 0), ((1, [(3035, [])], [([((6, []), 9), ((7, []), 1)], 0)]), 0, 1), ((1, [(3036, [])], [([((6, []), 9), ((5, []), 1), ((7, []), (-1))], 9)]), 0, 1)], [([((5001, []), 1), ((5002, []), (-1))], 0), ([((5001, []), (-1)), ((5002, []), 1)], 0), ([((5000, []), 1), ((6, []), (-1))], 0), ([((5000, []), (-1)), ((6, []), 1)], 0), ([((6, []), 1)], 0), ([((4001, [0]), 1), ((6, []), (-1))], (-1)), ([((7, []), 1)], 0), ([((5, []), 1), ((7, []), (-1))], 0), ([((4001, [1]), (-1))], 8), ([((2, []), 1)], 0), ([((2, []), (-1))], 99), ([((4, []), 1), ((5002, []), (-1)), ((5003, []), (-1))], 0)], [], [(37, [(3034, []), (3007, []), (3006, []), (3004, [])], [([((4001, [1]), 1)], 0), ([((4001, [4]), 1)], 0), ([((4001, [0]), 1)], 0), ([((2, []), 1)], 0), ([((6, []), 1)], 1), ([((4, []), 1), ((5002, []), (-1))], 0), ([((5, []), 1), ((7, []), (-1))], 0)])], [([((5002, []), 1)], 0), ([((4, []), 1), ((5002, []), (-1))], 0)])
theorem zd_37s_k1 : zi_ok zd_37s_w1 := fun ρ ν => @zd_37s_m1 (ρ (3034, [])) (ρ (5000, [])) (ρ (3007, [])) (ρ (3006, [])) (ρ (3004, [])) (ρ (3035, [])) (ρ (3036, [])) (ν (5000, [])) (ν (5001, [])) (ν (4001, [1])) (ν (4001, [4])) (ν (4001, [0])) (ν (2, [])) (ν (6, [])) (ν (4, [])) (ν (5, [])) (ν (7, [])) (ν (5002, [])) (ν (5003, []))
def zd_37s : List zi_A := [zd_37s_w0, zd_37s_w1]
theorem zd_37s_ok : ∀ A ∈ zd_37s, zi_ok A := List.forall_mem_cons.mpr ⟨zd_37s_k0, List.forall_mem_cons.mpr ⟨zd_37s_k1, fun _ h => absurd h List.not_mem_nil⟩⟩

theorem zd_38g_m0 {r0 r1 r2 r3 : Nat → Int} {v0 v1 v2 v3 v4 v5 v6 v7 v8 : Int} (h0 : zk_S 37 [r0, r1, r2, r3] [1 * v0 + 0, 1 * v1 + 0, 1 * v2 + 0, 1 * v3 + 0, 1 * v2 + 0, v4, v5]) (h1 : zk_S 1 [r0] [1 * v6 + 0, v7]) (c0 : 0 ≤ 1 * v8 + ((-1) * v7 + 0)) (c1 : 0 ≤ (-1) * v8 + (1 * v7 + 0)) (c2 : 0 ≤ 1 * v6 + 0) (c3 : 0 ≤ 1 * v2 + ((-1) * v6 + (-1))) : (zk_S 38 [r1, r2, r3] [1 * v0 + 0, 1 * v1 + 0, 1 * v2 + 0, 1 * v3 + 0, 1 * v6 + 0, 1 * v8 + 0] ∧ True) ∧ True := by
  simp only [zq_1, zq_37, zq_38, Int.one_mul, Int.add_zero, and_true, true_and] at *
  obtain ⟨a1, a2, a3⟩ := h0
  have q := a3 v6.toNat (by omega)
  rw [h1, show ((v6.toNat : Nat) : Int) = v6 by omega] at q
  unfold zd_k38
  omega
def zd_38g_w0 : zi_A := ([((37, [(3034, []), (3007, []), (3006, []), (3004, [])], [([((4001, [1]), 1)], 0), ([((4001, [4]), 1)], 0), ([((4001, [0]), 1)], 0), ([((1, []), 1)], 0), ([((4001, [0]), 1)], 0)]), 0, 2), ((1, [(3034, [])], [([((2, []), 1)], 0)]), 0, 1)], [([((4500, []), 1), ((5002, []), (-1))], 0), ([((4500, []), (-1)), ((5002, []), 1)], 0), ([((2, []), 1)], 0), ([((4001, [0]), 1), ((2, []), (-1))], (-1))], [], [(38, [(3007, []), (3006, []), (3004, [])], [([((4001, [1]), 1)], 0), ([((4001, [4]), 1)], 0), ([((4001, [0]), 1)], 0), ([((1, []), 1)], 0), ([((2, []), 1)], 0), ([((4500, []), 1)], 0)])], [])
theorem zd_38g_k0 : zi_ok zd_38g_w0 := fun ρ ν => @zd_38g_m0 (ρ (3034, [])) (ρ (3007, [])) (ρ (3006, [])) (ρ (3004, [])) (ν (4001, [1])) (ν (4001, [4])) (ν (4001, [0])) (ν (1, [])) (ν (5000, [])) (ν (5001, [])) (ν (2, [])) (ν (5002, [])) (ν (4500, []))
def zd_38g : List zi_A := [zd_38g_w0]
theorem zd_38g_ok : ∀ A ∈ zd_38g, zi_ok A := List.forall_mem_cons.mpr ⟨zd_38g_k0, fun _ h => absurd h List.not_mem_nil⟩

theorem zd_38f_m0 {r0 r1 r2 r3 r4 r5 r6 : Nat → Int} {v0 v1 v2 v3 v4 v5 v6 v7 : Int} (h0 : zk_S 38 [r0, r1, r2] [v0, v1, v2, v3, v4, v5]) (h1 : zk_S 38 [r3, r4, r5] [1 * v0 + 0, 1 * v1 + 0, 1 * v2 + 0, 1 * v3 + 0, 1 * v4 + 0, v6]) (h2 : zk_S 8 [r0, r3] []) (h3 : zk_S 8 [r1, r4] []) (h4 : zk_S 8 [r2, r6] []) (h5 : zk_S 68 [r5, r6] [0, 0, v7]) (c0 : 0 ≤ 1 * v7 + ((-1) * v2 + 0)) (c1 : 0 ≤ 1 * v3 + 0) (c2 : 0 ≤ 1 * v2 + ((-1) * v4 + (-1))) (c3 : 0 ≤ 1 * v2 + 0) : (True) ∧ 0 ≤ 1 * v5 + ((-1) * v6 + 0) ∧ 0 ≤ (-1) * v5 + (1 * v6 + 0) ∧ True := by
  simp only [zq_8, zq_38, zq_68, Int.one_mul, Int.add_zero, and_true, true_and] at *
  unfold zd_k38 at h0 h1
  have e : v5 = v6 := by
    rw [h0, h1, h2, h3]
    refine zd_R_congr c1 (by omega) zd_S_0 fun b hb x x0 => ?_
    unfold zd_S zx_SI
    have q := h5 b (by omega)
    rw [show (0 : Int).toNat + b = b by simp] at q
    rw [h4, show ((b : Nat) : Int).toNat = b from rfl, ← q]
  omega
def zd_38f_w0 : zi_A := ([((38, [(3007, []), (3006, []), (3004, [])], []), 0, 6), ((38, [(3073, []), (3072, []), (3089, [])], [([((5000, []), 1)], 0), ([((5001, []), 1)], 0), ([((5002, []), 1)], 0), ([((5003, []), 1)], 0), ([((5004, []), 1)], 0)]), 0, 1), ((8, [(3007, []), (3073, [])], []), 0, 0), ((8, [(3006, []), (3072, [])], []), 0, 0), ((8, [(3004, []), (3070, [])], []), 0, 0), ((68, [(3089, []), (3070, [])], [([], 0), ([], 0)]), 0, 1)], [([((5007, []), 1), ((5002, []), (-1))], 0), ([((5003, []), 1)], 0), ([((5002, []), 1), ((5004, []), (-1))], (-1)), ([((5002, []), 1)], 0)], [], [], [([((5005, []), 1), ((5006, []), (-1))], 0), ([((5005, []), (-1)), ((5006, []), 1)], 0)])
theorem zd_38f_k0 : zi_ok zd_38f_w0 := fun ρ ν => @zd_38f_m0 (ρ (3007, [])) (ρ (3006, [])) (ρ (3004, [])) (ρ (3073, [])) (ρ (3072, [])) (ρ (3089, [])) (ρ (3070, [])) (ν (5000, [])) (ν (5001, [])) (ν (5002, [])) (ν (5003, [])) (ν (5004, [])) (ν (5005, [])) (ν (5006, [])) (ν (5007, []))
def zd_38f : List zi_A := [zd_38f_w0]
theorem zd_38f_ok : ∀ A ∈ zd_38f, zi_ok A := List.forall_mem_cons.mpr ⟨zd_38f_k0, fun _ h => absurd h List.not_mem_nil⟩
end
