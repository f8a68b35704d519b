noncomputable section
/-! DEALS: how so much night should be dealt (p17): what both sides find -/
theorem zd_le_max (a b : Int) : a ≤ zd_max a b ∧ b ≤ zd_max a b := by unfold zd_max; split <;> omega
theorem zd_max_or (a b : Int) : zd_max a b = a ∨ zd_max a b = b := by unfold zd_max; split <;> simp
theorem zd_min_le (a b : Int) : zd_min a b ≤ a ∧ zd_min a b ≤ b := by unfold zd_min; split <;> omega
theorem zd_min_or (a b : Int) : zd_min a b = a ∨ zd_min a b = b := by unfold zd_min; split <;> simp
theorem zd_mx_0 {S D : Int → Int} {left : Int} : ∀ {n : Nat}, 0 ≤ zd_mx S D left n
  | 0 => Int.le_refl _
  | n + 1 => Int.le_trans (zd_mx_0 (n := n)) (zd_le_max _ _).1
theorem zd_mx_ge {S D : Int → Int} {left : Int} {y : Nat} : ∀ {n : Nat}, y < n → S (y : Int) + D (left - (y : Int)) ≤ zd_mx S D left n
  | 0, h => absurd h (Nat.not_lt_zero y)
  | n + 1, h => by
    by_cases e : y = n
    · subst e
      exact (zd_le_max _ _).2
    · exact Int.le_trans (zd_mx_ge (by omega)) (zd_le_max _ _).1
theorem zd_mx_at {S D : Int → Int} {left : Int} : ∀ {n : Nat}, zd_mx S D left n = 0 ∨ ∃ y : Nat, y < n ∧ zd_mx S D left n = S (y : Int) + D (left - (y : Int))
  | 0 => Or.inl rfl
  | n + 1 => by
    have e : zd_mx S D left (n + 1) = zd_max (zd_mx S D left n) (S (n : Int) + D (left - (n : Int))) := rfl
    rcases zd_max_or (zd_mx S D left n) (S (n : Int) + D (left - (n : Int))) with h | h
    · rw [e, h]
      rcases zd_mx_at (n := n) with k | ⟨y, k1, k2⟩
      · exact Or.inl k
      · exact Or.inr ⟨y, by omega, k2⟩
    · exact Or.inr ⟨n, by omega, by rw [e, h]⟩
theorem zd_mx_congr {S D S' D' : Int → Int} {left : Int} : ∀ {n : Nat}, (∀ y : Nat, y < n → S (y : Int) = S' (y : Int) ∧ D (left - (y : Int)) = D' (left - (y : Int))) → zd_mx S D left n = zd_mx S' D' left n
  | 0, _ => rfl
  | n + 1, h => by
    have e := zd_mx_congr (n := n) fun y hy => h y (by omega)
    obtain ⟨h1, h2⟩ := h n (by omega)
    show zd_max (zd_mx S D left n) (S (n : Int) + D (left - (n : Int))) = zd_max (zd_mx S' D' left n) (S' (n : Int) + D' (left - (n : Int)))
    rw [e, h1, h2]
theorem zd_bd_0 {S : Nat → Int → Int} {n : Nat} : ∀ {m : Nat} {left : Int}, 0 ≤ zd_bd S n m left
  | 0, _ => Int.le_refl _
  | _ + 1, _ => zd_mx_0
theorem zd_bd_b {S : Nat → Int → Int} {n b : Nat} (h : b < n) {left : Int} : zd_bd S n (n - b) left = zd_mx (S b) (zd_bd S n (n - (b + 1))) left (left.toNat + 1) := by
  rw [show n - b = (n - (b + 1)) + 1 by omega]
  show zd_mx (S (n - ((n - (b + 1)) + 1))) (zd_bd S n (n - (b + 1))) left (left.toNat + 1) = _
  rw [show n - ((n - (b + 1)) + 1) = b by omega]
theorem zd_bd_congr {S S' : Nat → Int → Int} {n : Nat} (h : ∀ b : Nat, b < n → ∀ x : Int, 0 ≤ x → S b x = S' b x) : ∀ {m : Nat} {left : Int}, m ≤ n → 0 ≤ left → zd_bd S n m left = zd_bd S' n m left
  | 0, _, _, _ => rfl
  | m + 1, left, hm, hl => zd_mx_congr fun y hy => ⟨h _ (by omega) _ (by omega), zd_bd_congr h (by omega) (by omega)⟩
theorem zd_HP_0 {p : Nat → Int} {S : Int → Int} (h : zd_HP p S) (h0 : ∀ x, 0 ≤ S x) : p 0 = 0 := by
  obtain ⟨a, b⟩ := h 0 (by omega)
  have := (b 0 (by omega) (by omega)).mpr (by have := h0 0; omega)
  omega
theorem zd_mn_le {p l : Nat → Int} {s : Nat} {i : Nat} : ∀ {n : Nat}, i < n → zd_mn p l s n ≤ p i + l (s - i)
  | 0, h => absurd h (Nat.not_lt_zero i)
  | n + 1, h => by
    by_cases e : i = n
    · subst e
      exact (zd_min_le _ _).2
    · exact Int.le_trans (zd_min_le _ _).1 (zd_mn_le (by omega))
theorem zd_mn_at {p l : Nat → Int} {s : Nat} : ∀ {n : Nat}, zd_mn p l s n = 1000 ∨ ∃ i : Nat, i < n ∧ zd_mn p l s n = p i + l (s - i)
  | 0 => Or.inl rfl
  | n + 1 => by
    have e : zd_mn p l s (n + 1) = zd_min (zd_mn p l s n) (p n + l (s - n)) := rfl
    rcases zd_min_or (zd_mn p l s n) (p n + l (s - n)) with h | h
    · rw [e, h]
      rcases zd_mn_at (n := n) with k | ⟨y, k1, k2⟩
      · exact Or.inl k
      · exact Or.inr ⟨y, by omega, k2⟩
    · exact Or.inr ⟨n, by omega, by rw [e, h]⟩
theorem zd_mn_congr {p l p' l' : Nat → Int} {s : Nat} : ∀ {n : Nat}, (∀ i : Nat, i < n → p i = p' i ∧ l (s - i) = l' (s - i)) → zd_mn p l s n = zd_mn p' l' s n
  | 0, _ => rfl
  | n + 1, h => by
    have e := zd_mn_congr (n := n) fun y hy => h y (by omega)
    obtain ⟨h1, h2⟩ := h n (by omega)
    show zd_min (zd_mn p l s n) (p n + l (s - n)) = zd_min (zd_mn p' l' s n) (p' n + l' (s - n))
    rw [e, h1, h2]
/-- so many here and behind for so much -/
theorem zd_pair {p l : Nat → Int} {S D : Int → Int} (hp : zd_HP p S) (hl : zd_HP l D) (h0 : ∀ x, 0 ≤ S x) (hD : ∀ x, 0 ≤ D x) {s i : Nat} {x : Int} (hs : s ≤ 8) (hi : i ≤ s) (hx : x ≤ 99) (h : p i + l (s - i) ≤ x) : 0 ≤ p i ∧ p i ≤ x ∧ (i : Int) ≤ S (p i) ∧ (s : Int) - (i : Int) ≤ D (x - p i) := by
  obtain ⟨a1, a2⟩ := hp i (by omega)
  obtain ⟨b1, b2⟩ := hl (s - i) (by omega)
  have c1 := (a2 (p i) a1 (by omega)).mp (Int.le_refl _)
  have c2 := (b2 (x - p i) (by omega) (by omega)).mp (by omega)
  exact ⟨a1, by omega, c1, by omega⟩
theorem zd_pair2 {p l : Nat → Int} {S D : Int → Int} (hp : zd_HP p S) (hl : zd_HP l D) (h0 : ∀ x, 0 ≤ S x) (hD : ∀ x, 0 ≤ D x) {s : Nat} {x y : Int} (hs : s ≤ 8) (h1 : 0 ≤ y) (h2 : y ≤ x) (hx : x ≤ 99) (h : (s : Int) ≤ S y + D (x - y)) : ∃ i : Nat, i ≤ s ∧ (i : Int) ≤ S y ∧ p i ≤ y ∧ p i + l (s - i) ≤ x := by
  have hy := h0 y
  by_cases c : (s : Int) ≤ S y
  · refine ⟨s, Nat.le_refl _, c, ?_, ?_⟩
    · exact ((hp s hs).2 y h1 (by omega)).mpr c
    · have e1 := ((hp s hs).2 y h1 (by omega)).mpr c
      have e2 : l (s - s) ≤ x - y := ((hl (s - s) (by omega)).2 (x - y) (by omega) (by omega)).mpr (by have := hD (x - y); omega)
      omega
  · refine ⟨(S y).toNat, by omega, by omega, ?_, ?_⟩
    · exact ((hp (S y).toNat (by omega)).2 y h1 (by omega)).mpr (by omega)
    · have e1 := ((hp (S y).toNat (by omega)).2 y h1 (by omega)).mpr (by omega)
      have e2 := ((hl (s - (S y).toNat) (by omega)).2 (x - y) (by omega) (by omega)).mpr (by omega)
      omega
theorem zd_step {p l : Nat → Int} {S D : Int → Int} (hp : zd_HP p S) (hl : zd_HP l D) (h0 : ∀ x, 0 ≤ S x) (hD : ∀ x, 0 ≤ D x) : zd_HP (fun s => zd_mn p l s (s + 1)) (fun x => zd_mx S D x (x.toNat + 1)) := by
  intro s hs
  refine ⟨?_, fun x x0 x9 => ⟨fun h => ?_, fun h => ?_⟩⟩
  · show 0 ≤ zd_mn p l s (s + 1)
    rcases zd_mn_at (p := p) (l := l) (s := s) (n := s + 1) with e | ⟨i, hi, e⟩
    · omega
    · have := (hp i (by omega)).1
      have := (hl (s - i) (by omega)).1
      omega
  · have h : zd_mn p l s (s + 1) ≤ x := h
    show (s : Int) ≤ zd_mx S D x (x.toNat + 1)
    rcases zd_mn_at (p := p) (l := l) (s := s) (n := s + 1) with e | ⟨i, hi, e⟩
    · omega
    · obtain ⟨a1, a2, a3, a4⟩ := zd_pair hp hl h0 hD (x := x) hs (by omega) x9 (by omega : p i + l (s - i) ≤ x)
      have g := zd_mx_ge (S := S) (D := D) (left := x) (y := (p i).toNat) (n := x.toNat + 1) (by omega)
      rw [show (((p i).toNat : Nat) : Int) = p i by omega] at g
      omega
  · have h : (s : Int) ≤ zd_mx S D x (x.toNat + 1) := h
    show zd_mn p l s (s + 1) ≤ x
    rcases zd_mx_at (S := S) (D := D) (left := x) (n := x.toNat + 1) with e | ⟨y, hy, e⟩
    · have s0 : s = 0 := by omega
      subst s0
      have g := zd_mn_le (p := p) (l := l) (s := 0) (i := 0) (n := 0 + 1) (by omega)
      rw [zd_HP_0 hp h0, show (0 : Nat) - 0 = 0 from rfl, zd_HP_0 hl hD] at g
      omega
    · obtain ⟨i, i1, -, -, i2⟩ := zd_pair2 hp hl h0 hD (s := s) (x := x) (y := (y : Int)) hs (by omega) (by omega) x9 (by omega)
      have g := zd_mn_le (p := p) (l := l) (s := s) (i := i) (n := s + 1) (by omega)
      omega
/-- the first count that will do gives the least that comes to the most -/
theorem zd_hand {p l : Nat → Int} {S D : Int → Int} (hp : zd_HP p S) (hl : zd_HP l D) (h0 : ∀ x, 0 ≤ S x) (hD : ∀ x, 0 ≤ D x) {w i : Nat} {left : Int} (l0 : 0 ≤ left) (l9 : left ≤ 99) (hw : w ≤ 8) (e : zd_mx S D left (left.toNat + 1) = (w : Int)) (hi : i ≤ w) (hx : i = w ∨ p i + l (w - i) ≤ left) (hn : ∀ i' : Nat, i' < i → left < p i' + l (w - i')) : 0 ≤ p i ∧ p i ≤ left ∧ S (p i) + D (left - p i) = (w : Int) ∧ D (left - p i) = (w : Int) - (i : Int) ∧ ∀ y : Int, 0 ≤ y → y < p i → S y + D (left - y) ≠ (w : Int) := by
  have key : p i + l (w - i) ≤ left := by
    rcases hx with hx | hx
    · have g : zd_mn p l w (w + 1) ≤ left := ((zd_step hp hl h0 hD w hw).2 left l0 l9).mpr (by show (w : Int) ≤ zd_mx S D left (left.toNat + 1); omega)
      rcases zd_mn_at (p := p) (l := l) (s := w) (n := w + 1) with e2 | ⟨i', k1, k2⟩
      · omega
      · by_cases c : i' < i
        · have := hn i' c
          omega
        · have : i' = i := by omega
          subst this
          omega
    · exact hx
  obtain ⟨a1, a2, a3, a4⟩ := zd_pair hp hl h0 hD hw hi l9 key
  have g := zd_mx_ge (S := S) (D := D) (left := left) (y := (p i).toNat) (n := left.toNat + 1) (by omega)
  rw [show (((p i).toNat : Nat) : Int) = p i by omega, e] at g
  refine ⟨a1, a2, by omega, by omega, fun y y0 yl ey => ?_⟩
  obtain ⟨i', k1, k2, k3, k4⟩ := zd_pair2 hp hl h0 hD (s := w) (x := left) (y := y) hw y0 (by omega) l9 (by omega)
  by_cases c : i' < i
  · have := hn i' c
    omega
  · obtain ⟨b1, b2⟩ := hp i' (by omega)
    have b3 := (b2 y y0 (by omega)).mp k3
    have b4 := ((hp i (by omega)).2 y y0 (by omega)).mpr (by omega)
    omega
theorem zd_fs_eq {S D : Int → Int} {left w : Int} {x : Nat} (hx : S (x : Int) + D (left - (x : Int)) = w) : ∀ {f y : Nat}, y ≤ x → x - y ≤ f → (∀ k : Nat, y ≤ k → k < x → S (k : Int) + D (left - (k : Int)) ≠ w) → zd_fs S D left w f y = (x : Int)
  | 0, y, h1, h2, _ => by
    show ((y : Nat) : Int) = (x : Int)
    omega
  | f + 1, y, h1, h2, h3 => by
    unfold zd_fs
    by_cases e : y = x
    · subst e
      rw [decide_eq_true hx]
    · rw [decide_eq_false (h3 y (by omega) (by omega))]
      exact zd_fs_eq hx (by omega) (by omega) fun k k1 k2 => h3 k (by omega) k2
theorem zd_fx_eq {S D : Int → Int} {left x : Int} (h0 : 0 ≤ x) (h1 : x ≤ left) (hx : S x + D (left - x) = zd_mx S D left (left.toNat + 1)) (hn : ∀ y : Int, 0 ≤ y → y < x → S y + D (left - y) ≠ zd_mx S D left (left.toNat + 1)) : zd_fx S D left = x := by
  have e : ((x.toNat : Nat) : Int) = x := by omega
  have := zd_fs_eq (S := S) (D := D) (left := left) (w := zd_mx S D left (left.toNat + 1)) (x := x.toNat) (by rw [e]; exact hx) (f := left.toNat + 1) (y := 0) (by omega) (by omega) fun k _ k2 => hn (k : Int) (by omega) (by omega)
  rw [e] at this
  exact this
theorem zd_fs_congr {S D S' D' : Int → Int} {left w : Int} : ∀ {f x : Nat}, (∀ y : Nat, y < x + f → S (y : Int) = S' (y : Int) ∧ D (left - (y : Int)) = D' (left - (y : Int))) → zd_fs S D left w f x = zd_fs S' D' left w f x
  | 0, _, _ => rfl
  | f + 1, x, h => by
    obtain ⟨h1, h2⟩ := h x (by omega)
    unfold zd_fs
    rw [h1, h2, zd_fs_congr (f := f) (x := x + 1) fun y hy => h y (by omega)]
theorem zd_fx_in {S D : Int → Int} {left : Int} (h0 : 0 ≤ left) (hS : ∀ x, 0 ≤ S x) (hD : ∀ x, 0 ≤ D x) : 0 ≤ zd_fx S D left ∧ zd_fx S D left ≤ left ∧ S (zd_fx S D left) + D (left - zd_fx S D left) = zd_mx S D left (left.toNat + 1) := by
  have ex : ∃ y : Nat, y < left.toNat + 1 ∧ S (y : Int) + D (left - (y : Int)) = zd_mx S D left (left.toNat + 1) := by
    rcases zd_mx_at (S := S) (D := D) (left := left) (n := left.toNat + 1) with e | ⟨y, h1, h2⟩
    · have g := zd_mx_ge (S := S) (D := D) (left := left) (y := 0) (n := left.toNat + 1) (by omega)
      have := hS (0 : Nat)
      have := hD (left - (0 : Nat))
      exact ⟨0, by omega, by omega⟩
    · exact ⟨y, h1, h2.symm⟩
  have gen : ∀ (f x : Nat), (∃ y : Nat, x ≤ y ∧ y < x + f ∧ S (y : Int) + D (left - (y : Int)) = zd_mx S D left (left.toNat + 1)) → ∃ y : Nat, x ≤ y ∧ y < x + f ∧ zd_fs S D left (zd_mx S D left (left.toNat + 1)) f x = (y : Int) ∧ S (y : Int) + D (left - (y : Int)) = zd_mx S D left (left.toNat + 1) := by
    intro f
    induction f with
    | zero => exact fun x ⟨y, h1, h2, _⟩ => absurd h2 (by omega)
    | succ f ih =>
      intro x ⟨y, h1, h2, h3⟩
      by_cases e : S (x : Int) + D (left - (x : Int)) = zd_mx S D left (left.toNat + 1)
      · refine ⟨x, Nat.le_refl _, by omega, ?_, e⟩
        unfold zd_fs
        rw [decide_eq_true e]
      · have : y ≠ x := fun q => e (by rw [← q]; exact h3)
        obtain ⟨y', k1, k2, k3, k4⟩ := ih (x + 1) ⟨y, by omega, by omega, h3⟩
        refine ⟨y', by omega, by omega, ?_, k4⟩
        unfold zd_fs
        rw [decide_eq_false e]
        exact k3
  obtain ⟨y, h1, h2⟩ := ex
  obtain ⟨y', k1, k2, k3, k4⟩ := gen (left.toNat + 1) 0 ⟨y, by omega, by omega, h2⟩
  unfold zd_fx
  rw [k3]
  exact ⟨by omega, by omega, k4⟩
theorem zd_left_in {S : Nat → Int → Int} {n : Nat} {v : Int} (h0 : 0 ≤ v) (hS : ∀ b x, 0 ≤ S b x) : ∀ {b : Nat}, 0 ≤ zd_left S n v b ∧ zd_left S n v b ≤ v
  | 0 => ⟨h0, Int.le_refl _⟩
  | b + 1 => by
    obtain ⟨a1, a2⟩ := zd_left_in (b := b) h0 hS (n := n)
    obtain ⟨b1, b2, -⟩ := zd_fx_in (S := S b) (D := zd_bd S n (n - (b + 1))) a1 (hS b) (fun x => zd_bd_0)
    show 0 ≤ zd_left S n v b - zd_fx (S b) (zd_bd S n (n - (b + 1))) (zd_left S n v b) ∧ zd_left S n v b - zd_fx (S b) (zd_bd S n (n - (b + 1))) (zd_left S n v b) ≤ v
    omega
theorem zd_fx_congr {S D S' D' : Int → Int} {left : Int} (h0 : 0 ≤ left) (h : ∀ y : Int, 0 ≤ y → y ≤ left → S y = S' y ∧ D (left - y) = D' (left - y)) : zd_fx S D left = zd_fx S' D' left := by
  unfold zd_fx
  rw [zd_mx_congr (S := S) (D := D) (S' := S') (D' := D') fun y hy => h (y : Int) (by omega) (by omega)]
  refine zd_fs_congr fun y hy => ?_
  exact h (y : Int) (by omega) (by omega)
theorem zd_left_congr {S S' : Nat → Int → Int} {n : Nat} {v : Int} (h0 : 0 ≤ v) (hS : ∀ b x, 0 ≤ S b x) (h : ∀ b : Nat, b < n → ∀ x : Int, 0 ≤ x → S b x = S' b x) : ∀ {b : Nat}, b ≤ n → zd_left S n v b = zd_left S' n v b
  | 0, _ => rfl
  | b + 1, hb => by
    have e := zd_left_congr (b := b) h0 hS h (by omega)
    have hl := (zd_left_in (S := S) (n := n) (b := b) h0 hS).1
    show zd_left S n v b - zd_fx (S b) (zd_bd S n (n - (b + 1))) (zd_left S n v b) = zd_left S' n v b - zd_fx (S' b) (zd_bd S' n (n - (b + 1))) (zd_left S' n v b)
    rw [← e, zd_fx_congr (S' := S' b) (D' := zd_bd S' n (n - (b + 1))) hl fun y y0 y1 => ⟨h b (by omega) y y0, zd_bd_congr h (by omega) (by omega)⟩]
theorem zd_R_congr {S S' : Nat → Int → Int} {n : Nat} {v k : Int} (h0 : 0 ≤ v) (hk : k < n) (hS : ∀ b x, 0 ≤ S b x) (h : ∀ b : Nat, b < n → ∀ x : Int, 0 ≤ x → S b x = S' b x) : zd_R S n v k = zd_R S' n v k := by
  unfold zd_R
  split
  · rename_i e
    rw [← zd_left_congr h0 hS h (by omega : k.toNat ≤ n)]
    exact zd_fx_congr (zd_left_in h0 hS).1 fun y y0 y1 => ⟨h _ (by omega) y y0, zd_bd_congr h (by omega) (by omega)⟩
  · exact zd_bd_congr h (Nat.le_refl _) h0
theorem zd_S_0 {bed needs blue : Nat → Int} {boys limit : Int} (b : Nat) (x : Int) : 0 ≤ zd_S bed needs blue boys limit b x := by unfold zd_S; omega
theorem zd_si_cn {bed needs : Nat → Int} {b n v : Int} : ∀ {m : Nat}, zx_si bed needs b n v m ≤ zx_cn bed b m
  | 0 => Nat.le_refl _
  | m + 1 => by
    have := zd_si_cn (bed := bed) (needs := needs) (b := b) (n := n) (v := v) (m := m)
    show zx_si bed needs b n v m + (if bed m = b ∧ needs m ≤ v / n then 1 else 0) ≤ zx_cn bed b m + (if bed m = b then 1 else 0)
    by_cases h : bed m = b
    · rw [if_pos h]
      split <;> omega
    · rw [if_neg h, if_neg (fun q => h q.1)]
      omega
theorem zd_S_cn {bed needs blue : Nat → Int} {boys limit : Int} (b : Nat) (x : Int) : zd_S bed needs blue boys limit b x ≤ (zx_cn bed (b : Int) boys.toNat : Nat) := by
  unfold zd_S zx_SI
  split
  · omega
  · have := zd_si_cn (bed := bed) (needs := needs) (b := (b : Int)) (n := (zx_cn bed (b : Int) boys.toNat : Nat)) (v := x) (m := boys.toNat)
    omega
/-- how many lie in the last m of n barns -/
def zd_T (bed : Nat → Int) (k n : Nat) : Nat → Nat
  | 0 => 0
  | m + 1 => zx_cn bed ((n - (m + 1) : Nat) : Int) k + zd_T bed k n m
theorem zd_T_s {bed : Nat → Int} {k n : Nat} : ∀ {m : Nat}, m ≤ n → zd_T bed (k + 1) n m ≤ zd_T bed k n m + (if ((n - m : Nat) : Int) ≤ bed k then 1 else 0)
  | 0, _ => by
    show 0 ≤ _
    omega
  | m + 1, hm => by
    have ih := zd_T_s (bed := bed) (k := k) (n := n) (m := m) (by omega)
    show (zx_cn bed ((n - (m + 1) : Nat) : Int) k + (if bed k = ((n - (m + 1) : Nat) : Int) then 1 else 0)) + zd_T bed (k + 1) n m ≤ (zx_cn bed ((n - (m + 1) : Nat) : Int) k + zd_T bed k n m) + (if ((n - (m + 1) : Nat) : Int) ≤ bed k then 1 else 0)
    by_cases c : bed k = ((n - (m + 1) : Nat) : Int)
    · have c2 : ¬ ((n - m : Nat) : Int) ≤ bed k := by omega
      rw [if_neg c2] at ih
      rw [if_pos c, if_pos (by omega)]
      omega
    · rw [if_neg c]
      by_cases c2 : ((n - m : Nat) : Int) ≤ bed k
      · rw [if_pos c2] at ih
        rw [if_pos (by omega)]
        omega
      · rw [if_neg c2] at ih
        split <;> omega
theorem zd_T_le {bed : Nat → Int} {n : Nat} : ∀ {k m : Nat}, m ≤ n → zd_T bed k n m ≤ k
  | 0, m, hm => by
    have : ∀ m : Nat, zd_T bed 0 n m = 0 := fun m => by
      induction m with
      | zero => rfl
      | succ m ih =>
        show zx_cn bed ((n - (m + 1) : Nat) : Int) 0 + zd_T bed 0 n m = 0
        rw [ih]
        rfl
    rw [this]
    omega
  | k + 1, m, hm => by
    have h1 := zd_T_s (bed := bed) (k := k) (n := n) hm
    have h2 := zd_T_le (bed := bed) (n := n) (k := k) hm
    split at h1 <;> omega
theorem zd_bd_le {bed needs blue : Nat → Int} {boys limit : Int} {n : Nat} : ∀ {m : Nat} {left : Int}, zd_bd (zd_S bed needs blue boys limit) n m left ≤ (zd_T bed boys.toNat n m : Nat)
  | 0, _ => by
    show (0 : Int) ≤ _
    omega
  | m + 1, left => by
    show zd_mx (zd_S bed needs blue boys limit (n - (m + 1))) (zd_bd (zd_S bed needs blue boys limit) n m) left (left.toNat + 1) ≤ ((zx_cn bed ((n - (m + 1) : Nat) : Int) boys.toNat + zd_T bed boys.toNat n m : Nat) : Int)
    rcases zd_mx_at (S := zd_S bed needs blue boys limit (n - (m + 1))) (D := zd_bd (zd_S bed needs blue boys limit) n m) (left := left) (n := left.toNat + 1) with e | ⟨y, -, e⟩
    · omega
    · have h1 := zd_S_cn (bed := bed) (needs := needs) (blue := blue) (boys := boys) (limit := limit) (n - (m + 1)) (y : Int)
      have h2 := zd_bd_le (bed := bed) (needs := needs) (blue := blue) (boys := boys) (limit := limit) (n := n) (m := m) (left := left - (y : Int))
      omega
theorem zd_bd_8 {bed needs blue : Nat → Int} {boys limit : Int} {n m : Nat} (hm : m ≤ n) (h8 : boys ≤ 8) {left : Int} : zd_bd (zd_S bed needs blue boys limit) n m left ≤ 8 := by
  have h1 := zd_bd_le (bed := bed) (needs := needs) (blue := blue) (boys := boys) (limit := limit) (n := n) (m := m) (left := left)
  have h2 := zd_T_le (bed := bed) (n := n) (k := boys.toNat) hm
  omega
end
