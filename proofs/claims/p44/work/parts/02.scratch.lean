/-! scratch -/
theorem zx_it_stay {cl : zx_Cl} {d : zx_Df} {R : List zx_Rw} {P : List Int} {K : Nat} (h : (zx_it cl d R P K).1.getD 0 0 ≠ 0) : ∀ {n : Nat}, zx_it cl d R P (K + n) = zx_it cl d R P K
  | 0 => rfl
  | n + 1 => by
    have := zx_it_stay h (n := n)
    show (if (zx_it cl d R P (K + n)).1.getD 0 0 = 0 then _ else zx_it cl d R P (K + n)) = _
    rw [if_neg (by rw [this]; exact h), this]
theorem zx_F_st {id : Nat} {R : List zx_Rw} {P : List Int} {K K' : Nat} (h : (zx_F id R P K).1.getD 0 0 ≠ 0) (hk : K ≤ K') : zx_F id R P K' = zx_F id R P K := by
  have g := zx_it_stay (cl := zx_G id) (d := zx_dn id) (R := R) (P := P) (K := K) h (n := K' - K)
  rw [Nat.add_sub_cancel' hk] at g
  exact g
/-- a turn of a told function -/
theorem zy_turn {id : Nat} {R M : List zx_Rw} {P S : List Int} {k : Nat} (h : zx_F id R P k = (0 :: S, M)) : zx_F id R P (k + 1) = ((zx_dn id).2.2.2.1.map (zx_ev (zx_G id) R M P (k : Int) (0 :: S)), zx_sto (zx_G id) R M P (k : Int) (0 :: S) (zx_dn id).2.2.2.2 M) := by
  have e : zx_F id R P (k + 1) = if (zx_F id R P k).1.getD 0 0 = 0 then ((zx_dn id).2.2.2.1.map (zx_ev (zx_G id) R (zx_F id R P k).2 P (k : Int) (zx_F id R P k).1), zx_sto (zx_G id) R (zx_F id R P k).2 P (k : Int) (zx_F id R P k).1 (zx_dn id).2.2.2.2 (zx_F id R P k).2) else zx_F id R P k := rfl
  rw [e, h]
  rfl
theorem zy_if {c : Prop} [Decidable c] {α : Type} {a b : α} : (if (if c then (1 : Int) else 0) = 0 then a else b) = if c then b else a := by
  by_cases h : c <;> simp [h]
theorem zy_if0 {c : Prop} [Decidable c] {α : Type} {a b : α} : (if (if c then (0 : Int) else 1) = 0 then a else b) = if c then a else b := by
  by_cases h : c <;> simp [h]
theorem zy_ne {c : Prop} [Decidable c] : ((if c then (1 : Int) else 0) ≠ 0) = c := by
  by_cases h : c <;> simp [h]
theorem zy_ne0 {c : Prop} [Decidable c] : ((if c then (0 : Int) else 1) ≠ 0) = ¬ c := by
  by_cases h : c <;> simp [h]
theorem zy_stay {id : Nat} {R : List zx_Rw} {P S : List Int} {M : List zx_Rw} {k : Nat} {d : Int} (h : zx_F id R P k = (d :: S, M)) (hd : d ≠ 0) : zx_F id R P (k + 1) = (d :: S, M) := by
  have e : zx_F id R P (k + 1) = zx_F id R P k := zx_F_st (K := k) (by rw [h]; exact hd) (Nat.le_succ k)
  rw [e, h]
def zy_up (f : zx_Rw) (i v : Int) : zx_Rw := fun t => if t = i.toNat then v else f t
theorem zx_wr1 {f : zx_Rw} {i v : Int} : zx_wr [f] 0 i v = [zy_up f i v] := rfl
/-- a row anew below a place -/
def zy_to (f g : zx_Rw) (n : Nat) : zx_Rw := fun j => if j < n then f j else g j
theorem zy_to_0 {f g : zx_Rw} : zy_to f g 0 = g := rfl
theorem zy_to_s {f g : zx_Rw} {n : Nat} {v : Int} (h : v = f n) : zy_up (zy_to f g n) (n : Int) v = zy_to f g (n + 1) := by
  funext j
  show (if j = ((n : Int)).toNat then v else if j < n then f j else g j) = if j < n + 1 then f j else g j
  rw [Int.toNat_natCast]
  by_cases h1 : j = n
  · rw [if_pos h1, if_pos (by omega), h, h1]
  · rw [if_neg h1]
    by_cases h2 : j < n
    · rw [if_pos h2, if_pos (by omega)]
    · rw [if_neg h2, if_neg (by omega)]
