/-! theory -/
theorem zy_ni_0 {p : zx_Rw} {q : zx_Rw} {b : Int} {bo : Int} : zx_F 124 [p, q] [b, bo] 0 = ([(0 : Int), (0 : Int)], []) := rfl
set_option maxRecDepth 20000 in
theorem zy_ni_s {k : Nat} {p : zx_Rw} {q : zx_Rw} {b : Int} {bo : Int} {s : Int} (h : zx_F 124 [p, q] [b, bo] k = ([0, s], [])) : zx_F 124 [p, q] [b, bo] (k + 1) =
  (([(if (if ((k : Int) + (1 : Int)) ≤ bo then (1 : Int) else 0) = 0 then (1 : Int) else (0 : Int)), (if (if ((k : Int) + (1 : Int)) ≤ bo then (1 : Int) else 0) = 0 then s else (if (if (p ((k : Int)).toNat) = b then (1 : Int) else 0) = 0 then s else (s + (q ((k : Int)).toNat))))], [])) := by
  rw [zy_turn h]
  rfl
theorem zy_an_0 {p : zx_Rw} {q : zx_Rw} {ba : Int} {bo : Int} : zx_F 125 [p, q] [ba, bo] 0 = ([(0 : Int), (0 : Int)], []) := rfl
set_option maxRecDepth 20000 in
theorem zy_an_s {k : Nat} {p : zx_Rw} {q : zx_Rw} {ba : Int} {bo : Int} {s : Int} (h : zx_F 125 [p, q] [ba, bo] k = ([0, s], [])) : zx_F 125 [p, q] [ba, bo] (k + 1) =
  (([(if (if ((k : Int) + (1 : Int)) ≤ ba then (1 : Int) else 0) = 0 then (1 : Int) else (0 : Int)), (if (if ((k : Int) + (1 : Int)) ≤ ba then (1 : Int) else 0) = 0 then s else (s + ((zx_G 125 124 [p, q] [(k : Int), bo] 9).1.getD 1 0)))], [])) := by
  rw [zy_turn h]
  rfl
theorem zy_lf_0 {p : zx_Rw} {q : zx_Rw} {v : Int} {ba : Int} {bo : Int} {al : Int} : zx_F 126 [p, q] [v, ba, bo, al] 0 = ([(0 : Int), v], []) := rfl
set_option maxRecDepth 20000 in
theorem zy_lf_s {k : Nat} {p : zx_Rw} {q : zx_Rw} {v : Int} {ba : Int} {bo : Int} {al : Int} {s : Int} (h : zx_F 126 [p, q] [v, ba, bo, al] k = ([0, s], [])) : zx_F 126 [p, q] [v, ba, bo, al] (k + 1) =
  (([(if (if ((k : Int) + (1 : Int)) ≤ ba then (1 : Int) else 0) = 0 then (1 : Int) else (0 : Int)), (if (if ((k : Int) + (1 : Int)) ≤ ba then (1 : Int) else 0) = 0 then s else (zx_op 7 (s - (if (if (1 : Int) ≤ al then (1 : Int) else 0) = 0 then (zx_op 6 v ba) else (zx_op 6 (zx_op 81 v ((zx_G 126 124 [p, q] [(k : Int), bo] 9).1.getD 1 0)) al))) (0 : Int)))], [])) := by
  rw [zy_turn h]
  rfl
theorem zy_nib {p q : zx_Rw} {b bo : Int} (hn : ∀ j : Nat, 0 ≤ q j ∧ q j ≤ 30) : ∀ K : Nat, ∃ d s, zx_F 124 [p, q] [b, bo] K = ([d, s], []) ∧ 0 ≤ s ∧ s ≤ 30 * (K : Int)
  | 0 => ⟨0, 0, zy_ni_0, by decide, by decide⟩
  | K + 1 => by
    obtain ⟨d, s, e, h1, h2⟩ := zy_nib (p := p) (b := b) (bo := bo) hn K
    by_cases hd : d = 0
    · subst hd
      have e2 := zy_ni_s e
      simp only [zy_if, Int.toNat_natCast] at e2
      have hK := hn K
      by_cases hk : (K : Int) + 1 ≤ bo
      · by_cases hp : p K = b
        · simp only [if_pos hk, if_pos hp] at e2
          exact ⟨0, _, e2, by omega, by push_cast; omega⟩
        · simp only [if_pos hk, if_neg hp] at e2
          exact ⟨0, _, e2, by omega, by push_cast; omega⟩
      · simp only [if_neg hk] at e2
        exact ⟨1, _, e2, by omega, by push_cast; omega⟩
    · exact ⟨d, s, zy_stay e hd, h1, by push_cast; omega⟩
def zy_nq (p q : zx_Rw) (bo : Int) (k : Nat) : Int := (zx_F 124 [p, q] [(k : Int), bo] 9).1.getD 1 0
theorem zy_nq_b {p q : zx_Rw} {bo : Int} (hn : ∀ j : Nat, 0 ≤ q j ∧ q j ≤ 30) (k : Nat) : 0 ≤ zy_nq p q bo k ∧ zy_nq p q bo k ≤ 270 := by
  obtain ⟨d, s, e, h1, h2⟩ := zy_nib (p := p) (b := (k : Int)) (bo := bo) hn 9
  unfold zy_nq
  rw [e]
  exact ⟨h1, h2⟩
def zy_sm (N : Nat → Int) : Nat → Int
  | 0 => 0
  | k + 1 => zy_sm N k + N k
theorem zy_sm_m {N : Nat → Int} (hN : ∀ k, 0 ≤ N k) : ∀ {j k : Nat}, j ≤ k → zy_sm N j ≤ zy_sm N k
  | j, 0, h => by
    have : j = 0 := by omega
    rw [this]
    exact Int.le_refl _
  | j, k + 1, h => by
    by_cases hj : j = k + 1
    · rw [hj]
      exact Int.le_refl _
    · have h1 := zy_sm_m hN (j := j) (k := k) (by omega)
      have h2 := hN k
      show zy_sm N j ≤ zy_sm N k + N k
      omega
theorem zy_anr {p q : zx_Rw} {ba bo : Int} (hb : 0 ≤ ba) : ∀ K : Nat, ∃ d s, zx_F 125 [p, q] [ba, bo] K = ([d, s], []) ∧ ((d = 0 ∧ (K : Int) ≤ ba ∧ s = zy_sm (zy_nq p q bo) K) ∨ (d ≠ 0 ∧ s = zy_sm (zy_nq p q bo) ba.toNat))
  | 0 => ⟨0, 0, zy_an_0, Or.inl ⟨rfl, hb, rfl⟩⟩
  | K + 1 => by
    obtain ⟨d, s, e, h⟩ := zy_anr (p := p) (q := q) (bo := bo) hb K
    have eG : ∀ P K, zx_G 125 124 [p, q] P K = zx_F 124 [p, q] P K := fun P K => zx_G_F (by decide) _ _ _
    rcases h with ⟨h1, h2, h3⟩ | ⟨h1, h2⟩
    · subst h1
      have e2 := zy_an_s e
      simp only [eG, zy_if] at e2
      by_cases hk : (K : Int) + 1 ≤ ba
      · simp only [if_pos hk] at e2
        exact ⟨0, _, e2, Or.inl ⟨rfl, by push_cast; omega, by rw [h3]; rfl⟩⟩
      · simp only [if_neg hk] at e2
        have ek : K = ba.toNat := by omega
        exact ⟨1, _, e2, Or.inr ⟨by decide, by rw [h3, ek]⟩⟩
    · exact ⟨d, s, zy_stay e h1, Or.inr ⟨h1, h2⟩⟩
theorem zy_mu {v n : Int} (hv : 0 ≤ v ∧ v ≤ 999) (hn : 0 ≤ n ∧ n ≤ 270) : 0 ≤ v * n ∧ v * n ≤ 269730 ∧ zx_op 81 v n = v * n := by
  have h1 : 0 ≤ v * n := Int.mul_nonneg hv.1 hn.1
  have h2 : v * n ≤ 999 * 270 := Int.mul_le_mul hv.2 hn.2 hn.1 (by decide)
  refine ⟨h1, by omega, ?_⟩
  show (Int32.ofInt v * Int32.ofInt n).toInt = v * n
  rw [← Int32.ofInt_mul]
  exact Int32.toInt_ofInt_of_le (by omega) (by omega)
theorem zy_op7 {s : Int} (h1 : -1000000 ≤ s) (h2 : s ≤ 1000000) : zx_op 7 s 0 = s := by
  show (Int32.ofInt s).toInt = s
  exact Int32.toInt_ofInt_of_le (by omega) (by omega)
/-- what is left behind so many barns -/
def zy_lv1 (N : Nat → Int) (v ba al : Int) (K : Nat) (s : Int) : Prop := 0 ≤ s ∧ s ≤ v ∧ ((1 ≤ al ∧ ∃ Q : Int, s = v - Q ∧ al * Q ≤ v * zy_sm N K ∧ v * zy_sm N K + (K : Int) ≤ al * Q + (K : Int) * al) ∨ (al = 0 ∧ s = v - (K : Int) * (v / ba)))
theorem zy_lv1_s {N : Nat → Int} {v ba al s : Int} {K : Nat} (hv : 0 ≤ v ∧ v ≤ 999) (hb : 1 ≤ ba) (hN : ∀ k, 0 ≤ N k ∧ N k ≤ 270) (hal : al = zy_sm N ba.toNat) (hk : (K : Int) + 1 ≤ ba) (h : zy_lv1 N v ba al K s) : zy_lv1 N v ba al (K + 1) (zx_op 7 (s - (if 1 ≤ al then zx_op 6 (zx_op 81 v (N K)) al else zx_op 6 v ba)) 0) := by
  obtain ⟨h1, h2, h3⟩ := h
  obtain ⟨m1, m2, m3⟩ := zy_mu hv (hN K)
  rcases h3 with ⟨h3, Q, h4, h5, h6⟩ | ⟨h3, h4⟩
  · rw [if_pos h3, m3]
    show zy_lv1 N v ba al (K + 1) (zx_op 7 (s - v * N K / al) 0)
    have q0 : 0 ≤ v * N K / al := Int.ediv_nonneg m1 (by omega)
    have q1 : al * (v * N K / al) ≤ v * N K := Int.mul_ediv_self_le (by omega)
    have q2 : v * N K < al * (v * N K / al) + al := Int.lt_mul_ediv_self_add (by omega)
    generalize v * N K / al = w at q0 q1 q2 ⊢
    have hs : zy_sm N (K + 1) = zy_sm N K + N K := rfl
    have hle : zy_sm N (K + 1) ≤ al := by
      rw [hal]
      exact zy_sm_m (fun k => (hN k).1) (by omega)
    have r1 : al * (Q + w) ≤ v * zy_sm N (K + 1) := by
      rw [hs, Int.mul_add, Int.mul_add]
      omega
    have r2 : v * zy_sm N (K + 1) ≤ v * al := Int.mul_le_mul_of_nonneg_left hle hv.1
    have r3 : Q + w ≤ v := by
      have : al * (Q + w) ≤ al * v := by
        rw [Int.mul_comm al v]
        omega
      exact Int.le_of_mul_le_mul_left this (by omega)
    rw [zy_op7 (by omega) (by omega)]
    refine ⟨by omega, by omega, Or.inl ⟨h3, Q + w, by omega, r1, ?_⟩⟩
    rw [hs, Int.mul_add, Int.mul_add]
    push_cast
    rw [Int.add_mul, Int.one_mul]
    omega
  · rw [if_neg (by omega)]
    show zy_lv1 N v ba al (K + 1) (zx_op 7 (s - v / ba) 0)
    have q0 : 0 ≤ v / ba := Int.ediv_nonneg hv.1 (by omega)
    have q1 : ba * (v / ba) ≤ v := Int.mul_ediv_self_le (by omega)
    obtain ⟨w, hw⟩ : ∃ w, v / ba = w := ⟨_, rfl⟩
    rw [hw] at q0 q1 h4
    rw [hw]
    have q2 : ((K : Int) + 1) * w ≤ ba * w := Int.mul_le_mul_of_nonneg_right hk q0
    rw [Int.add_mul, Int.one_mul] at q2
    have q3 : 0 ≤ (K : Int) * w := Int.mul_nonneg (by omega) q0
    rw [zy_op7 (by omega) (by omega)]
    refine ⟨by omega, by omega, Or.inr ⟨h3, ?_⟩⟩
    push_cast
    rw [hw, Int.add_mul, Int.one_mul]
    omega
theorem zy_lfr {p q : zx_Rw} {v ba bo al : Int} (hv : 0 ≤ v ∧ v ≤ 999) (hb : 1 ≤ ba) (hn : ∀ j : Nat, 0 ≤ q j ∧ q j ≤ 30) (hal : al = zy_sm (zy_nq p q bo) ba.toNat) : ∀ K : Nat, ∃ d s, zx_F 126 [p, q] [v, ba, bo, al] K = ([d, s], []) ∧ ((d = 0 ∧ (K : Int) ≤ ba ∧ zy_lv1 (zy_nq p q bo) v ba al K s) ∨ (d ≠ 0 ∧ zy_lv1 (zy_nq p q bo) v ba al ba.toNat s))
  | 0 => ⟨0, v, zy_lf_0, Or.inl ⟨rfl, by omega, hv.1, Int.le_refl _, by
      have h0 : 0 ≤ al := by
        rw [hal]
        exact zy_sm_m (fun k => (zy_nq_b hn k).1) (Nat.zero_le _)
      by_cases ha : 1 ≤ al
      · exact Or.inl ⟨ha, 0, by omega, by rw [show zy_sm (zy_nq p q bo) 0 = 0 from rfl, Int.mul_zero, Int.mul_zero]; exact Int.le_refl _, by rw [show zy_sm (zy_nq p q bo) 0 = 0 from rfl]; simp⟩
      · exact Or.inr ⟨by omega, by simp⟩⟩⟩
  | K + 1 => by
    obtain ⟨d, s, e, h⟩ := zy_lfr (p := p) (q := q) (bo := bo) hv hb hn hal K
    have eG : ∀ P K, zx_G 126 124 [p, q] P K = zx_F 124 [p, q] P K := fun P K => zx_G_F (by decide) _ _ _
    rcases h with ⟨h1, h2, h3⟩ | ⟨h1, h2⟩
    · subst h1
      have e2 := zy_lf_s e
      simp only [eG, zy_if] at e2
      by_cases hk : (K : Int) + 1 ≤ ba
      · simp only [if_pos hk] at e2
        have h4 := zy_lv1_s hv hb (zy_nq_b hn) hal hk h3
        exact ⟨0, _, e2, Or.inl ⟨rfl, by push_cast; omega, h4⟩⟩
      · simp only [if_neg hk] at e2
        have ek : K = ba.toNat := by omega
        exact ⟨1, _, e2, Or.inr ⟨by decide, by rw [← ek]; exact h3⟩⟩
    · exact ⟨d, s, zy_stay e h1, Or.inr ⟨h1, h2⟩⟩
theorem zy_left {p q : zx_Rw} {v ba bo al lf d1 d2 : Int} {K1 K2 : Nat} (hv : 0 ≤ v ∧ v ≤ 999) (hb : 1 ≤ ba) (hn : ∀ j : Nat, 0 ≤ q j ∧ q j ≤ 30) (h1 : zx_F 125 [p, q] [ba, bo] K1 = ([d1, al], [])) (hd1 : d1 ≠ 0) (h2 : zx_F 126 [p, q] [v, ba, bo, al] K2 = ([d2, lf], [])) (hd2 : d2 ≠ 0) : 0 ≤ lf ∧ lf + 1 ≤ ba := by
  have hal : al = zy_sm (zy_nq p q bo) ba.toNat := by
    obtain ⟨d, s, e, h⟩ := zy_anr (p := p) (q := q) (ba := ba) (bo := bo) (by omega) K1
    rw [h1] at e
    have ed : d1 = d := congrArg (fun x => x.1.getD 0 0) e
    have es : al = s := congrArg (fun x => x.1.getD 1 0) e
    rcases h with ⟨h, -⟩ | ⟨-, h⟩
    · exact absurd (ed.trans h) hd1
    · exact es.trans h
  obtain ⟨d, s, e, h⟩ := zy_lfr (p := p) (q := q) (bo := bo) hv hb hn hal K2
  rw [h2] at e
  have ed : d2 = d := congrArg (fun x => x.1.getD 0 0) e
  have es : lf = s := congrArg (fun x => x.1.getD 1 0) e
  rcases h with ⟨h, -⟩ | ⟨-, h⟩
  · exact absurd (ed.trans h) hd2
  · rw [es]
    obtain ⟨g1, g2, g3⟩ := h
    have eb : ((ba.toNat : Nat) : Int) = ba := Int.toNat_of_nonneg (by omega)
    rw [eb] at g3
    refine ⟨g1, ?_⟩
    rcases g3 with ⟨g3, Q, g4, g5, g6⟩ | ⟨g3, g4⟩
    · rw [← hal] at g5 g6
      have r : al * s = al * v - al * Q := by rw [g4, Int.mul_sub]
      have r2 : al * s < al * ba := by
        rw [r, Int.mul_comm al v, Int.mul_comm al ba]
        omega
      have := Int.lt_of_mul_lt_mul_left r2 (by omega)
      omega
    · have := Int.lt_mul_ediv_self_add (x := v) (k := ba) (by omega)
      omega
theorem zy_d0 {x y : Int} (hx : 0 ≤ x) (hxy : x + 1 ≤ y) (hy : (Int32.ofInt y).toInt = y) : Int32.ofInt x / Int32.ofInt y = 0 := by
  have h := Int32.toInt_lt (Int32.ofInt y)
  rw [hy] at h
  have ex : (Int32.ofInt x).toInt = x := Int32.toInt_ofInt_of_le (by omega) (by omega)
  apply Int32.toInt_inj.mp
  rw [Int32.toInt_div, ex, hy, Int.tdiv_eq_ediv_of_nonneg hx, Int.ediv_eq_zero_of_lt hx (by omega)]
  decide
