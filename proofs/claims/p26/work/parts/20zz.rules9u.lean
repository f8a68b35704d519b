noncomputable section
/-! A LAW'S CONTENT: both readers' lists make one law -/
theorem zy_F_st {id : Nat} {R : List zx_Rw} {P : List Int} {K : Nat} {d : Int} {S : List Int} (h : (zx_F id R P K).1 = d :: S) (hd : d ≠ 0) : ∀ m : Nat, (zx_F id R P (K + m)).1 = d :: S
  | 0 => h
  | m + 1 => by
    have e := (zx_F_s (zy_F_st h hd m)).1 hd
    exact e
theorem zx_L_st {g id : Nat} {R : List zx_Rw} {P : List Int} {K : Nat} {d : Int} {S : List Int} (h : (zx_F id R P K).1 = d :: S) (hd : d ≠ 0) : ∀ m : Nat, zx_L g id R P (K + m) = zx_L g id R P K
  | 0 => rfl
  | m + 1 => by
    have e : zx_L g id R P (K + m + 1) = zx_L g id R P (K + m) := (zx_L_s (g := g) (zy_F_st h hd m)).1 hd
    rw [zx_L_st h hd m] at e
    exact e
/-- a list that a reader laid, all well, lies at a row's beginning -/
def zy_P (g id : Nat) (tape S : zx_Rw) (n p1 : Int) : Prop := ∃ (K : Nat) (d u x : Int) (r : List Int), (zx_F id [tape] [n] K).1 = d :: u :: x :: r ∧ d ≠ 0 ∧ u ≠ 0 ∧ x = n ∧ zx_ly (zx_L g id [tape] [n] K) S S 0 p1
theorem zy_P_at {g id : Nat} {tape S : zx_Rw} {n p1 : Int} (h : zy_P g id tape S n p1) : ∃ K0 : Nat, ∀ m, K0 ≤ m → (∃ (d u : Int) (r : List Int), (zx_F id [tape] [n] m).1 = d :: u :: n :: r ∧ d ≠ 0 ∧ u ≠ 0) ∧ zx_ly (zx_L g id [tape] [n] m) S S 0 p1 := by
  obtain ⟨K, d, u, x, r, h1, h2, h3, h4, h5⟩ := h
  subst h4
  refine ⟨K, fun m hm => ?_⟩
  obtain ⟨j, rfl⟩ := Nat.le.dest hm
  refine ⟨⟨d, u, r, zy_F_st h1 h2 j, h2, h3⟩, ?_⟩
  rw [zx_L_st h1 h2 j]
  exact h5
theorem zy_acs_len : ∀ {ls : List (List (Int × Int) × List (Int × Int))}, (zy_acs ls).length = zy_tot ls
  | [] => rfl
  | q :: r => by
    show ((q.1 ++ q.2) ++ zy_acs r).length = q.1.length + q.2.length + zy_tot r
    rw [List.length_append, List.length_append, zy_acs_len]
theorem zy_tes_len : ∀ {ls : List (List (Int × Int) × List (Int × Int))} {k : Int}, (zy_tes k ls).length = ls.length
  | [], _ => rfl
  | q :: r, k => by
    show (zy_tes _ r).length + 1 = r.length + 1
    rw [zy_tes_len]
theorem zy_les_len : ∀ {ls : List (List (Int × Int) × List (Int × Int))} {k : Int}, (zy_les k ls).length = ls.length
  | [], _ => rfl
  | q :: r, k => by
    show (zy_les _ r).length + 1 = r.length + 1
    rw [zy_les_len]
theorem zy_lay_of {a w t e : zx_Rw} : ∀ {ls : List (List (Int × Int) × List (Int × Int))} {j k : Nat}, zx_sl t j ls.length = zy_tes (k : Int) ls → zx_sl e j ls.length = zy_les (k : Int) ls → zx_sl a k (zy_tot ls) = (zy_acs ls).map Prod.fst → zx_sl w k (zy_tot ls) = (zy_acs ls).map Prod.snd → zy_lay a w t e ls j k
  | [], _, _, _, _, _, _ => trivial
  | q :: r, j, k, h1, h2, h3, h4 => by
    have h1 : t j :: zx_sl t (j + 1) r.length = ((k : Int) + (q.1.length : Int)) :: zy_tes ((k : Int) + ((q.1.length + q.2.length : Nat) : Int)) r := h1
    have h2 : e j :: zx_sl e (j + 1) r.length = ((k : Int) + ((q.1.length + q.2.length : Nat) : Int)) :: zy_les ((k : Int) + ((q.1.length + q.2.length : Nat) : Int)) r := h2
    have h3 : zx_sl a k (q.1.length + q.2.length + zy_tot r) = ((q.1 ++ q.2) ++ zy_acs r).map Prod.fst := h3
    have h4 : zx_sl w k (q.1.length + q.2.length + zy_tot r) = ((q.1 ++ q.2) ++ zy_acs r).map Prod.snd := h4
    obtain ⟨a1, a2⟩ := List.cons.inj h1
    obtain ⟨b1, b2⟩ := List.cons.inj h2
    rw [zx_sl_add, List.map_append] at h3 h4
    obtain ⟨c1, c2⟩ := List.append_inj h3 (by rw [zx_sl_len, List.length_map, List.length_append])
    obtain ⟨d1, d2⟩ := List.append_inj h4 (by rw [zx_sl_len, List.length_map, List.length_append])
    have ek : (k : Int) + ((q.1.length + q.2.length : Nat) : Int) = ((k + q.1.length + q.2.length : Nat) : Int) := by omega
    rw [ek] at a2 b2
    rw [show k + (q.1.length + q.2.length) = k + q.1.length + q.2.length by omega] at c2 d2
    exact ⟨by rw [a1]; omega, by rw [b1]; omega, c1, d1, zy_lay_of a2 b2 c2 d2⟩
/-- both readers have read one text: they hold one law -/
theorem zy_fin2 {f g st a w t e lm : zx_Rw} {n len p2 p3 : Int} (H : zy_H f g n) (h0 : zy_P 0 47 f st n len) (h1 : zy_P 1 92 g a n p2) (h2 : zy_P 2 92 g w n p3) (h3 : zy_P 3 92 g t n (0 + lm 0)) (h4 : zy_P 4 92 g e n (0 + lm 0)) (hb : p2 ≤ 121) (hm : lm 0 ≤ 61) : zy_law st a w t e lm len 1 := by
  obtain ⟨k0, g0⟩ := zy_P_at h0
  obtain ⟨k1, g1⟩ := zy_P_at h1
  obtain ⟨k2, g2⟩ := zy_P_at h2
  obtain ⟨k3, g3⟩ := zy_P_at h3
  obtain ⟨k4, g4⟩ := zy_P_at h4
  obtain ⟨⟨d, u, r, e0, e1, e2⟩, l0⟩ := g0 (k0 + k1 + k2 + k3 + k4) (by omega)
  obtain ⟨⟨d', u', r', f0, f1, f2⟩, l1⟩ := g1 (k0 + k1 + k2 + k3 + k4) (by omega)
  obtain ⟨-, l2⟩ := g2 (k0 + k1 + k2 + k3 + k4) (by omega)
  obtain ⟨-, l3⟩ := g3 (k0 + k1 + k2 + k3 + k4) (by omega)
  obtain ⟨-, l4⟩ := g4 (k0 + k1 + k2 + k3 + k4) (by omega)
  obtain ⟨d2, cg, x, rg, l, a1, a2, a3, a4⟩ := zy_both H (k0 + k1 + k2 + k3 + k4)
  rw [f0] at a2
  obtain ⟨-, m1⟩ := List.cons.inj a2
  obtain ⟨m1, -⟩ := List.cons.inj m1
  subst m1
  rcases a4 with ⟨-, -, ls, s1, s2, s3, s4, s5, s6, s7, s8⟩ | ⟨q, -⟩
  · rw [s4] at l0
    rw [s5] at l1
    rw [s6] at l2
    rw [s7] at l3
    rw [s8] at l4
    have c0 : zx_sl st 0 (zy_code ls).length = zy_code ls := zx_ly_sl l0
    have c1 : zx_sl a 0 ((zy_acs ls).map Prod.fst).length = (zy_acs ls).map Prod.fst := zx_ly_sl l1
    have c2 : zx_sl w 0 ((zy_acs ls).map Prod.snd).length = (zy_acs ls).map Prod.snd := zx_ly_sl l2
    have c3 : zx_sl t 0 (zy_tes 0 ls).length = zy_tes 0 ls := zx_ly_sl l3
    have c4 : zx_sl e 0 (zy_les 0 ls).length = zy_les 0 ls := zx_ly_sl l4
    rw [List.length_map, zy_acs_len] at c1 c2
    rw [zy_tes_len] at c3
    rw [zy_les_len] at c4
    have n0 := l0.2.1
    have n1 := l1.2.1
    have n3 := l3.2.1
    rw [List.length_map, zy_acs_len] at n1
    rw [zy_tes_len] at n3
    refine ⟨by omega, Or.inr rfl, ls, ?_, s2, zy_lay_of c3 c4 c1 c2, by omega, ⟨fun h => absurd h (by decide), fun h => absurd h s1⟩, by omega, by omega⟩
    rw [show len.toNat = (zy_code ls).length by omega]
    exact c0
  · exact absurd q f2
end
