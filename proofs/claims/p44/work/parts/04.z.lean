/-! theory -/
theorem zy_sn_0 {b : zx_Rw} {l : zx_Rw} {z : zx_Rw} {n : Int} : zx_F 110 [b, l, z] [n] 0 = ([(0 : Int)], [z]) := rfl
set_option maxRecDepth 20000 in
theorem zy_sn_s {k : Nat} {b : zx_Rw} {l : zx_Rw} {z : zx_Rw} {f : zx_Rw} {n : Int}  (h : zx_F 110 [b, l, z] [n] k = ([0], [f])) : zx_F 110 [b, l, z] [n] (k + 1) =
  (let m0 : List zx_Rw := if (if (k : Int) ≤ (99 : Int) then (1 : Int) else 0) = 0 then [f] else zx_wr [f] 0 (k : Int) (((zx_G 110 108 [b, l] [(k : Int), n] 8).1.getD 1 0) + (0 : Int))
  ([(if (if (k : Int) ≤ (99 : Int) then (1 : Int) else 0) = 0 then (1 : Int) else (0 : Int))], m0)) := by
  rw [zy_turn h]
  rfl
theorem zy_dc_0 {b : zx_Rw} {l : zx_Rw} {n : Int} : zx_F 111 [b, l] [n] 0 = ([(0 : Int), (0 : Int)], []) := rfl
set_option maxRecDepth 20000 in
theorem zy_dc_s {k : Nat} {b : zx_Rw} {l : zx_Rw} {n : Int} {s : Int} (h : zx_F 111 [b, l] [n] k = ([0, s], [])) : zx_F 111 [b, l] [n] (k + 1) =
  (([(if (if (k : Int) ≤ (98 : Int) then (1 : Int) else 0) = 0 then (1 : Int) else (0 : Int)), (if (if (k : Int) ≤ (98 : Int) then (1 : Int) else 0) = 0 then s else (if (if (((zx_G 111 108 [b, l] [((k : Int) + (1 : Int)), n] 8).1.getD 1 0) + (1 : Int)) ≤ ((zx_G 111 108 [b, l] [s, n] 8).1.getD 1 0) then (1 : Int) else 0) = 0 then s else ((k : Int) + (1 : Int))))], [])) := by
  rw [zy_turn h]
  rfl
theorem zy_dr_0 {b : zx_Rw} {l : zx_Rw} {n : Int} : zx_F 112 [b, l] [n] 0 = ([(0 : Int), (0 : Int)], []) := rfl
set_option maxRecDepth 20000 in
theorem zy_dr_s {k : Nat} {b : zx_Rw} {l : zx_Rw} {n : Int} {s : Int} (h : zx_F 112 [b, l] [n] k = ([0, s], [])) : zx_F 112 [b, l] [n] (k + 1) =
  (([(if (if (k : Int) ≤ (98 : Int) then (1 : Int) else 0) = 0 then (1 : Int) else (0 : Int)), (if (if (k : Int) ≤ (98 : Int) then (1 : Int) else 0) = 0 then s else (if (if (((zx_G 112 109 [b, l] [((k : Int) + (1 : Int)), n] 8).1.getD 1 0) + (1 : Int)) ≤ ((zx_G 112 109 [b, l] [s, n] 8).1.getD 1 0) then (1 : Int) else 0) = 0 then s else ((k : Int) + (1 : Int))))], [])) := by
  rw [zy_turn h]
  rfl
/-- a cell's light, worked out -/
def zy_lit (b l : zx_Rw) (n : Int) : zx_Rw := fun j => (zx_F 108 [b, l] [(j : Int), n] 8).1.getD 1 0
theorem zy_snr {b l z : zx_Rw} {n : Int} : ∀ k : Nat, ∃ d f, zx_F 110 [b, l, z] [n] k = ([d], [f]) ∧ ((d = 0 ∧ (k : Int) ≤ 100 ∧ f = zy_to (zy_lit b l n) z k) ∨ (d ≠ 0 ∧ f = zy_to (zy_lit b l n) z 100))
  | 0 => ⟨0, z, zy_sn_0, Or.inl ⟨rfl, by decide, rfl⟩⟩
  | k + 1 => by
    obtain ⟨d, f, e, g⟩ := zy_snr (b := b) (l := l) (z := z) (n := n) k
    have eG : ∀ P K, zx_G 110 108 [b, l] P K = zx_F 108 [b, l] P K := fun P K => zx_G_F (by decide) _ _ _
    rcases g with ⟨g1, g2, g3⟩ | ⟨g1, g2⟩
    · subst g1
      have e2 := zy_sn_s e
      simp only [eG, zy_if, zy_if0, zy_ne, zy_ne0, Int.add_zero] at e2
      by_cases hk : (k : Int) ≤ 99
      · rw [if_pos hk, if_pos hk, zx_wr1] at e2
        refine ⟨_, _, e2, Or.inl ⟨rfl, by push_cast; omega, ?_⟩⟩
        rw [g3]
        exact zy_to_s rfl
      · rw [if_neg hk, if_neg hk] at e2
        have ek : k = 100 := by omega
        exact ⟨_, _, e2, Or.inr ⟨by decide, by rw [g3, ek]⟩⟩
    · exact ⟨d, f, zy_stay e g1, Or.inr ⟨g1, g2⟩⟩
theorem zy_lcn {b l : zx_Rw} {c n : Int} : ∀ K : Nat, ∃ d s, zx_F 108 [b, l] [c, n] K = ([d, s], []) ∧ ((d = 0 ∧ (K = 0 ∨ (K : Int) ≤ n)) ∨ d = 1)
  | 0 => ⟨0, 0, zy_lc_0, Or.inl ⟨rfl, Or.inl rfl⟩⟩
  | K + 1 => by
    obtain ⟨d, s, e, h⟩ := zy_lcn (b := b) (l := l) (c := c) (n := n) K
    rcases h with ⟨h, -⟩ | h
    · subst h
      have e2 := zy_lc_s e
      by_cases hk : (K : Int) + 1 ≤ n
      · simp only [zy_if] at e2
        simp only [if_pos hk] at e2
        exact ⟨0, _, e2, Or.inl ⟨rfl, Or.inr (by push_cast; omega)⟩⟩
      · simp only [zy_if] at e2
        simp only [if_neg hk] at e2
        exact ⟨1, s, e2, Or.inr rfl⟩
    · exact ⟨d, s, zy_stay e (by omega), Or.inr h⟩
theorem zy_lcd {b l : zx_Rw} {c n : Int} (hn : n ≤ 7) : zx_F 108 [b, l] [c, n] 8 = ([1, (zx_F 108 [b, l] [c, n] 8).1.getD 1 0], []) := by
  obtain ⟨d, s, e, h⟩ := zy_lcn (b := b) (l := l) (c := c) (n := n) 8
  have hd : d = 1 := by
    rcases h with ⟨-, h⟩ | h
    · rcases h with h | h
      · cases h
      · omega
    · exact h
  rw [e, hd]
  rfl
theorem zy_dk {b l b' l' : zx_Rw} {n : Int} (hb : ∀ j : Nat, (j : Int) < n → b' j = b j) (hl : ∀ j : Nat, (j : Int) < n → l' j = l j) : ∀ K : Nat, ∃ d s, zx_F 111 [b, l] [n] K = ([d, s], []) ∧ zx_F 112 [b', l'] [n] K = ([d, s], [])
  | 0 => ⟨0, 0, zy_dc_0, zy_dr_0⟩
  | K + 1 => by
    obtain ⟨d, s, e1, e2⟩ := zy_dk hb hl K
    have eG1 : ∀ P K, zx_G 111 108 [b, l] P K = zx_F 108 [b, l] P K := fun P K => zx_G_F (by decide) _ _ _
    have eG2 : ∀ P K, zx_G 112 109 [b', l'] P K = zx_F 109 [b', l'] P K := fun P K => zx_G_F (by decide) _ _ _
    have eL : ∀ c : Int, zx_F 109 [b', l'] [c, n] 8 = zx_F 108 [b, l] [c, n] 8 := fun c => by
      obtain ⟨d, s, h1, h2⟩ := zy_li hb hl (c := c) 8
      rw [h1, h2]
    by_cases hd : d = 0
    · subst hd
      refine ⟨_, _, zy_dc_s e1, ?_⟩
      rw [zy_dr_s e2]
      simp only [eG1, eG2, eL]
    · exact ⟨d, s, zy_stay e1 hd, zy_stay e2 hd⟩
