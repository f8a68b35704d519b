noncomputable section
/-! THE WAY OF WHAT IS LET OUT (wip/p41/mk9zb.py) -/
theorem zy_be_0  {c : Int} {k : Int} : zx_F 113 [] [c, k] 0 = ([(0 : Int), (if (if (if (0 : Int) ≤ ((zx_op 83 c (10 : Int)) + (if (if k = (1 : Int) then (1 : Int) else 0) = 0 then (if (if k = (3 : Int) then (1 : Int) else 0) = 0 then (0 : Int) else (-1 : Int)) else (1 : Int))) then (1 : Int) else 0) ≠ 0 ∧ (if (if ((zx_op 83 c (10 : Int)) + (if (if k = (1 : Int) then (1 : Int) else 0) = 0 then (if (if k = (3 : Int) then (1 : Int) else 0) = 0 then (0 : Int) else (-1 : Int)) else (1 : Int))) ≤ (9 : Int) then (1 : Int) else 0) ≠ 0 ∧ (if (if (0 : Int) ≤ ((zx_op 82 c (10 : Int)) + (if (if k = (0 : Int) then (1 : Int) else 0) = 0 then (if (if k = (2 : Int) then (1 : Int) else 0) = 0 then (0 : Int) else (1 : Int)) else (-1 : Int))) then (1 : Int) else 0) ≠ 0 ∧ (if ((zx_op 82 c (10 : Int)) + (if (if k = (0 : Int) then (1 : Int) else 0) = 0 then (if (if k = (2 : Int) then (1 : Int) else 0) = 0 then (0 : Int) else (1 : Int)) else (-1 : Int))) ≤ (9 : Int) then (1 : Int) else 0) ≠ 0 then (1 : Int) else 0) ≠ 0 then (1 : Int) else 0) ≠ 0 then (1 : Int) else 0) = 0 then (-1 : Int) else ((10 * ((zx_op 82 c (10 : Int)) + (if (if k = (0 : Int) then (1 : Int) else 0) = 0 then (if (if k = (2 : Int) then (1 : Int) else 0) = 0 then (0 : Int) else (1 : Int)) else (-1 : Int)))) + ((zx_op 83 c (10 : Int)) + (if (if k = (1 : Int) then (1 : Int) else 0) = 0 then (if (if k = (3 : Int) then (1 : Int) else 0) = 0 then (0 : Int) else (-1 : Int)) else (1 : Int)))))], []) := rfl
theorem zy_ap_0  {a : Int} {b : Int} : zx_F 114 [] [a, b] 0 = ([(0 : Int), ((if (if (0 : Int) ≤ ((zx_op 83 a (10 : Int)) - (zx_op 83 b (10 : Int))) then (1 : Int) else 0) = 0 then ((0 : Int) - ((zx_op 83 a (10 : Int)) - (zx_op 83 b (10 : Int)))) else ((zx_op 83 a (10 : Int)) - (zx_op 83 b (10 : Int)))) + (if (if (0 : Int) ≤ ((zx_op 82 a (10 : Int)) - (zx_op 82 b (10 : Int))) then (1 : Int) else 0) = 0 then ((0 : Int) - ((zx_op 82 a (10 : Int)) - (zx_op 82 b (10 : Int)))) else ((zx_op 82 a (10 : Int)) - (zx_op 82 b (10 : Int)))))], []) := rfl
theorem zy_nc_0 {L : zx_Rw} {c : Int} {b : Int} {mc : Int} {mb : Int} : zx_F 115 [L] [c, b, mc, mb] 0 = ([(0 : Int), (-1 : Int), (1000 : Int)], []) := rfl
set_option maxRecDepth 20000 in
theorem zy_nc_s {k : Nat} {L : zx_Rw} {c : Int} {b : Int} {mc : Int} {mb : Int} {x : Int} {y : Int} (h : zx_F 115 [L] [c, b, mc, mb] k = ([0, x, y], [])) : zx_F 115 [L] [c, b, mc, mb] (k + 1) =
  (([(if (if (k : Int) ≤ (3 : Int) then (1 : Int) else 0) = 0 then (1 : Int) else (0 : Int)), (if (if (k : Int) ≤ (3 : Int) then (1 : Int) else 0) = 0 then x else (if (if (if (if (if (if (if (0 : Int) ≤ ((zx_G 115 113 [] [c, (k : Int)] 0).1.getD 1 0) then (1 : Int) else 0) = 0 then (1 : Int) else 0) = 0 then (1 : Int) else 0) ≠ 0 ∧ (if (if (if ((zx_G 115 113 [] [c, (k : Int)] 0).1.getD 1 0) = b then (1 : Int) else 0) = 0 then (1 : Int) else 0) = 0 then (1 : Int) else 0) ≠ 0 then (1 : Int) else 0) = 0 then (1 : Int) else 0) ≠ 0 ∧ (if ((if (if (0 : Int) ≤ ((zx_G 115 113 [] [c, (k : Int)] 0).1.getD 1 0) then (1 : Int) else 0) = 0 then (0 : Int) else (zx_op 7 ((L (((zx_G 115 113 [] [c, (k : Int)] 0).1.getD 1 0)).toNat) + (if (if (1 : Int) ≤ (mb - ((zx_G 115 114 [] [((zx_G 115 113 [] [c, (k : Int)] 0).1.getD 1 0), mc] 0).1.getD 1 0)) then (1 : Int) else 0) = 0 then (0 : Int) else (mb - ((zx_G 115 114 [] [((zx_G 115 113 [] [c, (k : Int)] 0).1.getD 1 0), mc] 0).1.getD 1 0)))) (0 : Int))) + (1 : Int)) ≤ y then (1 : Int) else 0) ≠ 0 then (1 : Int) else 0) = 0 then x else ((zx_G 115 113 [] [c, (k : Int)] 0).1.getD 1 0))), (if (if (k : Int) ≤ (3 : Int) then (1 : Int) else 0) = 0 then (0 : Int) else (if (if (if (if (if (if (if (0 : Int) ≤ ((zx_G 115 113 [] [c, (k : Int)] 0).1.getD 1 0) then (1 : Int) else 0) = 0 then (1 : Int) else 0) = 0 then (1 : Int) else 0) ≠ 0 ∧ (if (if (if ((zx_G 115 113 [] [c, (k : Int)] 0).1.getD 1 0) = b then (1 : Int) else 0) = 0 then (1 : Int) else 0) = 0 then (1 : Int) else 0) ≠ 0 then (1 : Int) else 0) = 0 then (1 : Int) else 0) ≠ 0 ∧ (if ((if (if (0 : Int) ≤ ((zx_G 115 113 [] [c, (k : Int)] 0).1.getD 1 0) then (1 : Int) else 0) = 0 then (0 : Int) else (zx_op 7 ((L (((zx_G 115 113 [] [c, (k : Int)] 0).1.getD 1 0)).toNat) + (if (if (1 : Int) ≤ (mb - ((zx_G 115 114 [] [((zx_G 115 113 [] [c, (k : Int)] 0).1.getD 1 0), mc] 0).1.getD 1 0)) then (1 : Int) else 0) = 0 then (0 : Int) else (mb - ((zx_G 115 114 [] [((zx_G 115 113 [] [c, (k : Int)] 0).1.getD 1 0), mc] 0).1.getD 1 0)))) (0 : Int))) + (1 : Int)) ≤ y then (1 : Int) else 0) ≠ 0 then (1 : Int) else 0) = 0 then y else (if (if (0 : Int) ≤ ((zx_G 115 113 [] [c, (k : Int)] 0).1.getD 1 0) then (1 : Int) else 0) = 0 then (0 : Int) else (zx_op 7 ((L (((zx_G 115 113 [] [c, (k : Int)] 0).1.getD 1 0)).toNat) + (if (if (1 : Int) ≤ (mb - ((zx_G 115 114 [] [((zx_G 115 113 [] [c, (k : Int)] 0).1.getD 1 0), mc] 0).1.getD 1 0)) then (1 : Int) else 0) = 0 then (0 : Int) else (mb - ((zx_G 115 114 [] [((zx_G 115 113 [] [c, (k : Int)] 0).1.getD 1 0), mc] 0).1.getD 1 0)))) (0 : Int)))))], [])) := by
  rw [zy_turn h]
  rfl
theorem zy_nr_0 {br : zx_Rw} {la : zx_Rw} {c : Int} {b : Int} {n : Int} : zx_F 116 [br, la] [c, b, n] 0 = ([(0 : Int), (-2 : Int), (0 : Int)], []) := rfl
set_option maxRecDepth 20000 in
theorem zy_nr_s {k : Nat} {br : zx_Rw} {la : zx_Rw} {c : Int} {b : Int} {n : Int} {x : Int} {y : Int} (h : zx_F 116 [br, la] [c, b, n] k = ([0, x, y], [])) : zx_F 116 [br, la] [c, b, n] (k + 1) =
  (([(if (if (k : Int) ≤ (3 : Int) then (1 : Int) else 0) = 0 then (1 : Int) else (0 : Int)), (if (if (k : Int) ≤ (3 : Int) then (1 : Int) else 0) = 0 then x else (if (if (if (if (if (if (if (0 : Int) ≤ ((zx_G 116 113 [] [c, (k : Int)] 0).1.getD 1 0) then (1 : Int) else 0) = 0 then (1 : Int) else 0) = 0 then (1 : Int) else 0) ≠ 0 ∧ (if (if (if ((zx_G 116 113 [] [c, (k : Int)] 0).1.getD 1 0) = b then (1 : Int) else 0) = 0 then (1 : Int) else 0) = 0 then (1 : Int) else 0) ≠ 0 then (1 : Int) else 0) = 0 then (1 : Int) else 0) ≠ 0 ∧ (if (if (if (if x = (-2 : Int) then (1 : Int) else 0) = 0 then (1 : Int) else 0) ≠ 0 ∧ (if (if ((if (if (0 : Int) ≤ ((zx_G 116 113 [] [c, (k : Int)] 0).1.getD 1 0) then (1 : Int) else 0) = 0 then (0 : Int) else ((zx_G 116 109 [br, la] [((zx_G 116 113 [] [c, (k : Int)] 0).1.getD 1 0), n] 8).1.getD 1 0)) + (1 : Int)) ≤ y then (1 : Int) else 0) = 0 then (1 : Int) else 0) ≠ 0 then (1 : Int) else 0) = 0 then (1 : Int) else 0) ≠ 0 then (1 : Int) else 0) = 0 then x else ((zx_G 116 113 [] [c, (k : Int)] 0).1.getD 1 0))), (if (if (k : Int) ≤ (3 : Int) then (1 : Int) else 0) = 0 then (0 : Int) else (if (if (if (if (if (if (if (0 : Int) ≤ ((zx_G 116 113 [] [c, (k : Int)] 0).1.getD 1 0) then (1 : Int) else 0) = 0 then (1 : Int) else 0) = 0 then (1 : Int) else 0) ≠ 0 ∧ (if (if (if ((zx_G 116 113 [] [c, (k : Int)] 0).1.getD 1 0) = b then (1 : Int) else 0) = 0 then (1 : Int) else 0) = 0 then (1 : Int) else 0) ≠ 0 then (1 : Int) else 0) = 0 then (1 : Int) else 0) ≠ 0 ∧ (if (if (if (if x = (-2 : Int) then (1 : Int) else 0) = 0 then (1 : Int) else 0) ≠ 0 ∧ (if (if ((if (if (0 : Int) ≤ ((zx_G 116 113 [] [c, (k : Int)] 0).1.getD 1 0) then (1 : Int) else 0) = 0 then (0 : Int) else ((zx_G 116 109 [br, la] [((zx_G 116 113 [] [c, (k : Int)] 0).1.getD 1 0), n] 8).1.getD 1 0)) + (1 : Int)) ≤ y then (1 : Int) else 0) = 0 then (1 : Int) else 0) ≠ 0 then (1 : Int) else 0) = 0 then (1 : Int) else 0) ≠ 0 then (1 : Int) else 0) = 0 then y else (if (if (0 : Int) ≤ ((zx_G 116 113 [] [c, (k : Int)] 0).1.getD 1 0) then (1 : Int) else 0) = 0 then (0 : Int) else ((zx_G 116 109 [br, la] [((zx_G 116 113 [] [c, (k : Int)] 0).1.getD 1 0), n] 8).1.getD 1 0))))], [])) := by
  rw [zy_turn h]
  rfl
theorem zy_gc_0 {L : zx_Rw} {z : zx_Rw} {st : Int} {mc : Int} {mb : Int} : zx_F 117 [L, z] [st, mc, mb] 0 = ([(0 : Int), st, (-1 : Int), (100 : Int)], [z]) := rfl
set_option maxRecDepth 20000 in
theorem zy_gc_s {k : Nat} {L : zx_Rw} {z : zx_Rw} {f : zx_Rw} {st : Int} {mc : Int} {mb : Int} {c : Int} {b : Int} {hr : Int} (h : zx_F 117 [L, z] [st, mc, mb] k = ([0, c, b, hr], [f])) : zx_F 117 [L, z] [st, mc, mb] (k + 1) =
  (let m0 : List zx_Rw := if (if (if (k : Int) ≤ (98 : Int) then (1 : Int) else 0) ≠ 0 ∧ (if (if ((zx_G 117 115 [L] [c, b, mc, mb] 5).1.getD 1 0) = (-1 : Int) then (1 : Int) else 0) = 0 then (1 : Int) else 0) ≠ 0 then (1 : Int) else 0) = 0 then [f] else zx_wr [f] 0 ((k : Int) + (1 : Int)) (((zx_G 117 115 [L] [c, b, mc, mb] 5).1.getD 1 0) + (0 : Int))
  ([(if (if (k : Int) ≤ (98 : Int) then (1 : Int) else 0) = 0 then (1 : Int) else (if (if ((zx_G 117 115 [L] [c, b, mc, mb] 5).1.getD 1 0) = (-1 : Int) then (1 : Int) else 0) = 0 then (0 : Int) else (1 : Int))), (if (if (k : Int) ≤ (98 : Int) then (1 : Int) else 0) = 0 then c else (if (if ((zx_G 117 115 [L] [c, b, mc, mb] 5).1.getD 1 0) = (-1 : Int) then (1 : Int) else 0) = 0 then ((zx_G 117 115 [L] [c, b, mc, mb] 5).1.getD 1 0) else c)), (if (if (k : Int) ≤ (98 : Int) then (1 : Int) else 0) = 0 then b else (if (if ((zx_G 117 115 [L] [c, b, mc, mb] 5).1.getD 1 0) = (-1 : Int) then (1 : Int) else 0) = 0 then c else b)), (if (if (k : Int) ≤ (98 : Int) then (1 : Int) else 0) = 0 then hr else (if (if ((zx_G 117 115 [L] [c, b, mc, mb] 5).1.getD 1 0) = (-1 : Int) then (1 : Int) else 0) = 0 then hr else ((k : Int) + (1 : Int))))], m0)) := by
  rw [zy_turn h]
  rfl
theorem zy_gr_0 {br : zx_Rw} {la : zx_Rw} {ba : zx_Rw} {z : zx_Rw} {i : Int} {n : Int} : zx_F 118 [br, la, ba, z] [i, n] 0 = ([(0 : Int), (ba (i).toNat), (-1 : Int), (100 : Int)], [z]) := rfl
set_option maxRecDepth 20000 in
theorem zy_gr_s {k : Nat} {br : zx_Rw} {la : zx_Rw} {ba : zx_Rw} {z : zx_Rw} {f : zx_Rw} {i : Int} {n : Int} {c : Int} {b : Int} {hr : Int} (h : zx_F 118 [br, la, ba, z] [i, n] k = ([0, c, b, hr], [f])) : zx_F 118 [br, la, ba, z] [i, n] (k + 1) =
  (let m0 : List zx_Rw := if (if (k : Int) ≤ (99 : Int) then (1 : Int) else 0) = 0 then [f] else zx_wr [f] 0 (k : Int) c
  ([(if (if (k : Int) ≤ (99 : Int) then (1 : Int) else 0) = 0 then (1 : Int) else (0 : Int)), (if (if (k : Int) ≤ (99 : Int) then (1 : Int) else 0) = 0 then c else (if (if c ≤ (-1 : Int) then (1 : Int) else 0) = 0 then ((zx_G 118 116 [br, la] [c, b, n] 5).1.getD 1 0) else c)), (if (if (k : Int) ≤ (99 : Int) then (1 : Int) else 0) = 0 then b else (if (if c ≤ (-1 : Int) then (1 : Int) else 0) = 0 then c else b)), (if (if (k : Int) ≤ (99 : Int) then (1 : Int) else 0) = 0 then hr else (if (if c ≤ (-1 : Int) then (1 : Int) else 0) = 0 then hr else (if (if hr = (100 : Int) then (1 : Int) else 0) = 0 then hr else (k : Int))))], m0)) := by
  rw [zy_turn h]
  rfl
/-- the light of a cell is no more than so much -/
theorem zy_lib {b l : zx_Rw} {c n : Int} (hb : ∀ j : Nat, 0 ≤ b j ∧ b j ≤ 19) : ∀ K : Nat, K ≤ 9 → ∃ d s, zx_F 108 [b, l] [c, n] K = ([d, s], []) ∧ 0 ≤ s ∧ s ≤ 19 * (K : Int)
  | 0, _ => ⟨0, 0, zy_lc_0, by decide, by decide⟩
  | K + 1, hK => by
    obtain ⟨d, s, e, h1, h2⟩ := zy_lib (b := b) (l := l) (c := c) (n := n) hb K (by omega)
    by_cases hd : d = 0
    · subst hd
      have e2 := zy_lc_s e
      simp only [zy_if, Int.toNat_natCast] at e2
      have hK := hb K
      by_cases hk : (K : Int) + 1 ≤ n
      · simp only [if_pos hk] at e2
        generalize hA : (if 0 ≤ zx_op 83 c 10 - zx_op 83 (l K) 10 then zx_op 83 c 10 - zx_op 83 (l K) 10 else 0 - (zx_op 83 c 10 - zx_op 83 (l K) 10)) = A at e2
        generalize hB : (if 0 ≤ zx_op 82 c 10 - zx_op 82 (l K) 10 then zx_op 82 c 10 - zx_op 82 (l K) 10 else 0 - (zx_op 82 c 10 - zx_op 82 (l K) 10)) = B at e2
        have hA0 : 0 ≤ A := by
          rw [← hA]
          split <;> omega
        have hB0 : 0 ≤ B := by
          rw [← hB]
          split <;> omega
        by_cases hv : 1 ≤ b K - (A + B)
        · simp only [if_pos hv] at e2
          rw [zy_op7 (by omega) (by omega)] at e2
          exact ⟨0, _, e2, by omega, by push_cast; omega⟩
        · simp only [if_neg hv] at e2
          rw [zy_op7 (by omega) (by omega)] at e2
          exact ⟨0, _, e2, by omega, by push_cast; omega⟩
      · simp only [if_neg hk] at e2
        exact ⟨1, _, e2, by omega, by push_cast; omega⟩
    · exact ⟨d, s, zy_stay e hd, h1, by push_cast; omega⟩
def zy_lv9 (br la : zx_Rw) (n x : Int) : Int := (zx_F 109 [br, la] [x, n] 8).1.getD 1 0
def zy_nxt (c : Int) (k : Nat) : Int := (zx_F 113 [] [c, (k : Int)] 0).1.getD 1 0
/-- the class's row of light is the reference's light -/
def zy_lt (L br la : zx_Rw) (n : Int) : Prop := ∀ x : Int, 0 ≤ x → x ≤ 99 → L x.toNat = zy_lv9 br la n x ∧ 0 ≤ zy_lv9 br la n x ∧ zy_lv9 br la n x ≤ 800
/-- the class's light of a cell, by one lamp more -/
def zy_cl (L : zx_Rw) (mc mb x : Int) : Int := zx_op 7 (L x.toNat + (if (1 : Int) ≤ mb - (zx_F 114 [] [x, mc] 0).1.getD 1 0 then mb - (zx_F 114 [] [x, mc] 0).1.getD 1 0 else 0)) 0
def zy_ltg (L : zx_Rw) (mc mb : Int) (br la : zx_Rw) (n : Int) : Prop := ∀ x : Int, 0 ≤ x → x ≤ 99 → zy_cl L mc mb x = zy_lv9 br la n x ∧ 0 ≤ zy_lv9 br la n x ∧ zy_lv9 br la n x ≤ 900
theorem zy_nxt_b {c : Int} {k : Nat} : -1 ≤ zy_nxt c k ∧ zy_nxt c k ≤ 99 := by
  have e : zx_F 113 [] [c, (k : Int)] 0 = zx_F 113 [] [c, (k : Int)] 0 := rfl
  unfold zy_nxt
  rw [zy_be_0]
  simp only [zy_if, List.getD_cons_succ, List.getD_cons_zero]
  generalize zx_op 83 c 10 + _ = X
  generalize zx_op 82 c 10 + _ = Y
  simp only [zy_ne]
  split
  · rename_i h
    omega
  · omega
theorem zy_apt_b {a b : Int} : 0 ≤ (zx_F 114 [] [a, b] 0).1.getD 1 0 := by
  rw [zy_ap_0]
  simp only [zy_if, List.getD_cons_succ, List.getD_cons_zero]
  split <;> split <;> omega
theorem zy_lt_g {L br la : zx_Rw} {n mc : Int} (h : zy_lt L br la n) : zy_ltg L mc 0 br la n := fun x h0 h1 => by
  obtain ⟨l1, l2, l3⟩ := h x h0 h1
  refine ⟨?_, l2, by omega⟩
  have ha := zy_apt_b (a := x) (b := mc)
  unfold zy_cl
  rw [if_neg (by omega), Int.add_zero, l1]
  exact zy_op7 (by omega) (by omega)
/-- four sides looked at -/
def zy_nR (x y x' y' : Int) : Prop := (x' = -2 ∧ x = -1 ∧ y = 1000) ∨ (x' ≠ -2 ∧ x = x' ∧ y = y' ∧ -1 ≤ x ∧ x ≤ 99)
theorem zy_nx {L br la : zx_Rw} {n c b mc mb : Int} (hL : zy_ltg L mc mb br la n) : ∀ K : Nat, ∃ d x y x' y', zx_F 115 [L] [c, b, mc, mb] K = ([d, x, y], []) ∧ zx_F 116 [br, la] [c, b, n] K = ([d, x', y'], []) ∧ ((d = 0 ∧ K ≤ 4 ∧ zy_nR x y x' y') ∨ (d = 1 ∧ 5 ≤ K ∧ ((x' = -2 ∧ x = -1) ∨ (x = x' ∧ -1 ≤ x ∧ x ≤ 99))))
  | 0 => ⟨0, -1, 1000, -2, 0, zy_nc_0, zy_nr_0, Or.inl ⟨rfl, by omega, Or.inl ⟨rfl, rfl, rfl⟩⟩⟩
  | K + 1 => by
    obtain ⟨d, x, y, x', y', e1, e2, h⟩ := zy_nx (c := c) (b := b) hL K
    have g1 : ∀ P k, zx_G 115 113 [] P k = zx_F 113 [] P k := fun P k => zx_G_F (by decide) _ _ _
    have g2 : ∀ P k, zx_G 116 113 [] P k = zx_F 113 [] P k := fun P k => zx_G_F (by decide) _ _ _
    have g3 : ∀ P k, zx_G 115 114 [] P k = zx_F 114 [] P k := fun P k => zx_G_F (by decide) _ _ _
    have g4 : ∀ P k, zx_G 116 109 [br, la] P k = zx_F 109 [br, la] P k := fun P k => zx_G_F (by decide) _ _ _
    rcases h with ⟨hd, h0, h⟩ | ⟨hd, h0, h⟩
    · subst hd
      have f1 := zy_nc_s e1
      have f2 := zy_nr_s e2
      simp only [g1, g2, g3, g4, zy_if, zy_if0, zy_ne, zy_ne0] at f1 f2
      have hn := zy_nxt_b (c := c) (k := K)
      have en : (zx_F 113 [] [c, (K : Int)] 0).1.getD 1 0 = zy_nxt c K := rfl
      rw [en] at f1 f2
      generalize zy_nxt c K = nx at f1 f2 hn
      have el : (zx_F 109 [br, la] [nx, n] 8).1.getD 1 0 = zy_lv9 br la n nx := rfl
      rw [el] at f2
      by_cases hk : (K : Int) ≤ 3
      · simp only [if_pos hk] at f1 f2
        by_cases hi : 0 ≤ nx
        · obtain ⟨l1, l2, l3⟩ := hL nx hi hn.2
          simp only [if_pos hi] at f1 f2
          have l1 : zx_op 7 (L nx.toNat + (if (1 : Int) ≤ mb - (zx_F 114 [] [nx, mc] 0).1.getD 1 0 then mb - (zx_F 114 [] [nx, mc] 0).1.getD 1 0 else 0)) 0 = zy_lv9 br la n nx := l1
          rw [l1] at f1
          generalize zy_lv9 br la n nx = lt at f1 f2 l2 l3
          by_cases hb : nx = b
          · simp only [hi, hb, not_true_eq_false, false_or, or_self, false_and, and_false, if_false, true_and, and_true] at f1 f2
            have hb0 : ¬ b < 0 := by omega
            exact ⟨0, x, y, x', y', by simpa [hb0] using f1, by simpa [hb0] using f2, Or.inl ⟨rfl, by omega, h⟩⟩
          · rcases h with ⟨h1, h2, h3⟩ | ⟨h1, h2, h3, h4, h5⟩
            · refine ⟨0, nx, lt, nx, lt, ?_, ?_, Or.inl ⟨rfl, by omega, Or.inr ⟨by omega, rfl, rfl, hn.1, hn.2⟩⟩⟩
              · have hy : lt + 1 ≤ y := by omega
                simpa [hi, hb, hy] using f1
              · simpa [hi, hb, h1] using f2
            · subst h2 h3
              by_cases hy : lt + 1 ≤ y
              · refine ⟨0, nx, lt, nx, lt, ?_, ?_, Or.inl ⟨rfl, by omega, Or.inr ⟨by omega, rfl, rfl, hn.1, hn.2⟩⟩⟩
                · simpa [hi, hb, hy] using f1
                · simpa [hi, hb, hy, h1] using f2
              · refine ⟨0, x, y, x, y, ?_, ?_, Or.inl ⟨rfl, by omega, Or.inr ⟨h1, rfl, rfl, h4, h5⟩⟩⟩
                · simpa [hi, hb, hy] using f1
                · simpa [hi, hb, hy, h1] using f2
        · have hm : nx = -1 := by omega
          subst hm
          rcases h with ⟨h1, h2, h3⟩ | ⟨h1, h2, h3, h4, h5⟩
          · refine ⟨0, -1, 0, -1, 0, ?_, ?_, Or.inl ⟨rfl, by omega, Or.inr ⟨by decide, rfl, rfl, by decide, by decide⟩⟩⟩
            · have hy : (0 : Int) + 1 ≤ y := by omega
              simpa [hy, h3] using f1
            · simpa [h1] using f2
          · subst h2 h3
            by_cases hy : (1 : Int) ≤ y
            · refine ⟨0, -1, 0, -1, 0, ?_, ?_, Or.inl ⟨rfl, by omega, Or.inr ⟨by decide, rfl, rfl, by decide, by decide⟩⟩⟩
              · simpa [hy] using f1
              · simpa [hy, h1] using f2
            · refine ⟨0, x, y, x, y, ?_, ?_, Or.inl ⟨rfl, by omega, Or.inr ⟨h1, rfl, rfl, h4, h5⟩⟩⟩
              · simpa [hy] using f1
              · simpa [hy, h1] using f2
      · simp only [if_neg hk] at f1 f2
        refine ⟨1, x, 0, x', 0, f1, f2, Or.inr ⟨rfl, by omega, ?_⟩⟩
        rcases h with ⟨h1, h2, h3⟩ | ⟨h1, h2, h3, h4, h5⟩
        · exact Or.inl ⟨h1, h2⟩
        · exact Or.inr ⟨h2, h4, h5⟩
    · subst hd
      exact ⟨1, x, y, x', y', zy_stay e1 (by decide), zy_stay e2 (by decide), Or.inr ⟨rfl, by omega, h⟩⟩
theorem zy_nx5 {L br la : zx_Rw} {n c b mc mb : Int} (hL : zy_ltg L mc mb br la n) : ((zx_F 116 [br, la] [c, b, n] 5).1.getD 1 0 = -2 ∧ (zx_F 115 [L] [c, b, mc, mb] 5).1.getD 1 0 = -1) ∨ ((zx_F 115 [L] [c, b, mc, mb] 5).1.getD 1 0 = (zx_F 116 [br, la] [c, b, n] 5).1.getD 1 0 ∧ -1 ≤ (zx_F 115 [L] [c, b, mc, mb] 5).1.getD 1 0 ∧ (zx_F 115 [L] [c, b, mc, mb] 5).1.getD 1 0 ≤ 99) := by
  obtain ⟨d, x, y, x', y', e1, e2, h⟩ := zy_nx (c := c) (b := b) hL 5
  rw [e1, e2]
  rcases h with ⟨-, h, -⟩ | ⟨-, -, h⟩
  · omega
  · exact h
/-- both ways behind so many hours: still in (f: the class's cells, f': the reference's), or out -/
def zy_go (K : Nat) (d c b hr : Int) (f : zx_Rw) (d' c' b' o : Int) (f' : zx_Rw) : Prop :=
  (d = 0 ∧ d' = 0 ∧ K ≤ 99 ∧ c = c' ∧ b = b' ∧ hr = 100 ∧ o = 100 ∧ 0 ≤ c ∧ c ≤ 99 ∧ f K = c ∧ (∀ j : Nat, j ≤ K → 0 ≤ f j ∧ f j ≤ 99) ∧ ∀ j : Nat, j < K → f' j = f j) ∨
  (d = 1 ∧ hr = 100 ∧ o = 100 ∧ 100 ≤ K ∧ (d' = 0 → K = 100) ∧ (∀ j : Nat, j < 100 → (0 ≤ f j ∧ f j ≤ 99) ∧ f' j = f j)) ∨
  (d = 1 ∧ c' ≤ -1 ∧ 1 ≤ hr ∧ hr ≤ 99 ∧ hr ≤ (K : Int) ∧ (hr = (K : Int) → o = 100) ∧ (hr < (K : Int) → o = hr) ∧ (d' = 0 ∨ 101 ≤ K) ∧ (d' = 0 → K ≤ 100) ∧ (∀ j : Nat, (j : Int) < hr → (0 ≤ f j ∧ f j ≤ 99) ∧ f' j = f j) ∧ ∀ j : Nat, hr ≤ (j : Int) → j < K → j < 100 → f' j ≤ -1)
theorem zy_goK {L br la ba z z' : zx_Rw} {n st mc mb i : Int} (hL : zy_ltg L mc mb br la n) (hs : 0 ≤ st ∧ st ≤ 99) (hz : z 0 = st) (hba : ba i.toNat = st) : ∀ K : Nat, ∃ d c b hr f d' c' b' o f', zx_F 117 [L, z] [st, mc, mb] K = ([d, c, b, hr], [f]) ∧ zx_F 118 [br, la, ba, z'] [i, n] K = ([d', c', b', o], [f']) ∧ zy_go K d c b hr f d' c' b' o f'
  | 0 => ⟨0, st, -1, 100, z, 0, st, -1, 100, z', zy_gc_0, by rw [zy_gr_0, hba], Or.inl ⟨rfl, rfl, by omega, rfl, rfl, rfl, rfl, hs.1, hs.2, hz, fun j hj => by
      have : j = 0 := by omega
      rw [this, hz]
      exact hs, fun j hj => by omega⟩⟩
  | K + 1 => by
    obtain ⟨d, c, b, hr, f, d', c', b', o, f', e1, e2, h⟩ := zy_goK (z' := z') hL hs hz hba K
    have g1 : ∀ P k, zx_G 117 115 [L] P k = zx_F 115 [L] P k := fun P k => zx_G_F (by decide) _ _ _
    have g2 : ∀ P k, zx_G 118 116 [br, la] P k = zx_F 116 [br, la] P k := fun P k => zx_G_F (by decide) _ _ _
    rcases h with ⟨k1, k2, k3, k4, k5, k6, k7, k8, k9, k10, k11, k12⟩ | ⟨k1, k2, k3, k4, k5, k6⟩ | ⟨k1, k2, k3, k4, k5, k6, k7, k8, k9, k10, k11⟩
    · subst k1 k2 k4 k5 k6 k7
      have f1 := zy_gc_s e1
      have f2 := zy_gr_s e2
      simp only [g1, g2, zy_if, zy_if0, zy_ne, zy_ne0, Int.add_zero] at f1 f2
      have hx := zy_nx5 (c := c) (b := b) hL
      generalize (zx_F 115 [L] [c, b, mc, mb] 5).1.getD 1 0 = x at f1 hx
      generalize (zx_F 116 [br, la] [c, b, n] 5).1.getD 1 0 = x' at f2 hx
      have hK : (K : Int) ≤ 99 := by omega
      have hc : ¬ c ≤ -1 := by omega
      have f2 : zx_F 118 [br, la, ba, z'] [i, n] (K + 1) = ([0, x', c, 100], [zy_up f' (K : Int) c]) := by simpa [hK, hc, zx_wr1] using f2
      have up : ∀ j : Nat, zy_up f' (K : Int) c j = if j = K then c else f' j := fun j => by
        show (if j = ((K : Int)).toNat then c else f' j) = _
        rw [Int.toNat_natCast]
      by_cases hk : (K : Int) ≤ 98
      · by_cases ho : x = -1
        · have f1 : zx_F 117 [L, z] [st, mc, mb] (K + 1) = ([1, c, b, (K : Int) + 1], [f]) := by simpa [hk, ho] using f1
          have hx' : x' ≤ -1 := by omega
          refine ⟨_, _, _, _, _, _, _, _, _, _, f1, f2, Or.inr (Or.inr ⟨rfl, hx', by omega, by omega, by push_cast; omega, fun _ => rfl, fun h => by push_cast at h; omega, Or.inl rfl, fun _ => by omega, fun j hj => ?_, fun j h1 h2 _ => by omega⟩)⟩
          refine ⟨k11 j (by omega), ?_⟩
          rw [up]
          split
          · rename_i ej
            rw [ej]
            exact k10.symm
          · exact k12 j (by omega)
        · have hx2 : x = x' ∧ -1 ≤ x ∧ x ≤ 99 := by omega
          obtain ⟨hx3, hx4, hx5⟩ := hx2
          subst hx3
          have f1 : zx_F 117 [L, z] [st, mc, mb] (K + 1) = ([0, x, c, 100], [zy_up f ((K : Int) + 1) x]) := by simpa [hk, ho, zx_wr1] using f1
          have up2 : ∀ j : Nat, zy_up f ((K : Int) + 1) x j = if j = K + 1 then x else f j := fun j => by
            show (if j = ((K : Int) + 1).toNat then x else f j) = _
            rw [show ((K : Int) + 1).toNat = K + 1 by omega]
          refine ⟨_, _, _, _, _, _, _, _, _, _, f1, f2, Or.inl ⟨rfl, rfl, by omega, rfl, rfl, rfl, rfl, by omega, hx5, ?_, fun j hj => ?_, fun j hj => ?_⟩⟩
          · rw [up2, if_pos rfl]
          · rw [up2]
            split
            · omega
            · exact k11 j (by omega)
          · rw [up, up2, if_neg (c := j = K + 1) (by omega)]
            split
            · rename_i ej
              rw [ej]
              exact k10.symm
            · exact k12 j (by omega)
      · have f1 : zx_F 117 [L, z] [st, mc, mb] (K + 1) = ([1, c, b, 100], [f]) := by simpa [hk] using f1
        refine ⟨_, _, _, _, _, _, _, _, _, _, f1, f2, Or.inr (Or.inl ⟨rfl, rfl, rfl, by omega, fun _ => by omega, fun j hj => ?_⟩)⟩
        refine ⟨k11 j (by omega), ?_⟩
        rw [up]
        split
        · rename_i ej
          rw [ej]
          exact k10.symm
        · exact k12 j (by omega)
    · subst k1
      have f1 := zy_stay e1 (by decide)
      by_cases hd : d' = 0
      · subst hd
        have hK := k5 rfl
        have f2 := zy_gr_s e2
        have hn : ¬ (K : Int) ≤ 99 := by omega
        simp only [g2, zy_if, zy_if0, zy_ne, zy_ne0] at f2
        have f2 : zx_F 118 [br, la, ba, z'] [i, n] (K + 1) = ([1, c', b', o], [f']) := by simpa [hn] using f2
        exact ⟨_, _, _, _, _, _, _, _, _, _, f1, f2, Or.inr (Or.inl ⟨rfl, k2, k3, by omega, fun h => absurd h (by decide), k6⟩)⟩
      · exact ⟨_, _, _, _, _, _, _, _, _, _, f1, zy_stay e2 hd, Or.inr (Or.inl ⟨rfl, k2, k3, by omega, fun h => absurd h hd, k6⟩)⟩
    · subst k1
      have f1 := zy_stay e1 (by decide)
      by_cases hd : d' = 0
      · subst hd
        have hK := k9 rfl
        have f2 := zy_gr_s e2
        simp only [g2, zy_if, zy_if0, zy_ne, zy_ne0] at f2
        by_cases hk : (K : Int) ≤ 99
        · have f2 : zx_F 118 [br, la, ba, z'] [i, n] (K + 1) = ([0, c', b', if o = 100 then (K : Int) else o], [zy_up f' (K : Int) c']) := by simpa [hk, k2, zx_wr1] using f2
          have up : ∀ j : Nat, zy_up f' (K : Int) c' j = if j = K then c' else f' j := fun j => by
            show (if j = ((K : Int)).toNat then c' else f' j) = _
            rw [Int.toNat_natCast]
          refine ⟨_, _, _, _, _, _, _, _, _, _, f1, f2, Or.inr (Or.inr ⟨rfl, k2, k3, k4, by push_cast; omega, fun h => by push_cast at h; omega, fun h => ?_, Or.inl rfl, fun _ => by omega, fun j hj => ?_, fun j h1 h2 h3 => ?_⟩)⟩
          · by_cases he : hr = (K : Int)
            · rw [if_pos (k6 he), he]
            · have := k7 (by omega)
              rw [if_neg (by omega), this]
          · rw [up, if_neg (by omega)]
            exact k10 j hj
          · rw [up]
            split
            · exact k2
            · exact k11 j h1 (by omega) h3
        · have f2 : zx_F 118 [br, la, ba, z'] [i, n] (K + 1) = ([1, c', b', o], [f']) := by simpa [hk] using f2
          exact ⟨_, _, _, _, _, _, _, _, _, _, f1, f2, Or.inr (Or.inr ⟨rfl, k2, k3, k4, by push_cast; omega, fun h => by push_cast at h; omega, fun h => k7 (by omega), Or.inr (by omega), fun h => absurd h (by decide), k10, fun j h1 h2 h3 => k11 j h1 (by omega) h3⟩)⟩
      · have hK : 101 ≤ K := by
          rcases k8 with h | h
          · exact absurd h hd
          · exact h
        exact ⟨_, _, _, _, _, _, _, _, _, _, f1, zy_stay e2 hd, Or.inr (Or.inr ⟨rfl, k2, k3, k4, by push_cast; omega, fun h => by push_cast at h; omega, fun h => k7 (by omega), Or.inr (by omega), fun h => absurd h hd, k10, fun j h1 h2 h3 => k11 j h1 (by omega) h3⟩)⟩
/-- what both ways come to -/
theorem zy_goE {L br la ba z z' f f' : zx_Rw} {n st mc mb i d c b hr d' c' b' o : Int} {K1 K2 : Nat} (hL : zy_ltg L mc mb br la n) (hs : 0 ≤ st ∧ st ≤ 99) (hz : z 0 = st) (hba : ba i.toNat = st) (h1 : zx_F 117 [L, z] [st, mc, mb] K1 = ([d, c, b, hr], [f])) (hd : d ≠ 0) (h2 : zx_F 118 [br, la, ba, z'] [i, n] K2 = ([d', c', b', o], [f'])) (hd' : d' ≠ 0) : hr = o ∧ hr ≤ 100 ∧ (∀ j : Nat, (j : Int) < hr → j < 100 → (0 ≤ f j ∧ f j ≤ 99) ∧ f' j = f j) ∧ ∀ j : Nat, hr ≤ (j : Int) → j < 100 → f' j ≤ -1 := by
  have e1 : zx_F 117 [L, z] [st, mc, mb] (max K1 (max K2 101)) = ([d, c, b, hr], [f]) := by
    rw [zx_F_st (K := K1) (by rw [h1]; exact hd) (by omega), h1]
  have e2 : zx_F 118 [br, la, ba, z'] [i, n] (max K1 (max K2 101)) = ([d', c', b', o], [f']) := by
    rw [zx_F_st (K := K2) (by rw [h2]; exact hd') (by omega), h2]
  obtain ⟨D, C, B, H, F, D', C', B', O, F', g1, g2, g⟩ := zy_goK (z' := z') hL hs hz hba (max K1 (max K2 101))
  rw [e1] at g1
  rw [e2] at g2
  have a1 : hr = H := congrArg (fun x => x.1.getD 3 0) g1
  have a2 : d = D := congrArg (fun x => x.1.getD 0 0) g1
  have a3 : f = F := congrArg (fun x => x.2.getD 0 (fun _ => 0)) g1
  have a4 : o = O := congrArg (fun x => x.1.getD 3 0) g2
  have a5 : d' = D' := congrArg (fun x => x.1.getD 0 0) g2
  have a6 : f' = F' := congrArg (fun x => x.2.getD 0 (fun _ => 0)) g2
  subst a1 a2 a3 a4 a5 a6
  have hm : 101 ≤ max K1 (max K2 101) := by omega
  generalize max K1 (max K2 101) = M at g hm
  rcases g with ⟨k1, -⟩ | ⟨k1, k2, k3, k4, k5, k6⟩ | ⟨k1, k2, k3, k4, k5, k6, k7, k8, k9, k10, k11⟩
  · exact absurd k1 hd
  · exact ⟨by omega, by omega, fun j _ hj => k6 j hj, fun j h1 h2 => by omega⟩
  · exact ⟨(k7 (by omega)).symm, by omega, fun j h1 _ => k10 j h1, fun j h1 h2 => k11 j h1 (by omega) h2⟩
/-! the rule -/
def zk_gw (N : zk_N) (b br : Nat) (n : zk_V) : Bool := N.2.2.2.any fun q => (zk_k68y N b n q).any (Nat.beq br)
theorem zk_gw_of {E : zk_E} {N : zk_N} (hN : zk_ok E N) (hc : zk_cl N) {b br : Nat} {n : zk_V} (h : zk_gw N b br n = true) : ∀ j : Nat, (j : Int) < zk_i E n → E.2 br j = E.2 b j := by
  obtain ⟨q, hq, h⟩ := List.any_eq_true.mp h
  obtain ⟨g, hg, h⟩ := List.any_eq_true.mp h
  have h := Nat.eq_of_beq_eq_true h
  rw [h]
  exact (zk_k68y_of hN hc hq hg).1
def zk_go3 (N : zk_N) (z : Nat) (st : zk_V) (q : zk_G) : Bool := match zk_as 2 q with
  | some ([z', _], [i, v]) => Nat.beq z' z && zk_eqE N i (zk_c 0) && zk_eqE N v st
  | _ => false
def zk_go4 (N : zk_N) (L br la : Nat) (n : zk_V) (q : zk_G) : Bool := match zk_as 90 q with
  | some ([b, l, _, L'], [i, _, n', d]) => match zk_eb b N.2.2.2 with
    | some bd => zk_eqi (zk_fci N i) 110 && zk_nz N d && Nat.beq L' L && zk_eqE N n' n && zk_gw N b br n && zk_gw N l la n && zk_le 0 bd.1 && zk_le bd.2 19
    | none => false
  | _ => false
def zk_go7 (N : zk_N) (ba : Nat) (bi st : zk_V) (q : zk_G) : Bool := match zk_as 1 q with
  | some ([a], [j, w]) => Nat.beq a ba && zk_eqE N j bi && zk_eqE N w st
  | _ => false
theorem zk_go3_of {E : zk_E} {N : zk_N} (hN : zk_ok E N) {z : Nat} {st : zk_V} (h : N.2.2.2.any (zk_go3 N z st) = true) : E.2 z 0 = zk_i E st := by
  obtain ⟨q, hq, h⟩ := List.any_eq_true.mp h
  have t := hN.2.2 q hq
  unfold zk_go3 at h
  split at h
  · rename_i z' o i v hu
    have e := zk_as_of hu
    subst e
    simp only [Bool.and_eq_true] at h
    obtain ⟨⟨h1, h2⟩, h3⟩ := h
    have h1 := Nat.eq_of_beq_eq_true h1
    have h2 := zk_eqE_of hN h2
    have h3 := zk_eqE_of hN h3
    rw [zk_c_i] at h2
    simp only [List.map_cons, List.map_nil, zk_S] at t
    rw [← h1, t, h2, ← h3]
    exact if_pos rfl
  · cases h
theorem zk_go7_of {E : zk_E} {N : zk_N} (hN : zk_ok E N) {ba : Nat} {bi st : zk_V} (h : N.2.2.2.any (zk_go7 N ba bi st) = true) : E.2 ba (zk_i E bi).toNat = zk_i E st := by
  obtain ⟨q, hq, h⟩ := List.any_eq_true.mp h
  have t := hN.2.2 q hq
  unfold zk_go7 at h
  split at h
  · rename_i a j w hu
    have e := zk_as_of hu
    subst e
    simp only [Bool.and_eq_true] at h
    obtain ⟨⟨h1, h2⟩, h3⟩ := h
    have h1 := Nat.eq_of_beq_eq_true h1
    have h2 := zk_eqE_of hN h2
    have h3 := zk_eqE_of hN h3
    simp only [List.map_cons, List.map_nil, zk_S] at t
    rw [← h1, ← h2, t, h3]
  · cases h
theorem zk_go4_of {E : zk_E} {N : zk_N} (hN : zk_ok E N) (hc : zk_cl N) {L br la : Nat} {n : zk_V} (h : N.2.2.2.any (zk_go4 N L br la n) = true) : zy_lt (E.2 L) (E.2 br) (E.2 la) (zk_i E n) := by
  obtain ⟨q, hq, h⟩ := List.any_eq_true.mp h
  have t := hN.2.2 q hq
  unfold zk_go4 at h
  split at h
  · rename_i b l z L' i K n' d hu
    have e := zk_as_of hu
    subst e
    split at h
    · rename_i bd hbd
      simp only [Bool.and_eq_true] at h
      obtain ⟨⟨⟨⟨⟨⟨⟨h1, h2⟩, h3⟩, h4⟩, h5⟩, h6⟩, h7⟩, h8⟩ := h
      have h1 := zk_fci_of (n := 110) hN h1
      have h2 := zk_nz_ok hN h2
      have h3 := Nat.eq_of_beq_eq_true h3
      have h4 := zk_eqE_of hN h4
      have h5 := zk_gw_of hN hc h5
      have h6 := zk_gw_of hN hc h6
      have h7 := zk_le_of h7
      have h8 := zk_le_of h8
      have hb : ∀ j : Nat, 0 ≤ E.2 b j ∧ E.2 b j ≤ 19 := fun j => by
        have := zk_eb_ok hN hbd j
        omega
      simp only [List.map_cons, List.map_nil, zq_6, zq_7, zq_8, zq_9, zq_20, zq_21, zq_22, zq_25, zq_26, zq_28, zq_30, zq_40, zq_51, zq_52, zq_53, zq_54, zq_55, zq_64, zq_65, zq_68, zq_72, zq_73, zq_85, zq_74, zq_75, zq_76, zq_71, zq_86, zq_87, zq_80, zq_41, zq_42, zq_43, zq_94, zq_95, zq_47, zq_48, zq_96, zq_97, zq_88, zq_89, zq_90, zq_93, zq_61, zq_62, zq_1, zq_2, zq_3, zq_4, zq_5, zx_90] at t
      rw [h1] at t
      obtain ⟨-, -, hF⟩ := t
      have hF : zx_F 110 [E.2 b, E.2 l, E.2 z] [zk_i E n'] (zk_i E K).toNat = ([zk_i E d], [E.2 L']) := hF
      rw [h4, h3] at hF
      obtain ⟨d', f', e1, e2⟩ := zy_snr (b := E.2 b) (l := E.2 l) (z := E.2 z) (n := zk_i E n) (zk_i E K).toNat
      rw [hF] at e1
      have ed : zk_i E d = d' := congrArg (fun p => p.1.getD 0 0) e1
      have ef : E.2 L = f' := congrArg (fun p => p.2.getD 0 (fun _ => 0)) e1
      have e3 : E.2 L = zy_to (zy_lit (E.2 b) (E.2 l) (zk_i E n)) (E.2 z) 100 := by
        rcases e2 with ⟨e2, -⟩ | ⟨-, e2⟩
        · exact absurd (ed.trans e2) h2
        · exact ef.trans e2
      intro x hx0 hx1
      have el : zy_lv9 (E.2 br) (E.2 la) (zk_i E n) x = (zx_F 108 [E.2 b, E.2 l] [x, zk_i E n] 8).1.getD 1 0 := by
        obtain ⟨d2, s2, r1, r2⟩ := zy_li h5 h6 (c := x) 8
        unfold zy_lv9
        rw [r1, r2]
      obtain ⟨d3, s3, r3, r4, r5⟩ := zy_lib (b := E.2 b) (l := E.2 l) (c := x) (n := zk_i E n) hb 8 (by omega)
      refine ⟨?_, ?_, ?_⟩
      · rw [el, e3]
        show (if x.toNat < 100 then zy_lit (E.2 b) (E.2 l) (zk_i E n) x.toNat else E.2 z x.toNat) = _
        rw [if_pos (by omega)]
        show (zx_F 108 [E.2 b, E.2 l] [((x.toNat : Nat) : Int), zk_i E n] 8).1.getD 1 0 = _
        rw [Int.toNat_of_nonneg hx0]
      · rw [el, r3]
        exact r4
      · rw [el, r3]
        show s3 ≤ 800
        omega
    · cases h
  · cases h
def zk_go6 (f : Nat) (j w : zk_V) (q : zk_G) (N : zk_N) : Option zk_N := match zk_as 1 q with
  | some ([a], [i, u]) => match Nat.beq a f && zk_eqE N i j with
    | true => zk_eqs N (zk_vsub u w)
    | false => some N
  | _ => some N
theorem zk_go6_gd {E : zk_E} {n : Nat} {f : Nat} {j w : zk_V} (hw : zk_sv n w) (h : E.2 f (zk_i E j).toNat = zk_i E w) {q : zk_G} (hq : zk_tru E n q) : zk_gd E n (zk_go6 f j w q) := by
  intro N hN hc hn
  unfold zk_go6
  split
  · rename_i a i u hu
    have e := zk_as_of hu
    subst e
    obtain ⟨t1, -, t3⟩ := hq
    simp only [List.map_cons, List.map_nil, zk_S] at t1
    split
    · rename_i c
      rw [Bool.and_eq_true] at c
      have c1 := Nat.eq_of_beq_eq_true c.1
      have c2 := zk_eqE_of hN c.2
      refine zk_eqsg ?_ (zk_vsub_sv (t3 _ (by simp)) hw) N hN hc hn
      rw [c1, c2, h] at t1
      rw [zk_vsub_i, t1]
      omega
    · exact zk_id_gd N hN hc hn
  · exact zk_id_gd N hN hc hn
def zk_go5 (f f' : Nat) (hr : zk_V) (q : zk_G) (N : zk_N) : Option zk_N := match zk_as 1 q with
  | some ([a], [j, w]) => match Nat.beq a f' && zk_n2 N j && zk_n2 N (zk_vsub (zk_c 99) j) with
    | true => match zk_n2 N (zk_vsub (zk_vsub hr j) (zk_c 1)) with
      | true => zk_sq (fun N => zk_asm N w) (zk_on (zk_kd 1) (zk_go6 f j w)) N
      | false => match zk_n2 N (zk_vsub j hr) with
        | true => zk_asm N (zk_vsub (zk_c (-1)) w)
        | false => some N
    | false => some N
  | _ => some N
theorem zk_go5_gd {E : zk_E} {n : Nat} {f f' : Nat} {hr : zk_V} (h1 : ∀ j : Nat, (j : Int) < zk_i E hr → j < 100 → (0 ≤ E.2 f j ∧ E.2 f j ≤ 99) ∧ E.2 f' j = E.2 f j) (h2 : ∀ j : Nat, zk_i E hr ≤ (j : Int) → j < 100 → E.2 f' j ≤ -1) {q : zk_G} (hq : zk_tru E n q) : zk_gd E n (zk_go5 f f' hr q) := by
  intro N hN hc hn
  unfold zk_go5
  split
  · rename_i a j w hu
    have e := zk_as_of hu
    subst e
    obtain ⟨t1, -, t3⟩ := hq
    simp only [List.map_cons, List.map_nil, zk_S] at t1
    split
    · rename_i c
      simp only [Bool.and_eq_true] at c
      obtain ⟨⟨c1, c2⟩, c3⟩ := c
      have c1 := Nat.eq_of_beq_eq_true c1
      have c2 := zk_n2_ok hN c2
      have c3 := zk_n2_ok hN c3
      rw [zk_vsub_i, zk_c_i] at c3
      rw [c1] at t1
      have ej : (((zk_i E j).toNat : Nat) : Int) = zk_i E j := Int.toNat_of_nonneg c2
      split
      · rename_i d
        have d := zk_n2_ok hN d
        rw [zk_vsub_i, zk_vsub_i, zk_c_i] at d
        obtain ⟨g1, g2⟩ := h1 (zk_i E j).toNat (by omega) (by omega)
        rw [t1] at g2
        exact zk_sq_gd (zk_asmg (by omega) (t3 _ (by simp))) (zk_on_gd fun N0 hN0 hc0 hn0 r hr' => zk_go6_gd (t3 _ (by simp)) g2.symm (zk_trs hN0 hc0 hn0 r (zk_kd_m hr'))) N hN hc hn
      · split
        · rename_i d
          have d := zk_n2_ok hN d
          rw [zk_vsub_i] at d
          have g := h2 (zk_i E j).toNat (by omega) (by omega)
          rw [t1] at g
          refine zk_asmg ?_ (zk_vsub_sv zk_c_sv (t3 _ (by simp))) N hN hc hn
          rw [zk_vsub_i, zk_c_i]
          omega
        · exact zk_id_gd N hN hc hn
    · exact zk_id_gd N hN hc hn
  · exact zk_id_gd N hN hc hn
def zk_go2 (br la ba f' : Nat) (bi n o : zk_V) (q : zk_G) (N : zk_N) : Option zk_N := match zk_as 90 q with
  | some ([L, z, f], [i, _, st, _, mb, d, _, _, hr]) => match zk_eqi (zk_fci N i) 117 && zk_nz N d && zk_eqE N mb (zk_c 0) && zk_n2 N st && zk_n2 N (zk_vsub (zk_c 99) st) && N.2.2.2.any (zk_go7 N ba bi st) && N.2.2.2.any (zk_go3 N z st) && N.2.2.2.any (zk_go4 N L br la n) with
    | true => zk_sq (fun N => zk_eqs N (zk_vsub hr o)) (zk_on (zk_kd 1) (zk_go5 f f' hr)) N
    | false => some N
  | _ => some N
def zk_go1 (q : zk_G) (N : zk_N) : Option zk_N := match zk_as 90 q with
  | some ([br, la, ba, _, f'], [i, _, bi, n, d, _, _, o]) => match zk_eqi (zk_fci N i) 118 && zk_nz N d with
    | true => zk_on (zk_kd 90) (zk_go2 br la ba f' bi n o) N
    | false => some N
  | _ => some N
theorem zk_go1_gd {E : zk_E} {n : Nat} {q : zk_G} (hq : zk_tru E n q) : zk_gd E n (zk_go1 q) := by
  intro N hN hc hn
  unfold zk_go1
  split
  · rename_i br la ba z' f' i K bi la' d' c' b' o hu
    have e := zk_as_of hu
    subst e
    obtain ⟨t1, -, t3⟩ := hq
    split
    · rename_i cd
      rw [Bool.and_eq_true] at cd
      have c1 := zk_fci_of (n := 118) hN cd.1
      have c2 := zk_nz_ok hN cd.2
      simp only [List.map_cons, List.map_nil, zq_6, zq_7, zq_8, zq_9, zq_20, zq_21, zq_22, zq_25, zq_26, zq_28, zq_30, zq_40, zq_51, zq_52, zq_53, zq_54, zq_55, zq_64, zq_65, zq_68, zq_72, zq_73, zq_85, zq_74, zq_75, zq_76, zq_71, zq_86, zq_87, zq_80, zq_41, zq_42, zq_43, zq_94, zq_95, zq_47, zq_48, zq_96, zq_97, zq_88, zq_89, zq_90, zq_93, zq_61, zq_62, zq_1, zq_2, zq_3, zq_4, zq_5, zx_90] at t1
      rw [c1] at t1
      obtain ⟨-, -, tF⟩ := t1
      have tF : zx_F 118 [E.2 br, E.2 la, E.2 ba, E.2 z'] [zk_i E bi, zk_i E la'] (zk_i E K).toNat = ([zk_i E d', zk_i E c', zk_i E b', zk_i E o], [E.2 f']) := tF
      refine zk_on_gd (E := E) (n := n) (h := zk_kd 90) (f := zk_go2 br la ba f' bi la' o) (fun N0 hN0 hc0 hn0 r hr' => ?_) N hN hc hn
      have hrt := zk_trs hN0 hc0 hn0 r (zk_kd_m hr')
      intro N1 hN1 hc1 hn1
      unfold zk_go2
      split
      · rename_i L z f i2 K2 st mc mb d c b hr hu2
        have e2 := zk_as_of hu2
        subst e2
        obtain ⟨g1, -, g3⟩ := hrt
        split
        · rename_i cc
          simp only [Bool.and_eq_true] at cc
          obtain ⟨⟨⟨⟨⟨⟨⟨k1, k2⟩, k3⟩, k4⟩, k5⟩, k6⟩, k7⟩, k8⟩ := cc
          have k1 := zk_fci_of (n := 117) hN1 k1
          have k2 := zk_nz_ok hN1 k2
          have k3 := zk_eqE_of hN1 k3
          have k4 := zk_n2_ok hN1 k4
          have k5 := zk_n2_ok hN1 k5
          have k6 := zk_go7_of hN1 k6
          have k7 := zk_go3_of hN1 k7
          have k8 := zk_go4_of hN1 hc1 k8
          rw [zk_c_i] at k3
          rw [zk_vsub_i, zk_c_i] at k5
          simp only [List.map_cons, List.map_nil, zq_6, zq_7, zq_8, zq_9, zq_20, zq_21, zq_22, zq_25, zq_26, zq_28, zq_30, zq_40, zq_51, zq_52, zq_53, zq_54, zq_55, zq_64, zq_65, zq_68, zq_72, zq_73, zq_85, zq_74, zq_75, zq_76, zq_71, zq_86, zq_87, zq_80, zq_41, zq_42, zq_43, zq_94, zq_95, zq_47, zq_48, zq_96, zq_97, zq_88, zq_89, zq_90, zq_93, zq_61, zq_62, zq_1, zq_2, zq_3, zq_4, zq_5, zx_90] at g1
          rw [k1] at g1
          obtain ⟨-, -, gF⟩ := g1
          have gF : zx_F 117 [E.2 L, E.2 z] [zk_i E st, zk_i E mc, zk_i E mb] (zk_i E K2).toNat = ([zk_i E d, zk_i E c, zk_i E b, zk_i E hr], [E.2 f]) := gF
          rw [k3] at gF
          obtain ⟨r1, r2, r3, r4⟩ := zy_goE (zy_lt_g k8) ⟨k4, by omega⟩ k7 k6 gF k2 tF c2
          refine zk_sq_gd (zk_eqsg ?_ (zk_vsub_sv (g3 _ (by simp)) (t3 _ (by simp)))) (zk_on_gd fun N2 hN2 hc2 hn2 r hr2 => zk_go5_gd r3 r4 (zk_trs hN2 hc2 hn2 r (zk_kd_m hr2))) N1 hN1 hc1 hn1
          rw [zk_vsub_i, r1]
          omega
        · exact zk_id_gd N1 hN1 hc1 hn1
      · exact zk_id_gd N1 hN1 hc1 hn1
    · exact zk_id_gd N hN hc hn
  · exact zk_id_gd N hN hc hn
def zk_rgo : zk_Rl := zk_nr (zk_on (zk_kd 90) zk_go1)
theorem zk_rgo_ok : zk_Rok zk_rgo := zk_nr_ok fun E n => zk_on_gd fun N h hc hn p hp => zk_go1_gd (zk_trs h hc hn p (zk_kd_m hp))

end
