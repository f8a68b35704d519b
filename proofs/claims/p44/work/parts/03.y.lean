/-! theory -/
theorem zy_lc_0 {b : zx_Rw} {l : zx_Rw} {c : Int} {n : Int} : zx_F 108 [b, l] [c, n] 0 = ([(0 : Int), (0 : Int)], []) := rfl
set_option maxRecDepth 20000 in
theorem zy_lc_s {k : Nat} {b : zx_Rw} {l : zx_Rw} {c : Int} {n : Int} {s : Int} (h : zx_F 108 [b, l] [c, n] k = ([0, s], [])) : zx_F 108 [b, l] [c, n] (k + 1) =
  (([(if (if ((k : Int) + (1 : Int)) ≤ n then (1 : Int) else 0) = 0 then (1 : Int) else (0 : Int)), (if (if ((k : Int) + (1 : Int)) ≤ n then (1 : Int) else 0) = 0 then s else (zx_op 7 (s + (if (if (1 : Int) ≤ ((b ((k : Int)).toNat) - ((if (if (0 : Int) ≤ ((zx_op 83 c (10 : Int)) - (zx_op 83 (l ((k : Int)).toNat) (10 : Int))) then (1 : Int) else 0) = 0 then ((0 : Int) - ((zx_op 83 c (10 : Int)) - (zx_op 83 (l ((k : Int)).toNat) (10 : Int)))) else ((zx_op 83 c (10 : Int)) - (zx_op 83 (l ((k : Int)).toNat) (10 : Int)))) + (if (if (0 : Int) ≤ ((zx_op 82 c (10 : Int)) - (zx_op 82 (l ((k : Int)).toNat) (10 : Int))) then (1 : Int) else 0) = 0 then ((0 : Int) - ((zx_op 82 c (10 : Int)) - (zx_op 82 (l ((k : Int)).toNat) (10 : Int)))) else ((zx_op 82 c (10 : Int)) - (zx_op 82 (l ((k : Int)).toNat) (10 : Int)))))) then (1 : Int) else 0) = 0 then (0 : Int) else ((b ((k : Int)).toNat) - ((if (if (0 : Int) ≤ ((zx_op 83 c (10 : Int)) - (zx_op 83 (l ((k : Int)).toNat) (10 : Int))) then (1 : Int) else 0) = 0 then ((0 : Int) - ((zx_op 83 c (10 : Int)) - (zx_op 83 (l ((k : Int)).toNat) (10 : Int)))) else ((zx_op 83 c (10 : Int)) - (zx_op 83 (l ((k : Int)).toNat) (10 : Int)))) + (if (if (0 : Int) ≤ ((zx_op 82 c (10 : Int)) - (zx_op 82 (l ((k : Int)).toNat) (10 : Int))) then (1 : Int) else 0) = 0 then ((0 : Int) - ((zx_op 82 c (10 : Int)) - (zx_op 82 (l ((k : Int)).toNat) (10 : Int)))) else ((zx_op 82 c (10 : Int)) - (zx_op 82 (l ((k : Int)).toNat) (10 : Int)))))))) (0 : Int)))], [])) := by
  rw [zy_turn h]
  rfl
theorem zy_lr_0 {b : zx_Rw} {l : zx_Rw} {c : Int} {n : Int} : zx_F 109 [b, l] [c, n] 0 = ([(0 : Int), (0 : Int)], []) := rfl
set_option maxRecDepth 20000 in
theorem zy_lr_s {k : Nat} {b : zx_Rw} {l : zx_Rw} {c : Int} {n : Int} {s : Int} (h : zx_F 109 [b, l] [c, n] k = ([0, s], [])) : zx_F 109 [b, l] [c, n] (k + 1) =
  (([(if (if ((k : Int) + (1 : Int)) ≤ n then (1 : Int) else 0) = 0 then (1 : Int) else (0 : Int)), (if (if ((k : Int) + (1 : Int)) ≤ n then (1 : Int) else 0) = 0 then s else (zx_op 7 (s + (if (if (1 : Int) ≤ ((b ((k : Int)).toNat) - ((if (if (0 : Int) ≤ ((zx_op 83 (l ((k : Int)).toNat) (10 : Int)) - (zx_op 83 c (10 : Int))) then (1 : Int) else 0) = 0 then ((0 : Int) - ((zx_op 83 (l ((k : Int)).toNat) (10 : Int)) - (zx_op 83 c (10 : Int)))) else ((zx_op 83 (l ((k : Int)).toNat) (10 : Int)) - (zx_op 83 c (10 : Int)))) + (if (if (0 : Int) ≤ ((zx_op 82 (l ((k : Int)).toNat) (10 : Int)) - (zx_op 82 c (10 : Int))) then (1 : Int) else 0) = 0 then ((0 : Int) - ((zx_op 82 (l ((k : Int)).toNat) (10 : Int)) - (zx_op 82 c (10 : Int)))) else ((zx_op 82 (l ((k : Int)).toNat) (10 : Int)) - (zx_op 82 c (10 : Int)))))) then (1 : Int) else 0) = 0 then (0 : Int) else ((b ((k : Int)).toNat) - ((if (if (0 : Int) ≤ ((zx_op 83 (l ((k : Int)).toNat) (10 : Int)) - (zx_op 83 c (10 : Int))) then (1 : Int) else 0) = 0 then ((0 : Int) - ((zx_op 83 (l ((k : Int)).toNat) (10 : Int)) - (zx_op 83 c (10 : Int)))) else ((zx_op 83 (l ((k : Int)).toNat) (10 : Int)) - (zx_op 83 c (10 : Int)))) + (if (if (0 : Int) ≤ ((zx_op 82 (l ((k : Int)).toNat) (10 : Int)) - (zx_op 82 c (10 : Int))) then (1 : Int) else 0) = 0 then ((0 : Int) - ((zx_op 82 (l ((k : Int)).toNat) (10 : Int)) - (zx_op 82 c (10 : Int)))) else ((zx_op 82 (l ((k : Int)).toNat) (10 : Int)) - (zx_op 82 c (10 : Int)))))))) (0 : Int)))], [])) := by
  rw [zy_turn h]
  rfl
theorem zy_ab {x y : Int} : (if (if (0 : Int) ≤ (x - y) then (1 : Int) else 0) = 0 then ((0 : Int) - (x - y)) else (x - y)) = (if (if (0 : Int) ≤ (y - x) then (1 : Int) else 0) = 0 then ((0 : Int) - (y - x)) else (y - x)) := by
  rw [zy_if, zy_if]
  split <;> split <;> omega
theorem zy_li {b l b' l' : zx_Rw} {c n : Int} (hb : ∀ j : Nat, (j : Int) < n → b' j = b j) (hl : ∀ j : Nat, (j : Int) < n → l' j = l j) : ∀ K : Nat, ∃ d s, zx_F 108 [b, l] [c, n] K = ([d, s], []) ∧ zx_F 109 [b', l'] [c, n] K = ([d, s], [])
  | 0 => ⟨0, 0, zy_lc_0, zy_lr_0⟩
  | K + 1 => by
    obtain ⟨d, s, e1, e2⟩ := zy_li hb hl K
    by_cases hd : d = 0
    · subst hd
      by_cases hk : (K : Int) + 1 ≤ n
      · have h1 := hb ((K : Int)).toNat (by omega)
        have h2 := hl ((K : Int)).toNat (by omega)
        refine ⟨_, _, zy_lc_s e1, ?_⟩
        rw [zy_lr_s e2, h1, h2, zy_ab (x := zx_op 83 (l ((K : Int)).toNat) (10 : Int)) (y := zx_op 83 c (10 : Int)), zy_ab (x := zx_op 82 (l ((K : Int)).toNat) (10 : Int)) (y := zx_op 82 c (10 : Int))]
      · refine ⟨1, s, ?_, ?_⟩
        · rw [zy_lc_s e1]
          simp only [zy_if]
          simp only [if_neg hk]
        · rw [zy_lr_s e2]
          simp only [zy_if]
          simp only [if_neg hk]
    · exact ⟨d, s, zy_stay e1 hd, zy_stay e2 hd⟩
