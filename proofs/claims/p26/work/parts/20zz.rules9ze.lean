noncomputable section
/-! HOW LONG A BARN KEEPS SO MUCH (wip/p41/mk9ze.py) -/
theorem zy_kpc_0 {la : zx_Rw} {ly : zx_Rw} {st : zx_Rw} {nz : zx_Rw} {bz : zx_Rw} {i : Int} {th : Int} {len : Int} {v : Int} : zx_F 132 [la, ly, st, nz, bz] [i, th, len, v] 0 = ([(0 : Int), (-2 : Int)], [nz, bz]) := rfl
set_option maxRecDepth 20000 in
theorem zy_kpc_s {k : Nat} {la : zx_Rw} {ly : zx_Rw} {st : zx_Rw} {nz : zx_Rw} {bz : zx_Rw} {n : zx_Rw} {b : zx_Rw} {i : Int} {th : Int} {len : Int} {v : Int} {x : Int} (h : zx_F 132 [la, ly, st, nz, bz] [i, th, len, v] k = ([0, x], [n, b])) : zx_F 132 [la, ly, st, nz, bz] [i, th, len, v] (k + 1) =
  (let m0 : List zx_Rw := if (if (if (k : Int) ≤ (99 : Int) then (1 : Int) else 0) ≠ 0 ∧ (if (if ((n (i).toNat) + (1 : Int)) ≤ v then (1 : Int) else 0) = 0 then (1 : Int) else 0) ≠ 0 then (1 : Int) else 0) = 0 then [n, b] else zx_wr [n, b] 0 i (zx_op 89 (zx_lw st len (n (i).toNat) (b (i).toNat) (la (i).toNat) th (ly (i).toNat) (k : Int)) (0 : Int))
  let m1 : List zx_Rw := if (if (if (k : Int) ≤ (99 : Int) then (1 : Int) else 0) ≠ 0 ∧ (if (if ((n (i).toNat) + (1 : Int)) ≤ v then (1 : Int) else 0) = 0 then (1 : Int) else 0) ≠ 0 then (1 : Int) else 0) = 0 then m0 else zx_wr m0 1 i (zx_op 90 ((b (i).toNat) + (1 : Int)) (0 : Int))
  ([(if (if (k : Int) ≤ (99 : Int) then (1 : Int) else 0) = 0 then (1 : Int) else (if (if ((n (i).toNat) + (1 : Int)) ≤ v then (1 : Int) else 0) = 0 then (0 : Int) else (1 : Int))), (if (if (if (k : Int) ≤ (99 : Int) then (1 : Int) else 0) ≠ 0 ∧ (if ((n (i).toNat) + (1 : Int)) ≤ v then (1 : Int) else 0) ≠ 0 then (1 : Int) else 0) = 0 then x else (k : Int))], m1)) := by
  rw [zy_turn h]
  rfl
theorem zy_kpr_0 {la : zx_Rw} {be : zx_Rw} {st : zx_Rw} {nz : zx_Rw} {bz : zx_Rw} {i : Int} {v : Int} {th : Int} {len : Int} {ba : Int} {bo : Int} : zx_F 133 [la, be, st, nz, bz] [i, v, th, len, ba, bo] 0 = ([(0 : Int), (-2 : Int)], [nz, bz]) := rfl
set_option maxRecDepth 20000 in
theorem zy_kpr_s {k : Nat} {la : zx_Rw} {be : zx_Rw} {st : zx_Rw} {nz : zx_Rw} {bz : zx_Rw} {n : zx_Rw} {b : zx_Rw} {i : Int} {v : Int} {th : Int} {len : Int} {ba : Int} {bo : Int} {x : Int} (h : zx_F 133 [la, be, st, nz, bz] [i, v, th, len, ba, bo] k = ([0, x], [n, b])) : zx_F 133 [la, be, st, nz, bz] [i, v, th, len, ba, bo] (k + 1) =
  (let m0 : List zx_Rw := if (if (if (if (k : Int) ≤ (99 : Int) then (1 : Int) else 0) ≠ 0 ∧ (if (if ((n (i).toNat) + (1 : Int)) ≤ v then (1 : Int) else 0) = 0 then (1 : Int) else 0) ≠ 0 then (1 : Int) else 0) ≠ 0 ∧ (if (1 : Int) ≤ ba then (1 : Int) else 0) ≠ 0 then (1 : Int) else 0) = 0 then [n, b] else zx_wr [n, b] 0 (0 : Int) (zx_op 89 (zx_lw st len (n 0) (b 0) (la 0) th (zx_cn be (0 : Int) (bo).toNat : Int) (k : Int)) (0 : Int))
  let m1 : List zx_Rw := if (if (if (if (k : Int) ≤ (99 : Int) then (1 : Int) else 0) ≠ 0 ∧ (if (if ((n (i).toNat) + (1 : Int)) ≤ v then (1 : Int) else 0) = 0 then (1 : Int) else 0) ≠ 0 then (1 : Int) else 0) ≠ 0 ∧ (if (1 : Int) ≤ ba then (1 : Int) else 0) ≠ 0 then (1 : Int) else 0) = 0 then m0 else zx_wr m0 1 (0 : Int) (zx_op 90 ((b 0) + (1 : Int)) (0 : Int))
  let m2 : List zx_Rw := if (if (if (if (k : Int) ≤ (99 : Int) then (1 : Int) else 0) ≠ 0 ∧ (if (if ((n (i).toNat) + (1 : Int)) ≤ v then (1 : Int) else 0) = 0 then (1 : Int) else 0) ≠ 0 then (1 : Int) else 0) ≠ 0 ∧ (if (2 : Int) ≤ ba then (1 : Int) else 0) ≠ 0 then (1 : Int) else 0) = 0 then m1 else zx_wr m1 0 (1 : Int) (zx_op 89 (zx_lw st len (n 1) (b 1) (la 1) th (zx_cn be (1 : Int) (bo).toNat : Int) (k : Int)) (0 : Int))
  let m3 : List zx_Rw := if (if (if (if (k : Int) ≤ (99 : Int) then (1 : Int) else 0) ≠ 0 ∧ (if (if ((n (i).toNat) + (1 : Int)) ≤ v then (1 : Int) else 0) = 0 then (1 : Int) else 0) ≠ 0 then (1 : Int) else 0) ≠ 0 ∧ (if (2 : Int) ≤ ba then (1 : Int) else 0) ≠ 0 then (1 : Int) else 0) = 0 then m2 else zx_wr m2 1 (1 : Int) (zx_op 90 ((b 1) + (1 : Int)) (0 : Int))
  let m4 : List zx_Rw := if (if (if (if (k : Int) ≤ (99 : Int) then (1 : Int) else 0) ≠ 0 ∧ (if (if ((n (i).toNat) + (1 : Int)) ≤ v then (1 : Int) else 0) = 0 then (1 : Int) else 0) ≠ 0 then (1 : Int) else 0) ≠ 0 ∧ (if (3 : Int) ≤ ba then (1 : Int) else 0) ≠ 0 then (1 : Int) else 0) = 0 then m3 else zx_wr m3 0 (2 : Int) (zx_op 89 (zx_lw st len (n 2) (b 2) (la 2) th (zx_cn be (2 : Int) (bo).toNat : Int) (k : Int)) (0 : Int))
  let m5 : List zx_Rw := if (if (if (if (k : Int) ≤ (99 : Int) then (1 : Int) else 0) ≠ 0 ∧ (if (if ((n (i).toNat) + (1 : Int)) ≤ v then (1 : Int) else 0) = 0 then (1 : Int) else 0) ≠ 0 then (1 : Int) else 0) ≠ 0 ∧ (if (3 : Int) ≤ ba then (1 : Int) else 0) ≠ 0 then (1 : Int) else 0) = 0 then m4 else zx_wr m4 1 (2 : Int) (zx_op 90 ((b 2) + (1 : Int)) (0 : Int))
  let m6 : List zx_Rw := if (if (if (if (k : Int) ≤ (99 : Int) then (1 : Int) else 0) ≠ 0 ∧ (if (if ((n (i).toNat) + (1 : Int)) ≤ v then (1 : Int) else 0) = 0 then (1 : Int) else 0) ≠ 0 then (1 : Int) else 0) ≠ 0 ∧ (if (4 : Int) ≤ ba then (1 : Int) else 0) ≠ 0 then (1 : Int) else 0) = 0 then m5 else zx_wr m5 0 (3 : Int) (zx_op 89 (zx_lw st len (n 3) (b 3) (la 3) th (zx_cn be (3 : Int) (bo).toNat : Int) (k : Int)) (0 : Int))
  let m7 : List zx_Rw := if (if (if (if (k : Int) ≤ (99 : Int) then (1 : Int) else 0) ≠ 0 ∧ (if (if ((n (i).toNat) + (1 : Int)) ≤ v then (1 : Int) else 0) = 0 then (1 : Int) else 0) ≠ 0 then (1 : Int) else 0) ≠ 0 ∧ (if (4 : Int) ≤ ba then (1 : Int) else 0) ≠ 0 then (1 : Int) else 0) = 0 then m6 else zx_wr m6 1 (3 : Int) (zx_op 90 ((b 3) + (1 : Int)) (0 : Int))
  let m8 : List zx_Rw := if (if (if (if (k : Int) ≤ (99 : Int) then (1 : Int) else 0) ≠ 0 ∧ (if (if ((n (i).toNat) + (1 : Int)) ≤ v then (1 : Int) else 0) = 0 then (1 : Int) else 0) ≠ 0 then (1 : Int) else 0) ≠ 0 ∧ (if (5 : Int) ≤ ba then (1 : Int) else 0) ≠ 0 then (1 : Int) else 0) = 0 then m7 else zx_wr m7 0 (4 : Int) (zx_op 89 (zx_lw st len (n 4) (b 4) (la 4) th (zx_cn be (4 : Int) (bo).toNat : Int) (k : Int)) (0 : Int))
  let m9 : List zx_Rw := if (if (if (if (k : Int) ≤ (99 : Int) then (1 : Int) else 0) ≠ 0 ∧ (if (if ((n (i).toNat) + (1 : Int)) ≤ v then (1 : Int) else 0) = 0 then (1 : Int) else 0) ≠ 0 then (1 : Int) else 0) ≠ 0 ∧ (if (5 : Int) ≤ ba then (1 : Int) else 0) ≠ 0 then (1 : Int) else 0) = 0 then m8 else zx_wr m8 1 (4 : Int) (zx_op 90 ((b 4) + (1 : Int)) (0 : Int))
  ([(if (if (k : Int) ≤ (99 : Int) then (1 : Int) else 0) = 0 then (1 : Int) else (if (if ((n (i).toNat) + (1 : Int)) ≤ v then (1 : Int) else 0) = 0 then (0 : Int) else (1 : Int))), (if (if (if (k : Int) ≤ (99 : Int) then (1 : Int) else 0) ≠ 0 ∧ (if ((n (i).toNat) + (1 : Int)) ≤ v then (1 : Int) else 0) ≠ 0 then (1 : Int) else 0) = 0 then x else (k : Int))], m9)) := by
  rw [zy_turn h]
  rfl
theorem zy_toE1 {f g : zx_Rw} : zy_to f g 1 = zy_up g (0 : Int) (f 0) := (zy_to_s (n := 0) rfl).symm
theorem zy_toE2 {f g : zx_Rw} : zy_to f g 2 = zy_up (zy_up g (0 : Int) (f 0)) (1 : Int) (f 1) := by
  rw [← zy_toE1]
  exact (zy_to_s (n := 1) rfl).symm
theorem zy_toE3 {f g : zx_Rw} : zy_to f g 3 = zy_up (zy_up (zy_up g (0 : Int) (f 0)) (1 : Int) (f 1)) (2 : Int) (f 2) := by
  rw [← zy_toE2]
  exact (zy_to_s (n := 2) rfl).symm
theorem zy_toE4 {f g : zx_Rw} : zy_to f g 4 = zy_up (zy_up (zy_up (zy_up g (0 : Int) (f 0)) (1 : Int) (f 1)) (2 : Int) (f 2)) (3 : Int) (f 3) := by
  rw [← zy_toE3]
  exact (zy_to_s (n := 3) rfl).symm
theorem zy_toE5 {f g : zx_Rw} : zy_to f g 5 = zy_up (zy_up (zy_up (zy_up (zy_up g (0 : Int) (f 0)) (1 : Int) (f 1)) (2 : Int) (f 2)) (3 : Int) (f 3)) (4 : Int) (f 4) := by
  rw [← zy_toE4]
  exact (zy_to_s (n := 4) rfl).symm
def zy_kb1 (b : zx_Rw) : zx_Rw := fun j => zx_op 90 (b j + 1) 0
theorem zy_kb1_pr {b : zx_Rw} {tu : Int} (h : tu ≤ -1) : zy_pr_b b tu = zy_kb1 b := by
  funext j
  exact if_neg (by omega)
theorem zy_kpc_c {la ly st nz bz n b : zx_Rw} {i th len v x : Int} {k : Nat} (h : zx_F 132 [la, ly, st, nz, bz] [i, th, len, v] k = ([0, x], [n, b])) :
    (¬ (k : Int) ≤ 99 → zx_F 132 [la, ly, st, nz, bz] [i, th, len, v] (k + 1) = ([1, x], [n, b])) ∧
    ((k : Int) ≤ 99 → n i.toNat + 1 ≤ v → zx_F 132 [la, ly, st, nz, bz] [i, th, len, v] (k + 1) = ([1, (k : Int)], [n, b])) ∧
    ((k : Int) ≤ 99 → ¬ n i.toNat + 1 ≤ v → zx_F 132 [la, ly, st, nz, bz] [i, th, len, v] (k + 1) = ([0, x], [zy_up n i (zx_op 89 (zx_lw st len (n i.toNat) (b i.toNat) (la i.toNat) th (ly i.toNat) k) 0), zy_up b i (zx_op 90 (b i.toNat + 1) 0)])) := by
  have f := zy_kpc_s h
  simp only [zy_if, zy_if0, zy_ne, zy_ne0] at f
  refine ⟨fun h1 => ?_, fun h1 h2 => ?_, fun h1 h2 => ?_⟩
  · rw [f]
    simp only [h1, false_and, if_false]
  · rw [f]
    simp only [h1, h2, not_true, and_false, and_true, if_false, if_true]
  · rw [f]
    simp only [h1, h2, not_false_iff, and_true, and_false, if_false, if_true, zx_wr20, zx_wr21]
theorem zy_kpr_c {la be st nz bz n b : zx_Rw} {i v th len ba bo x : Int} {k : Nat} (h0 : 0 ≤ ba) (h5 : ba ≤ 5) (h : zx_F 133 [la, be, st, nz, bz] [i, v, th, len, ba, bo] k = ([0, x], [n, b])) :
    (¬ (k : Int) ≤ 99 → zx_F 133 [la, be, st, nz, bz] [i, v, th, len, ba, bo] (k + 1) = ([1, x], [n, b])) ∧
    ((k : Int) ≤ 99 → n i.toNat + 1 ≤ v → zx_F 133 [la, be, st, nz, bz] [i, v, th, len, ba, bo] (k + 1) = ([1, (k : Int)], [n, b])) ∧
    ((k : Int) ≤ 99 → ¬ n i.toNat + 1 ≤ v → ∀ tu : Int, zx_F 133 [la, be, st, nz, bz] [i, v, th, len, ba, bo] (k + 1) = ([0, x], [zy_to (zy_pr_n la be st n b th len k tu ba bo) n ba.toNat, zy_to (zy_kb1 b) b ba.toNat])) := by
  have f := zy_kpr_s h
  simp only [zy_if, zy_if0, zy_ne, zy_ne0] at f
  refine ⟨fun h1 => ?_, fun h1 h2 => ?_, fun h1 h2 tu => ?_⟩
  · rw [f]
    simp only [h1, false_and, if_false]
  · rw [f]
    simp only [h1, h2, not_true, and_false, and_true, false_and, if_false, if_true]
  · rw [f]
    simp only [h1, h2, not_false_iff, and_true, and_false, true_and, if_false, if_true]
    have hc : ba = 0 ∨ ba = 1 ∨ ba = 2 ∨ ba = 3 ∨ ba = 4 ∨ ba = 5 := by omega
    rcases hc with rfl | rfl | rfl | rfl | rfl | rfl
    · simp only [show ¬ (1 : Int) ≤ 0 by decide, show ¬ (2 : Int) ≤ 0 by decide, show ¬ (3 : Int) ≤ 0 by decide, show ¬ (4 : Int) ≤ 0 by decide, show ¬ (5 : Int) ≤ 0 by decide, if_false]
      rfl
    · simp only [show (1 : Int) ≤ 1 by decide, show ¬ (2 : Int) ≤ 1 by decide, show ¬ (3 : Int) ≤ 1 by decide, show ¬ (4 : Int) ≤ 1 by decide, show ¬ (5 : Int) ≤ 1 by decide, if_false, if_true, zx_wr20, zx_wr21]
      rw [show ((1 : Int)).toNat = 1 from rfl, zy_toE1, zy_toE1]
      rfl
    · simp only [show (1 : Int) ≤ 2 by decide, show (2 : Int) ≤ 2 by decide, show ¬ (3 : Int) ≤ 2 by decide, show ¬ (4 : Int) ≤ 2 by decide, show ¬ (5 : Int) ≤ 2 by decide, if_false, if_true, zx_wr20, zx_wr21]
      rw [show ((2 : Int)).toNat = 2 from rfl, zy_toE2, zy_toE2]
      rfl
    · simp only [show (1 : Int) ≤ 3 by decide, show (2 : Int) ≤ 3 by decide, show (3 : Int) ≤ 3 by decide, show ¬ (4 : Int) ≤ 3 by decide, show ¬ (5 : Int) ≤ 3 by decide, if_false, if_true, zx_wr20, zx_wr21]
      rw [show ((3 : Int)).toNat = 3 from rfl, zy_toE3, zy_toE3]
      rfl
    · simp only [show (1 : Int) ≤ 4 by decide, show (2 : Int) ≤ 4 by decide, show (3 : Int) ≤ 4 by decide, show (4 : Int) ≤ 4 by decide, show ¬ (5 : Int) ≤ 4 by decide, if_false, if_true, zx_wr20, zx_wr21]
      rw [show ((4 : Int)).toNat = 4 from rfl, zy_toE4, zy_toE4]
      rfl
    · simp only [show (1 : Int) ≤ 5 by decide, show (2 : Int) ≤ 5 by decide, show (3 : Int) ≤ 5 by decide, show (4 : Int) ≤ 5 by decide, show (5 : Int) ≤ 5 by decide, if_true, zx_wr20, zx_wr21]
      rw [show ((5 : Int)).toNat = 5 from rfl, zy_toE5, zy_toE5]
      rfl
/-- the same day on both sides -/
theorem zy_kp {la ly la2 be st nz bz nz2 bz2 : zx_Rw} {i th len v ba bo : Int} (h0 : 0 ≤ i) (h1 : i + 1 ≤ ba) (h5 : ba ≤ 5) (hl : la i.toNat = la2 i.toNat) (hy : ly i.toNat = (zx_cn be i bo.toNat : Int)) (hn : nz i.toNat = nz2 i.toNat) (hb : bz i.toNat = bz2 i.toNat) : ∀ K : Nat, ∃ d x n b n2 b2, zx_F 132 [la, ly, st, nz, bz] [i, th, len, v] K = ([d, x], [n, b]) ∧ zx_F 133 [la2, be, st, nz2, bz2] [i, v, th, len, ba, bo] K = ([d, x], [n2, b2]) ∧ n i.toNat = n2 i.toNat ∧ b i.toNat = b2 i.toNat
  | 0 => ⟨0, -2, nz, bz, nz2, bz2, zy_kpc_0, zy_kpr_0, hn, hb⟩
  | K + 1 => by
    obtain ⟨d, x, n, b, n2, b2, e1, e2, g1, g2⟩ := zy_kp (la := la) (ly := ly) (la2 := la2) (be := be) (st := st) (th := th) (len := len) (v := v) (bo := bo) h0 h1 h5 hl hy hn hb K
    have ei : ((i.toNat : Nat) : Int) = i := Int.toNat_of_nonneg h0
    by_cases hd : d = 0
    · subst hd
      obtain ⟨c1, c2, c3⟩ := zy_kpc_c e1
      obtain ⟨r1, r2, r3⟩ := zy_kpr_c (by omega) h5 e2
      by_cases hk : (K : Int) ≤ 99
      · by_cases hh : n i.toNat + 1 ≤ v
        · exact ⟨_, _, _, _, _, _, c2 hk hh, r2 hk (by rw [← g1]; exact hh), g1, g2⟩
        · refine ⟨_, _, _, _, _, _, c3 hk hh, r3 hk (by rw [← g1]; exact hh) (-1), ?_, ?_⟩
          · show (if i.toNat = i.toNat then _ else _) = _
            rw [if_pos rfl, zy_to_lt (by omega)]
            unfold zy_pr_n
            rw [← g1, ← g2, hl, hy, ei]
          · show (if i.toNat = i.toNat then _ else _) = _
            rw [if_pos rfl, zy_to_lt (by omega)]
            unfold zy_kb1
            rw [← g2]
      · exact ⟨_, _, _, _, _, _, c1 hk, r1 hk, g1, g2⟩
    · exact ⟨d, x, n, b, n2, b2, zy_stay e1 hd, zy_stay e2 hd, g1, g2⟩
theorem zy_kpE {la ly la2 be st nz bz nz2 bz2 n b n2 b2 : zx_Rw} {i th len v ba bo d x d2 x2 : Int} {K K2 : Nat} (h0 : 0 ≤ i) (h1 : i + 1 ≤ ba) (h5 : ba ≤ 5) (hl : la i.toNat = la2 i.toNat) (hy : ly i.toNat = (zx_cn be i bo.toNat : Int)) (hn : nz i.toNat = nz2 i.toNat) (hb : bz i.toNat = bz2 i.toNat) (e1 : zx_F 132 [la, ly, st, nz, bz] [i, th, len, v] K = ([d, x], [n, b])) (hd : d ≠ 0) (e2 : zx_F 133 [la2, be, st, nz2, bz2] [i, v, th, len, ba, bo] K2 = ([d2, x2], [n2, b2])) (hd2 : d2 ≠ 0) : x = x2 := by
  obtain ⟨d', x', m1, m2, m3, m4, f1, f2, -, -⟩ := zy_kp (la := la) (ly := ly) (la2 := la2) (be := be) (st := st) (th := th) (len := len) (v := v) (bo := bo) h0 h1 h5 hl hy hn hb (max K K2)
  rw [zx_F_max e1 hd (Nat.le_max_left K K2)] at f1
  rw [zx_F_max e2 hd2 (Nat.le_max_right K K2)] at f2
  have a1 : x = x' := congrArg (fun p => p.1.getD 1 0) f1
  have a2 : x2 = x' := congrArg (fun p => p.1.getD 1 0) f2
  rw [a1, a2]
/-! a day more, all barns -/
def zk_kd1 (N : zk_N) (g h : zk_G) : List zk_G := match zk_as 90 g, zk_as 90 h with
  | some ([la, be, st, n0, b0, nn, bb], [i, k, b, v, th, ln, ba, bo, d, x]), some ([la2, be2, st2, nn2, bb2, n2, b2], [i2, _, th2, ln2, da, tu, ba2, bo2, d2]) => match zk_eqi (zk_fci N i) 133 && zk_eqi (zk_fci N i2) 101 && zk_eqE N d (zk_c 0) && zk_nz N d2 && zk_eqNs [la, be, st, nn, bb] [la2, be2, st2, nn2, bb2] && zk_eqEs N [th, ln, k, ba, bo] [th2, ln2, da, ba2, bo2] && zk_n2 N (zk_vsub (zk_c (-1)) tu) && zk_n2 N k && zk_n2 N (zk_vsub (zk_c 99) k) && zk_n2 N ba && zk_n2 N (zk_vsub (zk_c 5) ba), zk_rdv N nn b N.2.2.2 with
    | true, some w => match zk_n2 N (zk_vsub w v) with
      | true => [(90, [la, be, st, n0, b0, n2, b2], [i, zk_vadd k (zk_c 1), b, v, th, ln, ba, bo, d, x])]
      | false => []
    | _, _ => []
  | _, _ => []
theorem zk_kd1_ok {E : zk_E} {N : zk_N} (hN : zk_ok E N) (hc : zk_cl N) {g h : zk_G} (hg : g ∈ N.2.2.2) (hh : h ∈ N.2.2.2) : ∀ y ∈ zk_kd1 N g h, zk_tru E N.1 y := by
  have ht := zk_tru_of hN hc g hg
  have ht2 := zk_tru_of hN hc h hh
  intro y hy
  unfold zk_kd1 at hy
  split at hy
  · rename_i la be st n0 b0 nn bb i k b v th ln ba bo d x la2 be2 st2 nn2 bb2 n2 b2 i2 K2 th2 ln2 da tu ba2 bo2 d2 hu hu2
    have e := zk_as_of hu
    have e2 := zk_as_of hu2
    subst e e2
    split at hy
    · rename_i w c hw
      split at hy
      · rename_i cw
        simp only [Bool.and_eq_true] at c
        obtain ⟨⟨⟨⟨⟨⟨⟨⟨⟨⟨c1, c2⟩, c3⟩, c4⟩, c5⟩, c6⟩, c7⟩, c8⟩, c9⟩, c10⟩, c11⟩ := c
        have c1 := zk_fci_of (n := 133) hN c1
        have c3 := zk_eqE_of hN c3
        have c4 := zk_nz_ok hN c4
        have c5 := zk_eqNs_of c5
        have c6 := zk_eqEs_of hN c6
        have c7 := zk_n2_ok hN c7
        have c8 := zk_n2_ok hN c8
        have c9 := zk_n2_ok hN c9
        have c10 := zk_n2_ok hN c10
        have c11 := zk_n2_ok hN c11
        have cw := zk_n2_ok hN cw
        have hr := zk_rdv_ok hN (fun _ h => h) hw
        rw [zk_c_i] at c3
        rw [zk_vsub_i, zk_c_i] at c7 c9 c11
        rw [zk_vsub_i] at cw
        injection c5 with p1 c5
        injection c5 with p2 c5
        injection c5 with p3 c5
        injection c5 with p4 c5
        injection c5 with p5 c5
        subst p1 p2 p3 p4 p5
        simp only [List.map_cons, List.map_nil] at c6
        injection c6 with q1 c6
        injection c6 with q2 c6
        injection c6 with q3 c6
        injection c6 with q4 c6
        injection c6 with q5 c6
        obtain ⟨k3, k4⟩ := zk_prF hN ht2 c2 c4 (by rw [← q4]; exact c10)
        rw [← q1, ← q2, ← q3, ← q4, ← q5] at k3
        rw [← q4, zy_kb1_pr (by omega)] at k4
        obtain ⟨t1, t2, t3⟩ := ht
        obtain ⟨-, g2, -⟩ := ht2
        simp only [List.map_cons, List.map_nil, zq_6, zq_7, zq_8, zq_9, zq_20, zq_21, zq_22, zq_25, zq_26, zq_28, zq_30, zq_40, zq_51, zq_52, zq_53, zq_54, zq_55, zq_64, zq_65, zq_68, zq_72, zq_73, zq_85, zq_74, zq_75, zq_76, zq_71, zq_86, zq_87, zq_80, zq_41, zq_42, zq_43, zq_94, zq_95, zq_47, zq_48, zq_96, zq_97, zq_88, zq_89, zq_90, zq_93, zq_61, zq_62, zq_1, zq_2, zq_3, zq_4, zq_5, zx_90] at t1
        rw [c1] at t1
        obtain ⟨-, -, tF⟩ := t1
        have tF : zx_F 133 [E.2 la, E.2 be, E.2 st, E.2 n0, E.2 b0] [zk_i E b, zk_i E v, zk_i E th, zk_i E ln, zk_i E ba, zk_i E bo] (zk_i E k).toNat = ([zk_i E d, zk_i E x], [E.2 nn, E.2 bb]) := tF
        rw [c3] at tF
        have ek : (((zk_i E k).toNat : Nat) : Int) = zk_i E k := Int.toNat_of_nonneg c8
        obtain ⟨-, -, r3⟩ := zy_kpr_c c10 (by omega) tF
        have r3 := r3 (by rw [ek]; omega) (by rw [hr]; omega) (zk_i E tu)
        rw [ek, ← k3, ← k4] at r3
        rw [List.mem_singleton.mp hy]
        refine ⟨?_, fun a ha => ?_, fun u hu => ?_⟩
        · simp only [List.map_cons, List.map_nil, zq_6, zq_7, zq_8, zq_9, zq_20, zq_21, zq_22, zq_25, zq_26, zq_28, zq_30, zq_40, zq_51, zq_52, zq_53, zq_54, zq_55, zq_64, zq_65, zq_68, zq_72, zq_73, zq_85, zq_74, zq_75, zq_76, zq_71, zq_86, zq_87, zq_80, zq_41, zq_42, zq_43, zq_94, zq_95, zq_47, zq_48, zq_96, zq_97, zq_88, zq_89, zq_90, zq_93, zq_61, zq_62, zq_1, zq_2, zq_3, zq_4, zq_5, zx_90]
          rw [c1, zk_vadd_i, zk_c_i, c3]
          refine ⟨by decide, by omega, ?_⟩
          rw [show (zk_i E k + 1).toNat = (zk_i E k).toNat + 1 by omega]
          exact r3
        · simp only [List.mem_cons, List.not_mem_nil, or_false] at ha
          rcases ha with rfl | rfl | rfl | rfl | rfl | rfl | rfl
          · exact t2 _ (by simp)
          · exact t2 _ (by simp)
          · exact t2 _ (by simp)
          · exact t2 _ (by simp)
          · exact t2 _ (by simp)
          · exact g2 _ (by simp)
          · exact g2 _ (by simp)
        · rcases List.mem_cons.mp hu with rfl | hu
          · exact t3 _ (by simp)
          rcases List.mem_cons.mp hu with rfl | hu
          · exact zk_vadd_sv (t3 _ (by simp)) zk_c_sv
          · exact t3 _ (List.mem_cons_of_mem _ (List.mem_cons_of_mem _ hu))
      · cases hy
    · cases hy
  · cases hy
def zk_rkd : zk_Rl := zk_nr fun N => some (zk_addGs N ((zk_kd 90 N).flatMap fun p => (zk_kd 90 N).flatMap (zk_kd1 N p)))
theorem zk_rkd_ok : zk_Rok zk_rkd := zk_nr_ok fun E n => zk_add_gd (f := fun N => (zk_kd 90 N).flatMap fun p => (zk_kd 90 N).flatMap (zk_kd1 N p)) fun N hN hc hn x hx => by
  obtain ⟨y, hy1, hy2⟩ := List.mem_flatMap.mp hx
  obtain ⟨w, hw1, hw2⟩ := List.mem_flatMap.mp hy2
  rw [← hn]
  exact zk_kd1_ok hN hc (zk_kd_m hy1) (zk_kd_m hw1) x hw2
/-! how long it keeps -/
def zk_cp5 (N : zk_N) (f : Nat) : List Nat := f :: (zk_kd 9 N).flatMap fun q => match zk_as 9 q with
  | some ([a, b, _], [s, d, m]) => match Nat.beq a f && zk_eqE N s (zk_c 0) && zk_eqE N d (zk_c 0) && zk_n2 N (zk_vsub m (zk_c 5)) with
    | true => [b]
    | false => []
  | _ => []
theorem zk_cp5_of {E : zk_E} {N : zk_N} (hN : zk_ok E N) (hc : zk_cl N) {f w : Nat} (hw : w ∈ zk_cp5 N f) : ∀ j : Nat, j < 5 → E.2 f j = E.2 w j := by
  rcases List.mem_cons.mp hw with rfl | hw
  · exact fun _ _ => rfl
  · obtain ⟨q, hq, hw⟩ := List.mem_flatMap.mp hw
    have ht := zk_tru_of hN hc q (zk_kd_m hq)
    split at hw
    · rename_i a b c0 s d m hu
      have e := zk_as_of hu
      subst e
      obtain ⟨k1, -⟩ := ht
      simp only [List.map_cons, List.map_nil, zq_6, zq_7, zq_8, zq_9, zq_20, zq_21, zq_22, zq_25, zq_26, zq_28, zq_30, zq_40, zq_51, zq_52, zq_53, zq_54, zq_55, zq_64, zq_65, zq_68, zq_72, zq_73, zq_85, zq_74, zq_75, zq_76, zq_71, zq_86, zq_87, zq_80, zq_41, zq_42, zq_43, zq_94, zq_95, zq_47, zq_48, zq_96, zq_97, zq_88, zq_89, zq_90, zq_93, zq_61, zq_62, zq_1, zq_2, zq_3, zq_4, zq_5] at k1
      split at hw
      · rename_i c
        simp only [Bool.and_eq_true] at c
        obtain ⟨⟨⟨c1, c2⟩, c3⟩, c4⟩ := c
        have c1 := Nat.eq_of_beq_eq_true c1
        have c2 := zk_eqE_of hN c2
        have c3 := zk_eqE_of hN c3
        have c4 := zk_n2_ok hN c4
        rw [zk_c_i] at c2 c3
        rw [zk_vsub_i, zk_c_i] at c4
        rw [List.mem_singleton.mp hw]
        subst c1
        intro j hj
        rw [k1, c2, c3]
        simp only
        rw [if_pos (by simp; omega)]
        congr 1
        simp
      · cases hw
    · cases hw
def zk_kp2 (g h : zk_G) (N : zk_N) : Option zk_N := match zk_as 90 g, zk_as 90 h with
  | some ([la, ly, st, n0, b0, _, _], [i, _, b, th, ln, v, d, x]), some ([la2, be, st2, m0, c0, _, _], [i2, _, b2, v2, th2, ln2, ba, bo, d2, x2]) => match zk_eqi (zk_fci N i) 132 && zk_eqi (zk_fci N i2) 133 && zk_nz N d && zk_nz N d2 && Nat.beq st st2 && zk_eqEs N [b, v, th, ln] [b2, v2, th2, ln2] && zk_n2 N b && zk_n2 N (zk_vsub (zk_vsub ba b) (zk_c 1)) && zk_n2 N (zk_vsub (zk_c 5) ba) && ((zk_cp5 N ly).any fun w => zk_h43 N w be bo ba) && zk_pp N ba 3 la la2 && zk_pp N ba 4 n0 m0 && zk_pp N ba 4 b0 c0 with
    | true => zk_eqs N (zk_vsub x x2)
    | false => some N
  | _, _ => some N
theorem zk_kp2_gd {E : zk_E} {n : Nat} {g h : zk_G} (hg : zk_tru E n g) (hh : zk_tru E n h) : zk_gd E n (zk_kp2 g h) := by
  intro N hN hc hn
  unfold zk_kp2
  split
  · rename_i la ly st n0 b0 f1 f2 i K b th ln v d x la2 be st2 m0 c0 f3 f4 i2 K2 b2 v2 th2 ln2 ba bo d2 x2 hu hu2
    have e := zk_as_of hu
    have e2 := zk_as_of hu2
    subst e e2
    obtain ⟨t1, t2, t3⟩ := hg
    obtain ⟨g1, g2, g3⟩ := hh
    split
    · rename_i c
      simp only [Bool.and_eq_true] at c
      obtain ⟨⟨⟨⟨⟨⟨⟨⟨⟨⟨⟨⟨c1, c2⟩, c3⟩, c4⟩, c5⟩, c6⟩, c7⟩, c8⟩, c9⟩, c10⟩, c11⟩, c12⟩, c13⟩ := c
      have c1 := zk_fci_of (n := 132) hN c1
      have c2 := zk_fci_of (n := 133) hN c2
      have c3 := zk_nz_ok hN c3
      have c4 := zk_nz_ok hN c4
      have c5 := Nat.eq_of_beq_eq_true c5
      have c6 := zk_eqEs_of hN c6
      have c7 := zk_n2_ok hN c7
      have c8 := zk_n2_ok hN c8
      have c9 := zk_n2_ok hN c9
      rw [zk_vsub_i, zk_vsub_i, zk_c_i] at c8
      rw [zk_vsub_i, zk_c_i] at c9
      obtain ⟨w, hw, c10⟩ := List.any_eq_true.mp c10
      have hcp := zk_cp5_of hN hc hw
      have c10 := zk_h43_of hN hc c10
      have c11 := zk_pp_of hN hc c11
      have c12 := zk_pp_of hN hc c12
      have c13 := zk_pp_of hN hc c13
      simp only [List.map_cons, List.map_nil] at c6
      injection c6 with q1 c6
      injection c6 with q2 c6
      injection c6 with q3 c6
      injection c6 with q4 c6
      simp only [List.map_cons, List.map_nil, zq_6, zq_7, zq_8, zq_9, zq_20, zq_21, zq_22, zq_25, zq_26, zq_28, zq_30, zq_40, zq_51, zq_52, zq_53, zq_54, zq_55, zq_64, zq_65, zq_68, zq_72, zq_73, zq_85, zq_74, zq_75, zq_76, zq_71, zq_86, zq_87, zq_80, zq_41, zq_42, zq_43, zq_94, zq_95, zq_47, zq_48, zq_96, zq_97, zq_88, zq_89, zq_90, zq_93, zq_61, zq_62, zq_1, zq_2, zq_3, zq_4, zq_5, zx_90] at t1 g1
      rw [c1] at t1
      rw [c2] at g1
      obtain ⟨-, -, tF⟩ := t1
      obtain ⟨-, -, gF⟩ := g1
      have tF : zx_F 132 [E.2 la, E.2 ly, E.2 st, E.2 n0, E.2 b0] [zk_i E b, zk_i E th, zk_i E ln, zk_i E v] (zk_i E K).toNat = ([zk_i E d, zk_i E x], [E.2 f1, E.2 f2]) := tF
      have gF : zx_F 133 [E.2 la2, E.2 be, E.2 st2, E.2 m0, E.2 c0] [zk_i E b2, zk_i E v2, zk_i E th2, zk_i E ln2, zk_i E ba, zk_i E bo] (zk_i E K2).toNat = ([zk_i E d2, zk_i E x2], [E.2 f3, E.2 f4]) := gF
      rw [← q1, ← q2, ← q3, ← q4, ← c5] at gF
      have eb : (((zk_i E b).toNat : Nat) : Int) = zk_i E b := Int.toNat_of_nonneg c7
      have hb : (((zk_i E b).toNat : Nat) : Int) < zk_i E ba := by omega
      have hy : E.2 ly (zk_i E b).toNat = (zx_cn (E.2 be) (zk_i E b) (zk_i E bo).toNat : Int) := by
        rw [hcp _ (by omega), c10 _ (by omega), if_pos hb, eb]
      have r := zy_kpE c7 (by omega) (by omega) (c11 _ hb) hy (c12 _ hb) (c13 _ hb) tF c3 gF c4
      exact zk_eqsg (by rw [zk_vsub_i]; omega) (zk_vsub_sv (t3 _ (by simp)) (g3 _ (by simp))) N hN hc hn
    · exact zk_id_gd N hN hc hn
  · exact zk_id_gd N hN hc hn
def zk_rkp : zk_Rl := zk_nr (zk_on zk_f90 fun p => zk_on zk_f90 (zk_kp2 p))
theorem zk_rkp_ok : zk_Rok zk_rkp := zk_nr_ok fun E n => zk_on_gd fun N h hc hn p hp => by
  have ht := zk_trs h hc hn p (List.mem_filter.mp hp).1
  exact zk_on_gd fun N' h' hc' hn' q hq => zk_kp2_gd ht (zk_trs h' hc' hn' q (List.mem_filter.mp hq).1)
end
