noncomputable section
/-! WHAT DAYS COME TO: what the told functions of class and reference say (wip/p41/thday.py) -/
theorem zy_slp_0 {pl : zx_Rw} {ni : zx_Rw} {bl : zx_Rw} {ly : zx_Rw} {ne : zx_Rw} {bo : Int} {li : Int} {ba : Int} : zx_F 98 [pl, ni, bl, ly, ne] [bo, li, ba] 0 = ([(0 : Int), (0 : Int)], []) := rfl
set_option maxRecDepth 20000 in
theorem zy_slp_s {k : Nat} {pl : zx_Rw} {ni : zx_Rw} {bl : zx_Rw} {ly : zx_Rw} {ne : zx_Rw} {bo : Int} {li : Int} {ba : Int} {w : Int} (h : zx_F 98 [pl, ni, bl, ly, ne] [bo, li, ba] k = ([0, w], [])) : zx_F 98 [pl, ni, bl, ly, ne] [bo, li, ba] (k + 1) =
  (([(if (if ((k : Int) + (1 : Int)) ≤ bo then (1 : Int) else 0) = 0 then (1 : Int) else (0 : Int)), (if (if (if ((k : Int) + (1 : Int)) ≤ bo then (1 : Int) else 0) ≠ 0 ∧ (if (if (0 : Int) ≤ (pl ((k : Int)).toNat) then (1 : Int) else 0) ≠ 0 ∧ (if (if ((pl ((k : Int)).toNat) + (1 : Int)) ≤ ba then (1 : Int) else 0) ≠ 0 ∧ (if (if ((bl ((pl ((k : Int)).toNat)).toNat) + (1 : Int)) ≤ li then (1 : Int) else 0) ≠ 0 ∧ (if (if (1 : Int) ≤ (ly ((pl ((k : Int)).toNat)).toNat) then (1 : Int) else 0) ≠ 0 ∧ (if (ne ((k : Int)).toNat) ≤ (zx_op 6 (ni ((pl ((k : Int)).toNat)).toNat) (ly ((pl ((k : Int)).toNat)).toNat)) then (1 : Int) else 0) ≠ 0 then (1 : Int) else 0) ≠ 0 then (1 : Int) else 0) ≠ 0 then (1 : Int) else 0) ≠ 0 then (1 : Int) else 0) ≠ 0 then (1 : Int) else 0) = 0 then w else (zx_op 85 w (zx_op 88 (1 : Int) (k : Int))))], [])) := by
  rw [zy_turn h]
  rfl
theorem zy_slr_0 {be : zx_Rw} {ni : zx_Rw} {bl : zx_Rw} {ne : zx_Rw} {bo : Int} {li : Int} : zx_F 99 [be, ni, bl, ne] [bo, li] 0 = ([(0 : Int), (0 : Int)], []) := rfl
set_option maxRecDepth 20000 in
theorem zy_slr_s {k : Nat} {be : zx_Rw} {ni : zx_Rw} {bl : zx_Rw} {ne : zx_Rw} {bo : Int} {li : Int} {w : Int} (h : zx_F 99 [be, ni, bl, ne] [bo, li] k = ([0, w], [])) : zx_F 99 [be, ni, bl, ne] [bo, li] (k + 1) =
  (([(if (if ((k : Int) + (1 : Int)) ≤ bo then (1 : Int) else 0) = 0 then (1 : Int) else (0 : Int)), (if (if (if ((k : Int) + (1 : Int)) ≤ bo then (1 : Int) else 0) ≠ 0 ∧ (if (if (0 : Int) ≤ (be ((k : Int)).toNat) then (1 : Int) else 0) ≠ 0 ∧ (if (if ((bl ((be ((k : Int)).toNat)).toNat) + (1 : Int)) ≤ li then (1 : Int) else 0) ≠ 0 ∧ (if (ne ((k : Int)).toNat) ≤ (zx_op 6 (ni ((be ((k : Int)).toNat)).toNat) (zx_cn be (be ((k : Int)).toNat) (bo).toNat : Int)) then (1 : Int) else 0) ≠ 0 then (1 : Int) else 0) ≠ 0 then (1 : Int) else 0) ≠ 0 then (1 : Int) else 0) = 0 then w else (zx_op 85 w (zx_op 88 (1 : Int) (k : Int))))], [])) := by
  rw [zy_turn h]
  rfl
theorem zy_slp_c {pl ni bl ly ne : zx_Rw} {bo li ba w : Int} {k : Nat} (h : zx_F 98 [pl, ni, bl, ly, ne] [bo, li, ba] k = ([0, w], [])) :
    (¬ (k : Int) + 1 ≤ bo → zx_F 98 [pl, ni, bl, ly, ne] [bo, li, ba] (k + 1) = ([1, w], [])) ∧
    ((k : Int) + 1 ≤ bo → (0 ≤ pl k ∧ pl k + 1 ≤ ba ∧ bl (pl k).toNat + 1 ≤ li ∧ 1 ≤ ly (pl k).toNat ∧ ne k ≤ ni (pl k).toNat / ly (pl k).toNat) → zx_F 98 [pl, ni, bl, ly, ne] [bo, li, ba] (k + 1) = ([0, zx_op 85 w (zx_op 88 1 k)], [])) ∧
    ((k : Int) + 1 ≤ bo → ¬ (0 ≤ pl k ∧ pl k + 1 ≤ ba ∧ bl (pl k).toNat + 1 ≤ li ∧ 1 ≤ ly (pl k).toNat ∧ ne k ≤ ni (pl k).toNat / ly (pl k).toNat) → zx_F 98 [pl, ni, bl, ly, ne] [bo, li, ba] (k + 1) = ([0, w], [])) := by
  have e6 : ∀ x y : Int, zx_op 6 x y = x / y := fun _ _ => rfl
  have ek : ((k : Int)).toNat = k := Int.toNat_natCast k
  refine ⟨fun h1 => ?_, fun h1 h2 => ?_, fun h1 h2 => ?_⟩
  · rw [zy_slp_s h]
    simp only [ek, e6, zy_if, zy_if0, zy_ne, zy_ne0]
    rw [if_neg h1, if_neg (fun q => h1 q.1)]
  · rw [zy_slp_s h]
    simp only [ek, e6, zy_if, zy_if0, zy_ne, zy_ne0]
    rw [if_pos h1, if_pos ⟨h1, h2⟩]
  · rw [zy_slp_s h]
    simp only [ek, e6, zy_if, zy_if0, zy_ne, zy_ne0]
    rw [if_pos h1, if_neg (fun q => h2 q.2)]
theorem zy_slr_c {be ni bl ne : zx_Rw} {bo li w : Int} {k : Nat} (h : zx_F 99 [be, ni, bl, ne] [bo, li] k = ([0, w], [])) :
    (¬ (k : Int) + 1 ≤ bo → zx_F 99 [be, ni, bl, ne] [bo, li] (k + 1) = ([1, w], [])) ∧
    ((k : Int) + 1 ≤ bo → (0 ≤ be k ∧ bl (be k).toNat + 1 ≤ li ∧ ne k ≤ ni (be k).toNat / (zx_cn be (be k) bo.toNat : Int)) → zx_F 99 [be, ni, bl, ne] [bo, li] (k + 1) = ([0, zx_op 85 w (zx_op 88 1 k)], [])) ∧
    ((k : Int) + 1 ≤ bo → ¬ (0 ≤ be k ∧ bl (be k).toNat + 1 ≤ li ∧ ne k ≤ ni (be k).toNat / (zx_cn be (be k) bo.toNat : Int)) → zx_F 99 [be, ni, bl, ne] [bo, li] (k + 1) = ([0, w], [])) := by
  have e6 : ∀ x y : Int, zx_op 6 x y = x / y := fun _ _ => rfl
  have ek : ((k : Int)).toNat = k := Int.toNat_natCast k
  refine ⟨fun h1 => ?_, fun h1 h2 => ?_, fun h1 h2 => ?_⟩
  · rw [zy_slr_s h]
    simp only [ek, e6, zy_if, zy_if0, zy_ne, zy_ne0]
    rw [if_neg h1, if_neg (fun q => h1 q.1)]
  · rw [zy_slr_s h]
    simp only [ek, e6, zy_if, zy_if0, zy_ne, zy_ne0]
    rw [if_pos h1, if_pos ⟨h1, h2⟩]
  · rw [zy_slr_s h]
    simp only [ek, e6, zy_if, zy_if0, zy_ne, zy_ne0]
    rw [if_pos h1, if_neg (fun q => h2 q.2)]
/-- who sleeps: class and reference, night and blue alike below the barns -/
theorem zy_sl {pl ni bl ly ne be ni2 bl2 ne2 : zx_Rw} {bo li ba : Int} (h1 : ∀ j : Nat, (j : Int) < bo → pl j = be j ∧ ne j = ne2 j ∧ pl j < ba) (h2 : ∀ b : Nat, (b : Int) < ba → ni b = ni2 b ∧ bl b = bl2 b ∧ ly b = (zx_cn be b bo.toNat : Int)) : ∀ k : Nat, ∃ d w, zx_F 98 [pl, ni, bl, ly, ne] [bo, li, ba] k = ([d, w], []) ∧ zx_F 99 [be, ni2, bl2, ne2] [bo, li] k = ([d, w], [])
  | 0 => ⟨0, 0, zy_slp_0, zy_slr_0⟩
  | k + 1 => by
    obtain ⟨d, w, e1, e2⟩ := zy_sl (li := li) h1 h2 k
    by_cases hd : d = 0
    · subst hd
      obtain ⟨a1, a2, a3⟩ := zy_slp_c e1
      obtain ⟨b1, b2, b3⟩ := zy_slr_c e2
      by_cases hk : (k : Int) + 1 ≤ bo
      · obtain ⟨g1, g2, g3⟩ := h1 k (by omega)
        have hiff : (0 ≤ pl k ∧ pl k + 1 ≤ ba ∧ bl (pl k).toNat + 1 ≤ li ∧ 1 ≤ ly (pl k).toNat ∧ ne k ≤ ni (pl k).toNat / ly (pl k).toNat) ↔ (0 ≤ be k ∧ bl2 (be k).toNat + 1 ≤ li ∧ ne2 k ≤ ni2 (be k).toNat / (zx_cn be (be k) bo.toNat : Int)) := by
          rw [g1, g2]
          by_cases h0 : 0 ≤ be k
          · obtain ⟨q1, q2, q3⟩ := h2 (be k).toNat (by rw [g1] at g3; omega)
            have e0 : (((be k).toNat : Nat) : Int) = be k := by omega
            rw [e0] at q3
            rw [q1, q2, q3]
            have hp : 1 ≤ zx_cn be (be k) bo.toNat := zx_cnt_pos (k := k) (by omega) rfl
            exact ⟨fun q => ⟨q.1, q.2.2.1, q.2.2.2.2⟩, fun q => ⟨q.1, by rw [g1] at g3; omega, q.2.1, by omega, q.2.2⟩⟩
          · exact ⟨fun q => absurd q.1 h0, fun q => absurd q.1 h0⟩
        by_cases hc : (0 ≤ be k ∧ bl2 (be k).toNat + 1 ≤ li ∧ ne2 k ≤ ni2 (be k).toNat / (zx_cn be (be k) bo.toNat : Int))
        · exact ⟨_, _, a2 hk (hiff.mpr hc), b2 hk hc⟩
        · exact ⟨_, _, a3 hk (fun q => hc (hiff.mp q)), b3 hk hc⟩
      · exact ⟨_, _, a1 hk, b1 hk⟩
    · exact ⟨d, w, zy_stay e1 hd, zy_stay e2 hd⟩
/-- a row anew below a place -/
def zy_to (f g : zx_Rw) (n : Nat) : zx_Rw := fun j => if j < n then f j else g j
theorem zy_to_0 {f g : zx_Rw} : zy_to f g 0 = g := rfl
theorem zy_to_s {f g : zx_Rw} {n : Nat} {v : Int} (h : v = f n) : zy_up (zy_to f g n) (n : Int) v = zy_to f g (n + 1) := by
  funext j
  show (if j = ((n : Int)).toNat then v else if j < n then f j else g j) = if j < n + 1 then f j else g j
  rw [Int.toNat_natCast]
  by_cases h1 : j = n
  · rw [if_pos h1, if_pos (by omega), h, h1]
  · rw [if_neg h1]
    by_cases h2 : j < n
    · rw [if_pos h2, if_pos (by omega)]
    · rw [if_neg h2, if_neg (by omega)]
theorem zy_to_at {f g : zx_Rw} {n : Nat} : zy_to f g n n = g n := if_neg (Nat.lt_irrefl n)
theorem zx_wr20 {a b : zx_Rw} {i v : Int} : zx_wr [a, b] 0 i v = [zy_up a i v, b] := rfl
theorem zx_wr21 {a b : zx_Rw} {i v : Int} : zx_wr [a, b] 1 i v = [a, zy_up b i v] := rfl
theorem zy_pd_0 {la : zx_Rw} {ly : zx_Rw} {st : zx_Rw} {nz : zx_Rw} {bz : zx_Rw} {th : Int} {len : Int} {da : Int} {tu : Int} {ba : Int} : zx_F 100 [la, ly, st, nz, bz] [th, len, da, tu, ba] 0 = ([(0 : Int)], [nz, bz]) := rfl
set_option maxRecDepth 20000 in
theorem zy_pd_s {k : Nat} {la : zx_Rw} {ly : zx_Rw} {st : zx_Rw} {nz : zx_Rw} {bz : zx_Rw} {n : zx_Rw} {b : zx_Rw} {th : Int} {len : Int} {da : Int} {tu : Int} {ba : Int}  (h : zx_F 100 [la, ly, st, nz, bz] [th, len, da, tu, ba] k = ([0], [n, b])) : zx_F 100 [la, ly, st, nz, bz] [th, len, da, tu, ba] (k + 1) =
  (let m0 : List zx_Rw := if (if ((k : Int) + (1 : Int)) ≤ ba then (1 : Int) else 0) = 0 then [n, b] else zx_wr [n, b] 0 (k : Int) (zx_op 89 (zx_lw st len (n ((k : Int)).toNat) (b ((k : Int)).toNat) (la ((k : Int)).toNat) th (ly ((k : Int)).toNat) da) (0 : Int))
  let m1 : List zx_Rw := if (if ((k : Int) + (1 : Int)) ≤ ba then (1 : Int) else 0) = 0 then m0 else zx_wr m0 1 (k : Int) (if (if (k : Int) = tu then (1 : Int) else 0) = 0 then (zx_op 90 ((b ((k : Int)).toNat) + (1 : Int)) (0 : Int)) else (0 : Int))
  ([(if (if ((k : Int) + (1 : Int)) ≤ ba then (1 : Int) else 0) = 0 then (1 : Int) else (0 : Int))], m1)) := by
  rw [zy_turn h]
  rfl
def zy_pd_n (la ly st nz bz : zx_Rw) (th len da tu ba : Int) : zx_Rw := fun j => zx_op 89 (zx_lw st len (nz j) (bz j) (la j) th (ly j) da) 0
def zy_pd_b (bz : zx_Rw) (tu : Int) : zx_Rw := fun j => if (j : Int) = tu then 0 else zx_op 90 (bz j + 1) 0
theorem zy_pd_c {la ly st nz bz n b : zx_Rw} {th len da tu ba : Int} {k : Nat} (h : zx_F 100 [la, ly, st, nz, bz] [th, len, da, tu, ba] k = ([0], [n, b])) :
    (¬ (k : Int) + 1 ≤ ba → zx_F 100 [la, ly, st, nz, bz] [th, len, da, tu, ba] (k + 1) = ([1], [n, b])) ∧
    ((k : Int) + 1 ≤ ba → zx_F 100 [la, ly, st, nz, bz] [th, len, da, tu, ba] (k + 1) = ([0], [zy_up n k (zx_op 89 (zx_lw st len (n k) (b k) (la k) th (ly k) da) 0), zy_up b k (if (k : Int) = tu then 0 else zx_op 90 (b k + 1) 0)])) := by
  have ek : ((k : Int)).toNat = k := Int.toNat_natCast k
  refine ⟨fun h1 => ?_, fun h1 => ?_⟩
  · rw [zy_pd_s h]
    simp only [ek, zy_if, zy_if0, zy_ne, zy_ne0]
    rw [if_neg h1, if_neg h1, if_neg h1]
  · rw [zy_pd_s h]
    simp only [ek, zy_if, zy_if0, zy_ne, zy_ne0]
    rw [if_pos h1, if_pos h1, if_pos h1, zx_wr20, zx_wr21]
theorem zy_pd {la ly st nz bz : zx_Rw} {th len da tu ba : Int} (hb : 0 ≤ ba) : ∀ k : Nat, ∃ d n b, zx_F 100 [la, ly, st, nz, bz] [th, len, da, tu, ba] k = ([d], [n, b]) ∧ ((d = 0 ∧ (k : Int) ≤ ba ∧ n = zy_to (zy_pd_n la ly st nz bz th len da tu ba) nz k ∧ b = zy_to (zy_pd_b bz tu) bz k) ∨ (d ≠ 0 ∧ n = zy_to (zy_pd_n la ly st nz bz th len da tu ba) nz ba.toNat ∧ b = zy_to (zy_pd_b bz tu) bz ba.toNat))
  | 0 => ⟨0, nz, bz, zy_pd_0, Or.inl ⟨rfl, hb, rfl, rfl⟩⟩
  | k + 1 => by
    obtain ⟨d, n, b, e, g⟩ := zy_pd (la := la) (ly := ly) (st := st) (nz := nz) (bz := bz) (th := th) (len := len) (da := da) (tu := tu) (ba := ba) hb k
    rcases g with ⟨g1, g2, g3, g4⟩ | ⟨g1, g2⟩
    · subst g1
      obtain ⟨c1, c2⟩ := zy_pd_c e
      by_cases hk : (k : Int) + 1 ≤ ba
      · refine ⟨_, _, _, c2 hk, Or.inl ⟨rfl, by push_cast; omega, ?_, ?_⟩⟩
        · rw [g3, g4]
          refine zy_to_s ?_
          rw [zy_to_at, zy_to_at]
          rfl
        · rw [g4]
          refine zy_to_s ?_
          rw [zy_to_at]
          rfl
      · have ek : ba.toNat = k := by omega
        exact ⟨_, _, _, c1 hk, Or.inr ⟨by decide, by rw [ek]; exact g3, by rw [ek]; exact g4⟩⟩
    · exact ⟨d, n, b, zy_stay e g1, Or.inr ⟨g1, g2⟩⟩
theorem zy_pr_0 {la : zx_Rw} {be : zx_Rw} {st : zx_Rw} {nz : zx_Rw} {bz : zx_Rw} {th : Int} {len : Int} {da : Int} {tu : Int} {ba : Int} {bo : Int} : zx_F 101 [la, be, st, nz, bz] [th, len, da, tu, ba, bo] 0 = ([(0 : Int)], [nz, bz]) := rfl
set_option maxRecDepth 20000 in
theorem zy_pr_s {k : Nat} {la : zx_Rw} {be : zx_Rw} {st : zx_Rw} {nz : zx_Rw} {bz : zx_Rw} {n : zx_Rw} {b : zx_Rw} {th : Int} {len : Int} {da : Int} {tu : Int} {ba : Int} {bo : Int}  (h : zx_F 101 [la, be, st, nz, bz] [th, len, da, tu, ba, bo] k = ([0], [n, b])) : zx_F 101 [la, be, st, nz, bz] [th, len, da, tu, ba, bo] (k + 1) =
  (let m0 : List zx_Rw := if (if ((k : Int) + (1 : Int)) ≤ ba then (1 : Int) else 0) = 0 then [n, b] else zx_wr [n, b] 0 (k : Int) (zx_op 89 (zx_lw st len (n ((k : Int)).toNat) (b ((k : Int)).toNat) (la ((k : Int)).toNat) th (zx_cn be (k : Int) (bo).toNat : Int) da) (0 : Int))
  let m1 : List zx_Rw := if (if ((k : Int) + (1 : Int)) ≤ ba then (1 : Int) else 0) = 0 then m0 else zx_wr m0 1 (k : Int) (if (if (k : Int) = tu then (1 : Int) else 0) = 0 then (zx_op 90 ((b ((k : Int)).toNat) + (1 : Int)) (0 : Int)) else (0 : Int))
  ([(if (if ((k : Int) + (1 : Int)) ≤ ba then (1 : Int) else 0) = 0 then (1 : Int) else (0 : Int))], m1)) := by
  rw [zy_turn h]
  rfl
def zy_pr_n (la be st nz bz : zx_Rw) (th len da tu ba bo : Int) : zx_Rw := fun j => zx_op 89 (zx_lw st len (nz j) (bz j) (la j) th ((zx_cn be j bo.toNat : Int)) da) 0
def zy_pr_b (bz : zx_Rw) (tu : Int) : zx_Rw := fun j => if (j : Int) = tu then 0 else zx_op 90 (bz j + 1) 0
theorem zy_pr_c {la be st nz bz n b : zx_Rw} {th len da tu ba bo : Int} {k : Nat} (h : zx_F 101 [la, be, st, nz, bz] [th, len, da, tu, ba, bo] k = ([0], [n, b])) :
    (¬ (k : Int) + 1 ≤ ba → zx_F 101 [la, be, st, nz, bz] [th, len, da, tu, ba, bo] (k + 1) = ([1], [n, b])) ∧
    ((k : Int) + 1 ≤ ba → zx_F 101 [la, be, st, nz, bz] [th, len, da, tu, ba, bo] (k + 1) = ([0], [zy_up n k (zx_op 89 (zx_lw st len (n k) (b k) (la k) th ((zx_cn be k bo.toNat : Int)) da) 0), zy_up b k (if (k : Int) = tu then 0 else zx_op 90 (b k + 1) 0)])) := by
  have ek : ((k : Int)).toNat = k := Int.toNat_natCast k
  refine ⟨fun h1 => ?_, fun h1 => ?_⟩
  · rw [zy_pr_s h]
    simp only [ek, zy_if, zy_if0, zy_ne, zy_ne0]
    rw [if_neg h1, if_neg h1, if_neg h1]
  · rw [zy_pr_s h]
    simp only [ek, zy_if, zy_if0, zy_ne, zy_ne0]
    rw [if_pos h1, if_pos h1, if_pos h1, zx_wr20, zx_wr21]
theorem zy_pr {la be st nz bz : zx_Rw} {th len da tu ba bo : Int} (hb : 0 ≤ ba) : ∀ k : Nat, ∃ d n b, zx_F 101 [la, be, st, nz, bz] [th, len, da, tu, ba, bo] k = ([d], [n, b]) ∧ ((d = 0 ∧ (k : Int) ≤ ba ∧ n = zy_to (zy_pr_n la be st nz bz th len da tu ba bo) nz k ∧ b = zy_to (zy_pr_b bz tu) bz k) ∨ (d ≠ 0 ∧ n = zy_to (zy_pr_n la be st nz bz th len da tu ba bo) nz ba.toNat ∧ b = zy_to (zy_pr_b bz tu) bz ba.toNat))
  | 0 => ⟨0, nz, bz, zy_pr_0, Or.inl ⟨rfl, hb, rfl, rfl⟩⟩
  | k + 1 => by
    obtain ⟨d, n, b, e, g⟩ := zy_pr (la := la) (be := be) (st := st) (nz := nz) (bz := bz) (th := th) (len := len) (da := da) (tu := tu) (ba := ba) (bo := bo) hb k
    rcases g with ⟨g1, g2, g3, g4⟩ | ⟨g1, g2⟩
    · subst g1
      obtain ⟨c1, c2⟩ := zy_pr_c e
      by_cases hk : (k : Int) + 1 ≤ ba
      · refine ⟨_, _, _, c2 hk, Or.inl ⟨rfl, by push_cast; omega, ?_, ?_⟩⟩
        · rw [g3, g4]
          refine zy_to_s ?_
          rw [zy_to_at, zy_to_at]
          rfl
        · rw [g4]
          refine zy_to_s ?_
          rw [zy_to_at]
          rfl
      · have ek : ba.toNat = k := by omega
        exact ⟨_, _, _, c1 hk, Or.inr ⟨by decide, by rw [ek]; exact g3, by rw [ek]; exact g4⟩⟩
    · exact ⟨d, n, b, zy_stay e g1, Or.inr ⟨g1, g2⟩⟩
theorem zy_fi_0 {z : zx_Rw} {v : Int} {len : Int} : zx_F 107 [z] [v, len] 0 = ([(0 : Int)], [z]) := rfl
set_option maxRecDepth 20000 in
theorem zy_fi_s {k : Nat} {z : zx_Rw} {f : zx_Rw} {v : Int} {len : Int}  (h : zx_F 107 [z] [v, len] k = ([0], [f])) : zx_F 107 [z] [v, len] (k + 1) =
  (let m0 : List zx_Rw := if (if ((k : Int) + (1 : Int)) ≤ len then (1 : Int) else 0) = 0 then [f] else zx_wr [f] 0 (k : Int) v
  ([(if (if ((k : Int) + (1 : Int)) ≤ len then (1 : Int) else 0) = 0 then (1 : Int) else (0 : Int))], m0)) := by
  rw [zy_turn h]
  rfl
theorem zy_fi {z : zx_Rw} {v len : Int} (hb : 0 ≤ len) : ∀ k : Nat, ∃ d f, zx_F 107 [z] [v, len] k = ([d], [f]) ∧ ((d = 0 ∧ (k : Int) ≤ len ∧ f = zy_to (fun _ => v) z k) ∨ (d ≠ 0 ∧ f = zy_to (fun _ => v) z len.toNat))
  | 0 => ⟨0, z, zy_fi_0, Or.inl ⟨rfl, hb, rfl⟩⟩
  | k + 1 => by
    obtain ⟨d, f, e, g⟩ := zy_fi (z := z) (v := v) hb k
    rcases g with ⟨g1, g2, g3⟩ | ⟨g1, g2⟩
    · subst g1
      have e2 := zy_fi_s e
      simp only [zy_if, zy_if0, zy_ne, zy_ne0] at e2
      by_cases hk : (k : Int) + 1 ≤ len
      · rw [if_pos hk, if_pos hk, zx_wr1] at e2
        refine ⟨_, _, e2, Or.inl ⟨rfl, by push_cast; omega, ?_⟩⟩
        rw [g3]
        exact zy_to_s rfl
      · rw [if_neg hk, if_neg hk] at e2
        have ek : len.toNat = k := by omega
        exact ⟨_, _, e2, Or.inr ⟨by decide, by rw [ek]; exact g3⟩⟩
    · exact ⟨d, f, zy_stay e g1, Or.inr ⟨g1, g2⟩⟩
theorem zy_kc_0 {kn : zx_Rw} {kb : zx_Rw} {nz : zx_Rw} {bz : zx_Rw} {ba : Int} {kp : Int} : zx_F 104 [kn, kb, nz, bz] [ba, kp] 0 = ([(0 : Int)], [nz, bz]) := rfl
set_option maxRecDepth 20000 in
theorem zy_kc_s {k : Nat} {kn : zx_Rw} {kb : zx_Rw} {nz : zx_Rw} {bz : zx_Rw} {n : zx_Rw} {b : zx_Rw} {ba : Int} {kp : Int}  (h : zx_F 104 [kn, kb, nz, bz] [ba, kp] k = ([0], [n, b])) : zx_F 104 [kn, kb, nz, bz] [ba, kp] (k + 1) =
  (let m0 : List zx_Rw := if (if ((k : Int) + (1 : Int)) ≤ ba then (1 : Int) else 0) = 0 then [n, b] else zx_wr [n, b] 0 (k : Int) (if (if ((k : Int) + (1 : Int)) ≤ kp then (1 : Int) else 0) = 0 then (n ((k : Int)).toNat) else (kn ((k : Int)).toNat))
  let m1 : List zx_Rw := if (if ((k : Int) + (1 : Int)) ≤ ba then (1 : Int) else 0) = 0 then m0 else zx_wr m0 1 (k : Int) (if (if ((k : Int) + (1 : Int)) ≤ kp then (1 : Int) else 0) = 0 then (0 : Int) else (kb ((k : Int)).toNat))
  ([(if (if ((k : Int) + (1 : Int)) ≤ ba then (1 : Int) else 0) = 0 then (1 : Int) else (0 : Int))], m1)) := by
  rw [zy_turn h]
  rfl
theorem zy_kr_0 {kn : zx_Rw} {kb : zx_Rw} {nz : zx_Rw} {bz : zx_Rw} {ba : Int} {kp : Int} : zx_F 105 [kn, kb, nz, bz] [ba, kp] 0 = ([(0 : Int)], [nz, bz]) := rfl
set_option maxRecDepth 20000 in
theorem zy_kr_s {k : Nat} {kn : zx_Rw} {kb : zx_Rw} {nz : zx_Rw} {bz : zx_Rw} {n : zx_Rw} {b : zx_Rw} {ba : Int} {kp : Int}  (h : zx_F 105 [kn, kb, nz, bz] [ba, kp] k = ([0], [n, b])) : zx_F 105 [kn, kb, nz, bz] [ba, kp] (k + 1) =
  (let m0 : List zx_Rw := if (if (if ((k : Int) + (1 : Int)) ≤ ba then (1 : Int) else 0) ≠ 0 ∧ (if ((k : Int) + (1 : Int)) ≤ kp then (1 : Int) else 0) ≠ 0 then (1 : Int) else 0) = 0 then [n, b] else zx_wr [n, b] 0 (k : Int) (kn ((k : Int)).toNat)
  let m1 : List zx_Rw := if (if ((k : Int) + (1 : Int)) ≤ ba then (1 : Int) else 0) = 0 then m0 else zx_wr m0 1 (k : Int) (if (if ((k : Int) + (1 : Int)) ≤ kp then (1 : Int) else 0) = 0 then (0 : Int) else (kb ((k : Int)).toNat))
  ([(if (if ((k : Int) + (1 : Int)) ≤ ba then (1 : Int) else 0) = 0 then (1 : Int) else (0 : Int))], m1)) := by
  rw [zy_turn h]
  rfl
def zy_kn (kn nz : zx_Rw) (kp : Int) : zx_Rw := fun j => if (j : Int) + 1 ≤ kp then kn j else nz j
def zy_kb (kb : zx_Rw) (kp : Int) : zx_Rw := fun j => if (j : Int) + 1 ≤ kp then kb j else 0
theorem zy_kc {kn kb nz bz : zx_Rw} {ba kp : Int} (hb : 0 ≤ ba) : ∀ k : Nat, ∃ d n b, zx_F 104 [kn, kb, nz, bz] [ba, kp] k = ([d], [n, b]) ∧ ((d = 0 ∧ (k : Int) ≤ ba ∧ n = zy_to (zy_kn kn nz kp) nz k ∧ b = zy_to (zy_kb kb kp) bz k) ∨ (d ≠ 0 ∧ n = zy_to (zy_kn kn nz kp) nz ba.toNat ∧ b = zy_to (zy_kb kb kp) bz ba.toNat))
  | 0 => ⟨0, nz, bz, zy_kc_0, Or.inl ⟨rfl, hb, rfl, rfl⟩⟩
  | k + 1 => by
    obtain ⟨d, n, b, e, g⟩ := zy_kc (kn := kn) (kb := kb) (nz := nz) (bz := bz) (kp := kp) hb k
    rcases g with ⟨g1, g2, g3, g4⟩ | ⟨g1, g2⟩
    · subst g1
      have ek : ((k : Int)).toNat = k := Int.toNat_natCast k
      have e2 := zy_kc_s e
      simp only [ek, zy_if, zy_if0, zy_ne, zy_ne0] at e2
      by_cases hk : (k : Int) + 1 ≤ ba
      · by_cases hp : (k : Int) + 1 ≤ kp
        · simp only [hk, hp, if_true, and_self, zx_wr20, zx_wr21] at e2
          refine ⟨_, _, _, e2, Or.inl ⟨rfl, by push_cast; omega, ?_, ?_⟩⟩
          · rw [g3]
            refine zy_to_s ?_
            unfold zy_kn
            rw [if_pos hp]
          · rw [g4]
            refine zy_to_s ?_
            unfold zy_kb
            rw [if_pos hp]
        · simp only [hk, hp, if_true, if_false, and_false, zx_wr20, zx_wr21] at e2
          refine ⟨_, _, _, e2, Or.inl ⟨rfl, by push_cast; omega, ?_, ?_⟩⟩
          · rw [g3]
            refine zy_to_s ?_
            rw [zy_to_at]
            unfold zy_kn
            rw [if_neg hp]
          · rw [g4]
            refine zy_to_s ?_
            unfold zy_kb
            rw [if_neg hp]
      · simp only [hk, if_false, false_and] at e2
        have ek2 : ba.toNat = k := by omega
        exact ⟨_, _, _, e2, Or.inr ⟨by decide, by rw [ek2]; exact g3, by rw [ek2]; exact g4⟩⟩
    · exact ⟨d, n, b, zy_stay e g1, Or.inr ⟨g1, g2⟩⟩
theorem zy_kr {kn kb nz bz : zx_Rw} {ba kp : Int} (hb : 0 ≤ ba) : ∀ k : Nat, ∃ d n b, zx_F 105 [kn, kb, nz, bz] [ba, kp] k = ([d], [n, b]) ∧ ((d = 0 ∧ (k : Int) ≤ ba ∧ n = zy_to (zy_kn kn nz kp) nz k ∧ b = zy_to (zy_kb kb kp) bz k) ∨ (d ≠ 0 ∧ n = zy_to (zy_kn kn nz kp) nz ba.toNat ∧ b = zy_to (zy_kb kb kp) bz ba.toNat))
  | 0 => ⟨0, nz, bz, zy_kr_0, Or.inl ⟨rfl, hb, rfl, rfl⟩⟩
  | k + 1 => by
    obtain ⟨d, n, b, e, g⟩ := zy_kr (kn := kn) (kb := kb) (nz := nz) (bz := bz) (kp := kp) hb k
    rcases g with ⟨g1, g2, g3, g4⟩ | ⟨g1, g2⟩
    · subst g1
      have ek : ((k : Int)).toNat = k := Int.toNat_natCast k
      have e2 := zy_kr_s e
      simp only [ek, zy_if, zy_if0, zy_ne, zy_ne0] at e2
      by_cases hk : (k : Int) + 1 ≤ ba
      · by_cases hp : (k : Int) + 1 ≤ kp
        · simp only [hk, hp, if_true, and_self, zx_wr20, zx_wr21] at e2
          refine ⟨_, _, _, e2, Or.inl ⟨rfl, by push_cast; omega, ?_, ?_⟩⟩
          · rw [g3]
            refine zy_to_s ?_
            unfold zy_kn
            rw [if_pos hp]
          · rw [g4]
            refine zy_to_s ?_
            unfold zy_kb
            rw [if_pos hp]
        · simp only [hk, hp, if_true, if_false, and_false, zx_wr20, zx_wr21] at e2
          refine ⟨_, _, _, e2, Or.inl ⟨rfl, by push_cast; omega, ?_, ?_⟩⟩
          · rw [g3]
            funext j
            show (if j < k then _ else _) = if j < k + 1 then _ else _
            by_cases h1 : j < k
            · rw [if_pos h1, if_pos (by omega)]
            · rw [if_neg h1]
              by_cases h2 : j = k
              · subst h2
                rw [if_pos (by omega)]
                unfold zy_kn
                rw [if_neg hp]
              · rw [if_neg (by omega)]
          · rw [g4]
            refine zy_to_s ?_
            unfold zy_kb
            rw [if_neg hp]
      · simp only [hk, if_false, false_and] at e2
        have ek2 : ba.toNat = k := by omega
        exact ⟨_, _, _, e2, Or.inr ⟨by decide, by rw [ek2]; exact g3, by rw [ek2]; exact g4⟩⟩
    · exact ⟨d, n, b, zy_stay e g1, Or.inr ⟨g1, g2⟩⟩
theorem zy_sh_0 {fa : zx_Rw} {fb : zx_Rw} {fc : zx_Rw} {fd : zx_Rw}  : zx_F 106 [fa, fb, fc, fd] [] 0 = ([(0 : Int)], [fa, fb, fc, fd]) := rfl
set_option maxRecDepth 20000 in
theorem zy_sh_s {k : Nat} {fa : zx_Rw} {fb : zx_Rw} {fc : zx_Rw} {fd : zx_Rw} {a : zx_Rw} {b : zx_Rw} {c : zx_Rw} {d : zx_Rw}  (h : zx_F 106 [fa, fb, fc, fd] [] k = ([0], [a, b, c, d])) : zx_F 106 [fa, fb, fc, fd] [] (k + 1) =
  (let m0 : List zx_Rw := if (if (k : Int) ≤ (38 : Int) then (1 : Int) else 0) = 0 then [a, b, c, d] else zx_wr [a, b, c, d] 0 (k : Int) (a (((k : Int) + (1 : Int))).toNat)
  let m1 : List zx_Rw := if (if (k : Int) ≤ (38 : Int) then (1 : Int) else 0) = 0 then m0 else zx_wr m0 1 (k : Int) (b (((k : Int) + (1 : Int))).toNat)
  let m2 : List zx_Rw := if (if (k : Int) ≤ (38 : Int) then (1 : Int) else 0) = 0 then m1 else zx_wr m1 2 (k : Int) (c (((k : Int) + (1 : Int))).toNat)
  let m3 : List zx_Rw := if (if (k : Int) ≤ (38 : Int) then (1 : Int) else 0) = 0 then m2 else zx_wr m2 3 (k : Int) (d (((k : Int) + (1 : Int))).toNat)
  ([(if (if (k : Int) ≤ (38 : Int) then (1 : Int) else 0) = 0 then (1 : Int) else (0 : Int))], m3)) := by
  rw [zy_turn h]
  rfl
theorem zx_wr40 {a b c d : zx_Rw} {i v : Int} : zx_wr [a, b, c, d] 0 i v = [zy_up a i v, b, c, d] := rfl
theorem zx_wr41 {a b c d : zx_Rw} {i v : Int} : zx_wr [a, b, c, d] 1 i v = [a, zy_up b i v, c, d] := rfl
theorem zx_wr42 {a b c d : zx_Rw} {i v : Int} : zx_wr [a, b, c, d] 2 i v = [a, b, zy_up c i v, d] := rfl
theorem zx_wr43 {a b c d : zx_Rw} {i v : Int} : zx_wr [a, b, c, d] 3 i v = [a, b, c, zy_up d i v] := rfl
/-- a row moved on by one below a place -/
def zy_mv (f : zx_Rw) (n : Nat) : zx_Rw := zy_to (fun j => f (j + 1)) f n
theorem zy_mv_s {f : zx_Rw} {n : Nat} : zy_up (zy_mv f n) (n : Int) (zy_mv f n (n + 1)) = zy_mv f (n + 1) := by
  refine zy_to_s ?_
  show (if n + 1 < n then _ else _) = _
  rw [if_neg (by omega)]
theorem zy_sh {fa fb fc fd : zx_Rw} : ∀ k : Nat, ∃ q a b c d, zx_F 106 [fa, fb, fc, fd] [] k = ([q], [a, b, c, d]) ∧ ((q = 0 ∧ k ≤ 39 ∧ a = zy_mv fa k ∧ b = zy_mv fb k ∧ c = zy_mv fc k ∧ d = zy_mv fd k) ∨ (q ≠ 0 ∧ a = zy_mv fa 39 ∧ b = zy_mv fb 39 ∧ c = zy_mv fc 39 ∧ d = zy_mv fd 39))
  | 0 => ⟨0, fa, fb, fc, fd, zy_sh_0, Or.inl ⟨rfl, by omega, rfl, rfl, rfl, rfl⟩⟩
  | k + 1 => by
    obtain ⟨q, a, b, c, d, e, g⟩ := zy_sh (fa := fa) (fb := fb) (fc := fc) (fd := fd) k
    rcases g with ⟨g1, g2, g3, g4, g5, g6⟩ | ⟨g1, g2⟩
    · subst g1
      have e2 := zy_sh_s e
      have ek : ((k : Int) + 1).toNat = k + 1 := by omega
      simp only [ek, zy_if, zy_if0, zy_ne, zy_ne0] at e2
      by_cases hk : (k : Int) ≤ 38
      · simp only [hk, if_true, zx_wr40, zx_wr41, zx_wr42, zx_wr43] at e2
        refine ⟨_, _, _, _, _, e2, Or.inl ⟨rfl, by omega, ?_, ?_, ?_, ?_⟩⟩
        · rw [g3]; exact zy_mv_s
        · rw [g4]; exact zy_mv_s
        · rw [g5]; exact zy_mv_s
        · rw [g6]; exact zy_mv_s
      · simp only [hk, if_false] at e2
        have ek2 : k = 39 := by omega
        subst ek2
        exact ⟨_, _, _, _, _, e2, Or.inr ⟨by decide, g3, g4, g5, g6⟩⟩
    · exact ⟨q, a, b, c, d, zy_stay e g1, Or.inr ⟨g1, g2⟩⟩
/-! how many bits -/
def zy_bN (x : Int) : Nat := ((zx_F 102 [] [x] 0).1.getD 1 0).toNat
def zy_bB (x : Int) : Bool := decide ((zx_F 102 [] [x] 0).1 = [0, (zy_bN x : Int)]) && decide ((zx_F 103 [] [x] (zy_bN x)).1 = [0, 0]) && decide ((zx_F 103 [] [x] (zy_bN x + 1)).1 = [1, 0]) && (List.range (zy_bN x)).all fun j => decide ((zx_F 103 [] [x] j).1.getD 1 0 ≠ 0)
theorem zy_bb : (List.range 256).all (fun x => zy_bB (x : Int)) = true := by decide +kernel
theorem zy_bits {x : Int} (h0 : 0 ≤ x) (h1 : x ≤ 255) {n : Nat} {M : List zx_Rw} (h : zx_F 103 [] [x] n = ([0, 0], M)) : (zx_F 102 [] [x] 0).1 = [0, (n : Int)] := by
  have g := List.all_eq_true.mp zy_bb x.toNat (List.mem_range.mpr (by omega))
  rw [show ((x.toNat : Nat) : Int) = x by omega] at g
  unfold zy_bB at g
  simp only [Bool.and_eq_true, decide_eq_true_eq, List.all_eq_true, List.mem_range] at g
  obtain ⟨⟨⟨g1, g2⟩, g3⟩, g4⟩ := g
  rcases Nat.lt_trichotomy n (zy_bN x) with hn | hn | hn
  · exact absurd (by rw [h]; rfl) (g4 n hn)
  · rw [g1, hn]
  · have e := zx_F_st (id := 103) (R := []) (P := [x]) (K := zy_bN x + 1) (K' := n) (by rw [g3]; decide) (by omega)
    rw [h] at e
    have e2 := congrArg Prod.fst e
    rw [g3] at e2
    cases e2
end
