noncomputable section
/-! DAYS IN THOUGHT (wip/p41/mk9zf.py) -/
theorem zx_evs_app {cl : zx_Cl} {R M : List zx_Rw} {P S : List Int} {k : Int} : ∀ {a b : List zx_I} {s : List Int}, zx_evs cl R M P k S (a ++ b) s = zx_evs cl R M P k S b (zx_evs cl R M P k S a s)
  | [], _, _ => rfl
  | q :: a, b, s => zx_evs_app (a := a) (b := b)
def zy_dgz (ba : Nat) (i : Int) : List zx_I := [(0, i, []), (1, (ba : Int), []), (9, 0, []), (11, 0, [])]
def zy_db (j : Int) : List zx_I := [(0, j, []), (10, 0, []), (0, 0, []), (0, j, []), (4, 101, []), (0, 1, []), (5, 0, []), (0, 0, []), (8, 90, []), (13, 0, [])]
theorem zy_dg_ev {cl : zx_Cl} {R M : List zx_Rw} {P S : List Int} {k von i : Int} {ba : Nat} {on : List zx_I} (hon : ∀ s, zx_evs cl R M P k S on s = von :: s) : zx_ev cl R M P k S (on ++ zy_dgz ba i) = if von ≠ 0 ∧ i ≤ P.getD ba 0 then 1 else 0 := by
  unfold zx_ev
  rw [zx_evs_app, hon]
  show (if von ≠ 0 ∧ (if i ≤ P.getD ba 0 then (1 : Int) else 0) ≠ 0 then (1 : Int) else 0) = _
  simp only [zy_ne]
theorem zy_db_ev {cl : zx_Cl} {R : List zx_Rw} {n b : zx_Rw} {P S : List Int} {k vtu j : Int} {tu : List zx_I} (htu : ∀ s, zx_evs cl R [n, b] P k S tu s = vtu :: s) : zx_ev cl R [n, b] P k S (tu ++ zy_db j) = if j = vtu then 0 else zx_op 90 (b j.toNat + 1) 0 := by
  unfold zx_ev
  rw [zx_evs_app, htu]
  show (if (if vtu = j then (1 : Int) else 0) = 0 then zx_op 90 (b j.toNat + 1) 0 else 0) = _
  rw [zy_if]
  by_cases h : vtu = j
  · rw [if_pos h, if_pos h.symm]
  · rw [if_neg h, if_neg (Ne.symm h)]
def zy_dc1 (la ly st th ln : Nat) (j : Int) : List zx_I := [(1, (ln : Int), []), (0, j, []), (4, 100, []), (0, j, []), (4, 101, []), (0, j, []), (4, (la : Int), []), (1, (th : Int), []), (0, j, []), (4, (ly : Int), []), (2, 0, []), (15, (st : Int), []), (0, 0, []), (8, 89, [])]
def zy_dc2 (la ly st th ln ba : Nat) (on tu : List zx_I) (j i : Int) : List zx_W := [(0, on ++ zy_dgz ba i, [(0, j, [])], zy_dc1 la ly st th ln j), (1, on ++ zy_dgz ba i, [(0, j, [])], tu ++ zy_db j)]
def zy_dc (la ly st th ln ba : Nat) (on tu : List zx_I) : List zx_W := zy_dc2 la ly st th ln ba on tu 0 1 ++ (zy_dc2 la ly st th ln ba on tu 1 2 ++ (zy_dc2 la ly st th ln ba on tu 2 3 ++ (zy_dc2 la ly st th ln ba on tu 3 4 ++ zy_dc2 la ly st th ln ba on tu 4 5)))
theorem zy_dc1_ev {cl : zx_Cl} {R : List zx_Rw} {n b : zx_Rw} {P S : List Int} {k j : Int} {la ly st th ln : Nat} : zx_ev cl R [n, b] P k S (zy_dc1 la ly st th ln j) = zx_op 89 (zx_lw (zx_R R [n, b] st) (P.getD ln 0) (n j.toNat) (b j.toNat) (zx_R R [n, b] la j.toNat) (P.getD th 0) (zx_R R [n, b] ly j.toNat) k) 0 := rfl
/-- two stores more: a barn more -/
theorem zy_dc2_sto {cl : zx_Cl} {R : List zx_Rw} {n b n' b' : zx_Rw} {P S : List Int} {k von vtu : Int} {la ly st th ln ba : Nat} {on tu : List zx_I} {l : List zx_W} {j : Nat} {ji i : Int} (hon : ∀ s, zx_evs cl R [n, b] P k S on s = von :: s) (htu : ∀ s, zx_evs cl R [n, b] P k S tu s = vtu :: s) (hj : ji = (j : Int)) (hi : i = (j : Int) + 1) :
    zx_sto cl R [n, b] P k S (zy_dc2 la ly st th ln ba on tu ji i ++ l) [n', b'] = zx_sto cl R [n, b] P k S l (if von ≠ 0 ∧ (j : Int) + 1 ≤ P.getD ba 0 then [zy_up n' (j : Int) (zy_pd_n (zx_R R [n, b] la) (zx_R R [n, b] ly) (zx_R R [n, b] st) n b (P.getD th 0) (P.getD ln 0) k vtu (P.getD ba 0) j), zy_up b' (j : Int) (zy_pd_b b vtu j)] else [n', b']) := by
  subst hj hi
  show zx_sto cl R [n, b] P k S l (if zx_ev cl R [n, b] P k S (on ++ zy_dgz ba ((j : Int) + 1)) = 0 then (if zx_ev cl R [n, b] P k S (on ++ zy_dgz ba ((j : Int) + 1)) = 0 then [n', b'] else zx_wr [n', b'] 0 (j : Int) (zx_ev cl R [n, b] P k S (zy_dc1 la ly st th ln (j : Int)))) else zx_wr (if zx_ev cl R [n, b] P k S (on ++ zy_dgz ba ((j : Int) + 1)) = 0 then [n', b'] else zx_wr [n', b'] 0 (j : Int) (zx_ev cl R [n, b] P k S (zy_dc1 la ly st th ln (j : Int)))) 1 (j : Int) (zx_ev cl R [n, b] P k S (tu ++ zy_db (j : Int)))) = _
  rw [zy_dg_ev hon, zy_db_ev htu, zy_dc1_ev]
  congr 1
  by_cases hc : von ≠ 0 ∧ (j : Int) + 1 ≤ P.getD ba 0
  · rw [if_pos hc, if_pos hc, if_neg (by decide), if_neg (by decide), zx_wr20, zx_wr21]
    rfl
  · rw [if_neg hc, if_neg hc, if_pos rfl, if_pos rfl]
theorem zy_dc_sto {cl : zx_Cl} {R : List zx_Rw} {n b : zx_Rw} {P S : List Int} {k von vtu : Int} {la ly st th ln ba : Nat} {on tu : List zx_I} (hon : ∀ s, zx_evs cl R [n, b] P k S on s = von :: s) (htu : ∀ s, zx_evs cl R [n, b] P k S tu s = vtu :: s) (h0 : 0 ≤ P.getD ba 0) (h5 : P.getD ba 0 ≤ 5) :
    zx_sto cl R [n, b] P k S (zy_dc la ly st th ln ba on tu) [n, b] = if von = 0 then [n, b] else [zy_to (zy_pd_n (zx_R R [n, b] la) (zx_R R [n, b] ly) (zx_R R [n, b] st) n b (P.getD th 0) (P.getD ln 0) k vtu (P.getD ba 0)) n (P.getD ba 0).toNat, zy_to (zy_pd_b b vtu) b (P.getD ba 0).toNat] := by
  have key : ∀ (j : Nat) (l : List zx_W) (ji i : Int), ji = (j : Int) → i = (j : Int) + 1 → von ≠ 0 → zx_sto cl R [n, b] P k S (zy_dc2 la ly st th ln ba on tu ji i ++ l) [zy_to (zy_pd_n (zx_R R [n, b] la) (zx_R R [n, b] ly) (zx_R R [n, b] st) n b (P.getD th 0) (P.getD ln 0) k vtu (P.getD ba 0)) n (min j (P.getD ba 0).toNat), zy_to (zy_pd_b b vtu) b (min j (P.getD ba 0).toNat)] = zx_sto cl R [n, b] P k S l [zy_to (zy_pd_n (zx_R R [n, b] la) (zx_R R [n, b] ly) (zx_R R [n, b] st) n b (P.getD th 0) (P.getD ln 0) k vtu (P.getD ba 0)) n (min (j + 1) (P.getD ba 0).toNat), zy_to (zy_pd_b b vtu) b (min (j + 1) (P.getD ba 0).toNat)] := by
    intro j l ji i hj hi hv
    rw [zy_dc2_sto hon htu hj hi]
    congr 1
    by_cases hc : (j : Int) + 1 ≤ P.getD ba 0
    · rw [if_pos ⟨hv, hc⟩, Nat.min_eq_left (by omega), Nat.min_eq_left (by omega), zy_to_s rfl, zy_to_s rfl]
    · rw [if_neg fun h => hc h.2, Nat.min_eq_right (by omega), Nat.min_eq_right (by omega)]
  have key0 : ∀ (j : Nat) (l : List zx_W) (ji i : Int), ji = (j : Int) → i = (j : Int) + 1 → von = 0 → zx_sto cl R [n, b] P k S (zy_dc2 la ly st th ln ba on tu ji i ++ l) [n, b] = zx_sto cl R [n, b] P k S l [n, b] := by
    intro j l ji i hj hi hv
    rw [zy_dc2_sto hon htu hj hi, if_neg fun h => h.1 hv]
  unfold zy_dc
  by_cases hv : von = 0
  · rw [if_pos hv, key0 0 _ 0 1 rfl rfl hv, key0 1 _ 1 2 rfl rfl hv, key0 2 _ 2 3 rfl rfl hv, key0 3 _ 3 4 rfl rfl hv, ← List.append_nil (zy_dc2 la ly st th ln ba on tu 4 5), key0 4 _ 4 5 rfl rfl hv]
    rfl
  · have e0 := key 0 (zy_dc2 la ly st th ln ba on tu 1 2 ++ (zy_dc2 la ly st th ln ba on tu 2 3 ++ (zy_dc2 la ly st th ln ba on tu 3 4 ++ zy_dc2 la ly st th ln ba on tu 4 5))) 0 1 rfl rfl hv
    rw [show min 0 (P.getD ba 0).toNat = 0 from Nat.zero_min _, zy_to_0, zy_to_0] at e0
    rw [if_neg hv, e0, key 1 _ 1 2 rfl rfl hv, key 2 _ 2 3 rfl rfl hv, key 3 _ 3 4 rfl rfl hv, ← List.append_nil (zy_dc2 la ly st th ln ba on tu 4 5), key 4 _ 4 5 rfl rfl hv]
    show [_, _] = _
    rw [Nat.min_eq_right (by omega)]
def zy_dr1 (la ly st th ln : Nat) (bo : Nat) (j : Int) : List zx_I := [(1, (ln : Int), []), (0, j, []), (4, 100, []), (0, j, []), (4, 101, []), (0, j, []), (4, (la : Int), []), (1, (th : Int), []), (0, j, []), (1, (bo : Int), []), (17, (ly : Int), []), (2, 0, []), (15, (st : Int), []), (0, 0, []), (8, 89, [])]
def zy_dr2 (la ly st th ln ba : Nat) (bo : Nat) (on tu : List zx_I) (j i : Int) : List zx_W := [(0, on ++ zy_dgz ba i, [(0, j, [])], zy_dr1 la ly st th ln bo j), (1, on ++ zy_dgz ba i, [(0, j, [])], tu ++ zy_db j)]
def zy_dr (la ly st th ln ba : Nat) (bo : Nat) (on tu : List zx_I) : List zx_W := zy_dr2 la ly st th ln ba bo on tu 0 1 ++ (zy_dr2 la ly st th ln ba bo on tu 1 2 ++ (zy_dr2 la ly st th ln ba bo on tu 2 3 ++ (zy_dr2 la ly st th ln ba bo on tu 3 4 ++ zy_dr2 la ly st th ln ba bo on tu 4 5)))
theorem zy_dr1_ev {cl : zx_Cl} {R : List zx_Rw} {n b : zx_Rw} {P S : List Int} {k j : Int} {la ly st th ln bo : Nat} : zx_ev cl R [n, b] P k S (zy_dr1 la ly st th ln bo j) = zx_op 89 (zx_lw (zx_R R [n, b] st) (P.getD ln 0) (n j.toNat) (b j.toNat) (zx_R R [n, b] la j.toNat) (P.getD th 0) ((zx_cn (zx_R R [n, b] ly) j (P.getD bo 0).toNat : Int)) k) 0 := rfl
/-- two stores more: a barn more -/
theorem zy_dr2_sto {cl : zx_Cl} {R : List zx_Rw} {n b n' b' : zx_Rw} {P S : List Int} {k von vtu : Int} {la ly st th ln ba bo : Nat} {on tu : List zx_I} {l : List zx_W} {j : Nat} {ji i : Int} (hon : ∀ s, zx_evs cl R [n, b] P k S on s = von :: s) (htu : ∀ s, zx_evs cl R [n, b] P k S tu s = vtu :: s) (hj : ji = (j : Int)) (hi : i = (j : Int) + 1) :
    zx_sto cl R [n, b] P k S (zy_dr2 la ly st th ln ba bo on tu ji i ++ l) [n', b'] = zx_sto cl R [n, b] P k S l (if von ≠ 0 ∧ (j : Int) + 1 ≤ P.getD ba 0 then [zy_up n' (j : Int) (zy_pr_n (zx_R R [n, b] la) (zx_R R [n, b] ly) (zx_R R [n, b] st) n b (P.getD th 0) (P.getD ln 0) k vtu (P.getD ba 0) (P.getD bo 0) j), zy_up b' (j : Int) (zy_pr_b b vtu j)] else [n', b']) := by
  subst hj hi
  show zx_sto cl R [n, b] P k S l (if zx_ev cl R [n, b] P k S (on ++ zy_dgz ba ((j : Int) + 1)) = 0 then (if zx_ev cl R [n, b] P k S (on ++ zy_dgz ba ((j : Int) + 1)) = 0 then [n', b'] else zx_wr [n', b'] 0 (j : Int) (zx_ev cl R [n, b] P k S (zy_dr1 la ly st th ln bo (j : Int)))) else zx_wr (if zx_ev cl R [n, b] P k S (on ++ zy_dgz ba ((j : Int) + 1)) = 0 then [n', b'] else zx_wr [n', b'] 0 (j : Int) (zx_ev cl R [n, b] P k S (zy_dr1 la ly st th ln bo (j : Int)))) 1 (j : Int) (zx_ev cl R [n, b] P k S (tu ++ zy_db (j : Int)))) = _
  rw [zy_dg_ev hon, zy_db_ev htu, zy_dr1_ev]
  congr 1
  by_cases hc : von ≠ 0 ∧ (j : Int) + 1 ≤ P.getD ba 0
  · rw [if_pos hc, if_pos hc, if_neg (by decide), if_neg (by decide), zx_wr20, zx_wr21]
    rfl
  · rw [if_neg hc, if_neg hc, if_pos rfl, if_pos rfl]
theorem zy_dr_sto {cl : zx_Cl} {R : List zx_Rw} {n b : zx_Rw} {P S : List Int} {k von vtu : Int} {la ly st th ln ba bo : Nat} {on tu : List zx_I} (hon : ∀ s, zx_evs cl R [n, b] P k S on s = von :: s) (htu : ∀ s, zx_evs cl R [n, b] P k S tu s = vtu :: s) (h0 : 0 ≤ P.getD ba 0) (h5 : P.getD ba 0 ≤ 5) :
    zx_sto cl R [n, b] P k S (zy_dr la ly st th ln ba bo on tu) [n, b] = if von = 0 then [n, b] else [zy_to (zy_pr_n (zx_R R [n, b] la) (zx_R R [n, b] ly) (zx_R R [n, b] st) n b (P.getD th 0) (P.getD ln 0) k vtu (P.getD ba 0) (P.getD bo 0)) n (P.getD ba 0).toNat, zy_to (zy_pr_b b vtu) b (P.getD ba 0).toNat] := by
  have key : ∀ (j : Nat) (l : List zx_W) (ji i : Int), ji = (j : Int) → i = (j : Int) + 1 → von ≠ 0 → zx_sto cl R [n, b] P k S (zy_dr2 la ly st th ln ba bo on tu ji i ++ l) [zy_to (zy_pr_n (zx_R R [n, b] la) (zx_R R [n, b] ly) (zx_R R [n, b] st) n b (P.getD th 0) (P.getD ln 0) k vtu (P.getD ba 0) (P.getD bo 0)) n (min j (P.getD ba 0).toNat), zy_to (zy_pr_b b vtu) b (min j (P.getD ba 0).toNat)] = zx_sto cl R [n, b] P k S l [zy_to (zy_pr_n (zx_R R [n, b] la) (zx_R R [n, b] ly) (zx_R R [n, b] st) n b (P.getD th 0) (P.getD ln 0) k vtu (P.getD ba 0) (P.getD bo 0)) n (min (j + 1) (P.getD ba 0).toNat), zy_to (zy_pr_b b vtu) b (min (j + 1) (P.getD ba 0).toNat)] := by
    intro j l ji i hj hi hv
    rw [zy_dr2_sto hon htu hj hi]
    congr 1
    by_cases hc : (j : Int) + 1 ≤ P.getD ba 0
    · rw [if_pos ⟨hv, hc⟩, Nat.min_eq_left (by omega), Nat.min_eq_left (by omega), zy_to_s rfl, zy_to_s rfl]
    · rw [if_neg fun h => hc h.2, Nat.min_eq_right (by omega), Nat.min_eq_right (by omega)]
  have key0 : ∀ (j : Nat) (l : List zx_W) (ji i : Int), ji = (j : Int) → i = (j : Int) + 1 → von = 0 → zx_sto cl R [n, b] P k S (zy_dr2 la ly st th ln ba bo on tu ji i ++ l) [n, b] = zx_sto cl R [n, b] P k S l [n, b] := by
    intro j l ji i hj hi hv
    rw [zy_dr2_sto hon htu hj hi, if_neg fun h => h.1 hv]
  unfold zy_dr
  by_cases hv : von = 0
  · rw [if_pos hv, key0 0 _ 0 1 rfl rfl hv, key0 1 _ 1 2 rfl rfl hv, key0 2 _ 2 3 rfl rfl hv, key0 3 _ 3 4 rfl rfl hv, ← List.append_nil (zy_dr2 la ly st th ln ba bo on tu 4 5), key0 4 _ 4 5 rfl rfl hv]
    rfl
  · have e0 := key 0 (zy_dr2 la ly st th ln ba bo on tu 1 2 ++ (zy_dr2 la ly st th ln ba bo on tu 2 3 ++ (zy_dr2 la ly st th ln ba bo on tu 3 4 ++ zy_dr2 la ly st th ln ba bo on tu 4 5))) 0 1 rfl rfl hv
    rw [show min 0 (P.getD ba 0).toNat = 0 from Nat.zero_min _, zy_to_0, zy_to_0] at e0
    rw [if_neg hv, e0, key 1 _ 1 2 rfl rfl hv, key 2 _ 2 3 rfl rfl hv, key 3 _ 3 4 rfl rfl hv, ← List.append_nil (zy_dr2 la ly st th ln ba bo on tu 4 5), key 4 _ 4 5 rfl rfl hv]
    show [_, _] = _
    rw [Nat.min_eq_right (by omega)]
theorem zy_yc_0 {la : zx_Rw} {ly : zx_Rw} {st : zx_Rw} {el : zx_Rw} {nz : zx_Rw} {bz : zx_Rw} {nd : Int} {th : Int} {len : Int} {sz : Int} {ba : Int} : zx_F 134 [la, ly, st, el, nz, bz] [nd, th, len, sz, ba] 0 = ([(0 : Int)], [nz, bz]) := rfl
theorem zy_yc_s {k : Nat} {la : zx_Rw} {ly : zx_Rw} {st : zx_Rw} {el : zx_Rw} {nz : zx_Rw} {bz : zx_Rw} {n : zx_Rw} {b : zx_Rw} {nd : Int} {th : Int} {len : Int} {sz : Int} {ba : Int} (h0 : 0 ≤ ba) (h5 : ba ≤ 5) (h : zx_F 134 [la, ly, st, el, nz, bz] [nd, th, len, sz, ba] k = ([0], [n, b])) : zx_F 134 [la, ly, st, el, nz, bz] [nd, th, len, sz, ba] (k + 1) = ([(if (if ((k : Int) + (1 : Int)) ≤ nd then (1 : Int) else 0) = 0 then (1 : Int) else (0 : Int))], if (if ((k : Int) + (1 : Int)) ≤ nd then (1 : Int) else 0) = 0 then [n, b] else [zy_to (zy_pd_n la ly st n b th len (k : Int) (if (if ((k : Int) + (1 : Int)) ≤ sz then (1 : Int) else 0) = 0 then (-1 : Int) else (zx_op 4 (el ((k : Int)).toNat) (0 : Int))) ba) n ba.toNat, zy_to (zy_pd_b b (if (if ((k : Int) + (1 : Int)) ≤ sz then (1 : Int) else 0) = 0 then (-1 : Int) else (zx_op 4 (el ((k : Int)).toNat) (0 : Int)))) b ba.toNat]) := by
  have hs := zy_dc_sto (cl := zx_G 134) (R := [la, ly, st, el, nz, bz]) (n := n) (b := b) (P := [nd, th, len, sz, ba]) (S := [0]) (k := (k : Int)) (la := 0) (ly := 1) (st := 2) (th := 1) (ln := 2) (ba := 4) (on := [(2, 0, []), (0, 1, []), (5, 0, []), (1, 0, []), (9, 0, [])]) (tu := [(2, 0, []), (0, 1, []), (5, 0, []), (1, 3, []), (9, 0, []), (2, 0, []), (4, 3, []), (0, 0, []), (8, 4, []), (0, (-1), []), (13, 0, [])]) (von := (if ((k : Int) + (1 : Int)) ≤ nd then (1 : Int) else 0)) (vtu := (if (if ((k : Int) + (1 : Int)) ≤ sz then (1 : Int) else 0) = 0 then (-1 : Int) else (zx_op 4 (el ((k : Int)).toNat) (0 : Int)))) (fun _ => rfl) (fun _ => rfl) h0 h5
  rw [zy_turn h, show (zx_dn 134).2.2.2.2 = zy_dc 0 1 2 1 2 4 [(2, 0, []), (0, 1, []), (5, 0, []), (1, 0, []), (9, 0, [])] [(2, 0, []), (0, 1, []), (5, 0, []), (1, 3, []), (9, 0, []), (2, 0, []), (4, 3, []), (0, 0, []), (8, 4, []), (0, (-1), []), (13, 0, [])] from rfl, hs]
  rfl
theorem zy_yr_0 {la : zx_Rw} {be : zx_Rw} {st : zx_Rw} {el : zx_Rw} {szr : zx_Rw} {nz : zx_Rw} {bz : zx_Rw} {nd : Int} {th : Int} {len : Int} {sh : Int} {off : Int} {ba : Int} {bo : Int} : zx_F 135 [la, be, st, el, szr, nz, bz] [nd, th, len, sh, off, ba, bo] 0 = ([(0 : Int)], [nz, bz]) := rfl
theorem zy_yr_s {k : Nat} {la : zx_Rw} {be : zx_Rw} {st : zx_Rw} {el : zx_Rw} {szr : zx_Rw} {nz : zx_Rw} {bz : zx_Rw} {n : zx_Rw} {b : zx_Rw} {nd : Int} {th : Int} {len : Int} {sh : Int} {off : Int} {ba : Int} {bo : Int} (h0 : 0 ≤ ba) (h5 : ba ≤ 5) (h : zx_F 135 [la, be, st, el, szr, nz, bz] [nd, th, len, sh, off, ba, bo] k = ([0], [n, b])) : zx_F 135 [la, be, st, el, szr, nz, bz] [nd, th, len, sh, off, ba, bo] (k + 1) = ([(if (if ((k : Int) + (1 : Int)) ≤ nd then (1 : Int) else 0) = 0 then (1 : Int) else (0 : Int))], if (if ((k : Int) + (1 : Int)) ≤ nd then (1 : Int) else 0) = 0 then [n, b] else [zy_to (zy_pr_n la be st n b th len (k : Int) (if (if ((k : Int) + (1 : Int)) ≤ (szr (sh).toNat) then (1 : Int) else 0) = 0 then (-1 : Int) else (zx_op 4 (el ((off + (k : Int))).toNat) (0 : Int))) ba bo) n ba.toNat, zy_to (zy_pr_b b (if (if ((k : Int) + (1 : Int)) ≤ (szr (sh).toNat) then (1 : Int) else 0) = 0 then (-1 : Int) else (zx_op 4 (el ((off + (k : Int))).toNat) (0 : Int)))) b ba.toNat]) := by
  have hs := zy_dr_sto (cl := zx_G 135) (R := [la, be, st, el, szr, nz, bz]) (n := n) (b := b) (P := [nd, th, len, sh, off, ba, bo]) (S := [0]) (k := (k : Int)) (la := 0) (ly := 1) (st := 2) (th := 1) (ln := 2) (ba := 5) (bo := 6) (on := [(2, 0, []), (0, 1, []), (5, 0, []), (1, 0, []), (9, 0, [])]) (tu := [(2, 0, []), (0, 1, []), (5, 0, []), (1, 3, []), (4, 4, []), (9, 0, []), (1, 4, []), (2, 0, []), (5, 0, []), (4, 3, []), (0, 0, []), (8, 4, []), (0, (-1), []), (13, 0, [])]) (von := (if ((k : Int) + (1 : Int)) ≤ nd then (1 : Int) else 0)) (vtu := (if (if ((k : Int) + (1 : Int)) ≤ (szr (sh).toNat) then (1 : Int) else 0) = 0 then (-1 : Int) else (zx_op 4 (el ((off + (k : Int))).toNat) (0 : Int)))) (fun _ => rfl) (fun _ => rfl) h0 h5
  rw [zy_turn h, show (zx_dn 135).2.2.2.2 = zy_dr 0 1 2 1 2 5 6 [(2, 0, []), (0, 1, []), (5, 0, []), (1, 0, []), (9, 0, [])] [(2, 0, []), (0, 1, []), (5, 0, []), (1, 3, []), (4, 4, []), (9, 0, []), (1, 4, []), (2, 0, []), (5, 0, []), (4, 3, []), (0, 0, []), (8, 4, []), (0, (-1), []), (13, 0, [])] from rfl, hs]
  rfl
theorem zy_lt1_0 {la : zx_Rw} {ly : zx_Rw} {st : zx_Rw} {el : zx_Rw} {nz : zx_Rw} {bz : zx_Rw} {nd : Int} {th : Int} {len : Int} {sz : Int} {i : Int} : zx_F 136 [la, ly, st, el, nz, bz] [nd, th, len, sz, i] 0 = ([(0 : Int)], [nz, bz]) := rfl
set_option maxRecDepth 20000 in
theorem zy_lt1_s {k : Nat} {la : zx_Rw} {ly : zx_Rw} {st : zx_Rw} {el : zx_Rw} {nz : zx_Rw} {bz : zx_Rw} {n : zx_Rw} {b : zx_Rw} {nd : Int} {th : Int} {len : Int} {sz : Int} {i : Int}  (h : zx_F 136 [la, ly, st, el, nz, bz] [nd, th, len, sz, i] k = ([0], [n, b])) : zx_F 136 [la, ly, st, el, nz, bz] [nd, th, len, sz, i] (k + 1) =
  (let m0 : List zx_Rw := if (if ((k : Int) + (1 : Int)) ≤ nd then (1 : Int) else 0) = 0 then [n, b] else zx_wr [n, b] 0 i (zx_op 89 (zx_lw st len (n (i).toNat) (b (i).toNat) (la (i).toNat) th (ly (i).toNat) (k : Int)) (0 : Int))
  let m1 : List zx_Rw := if (if ((k : Int) + (1 : Int)) ≤ nd then (1 : Int) else 0) = 0 then m0 else zx_wr m0 1 i (if (if (if (if ((k : Int) + (1 : Int)) ≤ sz then (1 : Int) else 0) = 0 then (-1 : Int) else (zx_op 4 (el ((k : Int)).toNat) (0 : Int))) = i then (1 : Int) else 0) = 0 then (zx_op 90 ((b (i).toNat) + (1 : Int)) (0 : Int)) else (0 : Int))
  ([(if (if ((k : Int) + (1 : Int)) ≤ nd then (1 : Int) else 0) = 0 then (1 : Int) else (0 : Int))], m1)) := by
  rw [zy_turn h]
  rfl
theorem zy_bl1_0 {el : zx_Rw} {bz : zx_Rw} {i : Int} {lim : Int} {sz : Int} : zx_F 137 [el, bz] [i, lim, sz] 0 = ([(0 : Int), (-2 : Int)], [bz]) := rfl
set_option maxRecDepth 20000 in
theorem zy_bl1_s {k : Nat} {el : zx_Rw} {bz : zx_Rw} {b : zx_Rw} {i : Int} {lim : Int} {sz : Int} {x : Int} (h : zx_F 137 [el, bz] [i, lim, sz] k = ([0, x], [b])) : zx_F 137 [el, bz] [i, lim, sz] (k + 1) =
  (let m0 : List zx_Rw := if (if (if (k : Int) ≤ (99 : Int) then (1 : Int) else 0) ≠ 0 ∧ (if (if lim ≤ (b (i).toNat) then (1 : Int) else 0) = 0 then (1 : Int) else 0) ≠ 0 then (1 : Int) else 0) = 0 then [b] else zx_wr [b] 0 i (if (if (if (if ((k : Int) + (1 : Int)) ≤ sz then (1 : Int) else 0) = 0 then (-1 : Int) else (zx_op 4 (el ((k : Int)).toNat) (0 : Int))) = i then (1 : Int) else 0) = 0 then (zx_op 90 ((b (i).toNat) + (1 : Int)) (0 : Int)) else (0 : Int))
  ([(if (if (k : Int) ≤ (99 : Int) then (1 : Int) else 0) = 0 then (1 : Int) else (if (if lim ≤ (b (i).toNat) then (1 : Int) else 0) = 0 then (0 : Int) else (1 : Int))), (if (if (if (k : Int) ≤ (99 : Int) then (1 : Int) else 0) ≠ 0 ∧ (if lim ≤ (b (i).toNat) then (1 : Int) else 0) ≠ 0 then (1 : Int) else 0) = 0 then x else (k : Int))], m0)) := by
  rw [zy_turn h]
  rfl
theorem zy_br_0 {la : zx_Rw} {be : zx_Rw} {st : zx_Rw} {el : zx_Rw} {szr : zx_Rw} {nz : zx_Rw} {bz : zx_Rw} {i : Int} {lim : Int} {th : Int} {len : Int} {sh : Int} {off : Int} {ba : Int} {bo : Int} : zx_F 138 [la, be, st, el, szr, nz, bz] [i, lim, th, len, sh, off, ba, bo] 0 = ([(0 : Int), (-2 : Int)], [nz, bz]) := rfl
theorem zy_br_s {k : Nat} {la : zx_Rw} {be : zx_Rw} {st : zx_Rw} {el : zx_Rw} {szr : zx_Rw} {nz : zx_Rw} {bz : zx_Rw} {n : zx_Rw} {b : zx_Rw} {i : Int} {lim : Int} {th : Int} {len : Int} {sh : Int} {off : Int} {ba : Int} {bo : Int} {x : Int} (h0 : 0 ≤ ba) (h5 : ba ≤ 5) (h : zx_F 138 [la, be, st, el, szr, nz, bz] [i, lim, th, len, sh, off, ba, bo] k = ([0, x], [n, b])) : zx_F 138 [la, be, st, el, szr, nz, bz] [i, lim, th, len, sh, off, ba, bo] (k + 1) = ([(if (if (k : Int) ≤ (99 : Int) then (1 : Int) else 0) = 0 then (1 : Int) else (if (if lim ≤ (b (i).toNat) then (1 : Int) else 0) = 0 then (0 : Int) else (1 : Int))), (if (if (if (k : Int) ≤ (99 : Int) then (1 : Int) else 0) ≠ 0 ∧ (if lim ≤ (b (i).toNat) then (1 : Int) else 0) ≠ 0 then (1 : Int) else 0) = 0 then x else (k : Int))], if (if (if (k : Int) ≤ (99 : Int) then (1 : Int) else 0) ≠ 0 ∧ (if (if lim ≤ (b (i).toNat) then (1 : Int) else 0) = 0 then (1 : Int) else 0) ≠ 0 then (1 : Int) else 0) = 0 then [n, b] else [zy_to (zy_pr_n la be st n b th len (k : Int) (if (if ((k : Int) + (1 : Int)) ≤ (szr (sh).toNat) then (1 : Int) else 0) = 0 then (-1 : Int) else (zx_op 4 (el ((off + (k : Int))).toNat) (0 : Int))) ba bo) n ba.toNat, zy_to (zy_pr_b b (if (if ((k : Int) + (1 : Int)) ≤ (szr (sh).toNat) then (1 : Int) else 0) = 0 then (-1 : Int) else (zx_op 4 (el ((off + (k : Int))).toNat) (0 : Int)))) b ba.toNat]) := by
  have hs := zy_dr_sto (cl := zx_G 138) (R := [la, be, st, el, szr, nz, bz]) (n := n) (b := b) (P := [i, lim, th, len, sh, off, ba, bo]) (S := [0, x]) (k := (k : Int)) (la := 0) (ly := 1) (st := 2) (th := 2) (ln := 3) (ba := 6) (bo := 7) (on := [(2, 0, []), (0, 99, []), (9, 0, []), (1, 1, []), (1, 0, []), (4, 101, []), (9, 0, []), (12, 0, []), (11, 0, [])]) (tu := [(2, 0, []), (0, 1, []), (5, 0, []), (1, 4, []), (4, 4, []), (9, 0, []), (1, 5, []), (2, 0, []), (5, 0, []), (4, 3, []), (0, 0, []), (8, 4, []), (0, (-1), []), (13, 0, [])]) (von := (if (if (k : Int) ≤ (99 : Int) then (1 : Int) else 0) ≠ 0 ∧ (if (if lim ≤ (b (i).toNat) then (1 : Int) else 0) = 0 then (1 : Int) else 0) ≠ 0 then (1 : Int) else 0)) (vtu := (if (if ((k : Int) + (1 : Int)) ≤ (szr (sh).toNat) then (1 : Int) else 0) = 0 then (-1 : Int) else (zx_op 4 (el ((off + (k : Int))).toNat) (0 : Int)))) (fun _ => rfl) (fun _ => rfl) h0 h5
  rw [zy_turn h, show (zx_dn 138).2.2.2.2 = zy_dr 0 1 2 2 3 6 7 [(2, 0, []), (0, 99, []), (9, 0, []), (1, 1, []), (1, 0, []), (4, 101, []), (9, 0, []), (12, 0, []), (11, 0, [])] [(2, 0, []), (0, 1, []), (5, 0, []), (1, 4, []), (4, 4, []), (9, 0, []), (1, 5, []), (2, 0, []), (5, 0, []), (4, 3, []), (0, 0, []), (8, 4, []), (0, (-1), []), (13, 0, [])] from rfl, hs]
  rfl
/-- the same is turned on both sides -/
theorem zy_tu {el X szr : zx_Rw} {sz sh off : Int} {k : Nat} (hs : szr sh.toNat = sz) (hz : sz ≤ 60) (ho : 0 ≤ off) (he : ∀ j : Nat, j < 60 → X (off.toNat + j) = el j) : (if (if (k : Int) + (1 : Int) ≤ szr sh.toNat then (1 : Int) else 0) = 0 then (-1 : Int) else zx_op 4 (X (off + (k : Int)).toNat) (0 : Int)) = (if (if (k : Int) + (1 : Int) ≤ sz then (1 : Int) else 0) = 0 then (-1 : Int) else zx_op 4 (el ((k : Int)).toNat) (0 : Int)) := by
  rw [zy_if, zy_if, hs]
  by_cases h : (k : Int) + 1 ≤ sz
  · rw [if_pos h, if_pos h, show (off + (k : Int)).toNat = off.toNat + k by omega, he k (by omega), Int.toNat_natCast]
  · rw [if_neg h, if_neg h]
theorem zy_yq {la ly la2 be st el X szr nz bz nz2 bz2 : zx_Rw} {nd th len sz sh off ba bo : Int} (h0 : 0 ≤ ba) (h5 : ba ≤ 5) (hl : ∀ j : Nat, (j : Int) < ba → la j = la2 j) (hy : ∀ j : Nat, (j : Int) < ba → ly j = (zx_cn be j bo.toNat : Int)) (hn : ∀ j : Nat, (j : Int) < ba → nz j = nz2 j) (hb : ∀ j : Nat, (j : Int) < ba → bz j = bz2 j) (hs : szr sh.toNat = sz) (hz : sz ≤ 60) (ho : 0 ≤ off) (he : ∀ j : Nat, j < 60 → X (off.toNat + j) = el j) : ∀ K : Nat, ∃ d n b n2 b2, zx_F 134 [la, ly, st, el, nz, bz] [nd, th, len, sz, ba] K = ([d], [n, b]) ∧ zx_F 135 [la2, be, st, X, szr, nz2, bz2] [nd, th, len, sh, off, ba, bo] K = ([d], [n2, b2]) ∧ (∀ j : Nat, (j : Int) < ba → n j = n2 j) ∧ (∀ j : Nat, (j : Int) < ba → b j = b2 j)
  | 0 => ⟨0, nz, bz, nz2, bz2, zy_yc_0, zy_yr_0, hn, hb⟩
  | K + 1 => by
    obtain ⟨d, n, b, n2, b2, e1, e2, g1, g2⟩ := zy_yq (st := st) (nd := nd) (th := th) (len := len) h0 h5 hl hy hn hb hs hz ho he K
    by_cases hd : d = 0
    · subst hd
      have f1 := zy_yc_s h0 h5 e1
      have f2 := zy_yr_s h0 h5 e2
      rw [zy_tu hs hz ho he] at f2
      generalize (if (if (K : Int) + (1 : Int) ≤ sz then (1 : Int) else 0) = 0 then (-1 : Int) else zx_op 4 (el ((K : Int)).toNat) (0 : Int)) = tu at f1 f2
      simp only [zy_if] at f1 f2
      by_cases hk : (K : Int) + 1 ≤ nd
      · simp only [if_pos hk] at f1 f2
        refine ⟨_, _, _, _, _, f1, f2, fun j hj => ?_, fun j hj => ?_⟩
        · rw [zy_to_lt (by omega), zy_to_lt (by omega)]
          unfold zy_pd_n zy_pr_n
          rw [hl j hj, hy j hj, g1 j hj, g2 j hj]
        · rw [zy_to_lt (by omega), zy_to_lt (by omega)]
          unfold zy_pd_b zy_pr_b
          rw [g2 j hj]
      · simp only [if_neg hk] at f1 f2
        exact ⟨_, _, _, _, _, f1, f2, g1, g2⟩
    · exact ⟨d, n, b, n2, b2, zy_stay e1 hd, zy_stay e2 hd, g1, g2⟩
theorem zy_lq {la ly la2 be st el X szr nz bz nz2 bz2 : zx_Rw} {nd th len sz sh off i ba bo : Int} (h0 : 0 ≤ i) (h1 : i + 1 ≤ ba) (h5 : ba ≤ 5) (hl : la i.toNat = la2 i.toNat) (hy : ly i.toNat = (zx_cn be i bo.toNat : Int)) (hn : nz i.toNat = nz2 i.toNat) (hb : bz i.toNat = bz2 i.toNat) (hs : szr sh.toNat = sz) (hz : sz ≤ 60) (ho : 0 ≤ off) (he : ∀ j : Nat, j < 60 → X (off.toNat + j) = el j) : ∀ K : Nat, ∃ d n b n2 b2, zx_F 136 [la, ly, st, el, nz, bz] [nd, th, len, sz, i] K = ([d], [n, b]) ∧ zx_F 135 [la2, be, st, X, szr, nz2, bz2] [nd, th, len, sh, off, ba, bo] K = ([d], [n2, b2]) ∧ n i.toNat = n2 i.toNat ∧ b i.toNat = b2 i.toNat
  | 0 => ⟨0, nz, bz, nz2, bz2, zy_lt1_0, zy_yr_0, hn, hb⟩
  | K + 1 => by
    obtain ⟨d, n, b, n2, b2, e1, e2, g1, g2⟩ := zy_lq (st := st) (nd := nd) (th := th) (len := len) h0 h1 h5 hl hy hn hb hs hz ho he K
    have ei : ((i.toNat : Nat) : Int) = i := Int.toNat_of_nonneg h0
    by_cases hd : d = 0
    · subst hd
      have f1 := zy_lt1_s e1
      have f2 := zy_yr_s (by omega) h5 e2
      rw [zy_tu hs hz ho he] at f2
      generalize (if (if (K : Int) + (1 : Int) ≤ sz then (1 : Int) else 0) = 0 then (-1 : Int) else zx_op 4 (el ((K : Int)).toNat) (0 : Int)) = tu at f1 f2
      simp only [zy_if] at f1 f2
      by_cases hk : (K : Int) + 1 ≤ nd
      · simp only [if_pos hk] at f2
        simp only [hk, if_true, zx_wr20, zx_wr21] at f1
        refine ⟨_, _, _, _, _, f1, f2, ?_, ?_⟩
        · show (if i.toNat = i.toNat then _ else _) = _
          rw [if_pos rfl, zy_to_lt (by omega)]
          unfold zy_pr_n
          rw [← g1, ← g2, hl, hy, ei]
        · show (if i.toNat = i.toNat then _ else _) = _
          rw [if_pos rfl, zy_to_lt (by omega)]
          unfold zy_pr_b
          rw [← g2, ei]
          by_cases ht : tu = i
          · rw [if_pos ht, if_pos ht.symm]
          · rw [if_neg ht, if_neg (Ne.symm ht)]
      · simp only [if_neg hk] at f2
        simp only [hk, if_false] at f1
        exact ⟨_, _, _, _, _, f1, f2, g1, g2⟩
    · exact ⟨d, n, b, n2, b2, zy_stay e1 hd, zy_stay e2 hd, g1, g2⟩
theorem zy_bq {la2 be st el X szr bz nz2 bz2 : zx_Rw} {lim th len sz sh off i ba bo : Int} (h0 : 0 ≤ i) (h1 : i + 1 ≤ ba) (h5 : ba ≤ 5) (hb : bz i.toNat = bz2 i.toNat) (hs : szr sh.toNat = sz) (hz : sz ≤ 60) (ho : 0 ≤ off) (he : ∀ j : Nat, j < 60 → X (off.toNat + j) = el j) : ∀ K : Nat, ∃ d x b n2 b2, zx_F 137 [el, bz] [i, lim, sz] K = ([d, x], [b]) ∧ zx_F 138 [la2, be, st, X, szr, nz2, bz2] [i, lim, th, len, sh, off, ba, bo] K = ([d, x], [n2, b2]) ∧ b i.toNat = b2 i.toNat
  | 0 => ⟨0, -2, bz, nz2, bz2, zy_bl1_0, zy_br_0, hb⟩
  | K + 1 => by
    obtain ⟨d, x, b, n2, b2, e1, e2, g2⟩ := zy_bq (la2 := la2) (be := be) (st := st) (nz2 := nz2) (lim := lim) (th := th) (len := len) (bo := bo) h0 h1 h5 hb hs hz ho he K
    have ei : ((i.toNat : Nat) : Int) = i := Int.toNat_of_nonneg h0
    by_cases hd : d = 0
    · subst hd
      have f1 := zy_bl1_s e1
      have f2 := zy_br_s (by omega) h5 e2
      rw [zy_tu hs hz ho he] at f2
      generalize (if (if (K : Int) + (1 : Int) ≤ sz then (1 : Int) else 0) = 0 then (-1 : Int) else zx_op 4 (el ((K : Int)).toNat) (0 : Int)) = tu at f1 f2
      simp only [zy_if, zy_if0, zy_ne, zy_ne0] at f1 f2
      by_cases hk : (K : Int) ≤ 99
      · by_cases hh : lim ≤ b i.toNat
        · have hh2 : lim ≤ b2 i.toNat := by rw [← g2]; exact hh
          simp only [hk, hh, hh2, not_true, and_false, and_true, false_and, if_false, if_true] at f1 f2
          exact ⟨_, _, _, _, _, f1, f2, g2⟩
        · have hh2 : ¬ lim ≤ b2 i.toNat := by rw [← g2]; exact hh
          simp only [hk, hh, hh2, not_false_iff, and_true, and_false, true_and, if_false, if_true, zx_wr1] at f1 f2
          refine ⟨_, _, _, _, _, f1, f2, ?_⟩
          show (if i.toNat = i.toNat then _ else _) = _
          rw [if_pos rfl, zy_to_lt (by omega)]
          unfold zy_pr_b
          rw [← g2, ei]
          by_cases ht : tu = i
          · rw [if_pos ht, if_pos ht.symm]
          · rw [if_neg ht, if_neg (Ne.symm ht)]
      · simp only [hk, false_and, if_false] at f1 f2
        exact ⟨_, _, _, _, _, f1, f2, g2⟩
    · exact ⟨d, x, b, n2, b2, zy_stay e1 hd, zy_stay e2 hd, g2⟩
end
