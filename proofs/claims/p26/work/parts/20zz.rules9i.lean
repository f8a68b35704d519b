noncomputable section
/-! WHAT A LAW COMES TO: what the told functions of its working out say (wip/p41/thlaw.py) -/
/-- a turn of a told function -/
theorem zy_turn {id : Nat} {R M : List zx_Rw} {P S : List Int} {k : Nat} (h : zx_F id R P k = (0 :: S, M)) : zx_F id R P (k + 1) = ((zx_dn id).2.2.2.1.map (zx_ev (zx_G id) R M P (k : Int) (0 :: S)), zx_sto (zx_G id) R M P (k : Int) (0 :: S) (zx_dn id).2.2.2.2 M) := by
  have e : zx_F id R P (k + 1) = if (zx_F id R P k).1.getD 0 0 = 0 then ((zx_dn id).2.2.2.1.map (zx_ev (zx_G id) R (zx_F id R P k).2 P (k : Int) (zx_F id R P k).1), zx_sto (zx_G id) R (zx_F id R P k).2 P (k : Int) (zx_F id R P k).1 (zx_dn id).2.2.2.2 (zx_F id R P k).2) else zx_F id R P k := rfl
  rw [e, h]
  rfl
theorem zy_eol_0 {st : zx_Rw} {fr : Int} {len : Int} : zx_F 94 [st] [fr, len] 0 = ([(0 : Int), fr], []) := rfl
set_option maxRecDepth 20000 in
theorem zy_eol_s {k : Nat} {st : zx_Rw} {fr : Int} {len : Int} {e : Int} (h : zx_F 94 [st] [fr, len] k = ([0, e], [])) : zx_F 94 [st] [fr, len] (k + 1) =
  (([(if (if (if (e + (1 : Int)) ≤ len then (1 : Int) else 0) ≠ 0 ∧ (if (if (st (e).toNat) = (-59 : Int) then (1 : Int) else 0) = 0 then (1 : Int) else 0) ≠ 0 then (1 : Int) else 0) = 0 then (1 : Int) else (0 : Int)), (if (if (if (e + (1 : Int)) ≤ len then (1 : Int) else 0) ≠ 0 ∧ (if (if (st (e).toNat) = (-59 : Int) then (1 : Int) else 0) = 0 then (1 : Int) else 0) ≠ 0 then (1 : Int) else 0) = 0 then e else (e + (1 : Int)))], [])) := by
  rw [zy_turn h]
  rfl
theorem zy_wo_0 {st : zx_Rw} {env : zx_Rw} {pz : zx_Rw} {len : Int} : zx_F 95 [st, env, pz] [len] 0 = ([(0 : Int), (0 : Int), (0 : Int), (0 : Int)], [pz]) := rfl
set_option maxRecDepth 20000 in
theorem zy_wo_s {k : Nat} {st : zx_Rw} {env : zx_Rw} {pz : zx_Rw} {pe : zx_Rw} {len : Int} {r : Int} {aa : Int} {tp : Int} (h : zx_F 95 [st, env, pz] [len] k = ([0, r, aa, tp], [pe])) : zx_F 95 [st, env, pz] [len] (k + 1) =
  (let m0 : List zx_Rw := if (if (if (if (aa + (1 : Int)) ≤ len then (1 : Int) else 0) ≠ 0 ∧ (if (if (if (st (aa).toNat) = (-59 : Int) then (1 : Int) else 0) = 0 then (1 : Int) else 0) ≠ 0 ∧ (if (if (st (aa).toNat) = (-63 : Int) then (1 : Int) else 0) = 0 then (1 : Int) else 0) ≠ 0 then (1 : Int) else 0) ≠ 0 then (1 : Int) else 0) ≠ 0 ∧ (if (if (0 : Int) ≤ (st (aa).toNat) then (1 : Int) else 0) ≠ 0 ∧ (if tp ≤ (63 : Int) then (1 : Int) else 0) ≠ 0 then (1 : Int) else 0) ≠ 0 then (1 : Int) else 0) = 0 then [pe] else zx_wr [pe] 0 tp (if (if (if (10000 : Int) ≤ (st (aa).toNat) then (1 : Int) else 0) ≠ 0 ∧ (if (st (aa).toNat) ≤ (10005 : Int) then (1 : Int) else 0) ≠ 0 then (1 : Int) else 0) = 0 then (st (aa).toNat) else (env (((st (aa).toNat) - (10000 : Int))).toNat))
  let m1 : List zx_Rw := if (if (if (if (aa + (1 : Int)) ≤ len then (1 : Int) else 0) ≠ 0 ∧ (if (if (if (st (aa).toNat) = (-59 : Int) then (1 : Int) else 0) = 0 then (1 : Int) else 0) ≠ 0 ∧ (if (if (st (aa).toNat) = (-63 : Int) then (1 : Int) else 0) = 0 then (1 : Int) else 0) ≠ 0 then (1 : Int) else 0) ≠ 0 then (1 : Int) else 0) ≠ 0 ∧ (if (if (if (if (0 : Int) ≤ (st (aa).toNat) then (1 : Int) else 0) ≠ 0 ∧ (if tp ≤ (63 : Int) then (1 : Int) else 0) ≠ 0 then (1 : Int) else 0) = 0 then (1 : Int) else 0) ≠ 0 ∧ (if (if (if (if (if (st (aa).toNat) = (-33 : Int) then (1 : Int) else 0) = 0 then (1 : Int) else 0) ≠ 0 ∧ (if (if (st (aa).toNat) = (-126 : Int) then (1 : Int) else 0) = 0 then (1 : Int) else 0) ≠ 0 then (1 : Int) else 0) = 0 then (1 : Int) else 0) ≠ 0 ∧ (if (1 : Int) ≤ tp then (1 : Int) else 0) ≠ 0 then (1 : Int) else 0) ≠ 0 then (1 : Int) else 0) ≠ 0 then (1 : Int) else 0) = 0 then m0 else zx_wr m0 0 (tp - (1 : Int)) (if (if (st (aa).toNat) = (-126 : Int) then (1 : Int) else 0) = 0 then (if (if (pe ((tp - (1 : Int))).toNat) = (0 : Int) then (1 : Int) else 0) = 0 then (0 : Int) else (1 : Int)) else (zx_op 7 (-1 * (pe ((tp - (1 : Int))).toNat)) (0 : Int)))
  let m2 : List zx_Rw := if (if (if (if (aa + (1 : Int)) ≤ len then (1 : Int) else 0) ≠ 0 ∧ (if (if (if (st (aa).toNat) = (-59 : Int) then (1 : Int) else 0) = 0 then (1 : Int) else 0) ≠ 0 ∧ (if (if (st (aa).toNat) = (-63 : Int) then (1 : Int) else 0) = 0 then (1 : Int) else 0) ≠ 0 then (1 : Int) else 0) ≠ 0 then (1 : Int) else 0) ≠ 0 ∧ (if (if (if (if (0 : Int) ≤ (st (aa).toNat) then (1 : Int) else 0) ≠ 0 ∧ (if tp ≤ (63 : Int) then (1 : Int) else 0) ≠ 0 then (1 : Int) else 0) = 0 then (1 : Int) else 0) ≠ 0 ∧ (if (if (if (if (if (if (if (st (aa).toNat) = (-33 : Int) then (1 : Int) else 0) = 0 then (1 : Int) else 0) ≠ 0 ∧ (if (if (st (aa).toNat) = (-126 : Int) then (1 : Int) else 0) = 0 then (1 : Int) else 0) ≠ 0 then (1 : Int) else 0) = 0 then (1 : Int) else 0) ≠ 0 ∧ (if (1 : Int) ≤ tp then (1 : Int) else 0) ≠ 0 then (1 : Int) else 0) = 0 then (1 : Int) else 0) ≠ 0 ∧ (if (2 : Int) ≤ tp then (1 : Int) else 0) ≠ 0 then (1 : Int) else 0) ≠ 0 then (1 : Int) else 0) ≠ 0 then (1 : Int) else 0) = 0 then m1 else zx_wr m1 0 (tp - (2 : Int)) (if (if (zx_op 7 (-1 * (st (aa).toNat)) (0 : Int)) = (124 : Int) then (1 : Int) else 0) = 0 then (if (if (zx_op 7 (-1 * (st (aa).toNat)) (0 : Int)) = (38 : Int) then (1 : Int) else 0) = 0 then (if (if (zx_op 7 (-1 * (st (aa).toNat)) (0 : Int)) = (60 : Int) then (1 : Int) else 0) = 0 then (if (if (zx_op 7 (-1 * (st (aa).toNat)) (0 : Int)) = (61 : Int) then (1 : Int) else 0) = 0 then (if (if (zx_op 7 (-1 * (st (aa).toNat)) (0 : Int)) = (62 : Int) then (1 : Int) else 0) = 0 then (if (if (zx_op 7 (-1 * (st (aa).toNat)) (0 : Int)) = (43 : Int) then (1 : Int) else 0) = 0 then (if (if (zx_op 7 (-1 * (st (aa).toNat)) (0 : Int)) = (45 : Int) then (1 : Int) else 0) = 0 then (if (if (zx_op 7 (-1 * (st (aa).toNat)) (0 : Int)) = (42 : Int) then (1 : Int) else 0) = 0 then (if (if (zx_op 7 (-1 * (st (aa).toNat)) (0 : Int)) = (47 : Int) then (1 : Int) else 0) = 0 then (if (if (zx_op 7 (-1 * (st (aa).toNat)) (0 : Int)) = (37 : Int) then (1 : Int) else 0) = 0 then (0 : Int) else (if (if (pe ((tp - (1 : Int))).toNat) = (0 : Int) then (1 : Int) else 0) = 0 then (zx_op 83 (pe ((tp - (2 : Int))).toNat) (pe ((tp - (1 : Int))).toNat)) else (0 : Int))) else (if (if (pe ((tp - (1 : Int))).toNat) = (0 : Int) then (1 : Int) else 0) = 0 then (zx_op 82 (pe ((tp - (2 : Int))).toNat) (pe ((tp - (1 : Int))).toNat)) else (0 : Int))) else (zx_op 81 (pe ((tp - (2 : Int))).toNat) (pe ((tp - (1 : Int))).toNat))) else (zx_op 7 ((pe ((tp - (2 : Int))).toNat) - (pe ((tp - (1 : Int))).toNat)) (0 : Int))) else (zx_op 7 ((pe ((tp - (2 : Int))).toNat) + (pe ((tp - (1 : Int))).toNat)) (0 : Int))) else (if (if ((pe ((tp - (1 : Int))).toNat) + (1 : Int)) ≤ (pe ((tp - (2 : Int))).toNat) then (1 : Int) else 0) = 0 then (0 : Int) else (1 : Int))) else (if (if (pe ((tp - (2 : Int))).toNat) = (pe ((tp - (1 : Int))).toNat) then (1 : Int) else 0) = 0 then (0 : Int) else (1 : Int))) else (if (if ((pe ((tp - (2 : Int))).toNat) + (1 : Int)) ≤ (pe ((tp - (1 : Int))).toNat) then (1 : Int) else 0) = 0 then (0 : Int) else (1 : Int))) else (if (if (if (if (pe ((tp - (2 : Int))).toNat) = (0 : Int) then (1 : Int) else 0) = 0 then (1 : Int) else 0) ≠ 0 ∧ (if (if (pe ((tp - (1 : Int))).toNat) = (0 : Int) then (1 : Int) else 0) = 0 then (1 : Int) else 0) ≠ 0 then (1 : Int) else 0) = 0 then (0 : Int) else (1 : Int))) else (if (if (if (if (if (if (pe ((tp - (2 : Int))).toNat) = (0 : Int) then (1 : Int) else 0) = 0 then (1 : Int) else 0) = 0 then (1 : Int) else 0) ≠ 0 ∧ (if (if (if (pe ((tp - (1 : Int))).toNat) = (0 : Int) then (1 : Int) else 0) = 0 then (1 : Int) else 0) = 0 then (1 : Int) else 0) ≠ 0 then (1 : Int) else 0) = 0 then (1 : Int) else 0) = 0 then (0 : Int) else (1 : Int)))
  ([(if (if (aa + (1 : Int)) ≤ len then (1 : Int) else 0) = 0 then (1 : Int) else (if (if (st (aa).toNat) = (-59 : Int) then (1 : Int) else 0) = 0 then (0 : Int) else (1 : Int))), (if (if (aa + (1 : Int)) ≤ len then (1 : Int) else 0) = 0 then (0 : Int) else (if (if (st (aa).toNat) = (-59 : Int) then (1 : Int) else 0) = 0 then (0 : Int) else (pe ((0 : Int)).toNat))), (if (if (aa + (1 : Int)) ≤ len then (1 : Int) else 0) = 0 then aa else (if (if (st (aa).toNat) = (-59 : Int) then (1 : Int) else 0) = 0 then (if (if (st (aa).toNat) = (-63 : Int) then (1 : Int) else 0) = 0 then (aa + (1 : Int)) else ((if (if (pe ((0 : Int)).toNat) = (0 : Int) then (1 : Int) else 0) = 0 then aa else ((zx_G 95 94 [st] [aa, len] ((122 : Int)).toNat).1.getD 1 0)) + (1 : Int))) else aa)), (if (if (aa + (1 : Int)) ≤ len then (1 : Int) else 0) = 0 then tp else (if (if (st (aa).toNat) = (-59 : Int) then (1 : Int) else 0) = 0 then (if (if (st (aa).toNat) = (-63 : Int) then (1 : Int) else 0) = 0 then (if (if (if (0 : Int) ≤ (st (aa).toNat) then (1 : Int) else 0) ≠ 0 ∧ (if tp ≤ (63 : Int) then (1 : Int) else 0) ≠ 0 then (1 : Int) else 0) = 0 then (if (if (if (if (if (if (st (aa).toNat) = (-33 : Int) then (1 : Int) else 0) = 0 then (1 : Int) else 0) ≠ 0 ∧ (if (if (st (aa).toNat) = (-126 : Int) then (1 : Int) else 0) = 0 then (1 : Int) else 0) ≠ 0 then (1 : Int) else 0) = 0 then (1 : Int) else 0) ≠ 0 ∧ (if (1 : Int) ≤ tp then (1 : Int) else 0) ≠ 0 then (1 : Int) else 0) = 0 then (if (if (2 : Int) ≤ tp then (1 : Int) else 0) = 0 then tp else (tp - (1 : Int))) else tp) else (tp + (1 : Int))) else (0 : Int)) else tp))], m2)) := by
  rw [zy_turn h]
  rfl
theorem zy_wk_0 {act : zx_Rw} {wth : zx_Rw} {env : zx_Rw} {pz : zx_Rw} {f : Int} {e : Int} : zx_F 96 [act, wth, env, pz] [f, e] 0 = ([(0 : Int), (0 : Int)], [pz]) := rfl
set_option maxRecDepth 20000 in
theorem zy_wk_s {k : Nat} {act : zx_Rw} {wth : zx_Rw} {env : zx_Rw} {pz : zx_Rw} {pe : zx_Rw} {f : Int} {e : Int} {n : Int} (h : zx_F 96 [act, wth, env, pz] [f, e] k = ([0, n], [pe])) : zx_F 96 [act, wth, env, pz] [f, e] (k + 1) =
  (let m0 : List zx_Rw := if (if (if ((f + (k : Int)) + (1 : Int)) ≤ e then (1 : Int) else 0) ≠ 0 ∧ (if (act ((f + (k : Int))).toNat) = (1 : Int) then (1 : Int) else 0) ≠ 0 then (1 : Int) else 0) = 0 then [pe] else zx_wr [pe] 0 n (wth ((f + (k : Int))).toNat)
  let m1 : List zx_Rw := if (if (if ((f + (k : Int)) + (1 : Int)) ≤ e then (1 : Int) else 0) ≠ 0 ∧ (if (act ((f + (k : Int))).toNat) = (2 : Int) then (1 : Int) else 0) ≠ 0 then (1 : Int) else 0) = 0 then m0 else zx_wr m0 0 n (env ((wth ((f + (k : Int))).toNat)).toNat)
  let m2 : List zx_Rw := if (if (if ((f + (k : Int)) + (1 : Int)) ≤ e then (1 : Int) else 0) ≠ 0 ∧ (if (act ((f + (k : Int))).toNat) = (3 : Int) then (1 : Int) else 0) ≠ 0 then (1 : Int) else 0) = 0 then m1 else zx_wr m1 0 (n - (1 : Int)) (if (if (pe ((n - (1 : Int))).toNat) = (0 : Int) then (1 : Int) else 0) = 0 then (0 : Int) else (1 : Int))
  let m3 : List zx_Rw := if (if (if ((f + (k : Int)) + (1 : Int)) ≤ e then (1 : Int) else 0) ≠ 0 ∧ (if (act ((f + (k : Int))).toNat) = (4 : Int) then (1 : Int) else 0) ≠ 0 then (1 : Int) else 0) = 0 then m2 else zx_wr m2 0 (n - (1 : Int)) (zx_op 7 (-1 * (pe ((n - (1 : Int))).toNat)) (0 : Int))
  let m4 : List zx_Rw := if (if (if ((f + (k : Int)) + (1 : Int)) ≤ e then (1 : Int) else 0) ≠ 0 ∧ (if (if (if (act ((f + (k : Int))).toNat) = (1 : Int) then (1 : Int) else 0) = 0 then (1 : Int) else 0) ≠ 0 ∧ (if (if (if (act ((f + (k : Int))).toNat) = (2 : Int) then (1 : Int) else 0) = 0 then (1 : Int) else 0) ≠ 0 ∧ (if (if (if (act ((f + (k : Int))).toNat) = (3 : Int) then (1 : Int) else 0) = 0 then (1 : Int) else 0) ≠ 0 ∧ (if (if (act ((f + (k : Int))).toNat) = (4 : Int) then (1 : Int) else 0) = 0 then (1 : Int) else 0) ≠ 0 then (1 : Int) else 0) ≠ 0 then (1 : Int) else 0) ≠ 0 then (1 : Int) else 0) ≠ 0 then (1 : Int) else 0) = 0 then m3 else zx_wr m3 0 (n - (2 : Int)) (if (if (act ((f + (k : Int))).toNat) = (38 : Int) then (1 : Int) else 0) = 0 then (if (if (act ((f + (k : Int))).toNat) = (60 : Int) then (1 : Int) else 0) = 0 then (if (if (act ((f + (k : Int))).toNat) = (61 : Int) then (1 : Int) else 0) = 0 then (if (if (act ((f + (k : Int))).toNat) = (62 : Int) then (1 : Int) else 0) = 0 then (if (if (act ((f + (k : Int))).toNat) = (43 : Int) then (1 : Int) else 0) = 0 then (if (if (act ((f + (k : Int))).toNat) = (45 : Int) then (1 : Int) else 0) = 0 then (if (if (act ((f + (k : Int))).toNat) = (42 : Int) then (1 : Int) else 0) = 0 then (if (if (act ((f + (k : Int))).toNat) = (47 : Int) then (1 : Int) else 0) = 0 then (if (if (act ((f + (k : Int))).toNat) = (37 : Int) then (1 : Int) else 0) = 0 then (if (if (if (if (if (if (pe ((n - (2 : Int))).toNat) = (0 : Int) then (1 : Int) else 0) = 0 then (1 : Int) else 0) = 0 then (1 : Int) else 0) ≠ 0 ∧ (if (if (if (pe ((n - (1 : Int))).toNat) = (0 : Int) then (1 : Int) else 0) = 0 then (1 : Int) else 0) = 0 then (1 : Int) else 0) ≠ 0 then (1 : Int) else 0) = 0 then (1 : Int) else 0) = 0 then (0 : Int) else (1 : Int)) else (if (if (pe ((n - (1 : Int))).toNat) = (0 : Int) then (1 : Int) else 0) = 0 then (if (if (pe ((n - (1 : Int))).toNat) = (-1 : Int) then (1 : Int) else 0) = 0 then (zx_op 83 (pe ((n - (2 : Int))).toNat) (pe ((n - (1 : Int))).toNat)) else (0 : Int)) else (0 : Int))) else (if (if (pe ((n - (1 : Int))).toNat) = (0 : Int) then (1 : Int) else 0) = 0 then (if (if (pe ((n - (1 : Int))).toNat) = (-1 : Int) then (1 : Int) else 0) = 0 then (zx_op 82 (pe ((n - (2 : Int))).toNat) (pe ((n - (1 : Int))).toNat)) else (zx_op 7 (-1 * (pe ((n - (2 : Int))).toNat)) (0 : Int))) else (0 : Int))) else (zx_op 81 (pe ((n - (2 : Int))).toNat) (pe ((n - (1 : Int))).toNat))) else (zx_op 7 ((pe ((n - (2 : Int))).toNat) - (pe ((n - (1 : Int))).toNat)) (0 : Int))) else (zx_op 7 ((pe ((n - (2 : Int))).toNat) + (pe ((n - (1 : Int))).toNat)) (0 : Int))) else (if (if ((pe ((n - (1 : Int))).toNat) + (1 : Int)) ≤ (pe ((n - (2 : Int))).toNat) then (1 : Int) else 0) = 0 then (0 : Int) else (1 : Int))) else (if (if (pe ((n - (2 : Int))).toNat) = (pe ((n - (1 : Int))).toNat) then (1 : Int) else 0) = 0 then (0 : Int) else (1 : Int))) else (if (if ((pe ((n - (2 : Int))).toNat) + (1 : Int)) ≤ (pe ((n - (1 : Int))).toNat) then (1 : Int) else 0) = 0 then (0 : Int) else (1 : Int))) else (if (if (if (if (pe ((n - (2 : Int))).toNat) = (0 : Int) then (1 : Int) else 0) = 0 then (1 : Int) else 0) ≠ 0 ∧ (if (if (pe ((n - (1 : Int))).toNat) = (0 : Int) then (1 : Int) else 0) = 0 then (1 : Int) else 0) ≠ 0 then (1 : Int) else 0) = 0 then (0 : Int) else (1 : Int)))
  ([(if (if ((f + (k : Int)) + (1 : Int)) ≤ e then (1 : Int) else 0) = 0 then (1 : Int) else (0 : Int)), (if (if ((f + (k : Int)) + (1 : Int)) ≤ e then (1 : Int) else 0) = 0 then n else (if (if (if (if (if (act ((f + (k : Int))).toNat) = (1 : Int) then (1 : Int) else 0) = 0 then (1 : Int) else 0) ≠ 0 ∧ (if (if (act ((f + (k : Int))).toNat) = (2 : Int) then (1 : Int) else 0) = 0 then (1 : Int) else 0) ≠ 0 then (1 : Int) else 0) = 0 then (1 : Int) else 0) = 0 then (if (if (if (if (if (act ((f + (k : Int))).toNat) = (3 : Int) then (1 : Int) else 0) = 0 then (1 : Int) else 0) ≠ 0 ∧ (if (if (act ((f + (k : Int))).toNat) = (4 : Int) then (1 : Int) else 0) = 0 then (1 : Int) else 0) ≠ 0 then (1 : Int) else 0) = 0 then (1 : Int) else 0) = 0 then (n - (1 : Int)) else n) else (n + (1 : Int))))], m4)) := by
  rw [zy_turn h]
  rfl
theorem zy_if {c : Prop} [Decidable c] {α : Type} {a b : α} : (if (if c then (1 : Int) else 0) = 0 then a else b) = if c then b else a := by
  by_cases h : c <;> simp [h]
theorem zy_if0 {c : Prop} [Decidable c] {α : Type} {a b : α} : (if (if c then (0 : Int) else 1) = 0 then a else b) = if c then a else b := by
  by_cases h : c <;> simp [h]
theorem zy_ne {c : Prop} [Decidable c] : ((if c then (1 : Int) else 0) ≠ 0) = c := by
  by_cases h : c <;> simp [h]
theorem zy_ne0 {c : Prop} [Decidable c] : ((if c then (0 : Int) else 1) ≠ 0) = ¬ c := by
  by_cases h : c <;> simp [h]
theorem zy_or {a b : Int} : (if a = 0 ∧ b = 0 then (0 : Int) else 1) = if a ≠ 0 ∨ b ≠ 0 then 1 else 0 := by
  by_cases ha : a = 0 <;> by_cases hb : b = 0 <;> simp [ha, hb]
set_option maxHeartbeats 4000000 in
theorem zy_j2 {u a b : Int} : (if (if u = (124 : Int) then (1 : Int) else 0) = 0 then (if (if u = (38 : Int) then (1 : Int) else 0) = 0 then (if (if u = (60 : Int) then (1 : Int) else 0) = 0 then (if (if u = (61 : Int) then (1 : Int) else 0) = 0 then (if (if u = (62 : Int) then (1 : Int) else 0) = 0 then (if (if u = (43 : Int) then (1 : Int) else 0) = 0 then (if (if u = (45 : Int) then (1 : Int) else 0) = 0 then (if (if u = (42 : Int) then (1 : Int) else 0) = 0 then (if (if u = (47 : Int) then (1 : Int) else 0) = 0 then (if (if u = (37 : Int) then (1 : Int) else 0) = 0 then (0 : Int) else (if (if b = (0 : Int) then (1 : Int) else 0) = 0 then (zx_op 83 a b) else (0 : Int))) else (if (if b = (0 : Int) then (1 : Int) else 0) = 0 then (zx_op 82 a b) else (0 : Int))) else (zx_op 81 a b)) else (zx_op 7 (a - b) (0 : Int))) else (zx_op 7 (a + b) (0 : Int))) else (if (if (b + (1 : Int)) ≤ a then (1 : Int) else 0) = 0 then (0 : Int) else (1 : Int))) else (if (if a = b then (1 : Int) else 0) = 0 then (0 : Int) else (1 : Int))) else (if (if (a + (1 : Int)) ≤ b then (1 : Int) else 0) = 0 then (0 : Int) else (1 : Int))) else (if (if (if (if a = (0 : Int) then (1 : Int) else 0) = 0 then (1 : Int) else 0) ≠ 0 ∧ (if (if b = (0 : Int) then (1 : Int) else 0) = 0 then (1 : Int) else 0) ≠ 0 then (1 : Int) else 0) = 0 then (0 : Int) else (1 : Int))) else (if (if (if (if (if (if a = (0 : Int) then (1 : Int) else 0) = 0 then (1 : Int) else 0) = 0 then (1 : Int) else 0) ≠ 0 ∧ (if (if (if b = (0 : Int) then (1 : Int) else 0) = 0 then (1 : Int) else 0) = 0 then (1 : Int) else 0) ≠ 0 then (1 : Int) else 0) = 0 then (1 : Int) else 0) = 0 then (0 : Int) else (1 : Int))) = zx_o2 u a b := by
  unfold zx_o2
  simp only [zy_if, zy_if0, zy_ne, zy_ne0, zy_or]
  rfl
set_option maxHeartbeats 4000000 in
theorem zy_j3 {u a b : Int} : (if (if u = (38 : Int) then (1 : Int) else 0) = 0 then (if (if u = (60 : Int) then (1 : Int) else 0) = 0 then (if (if u = (61 : Int) then (1 : Int) else 0) = 0 then (if (if u = (62 : Int) then (1 : Int) else 0) = 0 then (if (if u = (43 : Int) then (1 : Int) else 0) = 0 then (if (if u = (45 : Int) then (1 : Int) else 0) = 0 then (if (if u = (42 : Int) then (1 : Int) else 0) = 0 then (if (if u = (47 : Int) then (1 : Int) else 0) = 0 then (if (if u = (37 : Int) then (1 : Int) else 0) = 0 then (if (if (if (if (if (if a = (0 : Int) then (1 : Int) else 0) = 0 then (1 : Int) else 0) = 0 then (1 : Int) else 0) ≠ 0 ∧ (if (if (if b = (0 : Int) then (1 : Int) else 0) = 0 then (1 : Int) else 0) = 0 then (1 : Int) else 0) ≠ 0 then (1 : Int) else 0) = 0 then (1 : Int) else 0) = 0 then (0 : Int) else (1 : Int)) else (if (if b = (0 : Int) then (1 : Int) else 0) = 0 then (if (if b = (-1 : Int) then (1 : Int) else 0) = 0 then (zx_op 83 a b) else (0 : Int)) else (0 : Int))) else (if (if b = (0 : Int) then (1 : Int) else 0) = 0 then (if (if b = (-1 : Int) then (1 : Int) else 0) = 0 then (zx_op 82 a b) else (zx_op 7 (-1 * a) (0 : Int))) else (0 : Int))) else (zx_op 81 a b)) else (zx_op 7 (a - b) (0 : Int))) else (zx_op 7 (a + b) (0 : Int))) else (if (if (b + (1 : Int)) ≤ a then (1 : Int) else 0) = 0 then (0 : Int) else (1 : Int))) else (if (if a = b then (1 : Int) else 0) = 0 then (0 : Int) else (1 : Int))) else (if (if (a + (1 : Int)) ≤ b then (1 : Int) else 0) = 0 then (0 : Int) else (1 : Int))) else (if (if (if (if a = (0 : Int) then (1 : Int) else 0) = 0 then (1 : Int) else 0) ≠ 0 ∧ (if (if b = (0 : Int) then (1 : Int) else 0) = 0 then (1 : Int) else 0) ≠ 0 then (1 : Int) else 0) = 0 then (0 : Int) else (1 : Int))) = zx_o3 u a b := by
  unfold zx_o3
  simp only [zy_if, zy_if0, zy_ne, zy_ne0, zy_or]
  rfl
theorem zx_cw_f {env : Nat → Int} {s : Int} {l p : List Int} : zx_cw env false (s :: l) p = if s = -59 then zx_bot p else if s = -63 then zx_cw env (decide (zx_bot p = 0)) l [] else zx_cw env false l (zx_w1 env s p) := rfl
def zy_up (f : zx_Rw) (i v : Int) : zx_Rw := fun t => if t = i.toNat then v else f t
theorem zx_wr1 {f : zx_Rw} {i v : Int} : zx_wr [f] 0 i v = [zy_up f i v] := rfl
/-- a pile of so many, its top first -/
def zy_pl (f : zx_Rw) : Nat → List Int
  | 0 => []
  | n + 1 => f n :: zy_pl f n
theorem zy_pl_bot {f : zx_Rw} : ∀ n : Nat, zx_bot (zy_pl f (n + 1)) = f 0
  | 0 => rfl
  | n + 1 => zy_pl_bot n
theorem zy_pl_up {f : zx_Rw} {v : Int} : ∀ {m n : Nat} {i : Int}, i = (m : Int) → n ≤ m → zy_pl (zy_up f i v) n = zy_pl f n
  | m, 0, i, hi, h => rfl
  | m, n + 1, i, hi, h => by
    show (if n = i.toNat then v else f n) :: zy_pl (zy_up f i v) n = f n :: zy_pl f n
    rw [if_neg (by omega), zy_pl_up hi (by omega)]
theorem zy_pl_put {f : zx_Rw} {v : Int} {n : Nat} {i : Int} (hi : i = (n : Int)) : zy_pl (zy_up f i v) (n + 1) = v :: zy_pl f n := by
  show (if n = i.toNat then v else f n) :: zy_pl (zy_up f i v) n = v :: zy_pl f n
  rw [if_pos (by omega), zy_pl_up hi (Nat.le_refl n)]
theorem zy_sl_c {st : zx_Rw} {aa len : Int} (h0 : 0 ≤ aa) (h : aa + 1 ≤ len) : zx_sl st aa.toNat (len - aa).toNat = st aa.toNat :: zx_sl st (aa + 1).toNat (len - (aa + 1)).toNat := by
  have e1 : (len - aa).toNat = (len - (aa + 1)).toNat + 1 := by omega
  have e2 : (aa + 1).toNat = aa.toNat + 1 := by omega
  rw [e1, e2]
  rfl
theorem zy_sl_n {st : zx_Rw} {aa len : Int} (h : ¬ aa + 1 ≤ len) : zx_sl st aa.toNat (len - aa).toNat = [] := by
  rw [show (len - aa).toNat = 0 by omega]
  rfl
theorem zy_eol_c {st : zx_Rw} {fr len e : Int} {k : Nat} (h : zx_F 94 [st] [fr, len] k = ([0, e], [])) : ((e + 1 ≤ len ∧ st e.toNat ≠ -59) → zx_F 94 [st] [fr, len] (k + 1) = ([0, e + 1], [])) ∧ (¬ (e + 1 ≤ len ∧ st e.toNat ≠ -59) → zx_F 94 [st] [fr, len] (k + 1) = ([1, e], [])) := by
  refine ⟨fun hc => ?_, fun hc => ?_⟩
  · rw [zy_eol_s h]
    simp [hc.1, hc.2]
  · rw [zy_eol_s h]
    by_cases h1 : e + 1 ≤ len
    · have h2 : st e.toNat = -59 := Decidable.byContradiction fun h2 => hc ⟨h1, h2⟩
      simp [h1, h2]
    · simp [h1]
theorem zy_stay {id : Nat} {R : List zx_Rw} {P S : List Int} {M : List zx_Rw} {k : Nat} {d : Int} (h : zx_F id R P k = (d :: S, M)) (hd : d ≠ 0) : zx_F id R P (k + 1) = (d :: S, M) := by
  have e : zx_F id R P (k + 1) = zx_F id R P k := zx_F_st (K := k) (by rw [h]; exact hd) (Nat.le_succ k)
  rw [e, h]
theorem zy_eol_i {st : zx_Rw} {fr len : Int} : ∀ k : Nat, ∃ d e, zx_F 94 [st] [fr, len] k = ([d, e], []) ∧ fr ≤ e ∧ (∀ j : Int, fr ≤ j → j < e → st j.toNat ≠ -59 ∧ j + 1 ≤ len) ∧ ((d = 0 ∧ e = fr + k) ∨ (d = 1 ∧ ¬ (e + 1 ≤ len ∧ st e.toNat ≠ -59)))
  | 0 => ⟨0, fr, zy_eol_0, Int.le_refl _, fun j h1 h2 => by omega, Or.inl ⟨rfl, by simp⟩⟩
  | k + 1 => by
    obtain ⟨d, e, h1, h2, h3, h4⟩ := zy_eol_i (st := st) (fr := fr) (len := len) k
    rcases h4 with ⟨h4, h5⟩ | ⟨h4, h5⟩
    · subst h4
      obtain ⟨c1, c2⟩ := zy_eol_c h1
      by_cases hc : e + 1 ≤ len ∧ st e.toNat ≠ -59
      · refine ⟨0, e + 1, c1 hc, by omega, fun j j1 j2 => ?_, Or.inl ⟨rfl, by omega⟩⟩
        by_cases je : j = e
        · subst je
          exact ⟨hc.2, hc.1⟩
        · exact h3 j j1 (by omega)
      · exact ⟨1, e, c2 hc, h2, h3, Or.inr ⟨rfl, hc⟩⟩
    · exact ⟨d, e, zy_stay h1 (by omega), h2, h3, Or.inr ⟨h4, h5⟩⟩
theorem zy_eol_f {st : zx_Rw} {fr len : Int} (h0 : 0 ≤ fr) (h1 : len ≤ 121) : ∃ e, (zx_F 94 [st] [fr, len] 122).1.getD 1 0 = e ∧ fr ≤ e ∧ (∀ j : Int, fr ≤ j → j < e → st j.toNat ≠ -59 ∧ j + 1 ≤ len) ∧ ¬ (e + 1 ≤ len ∧ st e.toNat ≠ -59) := by
  obtain ⟨d, e, g1, g2, g3, g4⟩ := zy_eol_i (st := st) (fr := fr) (len := len) 122
  rcases g4 with ⟨g4, g5⟩ | ⟨g4, g5⟩
  · have := (g3 (fr + 121) (by omega) (by omega)).2
    omega
  · exact ⟨e, by rw [g1]; rfl, g2, g3, g5⟩
theorem zy_sk {st : zx_Rw} {env : Nat → Int} {len e : Int} : ∀ (n : Nat) (x : Int), 0 ≤ x → e = x + n → (∀ j : Int, x ≤ j → j < e → st j.toNat ≠ -59 ∧ j + 1 ≤ len) → ¬ (e + 1 ≤ len ∧ st e.toNat ≠ -59) → (∀ p, zx_cw env true (zx_sl st x.toNat (len - x).toNat) p = zx_cw env false (zx_sl st (e + 1).toNat (len - (e + 1)).toNat) []) ∧ (∀ d, zx_wl (zx_sl st x.toNat (len - x).toNat) d → zx_wl (zx_sl st (e + 1).toNat (len - (e + 1)).toNat) 0)
  | 0, x, hx, he, h1, h2 => by
    have he : e = x := by omega
    subst he
    by_cases hl : e + 1 ≤ len
    · have hs : st e.toNat = -59 := Decidable.byContradiction fun h => h2 ⟨hl, h⟩
      rw [zy_sl_c hx hl]
      refine ⟨fun p => ?_, fun d hd => ?_⟩
      · show zx_cw env (!decide (st e.toNat = -59)) _ [] = _
        rw [hs]
        rfl
      · unfold zx_wl at hd
        rw [if_pos (Or.inl hs)] at hd
        exact hd.2
    · rw [zy_sl_n hl, zy_sl_n (by omega)]
      exact ⟨fun p => rfl, fun d hd => trivial⟩
  | n + 1, x, hx, he, h1, h2 => by
    obtain ⟨k1, k2⟩ := h1 x (Int.le_refl _) (by omega)
    obtain ⟨i1, i2⟩ := zy_sk (env := env) n (x + 1) (by omega) (by omega) (fun j j1 j2 => h1 j (by omega) j2) h2
    rw [zy_sl_c hx k2]
    refine ⟨fun p => ?_, fun d hd => ?_⟩
    · show zx_cw env (!decide (st x.toNat = -59)) _ [] = _
      rw [show (decide (st x.toNat = -59)) = false from decide_eq_false k1]
      exact i1 []
    · unfold zx_wl at hd
      by_cases q1 : st x.toNat = -59 ∨ st x.toNat = -63
      · rw [if_pos q1] at hd
        exact i2 _ hd.2
      · rw [if_neg q1] at hd
        split at hd
        · exact i2 _ hd.2
        · split at hd
          · exact i2 _ hd.2
          · exact i2 _ hd.2
set_option maxHeartbeats 8000000 in
theorem zy_wo_c {st env pz pe : zx_Rw} {len r aa tp : Int} {k : Nat} (h : zx_F 95 [st, env, pz] [len] k = ([0, r, aa, tp], [pe])) :
    (¬ aa + 1 ≤ len → zx_F 95 [st, env, pz] [len] (k + 1) = ([1, 0, aa, tp], [pe])) ∧
    (aa + 1 ≤ len → st aa.toNat = -59 → zx_F 95 [st, env, pz] [len] (k + 1) = ([1, pe 0, aa, tp], [pe])) ∧
    (aa + 1 ≤ len → st aa.toNat = -63 → pe 0 = 0 → zx_F 95 [st, env, pz] [len] (k + 1) = ([0, 0, (zx_F 94 [st] [aa, len] 122).1.getD 1 0 + 1, 0], [pe])) ∧
    (aa + 1 ≤ len → st aa.toNat = -63 → pe 0 ≠ 0 → zx_F 95 [st, env, pz] [len] (k + 1) = ([0, 0, aa + 1, 0], [pe])) ∧
    (aa + 1 ≤ len → 0 ≤ st aa.toNat → tp ≤ 63 → zx_F 95 [st, env, pz] [len] (k + 1) = ([0, 0, aa + 1, tp + 1], [zy_up pe tp (if 10000 ≤ st aa.toNat ∧ st aa.toNat ≤ 10005 then env (st aa.toNat - 10000).toNat else st aa.toNat)])) ∧
    (aa + 1 ≤ len → st aa.toNat = -33 → 1 ≤ tp → zx_F 95 [st, env, pz] [len] (k + 1) = ([0, 0, aa + 1, tp], [zy_up pe (tp - 1) (if pe (tp - 1).toNat = 0 then 1 else 0)])) ∧
    (aa + 1 ≤ len → st aa.toNat = -126 → 1 ≤ tp → zx_F 95 [st, env, pz] [len] (k + 1) = ([0, 0, aa + 1, tp], [zy_up pe (tp - 1) (Int32.ofInt (-1 * pe (tp - 1).toNat)).toInt])) ∧
    (aa + 1 ≤ len → ¬ 0 ≤ st aa.toNat → st aa.toNat ≠ -59 → st aa.toNat ≠ -63 → st aa.toNat ≠ -33 → st aa.toNat ≠ -126 → 2 ≤ tp → zx_F 95 [st, env, pz] [len] (k + 1) = ([0, 0, aa + 1, tp - 1], [zy_up pe (tp - 2) (zx_o2 (Int32.ofInt (-1 * st aa.toNat)).toInt (pe (tp - 2).toNat) (pe (tp - 1).toNat))])) := by
  have eG : ∀ P : List Int, zx_G 95 94 [st] P 122 = zx_F 94 [st] P 122 := fun P => zx_G_F (by decide) _ _ _
  have e7 : ∀ x y : Int, zx_op 7 x y = (Int32.ofInt x).toInt := fun _ _ => rfl
  refine ⟨fun h1 => ?_, fun h1 h2 => ?_, fun h1 h2 h3 => ?_, fun h1 h2 h3 => ?_, fun h1 h2 h3 => ?_, fun h1 h2 h3 => ?_, fun h1 h2 h3 => ?_, fun h1 h2 h3 h4 h5 h6 h7 => ?_⟩
  · rw [zy_wo_s h]
    simp [h1]
  · rw [zy_wo_s h]
    simp [h1, h2]
  · rw [zy_wo_s h]
    simp [h1, h2, h3, eG]
  · rw [zy_wo_s h]
    simp [h1, h2, h3]
  · rw [zy_wo_s h]
    have n1 : st aa.toNat ≠ -59 := by omega
    have n2 : st aa.toNat ≠ -63 := by omega
    by_cases q : 10000 ≤ st aa.toNat ∧ st aa.toNat ≤ 10005
    · simp [h1, h2, h3, n1, n2, q.1, q.2, zx_wr1]
    · by_cases q1 : 10000 ≤ st aa.toNat
      · have q2 : ¬ st aa.toNat ≤ 10005 := fun q2 => q ⟨q1, q2⟩
        simp [h1, h2, h3, n1, n2, q1, q2, zx_wr1]
      · simp [h1, h2, h3, n1, n2, q1, zx_wr1]
  · rw [zy_wo_s h]
    by_cases q : pe (tp - 1).toNat = 0 <;> simp [h1, h2, h3, q, zx_wr1]
  · rw [zy_wo_s h]
    simp [h1, h2, h3, zx_wr1, zx_op]
  · rw [zy_wo_s h]
    simp only [zy_j2]
    simp [h1, h2, h3, h4, h5, h6, h7, zx_wr1, zx_op]
theorem zy_wo {st env pz : zx_Rw} {len : Int} (hl0 : 0 ≤ len) (hl : len ≤ 121) (hw : zx_wl (zx_sl st 0 len.toNat) 0) : ∀ K : Nat, ∃ d r aa tp pe, zx_F 95 [st, env, pz] [len] K = ([d, r, aa, tp], [pe]) ∧ ((d = 0 ∧ 0 ≤ aa ∧ 0 ≤ tp ∧ zx_wl (zx_sl st aa.toNat (len - aa).toNat) tp.toNat ∧ zx_cw env false (zx_sl st 0 len.toNat) [] = zx_cw env false (zx_sl st aa.toNat (len - aa).toNat) (zy_pl pe tp.toNat)) ∨ (d = 1 ∧ r = zx_cw env false (zx_sl st 0 len.toNat) []))
  | 0 => ⟨0, 0, 0, 0, pz, zy_wo_0, Or.inl ⟨rfl, Int.le_refl _, Int.le_refl _, by simpa using hw, by simp [zy_pl]⟩⟩
  | K + 1 => by
    obtain ⟨d, r, aa, tp, pe, g1, g2⟩ := zy_wo (env := env) (pz := pz) hl0 hl hw K
    rcases g2 with ⟨g2, g3, g4, g5, g6⟩ | ⟨g2, g3⟩
    · subst g2
      obtain ⟨c1, c2, c3, c4, c5, c6, c7, c8⟩ := zy_wo_c g1
      by_cases hin : aa + 1 ≤ len
      · rw [zy_sl_c g3 hin] at g5 g6
        generalize hs : st aa.toNat = s at *
        unfold zx_wl at g5
        rw [zx_cw_f] at g6
        have aa1 : 0 ≤ aa + 1 := by omega
        by_cases h59 : s = -59
        · rw [if_pos (Or.inl h59)] at g5
          rw [if_pos h59] at g6
          refine ⟨_, _, _, _, _, c2 hin h59, Or.inr ⟨rfl, ?_⟩⟩
          rw [g6, show tp.toNat = (tp.toNat - 1) + 1 by omega, zy_pl_bot]
        · rw [if_neg h59] at g6
          by_cases h63 : s = -63
          · rw [if_pos (Or.inr h63)] at g5
            rw [if_pos h63, show tp.toNat = (tp.toNat - 1) + 1 by omega, zy_pl_bot] at g6
            by_cases h0 : pe 0 = 0
            · obtain ⟨e, q1, q2, q3, q4⟩ := zy_eol_f (st := st) (fr := aa) (len := len) g3 hl
              have hne : e ≠ aa := fun he => by
                rw [he] at q4
                exact q4 ⟨hin, by rw [hs]; omega⟩
              obtain ⟨k1, k2⟩ := zy_sk (st := st) (env := env) (len := len) (e := e) (e - (aa + 1)).toNat (aa + 1) (by omega) (by omega) (fun j j1 j2 => q3 j (by omega) j2) q4
              refine ⟨_, _, _, _, _, c3 hin h63 h0, Or.inl ⟨rfl, ?_, Int.le_refl _, ?_, ?_⟩⟩
              · rw [q1]
                omega
              · rw [q1]
                exact k2 _ g5.2
              · rw [q1, g6, show decide (pe 0 = 0) = true from decide_eq_true h0]
                exact k1 []
            · refine ⟨_, _, _, _, _, c4 hin h63 h0, Or.inl ⟨rfl, aa1, Int.le_refl _, g5.2, ?_⟩⟩
              rw [g6, show decide (pe 0 = 0) = false from decide_eq_false h0]
              rfl
          · rw [if_neg h63] at g6
            rw [if_neg (fun h => h.elim h59 h63)] at g5
            by_cases hp : 0 ≤ s
            · rw [if_pos hp] at g5
              refine ⟨_, _, _, _, _, c5 hin hp (by omega), Or.inl ⟨rfl, aa1, by omega, ?_, ?_⟩⟩
              · rw [show (tp + 1).toNat = tp.toNat + 1 by omega]
                exact g5.2
              · rw [g6, show (tp + 1).toNat = tp.toNat + 1 by omega, zy_pl_put (by omega)]
                unfold zx_w1
                rw [if_pos hp]
            · rw [if_neg hp] at g5
              by_cases h33 : s = -33
              · rw [if_pos (Or.inl h33)] at g5
                refine ⟨_, _, _, _, _, c6 hin h33 (by omega), Or.inl ⟨rfl, aa1, g4, g5.2, ?_⟩⟩
                rw [g6, show tp.toNat = (tp.toNat - 1) + 1 by omega, zy_pl_put (by omega)]
                unfold zx_w1
                rw [if_neg hp, if_pos h33, show (tp - 1).toNat = tp.toNat - 1 by omega]
                rfl
              · by_cases h126 : s = -126
                · rw [if_pos (Or.inr h126)] at g5
                  refine ⟨_, _, _, _, _, c7 hin h126 (by omega), Or.inl ⟨rfl, aa1, g4, g5.2, ?_⟩⟩
                  rw [g6, show tp.toNat = (tp.toNat - 1) + 1 by omega, zy_pl_put (by omega)]
                  unfold zx_w1
                  rw [if_neg hp, if_neg h33, if_pos h126, show (tp - 1).toNat = tp.toNat - 1 by omega]
                  rfl
                · rw [if_neg (fun h => h.elim h33 h126)] at g5
                  refine ⟨_, _, _, _, _, c8 hin hp h59 h63 h33 h126 (by omega), Or.inl ⟨rfl, aa1, by omega, ?_, ?_⟩⟩
                  · rw [show (tp - 1).toNat = tp.toNat - 1 by omega]
                    exact g5.2
                  · rw [g6, show (tp - 1).toNat = (tp.toNat - 2) + 1 by omega, zy_pl_put (by omega), show tp.toNat = (tp.toNat - 2) + 1 + 1 by omega]
                    unfold zx_w1
                    rw [if_neg hp, if_neg h33, if_neg h126, show (tp - 2).toNat = tp.toNat - 2 by omega, show (tp.toNat - 2) + 1 + 1 - 2 = tp.toNat - 2 by omega]
                    rfl
      · rw [zy_sl_n hin] at g6
        exact ⟨_, _, _, _, _, c1 hin, Or.inr ⟨rfl, by rw [g6]; rfl⟩⟩
    · exact ⟨d, r, aa, tp, pe, zy_stay g1 (by omega), Or.inr ⟨g2, g3⟩⟩
/-! the reference's -/
theorem zx_dep_1 {a w : Nat → Int} {k d : Nat} {d' : Nat} (h : zx_dep a w 1 k d = some d') : (a k = 1 ∧ d' = d + 1) ∨ (a k = 2 ∧ d' = d + 1) ∨ (3 ≤ a k ∧ a k ≤ 4 ∧ 1 ≤ d ∧ d' = d) ∨ (a k ≠ 1 ∧ a k ≠ 2 ∧ ¬ (3 ≤ a k ∧ a k ≤ 4) ∧ 2 ≤ d ∧ d' = d - 1) := by
  rw [show 1 = 0 + 1 from rfl, zx_dep_s] at h
  by_cases h1 : a k = 1
  · rw [if_pos h1] at h
    cases h
    exact Or.inl ⟨h1, rfl⟩
  · rw [if_neg h1] at h
    by_cases h2 : a k = 2
    · rw [if_pos h2] at h
      split at h
      · cases h
        exact Or.inr (Or.inl ⟨h2, rfl⟩)
      · cases h
    · rw [if_neg h2] at h
      by_cases h3 : 3 ≤ a k ∧ a k ≤ 4
      · rw [if_pos h3] at h
        split at h
        · rename_i hd
          cases h
          exact Or.inr (Or.inr (Or.inl ⟨h3.1, h3.2, hd, rfl⟩))
        · cases h
      · rw [if_neg h3] at h
        split at h
        · rename_i hd
          cases h
          exact Or.inr (Or.inr (Or.inr ⟨h1, h2, h3, hd, rfl⟩))
        · cases h
theorem zx_rw_snoc {act wth env : Nat → Int} : ∀ {n k : Nat} {p : List Int}, zx_rw act wth env k (n + 1) p = zx_w2 env (act (k + n)) (wth (k + n)) (zx_rw act wth env k n p)
  | 0, k, p => rfl
  | n + 1, k, p => by
    show zx_rw act wth env (k + 1) (n + 1) (zx_w2 env (act k) (wth k) p) = _
    rw [zx_rw_snoc, show k + 1 + n = k + (n + 1) by omega]
    rfl
set_option maxHeartbeats 8000000 in
theorem zy_wk_c {act wth env pz pe : zx_Rw} {f e n : Int} {k : Nat} (h : zx_F 96 [act, wth, env, pz] [f, e] k = ([0, n], [pe])) :
    (¬ f + k + 1 ≤ e → zx_F 96 [act, wth, env, pz] [f, e] (k + 1) = ([1, n], [pe])) ∧
    (f + k + 1 ≤ e → act (f + k).toNat = 1 → zx_F 96 [act, wth, env, pz] [f, e] (k + 1) = ([0, n + 1], [zy_up pe n (wth (f + k).toNat)])) ∧
    (f + k + 1 ≤ e → act (f + k).toNat = 2 → zx_F 96 [act, wth, env, pz] [f, e] (k + 1) = ([0, n + 1], [zy_up pe n (env (wth (f + k).toNat).toNat)])) ∧
    (f + k + 1 ≤ e → act (f + k).toNat = 3 → zx_F 96 [act, wth, env, pz] [f, e] (k + 1) = ([0, n], [zy_up pe (n - 1) (if pe (n - 1).toNat = 0 then 1 else 0)])) ∧
    (f + k + 1 ≤ e → act (f + k).toNat = 4 → zx_F 96 [act, wth, env, pz] [f, e] (k + 1) = ([0, n], [zy_up pe (n - 1) (Int32.ofInt (-1 * pe (n - 1).toNat)).toInt])) ∧
    (f + k + 1 ≤ e → act (f + k).toNat ≠ 1 → act (f + k).toNat ≠ 2 → act (f + k).toNat ≠ 3 → act (f + k).toNat ≠ 4 → zx_F 96 [act, wth, env, pz] [f, e] (k + 1) = ([0, n - 1], [zy_up pe (n - 2) (zx_o3 (act (f + k).toNat) (pe (n - 2).toNat) (pe (n - 1).toNat))])) := by
  refine ⟨fun h1 => ?_, fun h1 h2 => ?_, fun h1 h2 => ?_, fun h1 h2 => ?_, fun h1 h2 => ?_, fun h1 h2 h3 h4 h5 => ?_⟩
  · rw [zy_wk_s h]
    simp [h1]
  · rw [zy_wk_s h]
    simp [h1, h2, zx_wr1]
  · rw [zy_wk_s h]
    simp [h1, h2, zx_wr1]
  · rw [zy_wk_s h]
    by_cases q : pe (n - 1).toNat = 0 <;> simp [h1, h2, q, zx_wr1]
  · rw [zy_wk_s h]
    simp [h1, h2, zx_wr1, zx_op]
  · rw [zy_wk_s h]
    simp only [zy_j3]
    simp [h1, h2, h3, h4, h5, zx_wr1]
theorem zy_wk {act wth env pz : zx_Rw} {f e : Int} (hf : 0 ≤ f) (hw : zx_seg act wth f e) : ∀ K : Nat, ∃ d n pe, zx_F 96 [act, wth, env, pz] [f, e] K = ([d, n], [pe]) ∧ ((d = 0 ∧ 0 ≤ n ∧ f + K ≤ e ∧ zx_dep act wth K f.toNat 0 = some n.toNat ∧ zx_rw act wth env f.toNat K [] = zy_pl pe n.toNat) ∨ (d = 1 ∧ pe 0 = zx_pv act wth env f e))
  | 0 => ⟨0, 0, pz, zy_wk_0, Or.inl ⟨rfl, Int.le_refl _, by have := hw.2.1; simp; omega, rfl, rfl⟩⟩
  | K + 1 => by
    obtain ⟨d, n, pe, g1, g2⟩ := zy_wk (env := env) (pz := pz) hf hw K
    rcases g2 with ⟨g2, g3, g4, g5, g6⟩ | ⟨g2, g3⟩
    · subst g2
      obtain ⟨c1, c2, c3, c4, c5, c6⟩ := zy_wk_c g1
      by_cases hin : f + K + 1 ≤ e
      · obtain ⟨w1, w2, w3⟩ := hw
        have hd := w3 0
        rw [show (e - f).toNat = (K + 1) + ((e - f).toNat - (K + 1)) by omega, zx_dep_add] at hd
        have hs : zx_dep act wth (K + 1) f.toNat 0 = (zx_dep act wth 1 (f.toNat + K) n.toNat) := by
          rw [zx_dep_add, g5]
          rfl
        have hk : (f + K).toNat = f.toNat + K := by omega
        rw [hk] at c2 c3 c4 c5 c6
        cases hx : zx_dep act wth 1 (f.toNat + K) n.toNat with
        | none =>
          rw [hs, hx] at hd
          cases hd
        | some d' =>
          rw [hx] at hs
          have hrw := zx_rw_snoc (act := act) (wth := wth) (env := env) (n := K) (k := f.toNat) (p := [])
          rw [g6] at hrw
          rcases zx_dep_1 hx with ⟨a1, a2⟩ | ⟨a1, a2⟩ | ⟨a1, a2, a3, a4⟩ | ⟨a1, a2, a3, a4, a5⟩
          · refine ⟨_, _, _, c2 hin a1, Or.inl ⟨rfl, by omega, by push_cast; omega, ?_, ?_⟩⟩
            · rw [hs, a2, show (n + 1).toNat = n.toNat + 1 by omega]
            · rw [hrw, show (n + 1).toNat = n.toNat + 1 by omega, zy_pl_put (by omega)]
              unfold zx_w2
              rw [if_pos a1]
          · refine ⟨_, _, _, c3 hin a1, Or.inl ⟨rfl, by omega, by push_cast; omega, ?_, ?_⟩⟩
            · rw [hs, a2, show (n + 1).toNat = n.toNat + 1 by omega]
            · rw [hrw, show (n + 1).toNat = n.toNat + 1 by omega, zy_pl_put (by omega)]
              unfold zx_w2
              rw [if_neg (by omega), if_pos a1]
          · by_cases h3 : act (f.toNat + K) = 3
            · refine ⟨_, _, _, c4 hin h3, Or.inl ⟨rfl, by omega, by push_cast; omega, ?_, ?_⟩⟩
              · rw [hs, a4]
              · rw [hrw, show n.toNat = (n.toNat - 1) + 1 by omega, zy_pl_put (by omega)]
                unfold zx_w2
                rw [if_neg (by omega), if_neg (by omega), if_pos h3, show (n - 1).toNat = n.toNat - 1 by omega]
                rfl
            · have h4 : act (f.toNat + K) = 4 := by omega
              refine ⟨_, _, _, c5 hin h4, Or.inl ⟨rfl, by omega, by push_cast; omega, ?_, ?_⟩⟩
              · rw [hs, a4]
              · rw [hrw, show n.toNat = (n.toNat - 1) + 1 by omega, zy_pl_put (by omega)]
                unfold zx_w2
                rw [if_neg (by omega), if_neg (by omega), if_neg (by omega), if_pos h4, show (n - 1).toNat = n.toNat - 1 by omega]
                rfl
          · obtain ⟨m, hm⟩ : ∃ m, n.toNat = m + 2 := ⟨n.toNat - 2, by omega⟩
            have e1 : (n - 1).toNat = m + 1 := by omega
            have e2 : (n - 2).toNat = m := by omega
            have cc := c6 hin a1 a2 (by omega) (by omega)
            rw [e1, e2] at cc
            refine ⟨_, _, _, cc, Or.inl ⟨rfl, by omega, by push_cast; omega, ?_, ?_⟩⟩
            · rw [hs, a5, e1, hm]
              rfl
            · rw [hrw, hm, e1, zy_pl_put (by omega)]
              unfold zx_w2
              rw [if_neg a1, if_neg a2, if_neg (by omega), if_neg (by omega)]
              rfl
      · obtain ⟨w1, w2, w3⟩ := hw
        have hd := w3 0
        rw [show (e - f).toNat = K by omega, g5] at hd
        have hn : n.toNat = 1 := Option.some.inj hd
        refine ⟨_, _, _, c1 hin, Or.inr ⟨rfl, ?_⟩⟩
        unfold zx_pv
        rw [show (e - f).toNat = K by omega, g6, hn]
        rfl
    · exact ⟨d, n, pe, zy_stay g1 (by omega), Or.inr ⟨g2, g3⟩⟩
end
