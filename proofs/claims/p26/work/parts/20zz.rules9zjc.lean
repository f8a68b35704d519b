noncomputable section
/-! A PLACE THAT IS ANOTHER; which barn it was, both sides (wip/p41/mk9zn.py) -/
theorem zy_cn_c {f g : Nat → Int} {b : Int} : ∀ {n : Nat}, (∀ j : Nat, j < n → f j = g j) → zx_cn f b n = zx_cn g b n
  | 0, _ => rfl
  | n + 1, h => by
    rw [zk_cn_s, zk_cn_s, zy_cn_c (fun j hj => h j (by omega)), h n (by omega)]
theorem zy_up_lt {f g : zx_Rw} {i t bo : Int} {j : Nat} (h : ∀ j : Nat, (j : Int) < bo → f j = g j) (hj : (j : Int) < bo) : zx_up f i t j = zx_up g i t j := by
  unfold zx_up
  rw [h j hj]
def zk_44p (T0 T1 T2 T3 T4 : Nat) (N : zk_N) (g h : zk_G) : List zk_G := match zk_as 90 g, zk_as 2 h with
  | some ([la, ly, st, el, pl, ne, n0, b0, _, _], [i, K, th, ln, sz, ba, bo, li, d, x]), some ([f, f'], [oi, ov]) => match zk_eqi (zk_fci N i) 143 && zk_nz N d && zk_n2 N (zk_vsub (zk_c 61) K) && zk_n2 N ba && zk_n2 N (zk_vsub (zk_c 5) ba) && (Nat.blt T0 N.1 && Nat.blt T1 N.1 && Nat.blt T2 N.1 && Nat.blt T3 N.1 && Nat.blt T4 N.1) && Nat.beq f pl && zk_n2 N oi && zk_n2 N (zk_vsub (zk_vsub ba (zk_c 1)) ov) && zk_pp N bo 3 f' T1 && zk_pp N ba 3 la T0 && zk_pp N ba 3 n0 T3 && zk_pp N ba 3 b0 T4 && zk_pp N bo 3 ne T2 && zk_h43 N ly pl bo ba && zk_h41 N T1 bo ba with
    | true => [(44, [T0, T1, st, el, T2, T3, T4], [zk_c 147, zk_c 61, zk_c 1, x, zk_c 1, oi, ov, th, ln, sz, ba, bo, li])]
    | false => []
  | _, _ => []
theorem zk_44p_ok {E : zk_E} {N : zk_N} {T0 T1 T2 T3 T4 : Nat} (hN : zk_ok E N) (hc : zk_cl N) {g h : zk_G} (hg : g ∈ N.2.2.2) (hh : h ∈ N.2.2.2) : ∀ y ∈ zk_44p T0 T1 T2 T3 T4 N g h, zk_tru E N.1 y := by
  have ht := zk_tru_of hN hc g hg
  have ht2 := zk_tru_of hN hc h hh
  intro y hy
  unfold zk_44p at hy
  split at hy
  · rename_i la ly st el pl ne n0 b0 nn bb i K th ln sz ba bo li d x f f' oi ov hu hu2
    have e := zk_as_of hu
    have e2 := zk_as_of hu2
    subst e e2
    split at hy
    · rename_i c
      simp only [Bool.and_eq_true] at c
      obtain ⟨⟨⟨⟨⟨⟨⟨⟨⟨⟨⟨⟨⟨⟨⟨c1, c2⟩, c3⟩, c4⟩, c5⟩, ⟨⟨⟨⟨b0', b1'⟩, b2'⟩, b3'⟩, b4'⟩⟩, cf⟩, co⟩, cv⟩, c6⟩, c7⟩, c8⟩, c9⟩, c10⟩, c43⟩, c41⟩ := c
      have c1 := zk_fci_of (n := 143) hN c1
      have c2 := zk_nz_ok hN c2
      have c3 := zk_n2_ok hN c3
      have c4 := zk_n2_ok hN c4
      have c5 := zk_n2_ok hN c5
      have cv := zk_n2_ok hN cv
      rw [zk_vsub_i, zk_c_i] at c3 c5
      rw [zk_vsub_i, zk_vsub_i, zk_c_i] at cv
      have cf := Nat.eq_of_beq_eq_true cf
      subst cf
      have b0' := Nat.blt_eq.mp b0'
      have b1' := Nat.blt_eq.mp b1'
      have b2' := Nat.blt_eq.mp b2'
      have b3' := Nat.blt_eq.mp b3'
      have b4' := Nat.blt_eq.mp b4'
      have c6 := zk_pp_of hN hc c6
      have c7 := zk_pp_of hN hc c7
      have c8 := zk_pp_of hN hc c8
      have c9 := zk_pp_of hN hc c9
      have c10 := zk_pp_of hN hc c10
      have c43 := zk_h43_of hN hc c43
      have c41 := zk_h41_of hN hc c41
      obtain ⟨t1, t2, t3⟩ := ht
      obtain ⟨g1, g2, g3⟩ := ht2
      simp only [List.map_cons, List.map_nil, zq_6, zq_7, zq_8, zq_9, zq_20, zq_21, zq_22, zq_25, zq_26, zq_28, zq_30, zq_40, zq_51, zq_52, zq_53, zq_54, zq_55, zq_64, zq_65, zq_68, zq_72, zq_73, zq_85, zq_74, zq_75, zq_76, zq_71, zq_86, zq_87, zq_80, zq_41, zq_42, zq_43, zq_94, zq_95, zq_47, zq_48, zq_96, zq_97, zq_88, zq_89, zq_90, zq_93, zq_61, zq_62, zq_1, zq_2, zq_3, zq_4, zq_5, zq_46, zq_44] at g1
      simp only [List.map_cons, List.map_nil, zq_6, zq_7, zq_8, zq_9, zq_20, zq_21, zq_22, zq_25, zq_26, zq_28, zq_30, zq_40, zq_51, zq_52, zq_53, zq_54, zq_55, zq_64, zq_65, zq_68, zq_72, zq_73, zq_85, zq_74, zq_75, zq_76, zq_71, zq_86, zq_87, zq_80, zq_41, zq_42, zq_43, zq_94, zq_95, zq_47, zq_48, zq_96, zq_97, zq_88, zq_89, zq_90, zq_93, zq_61, zq_62, zq_1, zq_2, zq_3, zq_4, zq_5, zq_46, zq_44, zx_90] at t1
      rw [c1] at t1
      obtain ⟨-, tk, tF⟩ := t1
      have tF : zx_F 143 [E.2 la, E.2 ly, E.2 st, E.2 el, E.2 f, E.2 ne, E.2 n0, E.2 b0] [zk_i E th, zk_i E ln, zk_i E sz, zk_i E ba, zk_i E bo, zk_i E li] (zk_i E K).toNat = ([zk_i E d, zk_i E x], [E.2 nn, E.2 bb]) := tF
      have hfe : ∀ j : Nat, (j : Int) < zk_i E bo → E.2 f j = zx_up (E.2 T1) (zk_i E oi) (zk_i E ov) j := fun j hj => by
        rw [g1]
        unfold zx_up
        simp only
        split
        · rfl
        · exact c6 j hj
      have hlt : ∀ j : Nat, (j : Int) < zk_i E bo → E.2 f j < zk_i E ba := fun j hj => by
        rw [hfe j hj]
        unfold zx_up
        split
        · omega
        · exact c41 j hj
      have key : (zx_F 147 [E.2 T0, zx_up (E.2 T1) (zk_i E oi) (zk_i E ov), E.2 st, E.2 el, E.2 T2, E.2 T3, E.2 T4] [zk_i E th, zk_i E ln, zk_i E sz, zk_i E ba, zk_i E bo, zk_i E li] 61).1.getD 1 0 = zk_i E x := by
        obtain ⟨d', x', m1, m2, m3, m4, f1, f2, -, -⟩ := zy_jn (la := E.2 la) (ly := E.2 ly) (pl := E.2 f) (ne := E.2 ne) (ne2 := E.2 T2) (nz := E.2 n0) (bz := E.2 b0) (nz2 := E.2 T3) (bz2 := E.2 T4) (ba := zk_i E ba) (bo := zk_i E bo) (la2 := E.2 T0) (be := zx_up (E.2 T1) (zk_i E oi) (zk_i E ov)) (st := E.2 st) (el := E.2 el) (th := zk_i E th) (len := zk_i E ln) (sz := zk_i E sz) (sh := 0) (li := zk_i E li) c4 (by omega) c7 (fun j hj => by
          rw [c43 j (by omega), if_pos hj, zy_cn_c (n := (zk_i E bo).toNat) fun k hk => hfe k (by omega)]) (fun j hj => ⟨hfe j hj, c10 j hj, hlt j hj⟩) c8 c9 61
        rw [zx_F_max tF c2 (show (zk_i E K).toNat ≤ 61 by omega)] at f1
        rw [f2]
        exact (congrArg (fun p => p.1.getD 1 0) f1).symm
      rw [List.mem_singleton.mp hy]
      refine ⟨?_, fun a ha => ?_, fun u hu => ?_⟩
      · simp only [List.map_cons, List.map_nil, zq_6, zq_7, zq_8, zq_9, zq_20, zq_21, zq_22, zq_25, zq_26, zq_28, zq_30, zq_40, zq_51, zq_52, zq_53, zq_54, zq_55, zq_64, zq_65, zq_68, zq_72, zq_73, zq_85, zq_74, zq_75, zq_76, zq_71, zq_86, zq_87, zq_80, zq_41, zq_42, zq_43, zq_94, zq_95, zq_47, zq_48, zq_96, zq_97, zq_88, zq_89, zq_90, zq_93, zq_61, zq_62, zq_1, zq_2, zq_3, zq_4, zq_5, zq_46, zq_44, zx_44, zk_c_i]
        exact ⟨by decide, by decide, by decide, by decide, key⟩
      · simp only [List.mem_cons, List.not_mem_nil, or_false] at ha
        rcases ha with rfl | rfl | rfl | rfl | rfl | rfl | rfl
        · exact b0'
        · exact b1'
        · exact t2 _ (by simp)
        · exact t2 _ (by simp)
        · exact b2'
        · exact b3'
        · exact b4'
      · simp only [List.mem_cons, List.not_mem_nil, or_false] at hu
        rcases hu with rfl | rfl | rfl | rfl | rfl | rfl | rfl | rfl | rfl | rfl | rfl | rfl | rfl
        · exact zk_c_sv
        · exact zk_c_sv
        · exact zk_c_sv
        · exact t3 _ (by simp)
        · exact zk_c_sv
        · exact g3 _ (by simp)
        · exact g3 _ (by simp)
        · exact t3 _ (by simp)
        · exact t3 _ (by simp)
        · exact t3 _ (by simp)
        · exact t3 _ (by simp)
        · exact t3 _ (by simp)
        · exact t3 _ (by simp)
    · cases hy
  · cases hy
def zk_r44p (cs : List Nat) : zk_Rl := fun z => match cs.map fun k => zk_row z.2.1 (3, k, [], 0) with
  | [some (_, _, _, T0), some (_, _, _, T1), some (_, _, _, T2), some (_, _, _, T3), some (_, _, _, T4)] => some [zk_addGs z.1 ((zk_kd 90 z.1).flatMap fun p => (zk_kd 2 z.1).flatMap (zk_44p T0 T1 T2 T3 T4 z.1 p))]
  | _ => some [z.1]
theorem zk_r44p_ok (cs : List Nat) : zk_Rok (zk_r44p cs) := by
  refine zk_Rs_ok fun z L' hz E h hc hcs hl hs => ?_
  unfold zk_r44p at hz
  split at hz
  · rename_i T0 _ _ _ T1 _ _ _ T2 _ _ _ T3 _ _ _ T4 e1
    obtain ⟨N', a1, a2, a3, a4⟩ := zk_add_gd (E := E) (n := z.1.1) (f := fun N => (zk_kd 90 N).flatMap fun p => (zk_kd 2 N).flatMap (zk_44p T0 T1 T2 T3 T4 N p)) (fun N hN hc hn x hx => by
      obtain ⟨y, hy, hx⟩ := List.mem_flatMap.mp hx
      obtain ⟨w, hw, hx⟩ := List.mem_flatMap.mp hx
      rw [← hn]
      exact zk_44p_ok hN hc (zk_kd_m hy) (zk_kd_m hw) x hx) z.1 h hc rfl
    cases a1
    cases hz
    exact ⟨_, List.mem_cons_self, a2, a3, a4⟩
  · cases hz
    exact ⟨_, List.mem_cons_self, h, hc, rfl⟩
theorem zy_whc_0 {la : zx_Rw} {be : zx_Rw} {st : zx_Rw} {el : zx_Rw} {ne : zx_Rw} {n0 : zx_Rw} {b0 : zx_Rw} {i : Int} {ln : Int} {sz : Int} {ba : Int} {bo : Int} {li : Int} {th : Int} : zx_F 150 [la, be, st, el, ne, n0, b0] [i, ln, sz, ba, bo, li, th] 0 = ([(0 : Int), (if ((zx_G 150 147 (zx_ov [la, be, st, el, ne, n0, b0] 1 i (-1 : Int)) [th, ln, sz, ba, bo, li] ((61 : Int)).toNat).1.getD 1 0) = 0 then (0 : Int) else (32 : Int))], []) := by
  have h : ∀ cl : zx_Cl, zx_it cl (zx_dn 150) [la, be, st, el, ne, n0, b0] [i, ln, sz, ba, bo, li, th] 0 = ([(0 : Int), (if ((cl 147 (zx_ov [la, be, st, el, ne, n0, b0] 1 i (-1 : Int)) [th, ln, sz, ba, bo, li] ((61 : Int)).toNat).1.getD 1 0) = 0 then (0 : Int) else (32 : Int))], []) := fun cl => rfl
  exact h (zx_G 150)
theorem zy_whc_s {k : Nat} {la : zx_Rw} {be : zx_Rw} {st : zx_Rw} {el : zx_Rw} {ne : zx_Rw} {n0 : zx_Rw} {b0 : zx_Rw} {i : Int} {ln : Int} {sz : Int} {ba : Int} {bo : Int} {li : Int} {th : Int} {x : Int} (h : zx_F 150 [la, be, st, el, ne, n0, b0] [i, ln, sz, ba, bo, li, th] k = ([0, x], [])) : zx_F 150 [la, be, st, el, ne, n0, b0] [i, ln, sz, ba, bo, li, th] (k + 1) =
  (([(if (if ((k : Int) + (1 : Int)) ≤ ba then (1 : Int) else 0) = 0 then (1 : Int) else (0 : Int)), (if (if (if ((k : Int) + (1 : Int)) ≤ ba then (1 : Int) else 0) ≠ 0 ∧ ((zx_G 150 147 (zx_ov [la, be, st, el, ne, n0, b0] 1 i (k : Int)) [th, ln, sz, ba, bo, li] ((61 : Int)).toNat).1.getD 1 0) ≠ 0 then (1 : Int) else 0) = 0 then x else (zx_op 85 x (zx_op 88 (1 : Int) (k : Int))))], [])) := by
  rw [zy_turn h]
  rfl
theorem zy_whr_0 {la : zx_Rw} {be : zx_Rw} {st : zx_Rw} {X : zx_Rw} {szr : zx_Rw} {ne : zx_Rw} {n0 : zx_Rw} {b0 : zx_Rw} {i : Int} {ln : Int} {sh : Int} {ba : Int} {bo : Int} {li : Int} {th : Int} : zx_F 151 [la, be, st, X, szr, ne, n0, b0] [i, ln, sh, ba, bo, li, th] 0 = ([(0 : Int), (0 : Int)], []) := rfl
theorem zy_whr_s {k : Nat} {la : zx_Rw} {be : zx_Rw} {st : zx_Rw} {X : zx_Rw} {szr : zx_Rw} {ne : zx_Rw} {n0 : zx_Rw} {b0 : zx_Rw} {i : Int} {ln : Int} {sh : Int} {ba : Int} {bo : Int} {li : Int} {th : Int} {x : Int} (h : zx_F 151 [la, be, st, X, szr, ne, n0, b0] [i, ln, sh, ba, bo, li, th] k = ([0, x], [])) : zx_F 151 [la, be, st, X, szr, ne, n0, b0] [i, ln, sh, ba, bo, li, th] (k + 1) =
  (([(if (if (k : Int) ≤ (5 : Int) then (1 : Int) else 0) = 0 then (1 : Int) else (0 : Int)), (if (if (if (k : Int) ≤ (5 : Int) then (1 : Int) else 0) ≠ 0 ∧ (if (if (if (if (if (k : Int) = (5 : Int) then (1 : Int) else 0) = 0 then (1 : Int) else 0) ≠ 0 ∧ (if (if ((k : Int) + (1 : Int)) ≤ ba then (1 : Int) else 0) = 0 then (1 : Int) else 0) ≠ 0 then (1 : Int) else 0) = 0 then (1 : Int) else 0) ≠ 0 ∧ ((zx_G 151 144 (zx_ov [la, be, st, X, szr, ne, n0, b0] 1 i (if (if (k : Int) = (5 : Int) then (1 : Int) else 0) = 0 then (k : Int) else (-1 : Int))) [th, ln, sh, ba, bo, li] ((61 : Int)).toNat).1.getD 1 0) ≠ 0 then (1 : Int) else 0) ≠ 0 then (1 : Int) else 0) = 0 then x else (zx_op 85 x (zx_op 88 (1 : Int) (k : Int))))], [])) := by
  rw [zy_turn h]
  rfl
/-- bits of six: that of none first; last -/
def zy_wcB (m : Nat) (b : Nat → Bool) : Nat → Int
  | 0 => match b 5 with
    | true => 32
    | false => 0
  | k + 1 => match Nat.blt k m && b k with
    | true => zx_op 85 (zy_wcB m b k) (zx_op 88 1 (k : Int))
    | false => zy_wcB m b k
def zy_wrB (m : Nat) (b : Nat → Bool) : Nat → Int
  | 0 => 0
  | k + 1 => match Nat.ble k 5 && ((Nat.beq k 5 || Nat.blt k m) && b k) with
    | true => zx_op 85 (zy_wrB m b k) (zx_op 88 1 (k : Int))
    | false => zy_wrB m b k
theorem zy_w6 (b : Nat → Bool) {m : Nat} (hm : m ≤ 5) : zy_wcB m b 5 = zy_wrB m b 6 := by
  have h : ∀ b0 b1 b2 b3 b4 b5 : Bool, ∀ m : Fin 6, zy_wcB m.val (fun t => [b0, b1, b2, b3, b4, b5].getD t false) 5 = zy_wrB m.val (fun t => [b0, b1, b2, b3, b4, b5].getD t false) 6 := by decide +kernel
  exact h (b 0) (b 1) (b 2) (b 3) (b 4) (b 5) ⟨m, by omega⟩
theorem zy_wcM (b : Nat → Bool) {m : Nat} (hm : m ≤ 5) : ∀ k : Nat, zy_wcB m b (5 + k) = zy_wcB m b 5
  | 0 => rfl
  | k + 1 => by
    have e : Nat.blt (5 + k) m = false := by rw [Bool.eq_false_iff]; exact fun q => by have := Nat.blt_eq.mp q; omega
    show (match Nat.blt (5 + k) m && b (5 + k) with | true => zx_op 85 (zy_wcB m b (5 + k)) (zx_op 88 1 ((5 + k : Nat) : Int)) | false => zy_wcB m b (5 + k)) = _
    rw [e]
    exact zy_wcM b hm k
theorem zy_wrM (b : Nat → Bool) {m : Nat} : ∀ k : Nat, zy_wrB m b (6 + k) = zy_wrB m b 6
  | 0 => rfl
  | k + 1 => by
    have e : Nat.ble (6 + k) 5 = false := by rw [Bool.eq_false_iff]; exact fun q => by have := Nat.le_of_ble_eq_true q; omega
    show (match Nat.ble (6 + k) 5 && ((Nat.beq (6 + k) 5 || Nat.blt (6 + k) m) && b (6 + k)) with | true => zx_op 85 (zy_wrB m b (6 + k)) (zx_op 88 1 ((6 + k : Nat) : Int)) | false => zy_wrB m b (6 + k)) = _
    rw [e]
    exact zy_wrM b k
def zy_wb (W : Int → Int) (t : Nat) : Bool := !(decide (W (match Nat.beq t 5 with | true => -1 | false => (t : Int)) = 0))
theorem zy_wb5 {W : Int → Int} : zy_wb W 5 = !(decide (W (-1) = 0)) := rfl
theorem zy_wbk {W : Int → Int} {k : Nat} (h : k ≠ 5) : zy_wb W k = !(decide (W (k : Int) = 0)) := by
  have e : Nat.beq k 5 = false := by rw [Bool.eq_false_iff]; exact fun q => h (Nat.eq_of_beq_eq_true q)
  unfold zy_wb
  rw [e]
theorem zy_whcF {W : Int → Int} {la be st el ne n0 b0 : zx_Rw} {i ln sz ba bo li th : Int} (h0 : 0 ≤ ba) (h5 : ba ≤ 5) (hW : ∀ t : Int, -1 ≤ t → t < ba → (zx_F 147 (zx_ov [la, be, st, el, ne, n0, b0] 1 i t) [th, ln, sz, ba, bo, li] 61).1.getD 1 0 = W t) : ∀ k : Nat, ∃ d, zx_F 150 [la, be, st, el, ne, n0, b0] [i, ln, sz, ba, bo, li, th] k = ([d, zy_wcB ba.toNat (zy_wb W) k], []) ∧ (d ≠ 0 → ba ≤ k)
  | 0 => by
    refine ⟨0, ?_, fun h => absurd rfl h⟩
    have f : zx_F 150 [la, be, st, el, ne, n0, b0] [i, ln, sz, ba, bo, li, th] 0 = _ := zy_whc_0
    have q1 : ∀ R P K, zx_G 150 147 R P K = zx_F 147 R P K := fun R P K => zx_G_F (by decide) _ _ _
    have t61 : (61 : Int).toNat = 61 := rfl
    rw [q1, t61, hW (-1) (by omega) (by omega)] at f
    rw [f]
    have hz : zy_wcB ba.toNat (zy_wb W) 0 = (match zy_wb W 5 with | true => (32 : Int) | false => 0) := rfl
    rw [hz, zy_wb5]
    by_cases hw : W (-1) = 0
    · rw [if_pos hw, decide_eq_true hw]
      rfl
    · rw [if_neg hw, decide_eq_false hw]
      rfl
  | k + 1 => by
    obtain ⟨d, e, h2⟩ := zy_whcF h0 h5 hW k
    by_cases hd : d = 0
    · subst hd
      have f := zy_whc_s e
      have q1 : ∀ R P K, zx_G 150 147 R P K = zx_F 147 R P K := fun R P K => zx_G_F (by decide) _ _ _
      have t61 : (61 : Int).toNat = 61 := rfl
      simp only [q1, t61, zy_if, zy_if0, zy_ne, zy_ne0] at f
      by_cases hk : (k : Int) + 1 ≤ ba
      · rw [hW (k : Int) (by omega) (by omega)] at f
        have em : Nat.blt k ba.toNat = true := Nat.blt_eq.mpr (by omega)
        refine ⟨0, ?_, fun h => absurd rfl h⟩
        rw [f]
        show _ = ([0, match Nat.blt k ba.toNat && zy_wb W k with | true => zx_op 85 (zy_wcB ba.toNat (zy_wb W) k) (zx_op 88 1 (k : Int)) | false => zy_wcB ba.toNat (zy_wb W) k], [])
        rw [em, zy_wbk (by omega)]
        by_cases hw : W (k : Int) = 0
        · rw [decide_eq_true hw]
          simp only [hk, hw, if_true, if_false, ne_eq, not_true, and_false]
          rfl
        · rw [decide_eq_false hw]
          simp only [hk, hw, if_true, if_false, ne_eq, not_false_iff, and_self]
          rfl
      · have em : Nat.blt k ba.toNat = false := by rw [Bool.eq_false_iff]; exact fun q => by have := Nat.blt_eq.mp q; omega
        simp only [hk, if_true, if_false, false_and] at f
        refine ⟨1, ?_, fun _ => by omega⟩
        rw [f]
        show _ = ([1, match Nat.blt k ba.toNat && zy_wb W k with | true => zx_op 85 (zy_wcB ba.toNat (zy_wb W) k) (zx_op 88 1 (k : Int)) | false => zy_wcB ba.toNat (zy_wb W) k], [])
        rw [em]
        rfl
    · have em : Nat.blt k ba.toNat = false := by rw [Bool.eq_false_iff]; exact fun q => by have := Nat.blt_eq.mp q; have := h2 hd; omega
      refine ⟨d, ?_, fun _ => by have := h2 hd; omega⟩
      rw [zy_stay e hd]
      show _ = ([d, match Nat.blt k ba.toNat && zy_wb W k with | true => zx_op 85 (zy_wcB ba.toNat (zy_wb W) k) (zx_op 88 1 (k : Int)) | false => zy_wcB ba.toNat (zy_wb W) k], [])
      rw [em]
      rfl
theorem zy_whrF {W : Int → Int} {la be st X szr ne n0 b0 : zx_Rw} {i ln sh ba bo li th : Int} (h0 : 0 ≤ ba) (h5 : ba ≤ 5) (hW : ∀ t : Int, -1 ≤ t → t < ba → (zx_F 144 (zx_ov [la, be, st, X, szr, ne, n0, b0] 1 i t) [th, ln, sh, ba, bo, li] 61).1.getD 1 0 = W t) : ∀ k : Nat, ∃ d, zx_F 151 [la, be, st, X, szr, ne, n0, b0] [i, ln, sh, ba, bo, li, th] k = ([d, zy_wrB ba.toNat (zy_wb W) k], []) ∧ (d ≠ 0 → 6 ≤ k)
  | 0 => ⟨0, zy_whr_0, fun h => absurd rfl h⟩
  | k + 1 => by
    obtain ⟨d, e, h2⟩ := zy_whrF h0 h5 hW k
    by_cases hd : d = 0
    · subst hd
      have f := zy_whr_s e
      have q1 : ∀ R P K, zx_G 151 144 R P K = zx_F 144 R P K := fun R P K => zx_G_F (by decide) _ _ _
      have t61 : (61 : Int).toNat = 61 := rfl
      simp only [q1, t61, zy_if, zy_if0, zy_ne, zy_ne0] at f
      have go : zy_wrB ba.toNat (zy_wb W) (k + 1) = match Nat.ble k 5 && ((Nat.beq k 5 || Nat.blt k ba.toNat) && zy_wb W k) with | true => zx_op 85 (zy_wrB ba.toNat (zy_wb W) k) (zx_op 88 1 (k : Int)) | false => zy_wrB ba.toNat (zy_wb W) k := rfl
      by_cases hk : (k : Int) ≤ 5
      · have el : Nat.ble k 5 = true := Nat.ble_eq_true_of_le (by omega)
        refine ⟨0, ?_, fun h => absurd rfl h⟩
        rw [f, go, el]
        by_cases h6 : (k : Int) = 5
        · have e5 : k = 5 := by omega
          subst e5
          have hw := hW (-1) (by omega) (by omega)
          simp only [h6, if_true] at hw ⊢
          rw [hw, zy_wb5]
          by_cases hz : W (-1) = 0
          · rw [decide_eq_true hz]
            simp [hz]
          · rw [decide_eq_false hz]
            simp [hz]
        · have e5 : Nat.beq k 5 = false := by rw [Bool.eq_false_iff]; exact fun q => h6 (by have := Nat.eq_of_beq_eq_true q; omega)
          rw [e5, zy_wbk (by omega)]
          by_cases hb : (k : Int) + 1 ≤ ba
          · have em : Nat.blt k ba.toNat = true := Nat.blt_eq.mpr (by omega)
            have hw := hW (k : Int) (by omega) (by omega)
            rw [em]
            simp only [h6, if_false] at hw ⊢
            rw [hw]
            by_cases hz : W (k : Int) = 0
            · rw [decide_eq_true hz]
              simp [hk, hb, hz]
            · rw [decide_eq_false hz]
              simp [hk, hb, hz]
          · have em : Nat.blt k ba.toNat = false := by rw [Bool.eq_false_iff]; exact fun q => by have := Nat.blt_eq.mp q; omega
            rw [em]
            simp [hk, h6, hb]
      · have el : Nat.ble k 5 = false := by rw [Bool.eq_false_iff]; exact fun q => by have := Nat.le_of_ble_eq_true q; omega
        simp only [hk, if_true, if_false, false_and] at f
        refine ⟨1, ?_, fun _ => by omega⟩
        rw [f, go, el]
        rfl
    · have el : Nat.ble k 5 = false := by rw [Bool.eq_false_iff]; exact fun q => by have := Nat.le_of_ble_eq_true q; have := h2 hd; omega
      refine ⟨d, ?_, fun _ => by have := h2 hd; omega⟩
      rw [zy_stay e hd]
      show _ = ([d, match Nat.ble k 5 && ((Nat.beq k 5 || Nat.blt k ba.toNat) && zy_wb W k) with | true => zx_op 85 (zy_wrB ba.toNat (zy_wb W) k) (zx_op 88 1 (k : Int)) | false => zy_wrB ba.toNat (zy_wb W) k], [])
      rw [el]
      rfl
theorem zy_whE {la pl st el ne la2 be X szr ne2 nz bz nz2 bz2 : zx_Rw} {i len sz sh ba bo li th d c d2 c2 : Int} {K K2 : Nat} (h0 : 0 ≤ ba) (h5 : ba ≤ 5) (hl : ∀ j : Nat, (j : Int) < ba → la j = la2 j) (hp : ∀ j : Nat, (j : Int) < bo → pl j = be j ∧ ne j = ne2 j ∧ pl j < ba) (hs : szr sh.toNat = sz) (hz : sz ≤ 60) (ho : 0 ≤ sh) (he : ∀ j : Nat, j < 60 → X ((60 * sh).toNat + j) = el j) (hn : ∀ j : Nat, (j : Int) < ba → nz j = nz2 j) (hb : ∀ j : Nat, (j : Int) < ba → bz j = bz2 j) (e1 : zx_F 150 [la, pl, st, el, ne, nz, bz] [i, len, sz, ba, bo, li, th] K = ([d, c], [])) (hd : d ≠ 0) (e2 : zx_F 151 [la2, be, st, X, szr, ne2, nz2, bz2] [i, len, sh, ba, bo, li, th] K2 = ([d2, c2], [])) (hd2 : d2 ≠ 0) : c = c2 := by
  have hW : ∀ t : Int, -1 ≤ t → t < ba → (zx_F 144 (zx_ov [la2, be, st, X, szr, ne2, nz2, bz2] 1 i t) [th, len, sh, ba, bo, li] 61).1.getD 1 0 = (fun t : Int => (zx_F 147 (zx_ov [la, pl, st, el, ne, nz, bz] 1 i t) [th, len, sz, ba, bo, li] 61).1.getD 1 0) t := fun t _ hlt => by
    show (zx_F 144 [la2, zx_up be i t, st, X, szr, ne2, nz2, bz2] [th, len, sh, ba, bo, li] 61).1.getD 1 0 = (zx_F 147 [la, zx_up pl i t, st, el, ne, nz, bz] [th, len, sz, ba, bo, li] 61).1.getD 1 0
    have hpl : ∀ j : Nat, (j : Int) < bo → zx_up pl i t j < ba := fun j hj => by
      unfold zx_up
      split
      · exact hlt
      · exact (hp j hj).2.2
    obtain ⟨d', x, n, b, n2, b2, f1, f2, -, -⟩ := zy_jb (la := la) (ly := fun j => (zx_cn (zx_up pl i t) j bo.toNat : Int)) (pl := zx_up pl i t) (be := zx_up be i t) (la2 := la2) (st := st) (el := el) (ne := ne) (th := th) (len := len) (li := li) h0 h5 hl (fun j _ => by rw [zy_cn_c (n := bo.toNat) (f := zx_up pl i t) (g := zx_up be i t) fun k hk => zy_up_lt (fun q hq => (hp q hq).1) (by omega)]) (fun j hj => ⟨zy_up_lt (fun q hq => (hp q hq).1) hj, (hp j hj).2.1, hpl j hj⟩) hs hz ho he hn hb 61
    obtain ⟨d3, x3, n3, b3, n4, b4, f3, f4, -, -⟩ := zy_jn (la := la) (ly := fun j => (zx_cn (zx_up pl i t) j bo.toNat : Int)) (pl := zx_up pl i t) (be := zx_up pl i t) (la2 := la) (ne2 := ne) (nz2 := nz) (bz2 := bz) (nz := nz) (bz := bz) (st := st) (el := el) (ne := ne) (th := th) (len := len) (sz := sz) (sh := 0) (li := li) h0 h5 (fun j _ => rfl) (fun j _ => rfl) (fun j hj => ⟨rfl, rfl, hpl j hj⟩) (fun j _ => rfl) (fun j _ => rfl) 61
    rw [f1] at f3
    rw [f2, f4]
    exact congrArg (fun p => p.1.getD 1 0) f3
  obtain ⟨m1, p1, g1⟩ := zy_whcF (la := la) (be := pl) (st := st) (el := el) (ne := ne) (n0 := nz) (b0 := bz) (i := i) (ln := len) (sz := sz) (ba := ba) (bo := bo) (li := li) (th := th) h0 h5 (fun t _ _ => rfl) (max K K2)
  obtain ⟨m2, p2, g2⟩ := zy_whrF h0 h5 hW (max K K2)
  rw [zx_F_max e1 hd (Nat.le_max_left K K2)] at p1
  rw [zx_F_max e2 hd2 (Nat.le_max_right K K2)] at p2
  have a0 : d2 = m2 := congrArg (fun p => p.1.getD 0 0) p2
  have a1 : c = _ := congrArg (fun p => p.1.getD 1 0) p1
  have a2 : c2 = _ := congrArg (fun p => p.1.getD 1 0) p2
  have hM := g2 (by rw [← a0]; exact hd2)
  generalize max K K2 = M at a1 a2 hM
  obtain ⟨q, rfl⟩ : ∃ q, M = 6 + q := ⟨M - 6, by omega⟩
  have w1 : c = zy_wcB ba.toNat (zy_wb fun t : Int => (zx_F 147 (zx_ov [la, pl, st, el, ne, nz, bz] 1 i t) [th, len, sz, ba, bo, li] 61).1.getD 1 0) (6 + q) := a1
  have w2 : c2 = zy_wrB ba.toNat (zy_wb fun t : Int => (zx_F 147 (zx_ov [la, pl, st, el, ne, nz, bz] 1 i t) [th, len, sz, ba, bo, li] 61).1.getD 1 0) (6 + q) := a2
  generalize (zy_wb fun t : Int => (zx_F 147 (zx_ov [la, pl, st, el, ne, nz, bz] 1 i t) [th, len, sz, ba, bo, li] 61).1.getD 1 0) = b at w1 w2
  rw [w1, w2, zy_wrM, ← zy_w6 b (m := ba.toNat) (by omega), show 6 + q = 5 + (q + 1) by omega, zy_wcM b (by omega)]
def zk_wh2f (g h : zk_G) (N : zk_N) : Option zk_N := match zk_as 90 g, zk_as 90 h with
  | some ([la, pl, st, el, ne, n0, b0], [i, _, ii, ln, sz, ba, bo, lm, th, d, c]), some ([la2, be, st2, X, szr, ne2, m0, c0], [i2, _, ii2, ln2, sh, ba2, bo2, lm2, th2, d2, c2]) => match zk_eqi (zk_fci N i) 150 && zk_eqi (zk_fci N i2) 151 && zk_nz N d && zk_nz N d2 && Nat.beq st st2 && zk_eqEs N [ii, ln, ba, bo, lm, th] [ii2, ln2, ba2, bo2, lm2, th2] && zk_n2 N ba && zk_n2 N (zk_vsub (zk_c 5) ba) && zk_sf N el X szr sz sh (zk_vmul 60 sh) && zk_n2 N sh && zk_h41 N be bo ba && zk_pp N ba 3 la la2 && zk_pp N ba 3 n0 m0 && zk_pp N ba 3 b0 c0 && zk_pp N bo 2 pl be && zk_pp N bo 2 ne ne2 with
    | true => zk_eqs N (zk_vsub c c2)
    | false => some N
  | _, _ => some N
theorem zk_wh2f_gd {E : zk_E} {n : Nat} {g h : zk_G} (hg : zk_tru E n g) (hh : zk_tru E n h) : zk_gd E n (zk_wh2f g h) := by
  intro N hN hc hn
  unfold zk_wh2f
  split
  · rename_i la pl st el ne n0 b0 i K ii ln sz ba bo lm th d c la2 be st2 X szr ne2 m0 c0 i2 K2 ii2 ln2 sh ba2 bo2 lm2 th2 d2 c2 hu hu2
    have e := zk_as_of hu
    have e2 := zk_as_of hu2
    subst e e2
    obtain ⟨t1, t2, t3⟩ := hg
    obtain ⟨g1, g2, g3⟩ := hh
    split
    · rename_i cc
      simp only [Bool.and_eq_true] at cc
      obtain ⟨⟨⟨⟨⟨⟨⟨⟨⟨⟨⟨⟨⟨⟨⟨c1, c2'⟩, c3⟩, c4⟩, c5⟩, c6⟩, c7⟩, c8⟩, c9⟩, cs⟩, ch⟩, c11⟩, c12⟩, c13⟩, c14⟩, c15⟩ := cc
      have c1 := zk_fci_of (n := 150) hN c1
      have c2' := zk_fci_of (n := 151) hN c2'
      have c3 := zk_nz_ok hN c3
      have c4 := zk_nz_ok hN c4
      have c5 := Nat.eq_of_beq_eq_true c5
      have c6 := zk_eqEs_of hN c6
      have c7 := zk_n2_ok hN c7
      have c8 := zk_n2_ok hN c8
      rw [zk_vsub_i, zk_c_i] at c8
      obtain ⟨s1, s2, s3, s4⟩ := zk_sf_of hN hc c9
      rw [zk_vmul_i] at s3 s4
      have cs := zk_n2_ok hN cs
      have ch := zk_h41_of hN hc ch
      have c11 := zk_pp_of hN hc c11
      have c12 := zk_pp_of hN hc c12
      have c13 := zk_pp_of hN hc c13
      have c14 := zk_pp_of hN hc c14
      have c15 := zk_pp_of hN hc c15
      simp only [List.map_cons, List.map_nil] at c6
      injection c6 with q0 c6
      injection c6 with q1 c6
      injection c6 with q2 c6
      injection c6 with q3 c6
      injection c6 with q4 c6
      injection c6 with q5 c6
      simp only [List.map_cons, List.map_nil, zq_6, zq_7, zq_8, zq_9, zq_20, zq_21, zq_22, zq_25, zq_26, zq_28, zq_30, zq_40, zq_51, zq_52, zq_53, zq_54, zq_55, zq_64, zq_65, zq_68, zq_72, zq_73, zq_85, zq_74, zq_75, zq_76, zq_71, zq_86, zq_87, zq_80, zq_41, zq_42, zq_43, zq_94, zq_95, zq_47, zq_48, zq_96, zq_97, zq_88, zq_89, zq_90, zq_93, zq_61, zq_62, zq_1, zq_2, zq_3, zq_4, zq_5, zq_46, zq_44, zx_90] at t1 g1
      rw [c1] at t1
      rw [c2'] at g1
      obtain ⟨-, -, tF⟩ := t1
      obtain ⟨-, -, gF⟩ := g1
      have tF : zx_F 150 [E.2 la, E.2 pl, E.2 st, E.2 el, E.2 ne, E.2 n0, E.2 b0] [zk_i E ii, zk_i E ln, zk_i E sz, zk_i E ba, zk_i E bo, zk_i E lm, zk_i E th] (zk_i E K).toNat = ([zk_i E d, zk_i E c], []) := tF
      have gF : zx_F 151 [E.2 la2, E.2 be, E.2 st2, E.2 X, E.2 szr, E.2 ne2, E.2 m0, E.2 c0] [zk_i E ii2, zk_i E ln2, zk_i E sh, zk_i E ba2, zk_i E bo2, zk_i E lm2, zk_i E th2] (zk_i E K2).toNat = ([zk_i E d2, zk_i E c2], []) := gF
      rw [← q0, ← q1, ← q2, ← q3, ← q4, ← q5, ← c5] at gF
      have r := zy_whE c7 (by omega) c11 (fun j hj => ⟨c14 j hj, c15 j hj, by rw [c14 j hj]; exact ch j hj⟩) s1 s2 cs s4 c12 c13 tF c3 gF c4
      exact zk_eqsg (by rw [zk_vsub_i]; omega) (zk_vsub_sv (t3 _ (by simp)) (g3 _ (by simp))) N hN hc hn
    · exact zk_id_gd N hN hc hn
  · exact zk_id_gd N hN hc hn
def zk_rwh : zk_Rl := zk_nr (zk_on zk_f90 fun p => zk_on zk_f90 (zk_wh2f p))
theorem zk_rwh_ok : zk_Rok zk_rwh := zk_nr_ok fun E n => zk_on_gd fun N h hc hn p hp => by
  have ht := zk_trs h hc hn p (List.mem_filter.mp hp).1
  exact zk_on_gd fun N' h' hc' hn' q hq => zk_wh2f_gd ht (zk_trs h' hc' hn' q (List.mem_filter.mp hq).1)
end
