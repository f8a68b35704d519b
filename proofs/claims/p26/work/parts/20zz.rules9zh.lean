noncomputable section
/-! OTHERS SLEEP THAN TOLD (wip/p41/mk9zh.py) -/
theorem zy_jc_0 {la : zx_Rw} {ly : zx_Rw} {st : zx_Rw} {el : zx_Rw} {pl : zx_Rw} {ne : zx_Rw} {nz : zx_Rw} {bz : zx_Rw} {th : Int} {len : Int} {sz : Int} {ba : Int} {bo : Int} {li : Int} : zx_F 139 [la, ly, st, el, pl, ne, nz, bz] [th, len, sz, ba, bo, li] 0 = ([(0 : Int), (-1 : Int)], [nz, bz]) := rfl
theorem zy_jc_s {k : Nat} {la : zx_Rw} {ly : zx_Rw} {st : zx_Rw} {el : zx_Rw} {pl : zx_Rw} {ne : zx_Rw} {nz : zx_Rw} {bz : zx_Rw} {n : zx_Rw} {b : zx_Rw} {th : Int} {len : Int} {sz : Int} {ba : Int} {bo : Int} {li : Int} {x : Int} (h0 : 0 ≤ ba) (h5 : ba ≤ 5) (h : zx_F 139 [la, ly, st, el, pl, ne, nz, bz] [th, len, sz, ba, bo, li] k = ([0, x], [n, b])) : zx_F 139 [la, ly, st, el, pl, ne, nz, bz] [th, len, sz, ba, bo, li] (k + 1) = ([(if (if ((k : Int) + (1 : Int)) ≤ sz then (1 : Int) else 0) = 0 then (1 : Int) else (if (if ((zx_G 139 98 [pl, n, b, ly, ne] [bo, li, ba] 9).1.getD 1 0) = (zx_op 84 (zx_op 4 (el ((k : Int)).toNat) (0 : Int)) (255 : Int)) then (1 : Int) else 0) = 0 then (1 : Int) else (0 : Int))), (if (if (if ((k : Int) + (1 : Int)) ≤ sz then (1 : Int) else 0) ≠ 0 ∧ (if (if ((zx_G 139 98 [pl, n, b, ly, ne] [bo, li, ba] 9).1.getD 1 0) = (zx_op 84 (zx_op 4 (el ((k : Int)).toNat) (0 : Int)) (255 : Int)) then (1 : Int) else 0) = 0 then (1 : Int) else 0) ≠ 0 then (1 : Int) else 0) = 0 then x else (k : Int))], if (if (if ((k : Int) + (1 : Int)) ≤ sz then (1 : Int) else 0) ≠ 0 ∧ (if ((zx_G 139 98 [pl, n, b, ly, ne] [bo, li, ba] 9).1.getD 1 0) = (zx_op 84 (zx_op 4 (el ((k : Int)).toNat) (0 : Int)) (255 : Int)) then (1 : Int) else 0) ≠ 0 then (1 : Int) else 0) = 0 then [n, b] else [zy_to (zy_pd_n la ly st n b th len (k : Int) (-1 : Int) ba) n ba.toNat, zy_to (zy_pd_b b (-1 : Int)) b ba.toNat]) := by
  have hs := zy_dc_sto (cl := zx_G 139) (R := [la, ly, st, el, pl, ne, nz, bz]) (n := n) (b := b) (P := [th, len, sz, ba, bo, li]) (S := [0, x]) (k := (k : Int)) (la := 0) (ly := 1) (st := 2) (th := 0) (ln := 1) (ba := 3) (on := [(2, 0, []), (0, 1, []), (5, 0, []), (1, 2, []), (9, 0, []), (1, 4, []), (1, 5, []), (1, 3, []), (0, 0, []), (0, 9, []), (14, 98, [3, 1, 4, 100, 101, 1, 5]), (2, 0, []), (4, 3, []), (0, 0, []), (8, 4, []), (0, 255, []), (8, 84, []), (10, 0, []), (11, 0, [])]) (tu := [(0, (-1), [])]) (von := (if (if ((k : Int) + (1 : Int)) ≤ sz then (1 : Int) else 0) ≠ 0 ∧ (if ((zx_G 139 98 [pl, n, b, ly, ne] [bo, li, ba] 9).1.getD 1 0) = (zx_op 84 (zx_op 4 (el ((k : Int)).toNat) (0 : Int)) (255 : Int)) then (1 : Int) else 0) ≠ 0 then (1 : Int) else 0)) (vtu := (-1 : Int)) (fun _ => rfl) (fun _ => rfl) h0 h5
  rw [zy_turn h, show (zx_dn 139).2.2.2.2 = zy_dc 0 1 2 0 1 3 [(2, 0, []), (0, 1, []), (5, 0, []), (1, 2, []), (9, 0, []), (1, 4, []), (1, 5, []), (1, 3, []), (0, 0, []), (0, 9, []), (14, 98, [3, 1, 4, 100, 101, 1, 5]), (2, 0, []), (4, 3, []), (0, 0, []), (8, 4, []), (0, 255, []), (8, 84, []), (10, 0, []), (11, 0, [])] [(0, (-1), [])] from rfl, hs]
  rfl
theorem zy_jr_0 {la : zx_Rw} {be : zx_Rw} {st : zx_Rw} {el : zx_Rw} {szr : zx_Rw} {ne : zx_Rw} {nz : zx_Rw} {bz : zx_Rw} {th : Int} {len : Int} {sh : Int} {off : Int} {ba : Int} {bo : Int} {li : Int} : zx_F 140 [la, be, st, el, szr, ne, nz, bz] [th, len, sh, off, ba, bo, li] 0 = ([(0 : Int), (-2 : Int)], [nz, bz]) := rfl
theorem zy_jr_s {k : Nat} {la : zx_Rw} {be : zx_Rw} {st : zx_Rw} {el : zx_Rw} {szr : zx_Rw} {ne : zx_Rw} {nz : zx_Rw} {bz : zx_Rw} {n : zx_Rw} {b : zx_Rw} {th : Int} {len : Int} {sh : Int} {off : Int} {ba : Int} {bo : Int} {li : Int} {x : Int} (h0 : 0 ≤ ba) (h5 : ba ≤ 5) (h : zx_F 140 [la, be, st, el, szr, ne, nz, bz] [th, len, sh, off, ba, bo, li] k = ([0, x], [n, b])) : zx_F 140 [la, be, st, el, szr, ne, nz, bz] [th, len, sh, off, ba, bo, li] (k + 1) = ([(if (if ((k : Int) + (1 : Int)) ≤ (szr (sh).toNat) then (1 : Int) else 0) = 0 then (1 : Int) else (if (if ((zx_G 140 99 [be, n, b, ne] [bo, li] 9).1.getD 1 0) = (zx_op 84 (zx_op 4 (el ((off + (k : Int))).toNat) (0 : Int)) (255 : Int)) then (1 : Int) else 0) = 0 then (1 : Int) else (0 : Int))), (if (if (if ((k : Int) + (1 : Int)) ≤ (szr (sh).toNat) then (1 : Int) else 0) ≠ 0 ∧ (if (if ((zx_G 140 99 [be, n, b, ne] [bo, li] 9).1.getD 1 0) = (zx_op 84 (zx_op 4 (el ((off + (k : Int))).toNat) (0 : Int)) (255 : Int)) then (1 : Int) else 0) = 0 then (1 : Int) else 0) ≠ 0 then (1 : Int) else 0) = 0 then x else (k : Int))], if (if (if ((k : Int) + (1 : Int)) ≤ (szr (sh).toNat) then (1 : Int) else 0) ≠ 0 ∧ (if ((zx_G 140 99 [be, n, b, ne] [bo, li] 9).1.getD 1 0) = (zx_op 84 (zx_op 4 (el ((off + (k : Int))).toNat) (0 : Int)) (255 : Int)) then (1 : Int) else 0) ≠ 0 then (1 : Int) else 0) = 0 then [n, b] else [zy_to (zy_pr_n la be st n b th len (k : Int) (-1 : Int) ba bo) n ba.toNat, zy_to (zy_pr_b b (-1 : Int)) b ba.toNat]) := by
  have hs := zy_dr_sto (cl := zx_G 140) (R := [la, be, st, el, szr, ne, nz, bz]) (n := n) (b := b) (P := [th, len, sh, off, ba, bo, li]) (S := [0, x]) (k := (k : Int)) (la := 0) (ly := 1) (st := 2) (th := 0) (ln := 1) (ba := 4) (bo := 5) (on := [(2, 0, []), (0, 1, []), (5, 0, []), (1, 2, []), (4, 4, []), (9, 0, []), (1, 5, []), (1, 6, []), (0, 0, []), (0, 0, []), (0, 9, []), (14, 99, [2, 1, 1, 100, 101, 5]), (1, 3, []), (2, 0, []), (5, 0, []), (4, 3, []), (0, 0, []), (8, 4, []), (0, 255, []), (8, 84, []), (10, 0, []), (11, 0, [])]) (tu := [(0, (-1), [])]) (von := (if (if ((k : Int) + (1 : Int)) ≤ (szr (sh).toNat) then (1 : Int) else 0) ≠ 0 ∧ (if ((zx_G 140 99 [be, n, b, ne] [bo, li] 9).1.getD 1 0) = (zx_op 84 (zx_op 4 (el ((off + (k : Int))).toNat) (0 : Int)) (255 : Int)) then (1 : Int) else 0) ≠ 0 then (1 : Int) else 0)) (vtu := (-1 : Int)) (fun _ => rfl) (fun _ => rfl) h0 h5
  rw [zy_turn h, show (zx_dn 140).2.2.2.2 = zy_dr 0 1 2 0 1 4 5 [(2, 0, []), (0, 1, []), (5, 0, []), (1, 2, []), (4, 4, []), (9, 0, []), (1, 5, []), (1, 6, []), (0, 0, []), (0, 0, []), (0, 9, []), (14, 99, [2, 1, 1, 100, 101, 5]), (1, 3, []), (2, 0, []), (5, 0, []), (4, 3, []), (0, 0, []), (8, 4, []), (0, 255, []), (8, 84, []), (10, 0, []), (11, 0, [])] [(0, (-1), [])] from rfl, hs]
  rfl
def zy_on139 : List zx_I := [(2, 0, []), (0, 1, []), (5, 0, []), (1, 2, []), (9, 0, []), (1, 4, []), (1, 5, []), (1, 3, []), (0, 0, []), (0, 9, []), (14, 98, [3, 1, 4, 100, 101, 1, 5]), (2, 0, []), (4, 3, []), (0, 0, []), (8, 4, []), (0, 255, []), (8, 84, []), (10, 0, []), (11, 0, [])]
def zy_tu139 : List zx_I := [(0, (-1), [])]
theorem zy_e139 {k : Nat} {la : zx_Rw} {ly : zx_Rw} {st : zx_Rw} {el : zx_Rw} {pl : zx_Rw} {ne : zx_Rw} {n0 : zx_Rw} {b0 : zx_Rw} {n : zx_Rw} {b : zx_Rw} {th : Int} {len : Int} {sz : Int} {ba : Int} {bo : Int} {li : Int} {x_ : Int} (h0 : 0 ≤ ba) (h5 : ba ≤ 5) (h : zx_F 139 [la, ly, st, el, pl, ne, n0, b0] [th, len, sz, ba, bo, li] k = ([0, x_], [n, b])) : zx_F 139 [la, ly, st, el, pl, ne, n0, b0] [th, len, sz, ba, bo, li] (k + 1) = ((zx_dn 139).2.2.2.1.map (zx_ev (zx_G 139) [la, ly, st, el, pl, ne, n0, b0] [n, b] [th, len, sz, ba, bo, li] (k : Int) [0, x_]), if (zx_ev (zx_G 139) [la, ly, st, el, pl, ne, n0, b0] [n, b] [th, len, sz, ba, bo, li] (k : Int) [0, x_] zy_on139) = 0 then [n, b] else [zy_to (zy_pd_n la ly st n b th len (k : Int) (zx_ev (zx_G 139) [la, ly, st, el, pl, ne, n0, b0] [n, b] [th, len, sz, ba, bo, li] (k : Int) [0, x_] zy_tu139) ba) n ba.toNat, zy_to (zy_pd_b b (zx_ev (zx_G 139) [la, ly, st, el, pl, ne, n0, b0] [n, b] [th, len, sz, ba, bo, li] (k : Int) [0, x_] zy_tu139)) b ba.toNat]) := by
  have hs := zy_dc_sto (cl := zx_G 139) (R := [la, ly, st, el, pl, ne, n0, b0]) (n := n) (b := b) (P := [th, len, sz, ba, bo, li]) (S := [0, x_]) (k := (k : Int)) (la := 0) (ly := 1) (st := 2) (th := 0) (ln := 1) (ba := 3) (on := zy_on139) (tu := zy_tu139) (von := (zx_ev (zx_G 139) [la, ly, st, el, pl, ne, n0, b0] [n, b] [th, len, sz, ba, bo, li] (k : Int) [0, x_] zy_on139)) (vtu := (zx_ev (zx_G 139) [la, ly, st, el, pl, ne, n0, b0] [n, b] [th, len, sz, ba, bo, li] (k : Int) [0, x_] zy_tu139)) (fun _ => rfl) (fun _ => rfl) h0 h5
  rw [zy_turn h, show (zx_dn 139).2.2.2.2 = zy_dc 0 1 2 0 1 3 zy_on139 zy_tu139 from rfl, hs]
  rfl
def zk_dy139 (N : zk_N) (g h : zk_G) : List zk_G := match zk_as 90 g, zk_as 90 h with
  | some ([la, ly, st, el, pl, ne, n0, b0, nn, bb], [i_, k, th, len, sz, ba, bo, li, d_, x_]), some ([la2, ly2, st2, nn2, bb2, n2, b2], [j_, _, th2, ln2, da, tu2, ba2, e2]) => match zk_eqi (zk_fci N i_) 139 && zk_eqi (zk_fci N j_) 100 && zk_eqE N d_ (zk_c 0) && zk_nz N e2 && zk_eqNs [la, ly, st, nn, bb] [la2, ly2, st2, nn2, bb2] && zk_eqEs N [th, len, k, ba] [th2, ln2, da, ba2] && zk_n2 N k && zk_n2 N ba && zk_n2 N (zk_vsub (zk_c 5) ba) && Nat.beq (zk_b3 N (zk_sev N 139 [la, ly, st, el, pl, ne, n0, b0] [nn, bb] [th, len, sz, ba, bo, li] k [d_, x_] zy_on139)) 1, zk_sev N 139 [la, ly, st, el, pl, ne, n0, b0] [nn, bb] [th, len, sz, ba, bo, li] k [d_, x_] zy_tu139, zk_sevs N 139 [la, ly, st, el, pl, ne, n0, b0] [nn, bb] [th, len, sz, ba, bo, li] k [d_, x_] (zx_dn 139).2.2.2.1 with
    | true, some t, some w => match zk_eqE N t tu2 with
      | true => [(90, [la, ly, st, el, pl, ne, n0, b0, n2, b2], i_ :: zk_vadd k (zk_c 1) :: th :: len :: sz :: ba :: bo :: li :: w)]
      | false => []
    | _, _, _ => []
  | _, _ => []
theorem zk_dy139_ok {E : zk_E} {N : zk_N} (hN : zk_ok E N) (hc : zk_cl N) {g h : zk_G} (hg : g ∈ N.2.2.2) (hh : h ∈ N.2.2.2) : ∀ y ∈ zk_dy139 N g h, zk_tru E N.1 y := by
  have ht := zk_tru_of hN hc g hg
  have ht2 := zk_tru_of hN hc h hh
  intro y hy
  unfold zk_dy139 at hy
  split at hy
  · rename_i la ly st el pl ne n0 b0 nn bb i_ k th len sz ba bo li d_ x_ la2 ly2 st2 nn2 bb2 n2 b2 j_ K2 th2 ln2 da tu2 ba2  e2 hu hu2
    have e := zk_as_of hu
    have e' := zk_as_of hu2
    subst e e'
    split at hy
    · rename_i t w c htu hw
      split at hy
      · rename_i ct
        simp only [Bool.and_eq_true] at c
        obtain ⟨⟨⟨⟨⟨⟨⟨⟨⟨c1, c2⟩, c3⟩, c4⟩, c5⟩, c6⟩, c7⟩, c8⟩, c9⟩, c10⟩ := c
        have c1 := zk_fci_of (n := 139) hN c1
        have c3 := zk_eqE_of hN c3
        have c4 := zk_nz_ok hN c4
        have c5 := zk_eqNs_of c5
        have c6 := zk_eqEs_of hN c6
        have c7 := zk_n2_ok hN c7
        have c8 := zk_n2_ok hN c8
        have c9 := zk_n2_ok hN c9
        have ct := zk_eqE_of hN ct
        have hb3 := (zk_b3_of hN (z := zx_ev (zx_G 139) ([la, ly, st, el, pl, ne, n0, b0].map E.2) ([nn, bb].map E.2) ([th, len, sz, ba, bo, li].map (zk_i E)) (zk_i E k) ([d_, x_].map (zk_i E)) zy_on139) (fun v hv => zk_sev_of hN hv)).2 (Nat.eq_of_beq_eq_true c10)
        have htu' := zk_sev_of hN htu
        have hw' := zk_sevs_of hN hw
        rw [zk_c_i] at c3
        rw [zk_vsub_i, zk_c_i] at c9
        injection c5 with p1 c5
        injection c5 with p2 c5
        injection c5 with p3 c5
        injection c5 with p4 c5
        injection c5 with p5 c5
        subst p1 p2 p3 p4 p5
        simp only [List.map_cons, List.map_nil] at c6 hb3 htu' hw'
        injection c6 with q1 c6
        injection c6 with q2 c6
        injection c6 with q3 c6
        injection c6 with q4 c6
        obtain ⟨k3, k4⟩ := zk_pdF hN ht2 c2 c4 (by rw [← q4]; exact c8)
        rw [← q1, ← q2, ← q3, ← q4, ← ct] at k3
        rw [← q4, ← ct] at k4
        obtain ⟨t1, t2, t3⟩ := ht
        obtain ⟨-, g2, -⟩ := ht2
        simp only [List.map_cons, List.map_nil, zq_6, zq_7, zq_8, zq_9, zq_20, zq_21, zq_22, zq_25, zq_26, zq_28, zq_30, zq_40, zq_51, zq_52, zq_53, zq_54, zq_55, zq_64, zq_65, zq_68, zq_72, zq_73, zq_85, zq_74, zq_75, zq_76, zq_71, zq_86, zq_87, zq_80, zq_41, zq_42, zq_43, zq_94, zq_95, zq_47, zq_48, zq_96, zq_97, zq_88, zq_89, zq_90, zq_93, zq_61, zq_62, zq_1, zq_2, zq_3, zq_4, zq_5, zq_46, zq_44, zx_90] at t1
        rw [c1] at t1
        obtain ⟨-, -, tF⟩ := t1
        have tF : zx_F 139 [E.2 la, E.2 ly, E.2 st, E.2 el, E.2 pl, E.2 ne, E.2 n0, E.2 b0] [zk_i E th, zk_i E len, zk_i E sz, zk_i E ba, zk_i E bo, zk_i E li] (zk_i E k).toNat = ([zk_i E d_, zk_i E x_], [E.2 nn, E.2 bb]) := tF
        rw [c3] at tF hb3 htu' hw'
        have ek : (((zk_i E k).toNat : Nat) : Int) = zk_i E k := Int.toNat_of_nonneg c7
        have r3 := zy_e139 c8 (by omega) tF
        rw [ek, if_neg hb3, ← htu', ← k3, ← k4, ← hw'] at r3
        rw [List.mem_singleton.mp hy]
        refine ⟨?_, fun a ha => ?_, fun u hu => ?_⟩
        · simp only [List.map_cons, List.map_nil, zq_6, zq_7, zq_8, zq_9, zq_20, zq_21, zq_22, zq_25, zq_26, zq_28, zq_30, zq_40, zq_51, zq_52, zq_53, zq_54, zq_55, zq_64, zq_65, zq_68, zq_72, zq_73, zq_85, zq_74, zq_75, zq_76, zq_71, zq_86, zq_87, zq_80, zq_41, zq_42, zq_43, zq_94, zq_95, zq_47, zq_48, zq_96, zq_97, zq_88, zq_89, zq_90, zq_93, zq_61, zq_62, zq_1, zq_2, zq_3, zq_4, zq_5, zq_46, zq_44, zx_90]
          rw [c1, zk_vadd_i, zk_c_i]
          refine ⟨by decide, by omega, ?_⟩
          rw [show (zk_i E k + 1).toNat = (zk_i E k).toNat + 1 by omega]
          exact r3
        · simp only [List.mem_cons, List.not_mem_nil, or_false] at ha
          rcases ha with rfl | rfl | rfl | rfl | rfl | rfl | rfl | rfl | rfl | rfl
          · exact t2 _ (by simp)
          · exact t2 _ (by simp)
          · exact t2 _ (by simp)
          · exact t2 _ (by simp)
          · exact t2 _ (by simp)
          · exact t2 _ (by simp)
          · exact t2 _ (by simp)
          · exact t2 _ (by simp)
          · exact g2 _ (by simp)
          · exact g2 _ (by simp)
        · rcases List.mem_cons.mp hu with rfl | hu
          · exact t3 _ (by simp)
          rcases List.mem_cons.mp hu with rfl | hu
          · exact zk_vadd_sv (t3 _ (by simp)) zk_c_sv
          rcases List.mem_cons.mp hu with rfl | hu
          · exact t3 _ (by simp)
          rcases List.mem_cons.mp hu with rfl | hu
          · exact t3 _ (by simp)
          rcases List.mem_cons.mp hu with rfl | hu
          · exact t3 _ (by simp)
          rcases List.mem_cons.mp hu with rfl | hu
          · exact t3 _ (by simp)
          rcases List.mem_cons.mp hu with rfl | hu
          · exact t3 _ (by simp)
          rcases List.mem_cons.mp hu with rfl | hu
          · exact t3 _ (by simp)
          exact zk_sevs_sv hc (fun v hv => t3 _ (by simp only [List.mem_cons, List.not_mem_nil, or_false] at hv ⊢; rcases hv with rfl | rfl | rfl | rfl | rfl | rfl <;> first | exact Or.inr (Or.inr (Or.inl rfl)) | exact Or.inr (Or.inr (Or.inr (Or.inl rfl))) | exact Or.inr (Or.inr (Or.inr (Or.inr (Or.inl rfl)))) | exact Or.inr (Or.inr (Or.inr (Or.inr (Or.inr (Or.inl rfl))))) | exact Or.inr (Or.inr (Or.inr (Or.inr (Or.inr (Or.inr (Or.inl rfl)))))) | exact Or.inr (Or.inr (Or.inr (Or.inr (Or.inr (Or.inr (Or.inr (Or.inl rfl))))))))) (fun v hv => t3 _ (by simp only [List.mem_cons, List.not_mem_nil, or_false] at hv ⊢; rcases hv with rfl | rfl <;> first | exact Or.inr (Or.inr (Or.inr (Or.inr (Or.inr (Or.inr (Or.inr (Or.inr (Or.inl rfl)))))))) | exact Or.inr (Or.inr (Or.inr (Or.inr (Or.inr (Or.inr (Or.inr (Or.inr (Or.inr (rfl))))))))))) (t3 _ (by simp)) hw u hu
      · cases hy
    · cases hy
  · cases hy
def zk_rdy139 : zk_Rl := zk_nr fun N => some (zk_addGs N ((zk_kd 90 N).flatMap fun p => (zk_kd 90 N).flatMap (zk_dy139 N p)))
theorem zk_rdy139_ok : zk_Rok zk_rdy139 := zk_nr_ok fun E n => zk_add_gd (f := fun N => (zk_kd 90 N).flatMap fun p => (zk_kd 90 N).flatMap (zk_dy139 N p)) fun N hN hc hn x hx => by
  obtain ⟨y, hy1, hy2⟩ := List.mem_flatMap.mp hx
  obtain ⟨w, hw1, hw2⟩ := List.mem_flatMap.mp hy2
  rw [← hn]
  exact zk_dy139_ok hN hc (zk_kd_m hy1) (zk_kd_m hw1) x hw2
def zy_on140 : List zx_I := [(2, 0, []), (0, 1, []), (5, 0, []), (1, 2, []), (4, 4, []), (9, 0, []), (1, 5, []), (1, 6, []), (0, 0, []), (0, 0, []), (0, 9, []), (14, 99, [2, 1, 1, 100, 101, 5]), (1, 3, []), (2, 0, []), (5, 0, []), (4, 3, []), (0, 0, []), (8, 4, []), (0, 255, []), (8, 84, []), (10, 0, []), (11, 0, [])]
def zy_tu140 : List zx_I := [(0, (-1), [])]
theorem zy_e140 {k : Nat} {la : zx_Rw} {be : zx_Rw} {st : zx_Rw} {el : zx_Rw} {szr : zx_Rw} {ne : zx_Rw} {n0 : zx_Rw} {b0 : zx_Rw} {n : zx_Rw} {b : zx_Rw} {th : Int} {len : Int} {sh : Int} {off : Int} {ba : Int} {bo : Int} {li : Int} {x_ : Int} (h0 : 0 ≤ ba) (h5 : ba ≤ 5) (h : zx_F 140 [la, be, st, el, szr, ne, n0, b0] [th, len, sh, off, ba, bo, li] k = ([0, x_], [n, b])) : zx_F 140 [la, be, st, el, szr, ne, n0, b0] [th, len, sh, off, ba, bo, li] (k + 1) = ((zx_dn 140).2.2.2.1.map (zx_ev (zx_G 140) [la, be, st, el, szr, ne, n0, b0] [n, b] [th, len, sh, off, ba, bo, li] (k : Int) [0, x_]), if (zx_ev (zx_G 140) [la, be, st, el, szr, ne, n0, b0] [n, b] [th, len, sh, off, ba, bo, li] (k : Int) [0, x_] zy_on140) = 0 then [n, b] else [zy_to (zy_pr_n la be st n b th len (k : Int) (zx_ev (zx_G 140) [la, be, st, el, szr, ne, n0, b0] [n, b] [th, len, sh, off, ba, bo, li] (k : Int) [0, x_] zy_tu140) ba bo) n ba.toNat, zy_to (zy_pr_b b (zx_ev (zx_G 140) [la, be, st, el, szr, ne, n0, b0] [n, b] [th, len, sh, off, ba, bo, li] (k : Int) [0, x_] zy_tu140)) b ba.toNat]) := by
  have hs := zy_dr_sto (cl := zx_G 140) (R := [la, be, st, el, szr, ne, n0, b0]) (n := n) (b := b) (P := [th, len, sh, off, ba, bo, li]) (S := [0, x_]) (k := (k : Int)) (la := 0) (ly := 1) (st := 2) (th := 0) (ln := 1) (ba := 4) (bo := 5) (on := zy_on140) (tu := zy_tu140) (von := (zx_ev (zx_G 140) [la, be, st, el, szr, ne, n0, b0] [n, b] [th, len, sh, off, ba, bo, li] (k : Int) [0, x_] zy_on140)) (vtu := (zx_ev (zx_G 140) [la, be, st, el, szr, ne, n0, b0] [n, b] [th, len, sh, off, ba, bo, li] (k : Int) [0, x_] zy_tu140)) (fun _ => rfl) (fun _ => rfl) h0 h5
  rw [zy_turn h, show (zx_dn 140).2.2.2.2 = zy_dr 0 1 2 0 1 4 5 zy_on140 zy_tu140 from rfl, hs]
  rfl
def zk_dy140 (N : zk_N) (g h : zk_G) : List zk_G := match zk_as 90 g, zk_as 90 h with
  | some ([la, be, st, el, szr, ne, n0, b0, nn, bb], [i_, k, th, len, sh, off, ba, bo, li, d_, x_]), some ([la2, ly2, st2, nn2, bb2, n2, b2], [j_, _, th2, ln2, da, tu2, ba2, bo2, e2]) => match zk_eqi (zk_fci N i_) 140 && zk_eqi (zk_fci N j_) 101 && zk_eqE N d_ (zk_c 0) && zk_nz N e2 && zk_eqNs [la, be, st, nn, bb] [la2, ly2, st2, nn2, bb2] && zk_eqEs N [th, len, k, ba, bo] [th2, ln2, da, ba2, bo2] && zk_n2 N k && zk_n2 N ba && zk_n2 N (zk_vsub (zk_c 5) ba) && Nat.beq (zk_b3 N (zk_sev N 140 [la, be, st, el, szr, ne, n0, b0] [nn, bb] [th, len, sh, off, ba, bo, li] k [d_, x_] zy_on140)) 1, zk_sev N 140 [la, be, st, el, szr, ne, n0, b0] [nn, bb] [th, len, sh, off, ba, bo, li] k [d_, x_] zy_tu140, zk_sevs N 140 [la, be, st, el, szr, ne, n0, b0] [nn, bb] [th, len, sh, off, ba, bo, li] k [d_, x_] (zx_dn 140).2.2.2.1 with
    | true, some t, some w => match zk_eqE N t tu2 with
      | true => [(90, [la, be, st, el, szr, ne, n0, b0, n2, b2], i_ :: zk_vadd k (zk_c 1) :: th :: len :: sh :: off :: ba :: bo :: li :: w)]
      | false => []
    | _, _, _ => []
  | _, _ => []
theorem zk_dy140_ok {E : zk_E} {N : zk_N} (hN : zk_ok E N) (hc : zk_cl N) {g h : zk_G} (hg : g ∈ N.2.2.2) (hh : h ∈ N.2.2.2) : ∀ y ∈ zk_dy140 N g h, zk_tru E N.1 y := by
  have ht := zk_tru_of hN hc g hg
  have ht2 := zk_tru_of hN hc h hh
  intro y hy
  unfold zk_dy140 at hy
  split at hy
  · rename_i la be st el szr ne n0 b0 nn bb i_ k th len sh off ba bo li d_ x_ la2 ly2 st2 nn2 bb2 n2 b2 j_ K2 th2 ln2 da tu2 ba2 bo2 e2 hu hu2
    have e := zk_as_of hu
    have e' := zk_as_of hu2
    subst e e'
    split at hy
    · rename_i t w c htu hw
      split at hy
      · rename_i ct
        simp only [Bool.and_eq_true] at c
        obtain ⟨⟨⟨⟨⟨⟨⟨⟨⟨c1, c2⟩, c3⟩, c4⟩, c5⟩, c6⟩, c7⟩, c8⟩, c9⟩, c10⟩ := c
        have c1 := zk_fci_of (n := 140) hN c1
        have c3 := zk_eqE_of hN c3
        have c4 := zk_nz_ok hN c4
        have c5 := zk_eqNs_of c5
        have c6 := zk_eqEs_of hN c6
        have c7 := zk_n2_ok hN c7
        have c8 := zk_n2_ok hN c8
        have c9 := zk_n2_ok hN c9
        have ct := zk_eqE_of hN ct
        have hb3 := (zk_b3_of hN (z := zx_ev (zx_G 140) ([la, be, st, el, szr, ne, n0, b0].map E.2) ([nn, bb].map E.2) ([th, len, sh, off, ba, bo, li].map (zk_i E)) (zk_i E k) ([d_, x_].map (zk_i E)) zy_on140) (fun v hv => zk_sev_of hN hv)).2 (Nat.eq_of_beq_eq_true c10)
        have htu' := zk_sev_of hN htu
        have hw' := zk_sevs_of hN hw
        rw [zk_c_i] at c3
        rw [zk_vsub_i, zk_c_i] at c9
        injection c5 with p1 c5
        injection c5 with p2 c5
        injection c5 with p3 c5
        injection c5 with p4 c5
        injection c5 with p5 c5
        subst p1 p2 p3 p4 p5
        simp only [List.map_cons, List.map_nil] at c6 hb3 htu' hw'
        injection c6 with q1 c6
        injection c6 with q2 c6
        injection c6 with q3 c6
        injection c6 with q4 c6
        injection c6 with q5 c6
        obtain ⟨k3, k4⟩ := zk_prF hN ht2 c2 c4 (by rw [← q4]; exact c8)
        rw [← q1, ← q2, ← q3, ← q4, ← q5, ← ct] at k3
        rw [← q4, ← ct] at k4
        obtain ⟨t1, t2, t3⟩ := ht
        obtain ⟨-, g2, -⟩ := ht2
        simp only [List.map_cons, List.map_nil, zq_6, zq_7, zq_8, zq_9, zq_20, zq_21, zq_22, zq_25, zq_26, zq_28, zq_30, zq_40, zq_51, zq_52, zq_53, zq_54, zq_55, zq_64, zq_65, zq_68, zq_72, zq_73, zq_85, zq_74, zq_75, zq_76, zq_71, zq_86, zq_87, zq_80, zq_41, zq_42, zq_43, zq_94, zq_95, zq_47, zq_48, zq_96, zq_97, zq_88, zq_89, zq_90, zq_93, zq_61, zq_62, zq_1, zq_2, zq_3, zq_4, zq_5, zq_46, zq_44, zx_90] at t1
        rw [c1] at t1
        obtain ⟨-, -, tF⟩ := t1
        have tF : zx_F 140 [E.2 la, E.2 be, E.2 st, E.2 el, E.2 szr, E.2 ne, E.2 n0, E.2 b0] [zk_i E th, zk_i E len, zk_i E sh, zk_i E off, zk_i E ba, zk_i E bo, zk_i E li] (zk_i E k).toNat = ([zk_i E d_, zk_i E x_], [E.2 nn, E.2 bb]) := tF
        rw [c3] at tF hb3 htu' hw'
        have ek : (((zk_i E k).toNat : Nat) : Int) = zk_i E k := Int.toNat_of_nonneg c7
        have r3 := zy_e140 c8 (by omega) tF
        rw [ek, if_neg hb3, ← htu', ← k3, ← k4, ← hw'] at r3
        rw [List.mem_singleton.mp hy]
        refine ⟨?_, fun a ha => ?_, fun u hu => ?_⟩
        · simp only [List.map_cons, List.map_nil, zq_6, zq_7, zq_8, zq_9, zq_20, zq_21, zq_22, zq_25, zq_26, zq_28, zq_30, zq_40, zq_51, zq_52, zq_53, zq_54, zq_55, zq_64, zq_65, zq_68, zq_72, zq_73, zq_85, zq_74, zq_75, zq_76, zq_71, zq_86, zq_87, zq_80, zq_41, zq_42, zq_43, zq_94, zq_95, zq_47, zq_48, zq_96, zq_97, zq_88, zq_89, zq_90, zq_93, zq_61, zq_62, zq_1, zq_2, zq_3, zq_4, zq_5, zq_46, zq_44, zx_90]
          rw [c1, zk_vadd_i, zk_c_i]
          refine ⟨by decide, by omega, ?_⟩
          rw [show (zk_i E k + 1).toNat = (zk_i E k).toNat + 1 by omega]
          exact r3
        · simp only [List.mem_cons, List.not_mem_nil, or_false] at ha
          rcases ha with rfl | rfl | rfl | rfl | rfl | rfl | rfl | rfl | rfl | rfl
          · exact t2 _ (by simp)
          · exact t2 _ (by simp)
          · exact t2 _ (by simp)
          · exact t2 _ (by simp)
          · exact t2 _ (by simp)
          · exact t2 _ (by simp)
          · exact t2 _ (by simp)
          · exact t2 _ (by simp)
          · exact g2 _ (by simp)
          · exact g2 _ (by simp)
        · rcases List.mem_cons.mp hu with rfl | hu
          · exact t3 _ (by simp)
          rcases List.mem_cons.mp hu with rfl | hu
          · exact zk_vadd_sv (t3 _ (by simp)) zk_c_sv
          rcases List.mem_cons.mp hu with rfl | hu
          · exact t3 _ (by simp)
          rcases List.mem_cons.mp hu with rfl | hu
          · exact t3 _ (by simp)
          rcases List.mem_cons.mp hu with rfl | hu
          · exact t3 _ (by simp)
          rcases List.mem_cons.mp hu with rfl | hu
          · exact t3 _ (by simp)
          rcases List.mem_cons.mp hu with rfl | hu
          · exact t3 _ (by simp)
          rcases List.mem_cons.mp hu with rfl | hu
          · exact t3 _ (by simp)
          rcases List.mem_cons.mp hu with rfl | hu
          · exact t3 _ (by simp)
          exact zk_sevs_sv hc (fun v hv => t3 _ (by simp only [List.mem_cons, List.not_mem_nil, or_false] at hv ⊢; rcases hv with rfl | rfl | rfl | rfl | rfl | rfl | rfl <;> first | exact Or.inr (Or.inr (Or.inl rfl)) | exact Or.inr (Or.inr (Or.inr (Or.inl rfl))) | exact Or.inr (Or.inr (Or.inr (Or.inr (Or.inl rfl)))) | exact Or.inr (Or.inr (Or.inr (Or.inr (Or.inr (Or.inl rfl))))) | exact Or.inr (Or.inr (Or.inr (Or.inr (Or.inr (Or.inr (Or.inl rfl)))))) | exact Or.inr (Or.inr (Or.inr (Or.inr (Or.inr (Or.inr (Or.inr (Or.inl rfl))))))) | exact Or.inr (Or.inr (Or.inr (Or.inr (Or.inr (Or.inr (Or.inr (Or.inr (Or.inl rfl)))))))))) (fun v hv => t3 _ (by simp only [List.mem_cons, List.not_mem_nil, or_false] at hv ⊢; rcases hv with rfl | rfl <;> first | exact Or.inr (Or.inr (Or.inr (Or.inr (Or.inr (Or.inr (Or.inr (Or.inr (Or.inr (Or.inl rfl))))))))) | exact Or.inr (Or.inr (Or.inr (Or.inr (Or.inr (Or.inr (Or.inr (Or.inr (Or.inr (Or.inr (rfl)))))))))))) (t3 _ (by simp)) hw u hu
      · cases hy
    · cases hy
  · cases hy
def zk_rdy140 : zk_Rl := zk_nr fun N => some (zk_addGs N ((zk_kd 90 N).flatMap fun p => (zk_kd 90 N).flatMap (zk_dy140 N p)))
theorem zk_rdy140_ok : zk_Rok zk_rdy140 := zk_nr_ok fun E n => zk_add_gd (f := fun N => (zk_kd 90 N).flatMap fun p => (zk_kd 90 N).flatMap (zk_dy140 N p)) fun N hN hc hn x hx => by
  obtain ⟨y, hy1, hy2⟩ := List.mem_flatMap.mp hx
  obtain ⟨w, hw1, hw2⟩ := List.mem_flatMap.mp hy2
  rw [← hn]
  exact zk_dy140_ok hN hc (zk_kd_m hy1) (zk_kd_m hw1) x hw2
theorem zy_ju {la ly st el pl ne la2 be X szr ne2 nz bz nz2 bz2 : zx_Rw} {th len sz sh off ba bo li : Int} (h0 : 0 ≤ ba) (h5 : ba ≤ 5) (hl : ∀ j : Nat, (j : Int) < ba → la j = la2 j) (hy : ∀ j : Nat, (j : Int) < ba → ly j = (zx_cn be j bo.toNat : Int)) (hn : ∀ j : Nat, (j : Int) < ba → nz j = nz2 j) (hb : ∀ j : Nat, (j : Int) < ba → bz j = bz2 j) (hp : ∀ j : Nat, (j : Int) < bo → pl j = be j ∧ ne j = ne2 j ∧ pl j < ba) (hs : szr sh.toNat = sz) (hz : sz ≤ 60) (ho : 0 ≤ off) (he : ∀ j : Nat, j < 60 → X (off.toNat + j) = el j) : ∀ K : Nat, ∃ d x y n b n2 b2, zx_F 139 [la, ly, st, el, pl, ne, nz, bz] [th, len, sz, ba, bo, li] K = ([d, x], [n, b]) ∧ zx_F 140 [la2, be, st, X, szr, ne2, nz2, bz2] [th, len, sh, off, ba, bo, li] K = ([d, y], [n2, b2]) ∧ (∀ j : Nat, (j : Int) < ba → n j = n2 j) ∧ (∀ j : Nat, (j : Int) < ba → b j = b2 j) ∧ ((x = -1 ∧ y = -2) ∨ (x = y ∧ 0 ≤ x))
  | 0 => ⟨0, -1, -2, nz, bz, nz2, bz2, zy_jc_0, zy_jr_0, hn, hb, Or.inl ⟨rfl, rfl⟩⟩
  | K + 1 => by
    obtain ⟨d, x, y, n, b, n2, b2, e1, e2, g1, g2, g3⟩ := zy_ju (st := st) (th := th) (len := len) (li := li) h0 h5 hl hy hn hb hp hs hz ho he K
    have q1 : ∀ P k, zx_G 139 98 [pl, n, b, ly, ne] P k = zx_F 98 [pl, n, b, ly, ne] P k := fun P k => zx_G_F (by decide) _ _ _
    have q2 : ∀ P k, zx_G 140 99 [be, n2, b2, ne2] P k = zx_F 99 [be, n2, b2, ne2] P k := fun P k => zx_G_F (by decide) _ _ _
    have hsl : (zx_F 98 [pl, n, b, ly, ne] [bo, li, ba] 9).1.getD 1 0 = (zx_F 99 [be, n2, b2, ne2] [bo, li] 9).1.getD 1 0 := by
      obtain ⟨d', w, k1, k2⟩ := zy_sl (pl := pl) (ni := n) (bl := b) (ly := ly) (ne := ne) (be := be) (ni2 := n2) (bl2 := b2) (ne2 := ne2) (bo := bo) (li := li) (ba := ba) hp (fun j hj => ⟨g1 j hj, g2 j hj, hy j hj⟩) 9
      rw [k1, k2]
    by_cases hd : d = 0
    · subst hd
      have f1 := zy_jc_s h0 h5 e1
      have f2 := zy_jr_s h0 h5 e2
      simp only [q1, q2, hs, zy_if, zy_if0, zy_ne, zy_ne0] at f1 f2
      rw [hsl] at f1
      generalize (zx_F 99 [be, n2, b2, ne2] [bo, li] 9).1.getD 1 0 = w at f1 f2
      by_cases hk : (K : Int) + 1 ≤ sz
      · have hx : X (off + (K : Int)).toNat = el ((K : Int)).toNat := by
          rw [show (off + (K : Int)).toNat = off.toNat + K by omega, he K (by omega), Int.toNat_natCast]
        rw [hx] at f2
        generalize zx_op 84 (zx_op 4 (el ((K : Int)).toNat) 0) 255 = v at f1 f2
        by_cases hw : w = v
        · simp only [hk, hw, not_true, and_true, and_false, if_true, if_false] at f1 f2
          refine ⟨_, _, _, _, _, _, _, f1, f2, fun j hj => ?_, fun j hj => ?_, g3⟩
          · rw [zy_to_lt (by omega), zy_to_lt (by omega)]
            unfold zy_pd_n zy_pr_n
            rw [hl j hj, hy j hj, g1 j hj, g2 j hj]
          · rw [zy_to_lt (by omega), zy_to_lt (by omega)]
            unfold zy_pd_b zy_pr_b
            rw [g2 j hj]
        · simp only [hk, hw, not_false_iff, and_true, and_false, if_true, if_false] at f1 f2
          exact ⟨_, _, _, _, _, _, _, f1, f2, g1, g2, Or.inr ⟨rfl, by omega⟩⟩
      · simp only [hk, false_and, if_false] at f1 f2
        exact ⟨_, _, _, _, _, _, _, f1, f2, g1, g2, g3⟩
    · exact ⟨d, x, y, n, b, n2, b2, zy_stay e1 hd, zy_stay e2 hd, g1, g2, g3⟩
theorem zy_juE {la ly st el pl ne la2 be X szr ne2 nz bz nz2 bz2 n b n2 b2 : zx_Rw} {th len sz sh off ba bo li d x d2 y : Int} {K K2 : Nat} (h0 : 0 ≤ ba) (h5 : ba ≤ 5) (hl : ∀ j : Nat, (j : Int) < ba → la j = la2 j) (hy : ∀ j : Nat, (j : Int) < ba → ly j = (zx_cn be j bo.toNat : Int)) (hn : ∀ j : Nat, (j : Int) < ba → nz j = nz2 j) (hb : ∀ j : Nat, (j : Int) < ba → bz j = bz2 j) (hp : ∀ j : Nat, (j : Int) < bo → pl j = be j ∧ ne j = ne2 j ∧ pl j < ba) (hs : szr sh.toNat = sz) (hz : sz ≤ 60) (ho : 0 ≤ off) (he : ∀ j : Nat, j < 60 → X (off.toNat + j) = el j) (e1 : zx_F 139 [la, ly, st, el, pl, ne, nz, bz] [th, len, sz, ba, bo, li] K = ([d, x], [n, b])) (hd : d ≠ 0) (e2 : zx_F 140 [la2, be, st, X, szr, ne2, nz2, bz2] [th, len, sh, off, ba, bo, li] K2 = ([d2, y], [n2, b2])) (hd2 : d2 ≠ 0) : (x = -1 ∧ y = -2) ∨ (x = y ∧ 0 ≤ x) := by
  obtain ⟨d', x', y', m1, m2, m3, m4, f1, f2, -, -, g⟩ := zy_ju (st := st) (th := th) (len := len) (li := li) h0 h5 hl hy hn hb hp hs hz ho he (max K K2)
  rw [zx_F_max e1 hd (Nat.le_max_left K K2)] at f1
  rw [zx_F_max e2 hd2 (Nat.le_max_right K K2)] at f2
  have a1 : x = x' := congrArg (fun p => p.1.getD 1 0) f1
  have a2 : y = y' := congrArg (fun p => p.1.getD 1 0) f2
  rw [a1, a2]
  exact g
def zk_ju2 (g h : zk_G) (N : zk_N) : Option zk_N := match zk_as 90 g, zk_as 90 h with
  | some ([la, ly, st, el, pl, ne, n0, b0, nn, bb], [i, _, th, ln, sz, ba, bo, lm, d, x]), some ([la2, be, st2, X, szr, ne2, m0, c0, mm, cc], [i2, _, th2, ln2, sh, off, ba2, bo2, lm2, d2, y]) => match zk_eqi (zk_fci N i) 139 && zk_eqi (zk_fci N i2) 140 && zk_nz N d && zk_nz N d2 && Nat.beq st st2 && zk_eqEs N [th, ln, ba, bo, lm] [th2, ln2, ba2, bo2, lm2] && zk_n2 N ba && zk_n2 N (zk_vsub (zk_c 5) ba) && zk_sf N el X szr sz sh off && zk_h41 N be bo ba && ((zk_cp5 N ly).any fun w => zk_h43 N w be bo ba) && zk_pp N ba 3 la la2 && zk_pp N ba 4 n0 m0 && zk_pp N ba 4 b0 c0 && zk_pp N bo 2 pl be && zk_pp N bo 2 ne ne2 with
    | true => match zk_n2 N x with
      | true => zk_eqs N (zk_vsub x y)
      | false => match zk_eqE N x (zk_c (-1)) with
        | true => zk_eqs N (zk_vsub y (zk_c (-2)))
        | false => some N
    | false => some N
  | _, _ => some N
theorem zk_ju2_gd {E : zk_E} {n : Nat} {g h : zk_G} (hg : zk_tru E n g) (hh : zk_tru E n h) : zk_gd E n (zk_ju2 g h) := by
  intro N hN hc hn
  unfold zk_ju2
  split
  · rename_i la ly st el pl ne n0 b0 nn bb i K th ln sz ba bo lm d x la2 be st2 X szr ne2 m0 c0 mm cc i2 K2 th2 ln2 sh off ba2 bo2 lm2 d2 y hu hu2
    have e := zk_as_of hu
    have e2 := zk_as_of hu2
    subst e e2
    obtain ⟨t1, t2, t3⟩ := hg
    obtain ⟨g1, g2, g3⟩ := hh
    split
    · rename_i c
      simp only [Bool.and_eq_true] at c
      obtain ⟨⟨⟨⟨⟨⟨⟨⟨⟨⟨⟨⟨⟨⟨⟨c1, c2⟩, c3⟩, c4⟩, c5⟩, c6⟩, c7⟩, c8⟩, c9⟩, ch⟩, c10⟩, c11⟩, c12⟩, c13⟩, c14⟩, c15⟩ := c
      have c1 := zk_fci_of (n := 139) hN c1
      have c2 := zk_fci_of (n := 140) hN c2
      have c3 := zk_nz_ok hN c3
      have c4 := zk_nz_ok hN c4
      have c5 := Nat.eq_of_beq_eq_true c5
      have c6 := zk_eqEs_of hN c6
      have c7 := zk_n2_ok hN c7
      have c8 := zk_n2_ok hN c8
      rw [zk_vsub_i, zk_c_i] at c8
      obtain ⟨s1, s2, s3, s4⟩ := zk_sf_of hN hc c9
      have ch := zk_h41_of hN hc ch
      obtain ⟨w, hw, c10⟩ := List.any_eq_true.mp c10
      have hcp := zk_cp5_of hN hc hw
      have c10 := zk_h43_of hN hc c10
      have c11 := zk_pp_of hN hc c11
      have c12 := zk_pp_of hN hc c12
      have c13 := zk_pp_of hN hc c13
      have c14 := zk_pp_of hN hc c14
      have c15 := zk_pp_of hN hc c15
      simp only [List.map_cons, List.map_nil] at c6
      injection c6 with q1 c6
      injection c6 with q2 c6
      injection c6 with q3 c6
      injection c6 with q4 c6
      injection c6 with q5 c6
      simp only [List.map_cons, List.map_nil, zq_6, zq_7, zq_8, zq_9, zq_20, zq_21, zq_22, zq_25, zq_26, zq_28, zq_30, zq_40, zq_51, zq_52, zq_53, zq_54, zq_55, zq_64, zq_65, zq_68, zq_72, zq_73, zq_85, zq_74, zq_75, zq_76, zq_71, zq_86, zq_87, zq_80, zq_41, zq_42, zq_43, zq_94, zq_95, zq_47, zq_48, zq_96, zq_97, zq_88, zq_89, zq_90, zq_93, zq_61, zq_62, zq_1, zq_2, zq_3, zq_4, zq_5, zq_46, zq_44, zx_90] at t1 g1
      rw [c1] at t1
      rw [c2] at g1
      obtain ⟨-, -, tF⟩ := t1
      obtain ⟨-, -, gF⟩ := g1
      have tF : zx_F 139 [E.2 la, E.2 ly, E.2 st, E.2 el, E.2 pl, E.2 ne, E.2 n0, E.2 b0] [zk_i E th, zk_i E ln, zk_i E sz, zk_i E ba, zk_i E bo, zk_i E lm] (zk_i E K).toNat = ([zk_i E d, zk_i E x], [E.2 nn, E.2 bb]) := tF
      have gF : zx_F 140 [E.2 la2, E.2 be, E.2 st2, E.2 X, E.2 szr, E.2 ne2, E.2 m0, E.2 c0] [zk_i E th2, zk_i E ln2, zk_i E sh, zk_i E off, zk_i E ba2, zk_i E bo2, zk_i E lm2] (zk_i E K2).toNat = ([zk_i E d2, zk_i E y], [E.2 mm, E.2 cc]) := gF
      rw [← q1, ← q2, ← q3, ← q4, ← q5, ← c5] at gF
      have r := zy_juE c7 (by omega) c11 (fun j hj => by rw [hcp j (by omega), c10 j (by omega), if_pos hj]) c12 c13 (fun j hj => ⟨c14 j hj, c15 j hj, by rw [c14 j hj]; exact ch j hj⟩) s1 s2 s3 s4 tF c3 gF c4
      split
      · rename_i hx
        have hx := zk_n2_ok hN hx
        exact zk_eqsg (by rw [zk_vsub_i]; omega) (zk_vsub_sv (t3 _ (by simp)) (g3 _ (by simp))) N hN hc hn
      · split
        · rename_i hx
          have hx := zk_eqE_of hN hx
          rw [zk_c_i] at hx
          exact zk_eqsg (by rw [zk_vsub_i, zk_c_i]; omega) (zk_vsub_sv (g3 _ (by simp)) zk_c_sv) N hN hc hn
        · exact zk_id_gd N hN hc hn
    · exact zk_id_gd N hN hc hn
  · exact zk_id_gd N hN hc hn
def zk_rju : zk_Rl := zk_nr (zk_on zk_f90 fun p => zk_on zk_f90 (zk_ju2 p))
theorem zk_rju_ok : zk_Rok zk_rju := zk_nr_ok fun E n => zk_on_gd fun N h hc hn p hp => by
  have ht := zk_trs h hc hn p (List.mem_filter.mp hp).1
  exact zk_on_gd fun N' h' hc' hn' q hq => zk_ju2_gd ht (zk_trs h' hc' hn' q (List.mem_filter.mp hq).1)
end
