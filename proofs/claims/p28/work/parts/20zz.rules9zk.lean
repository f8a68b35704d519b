noncomputable section
/-! WINTERS DRAWN, both sides (wip/p41/mk9zk.py) -/
theorem zy_dic_0 {la : zx_Rw} {ly : zx_Rw} {st : zx_Rw} {pl : zx_Rw} {ne : zx_Rw} {nz : zx_Rw} {bz : zx_Rw} {nm : Int} {th : Int} {len : Int} {ba : Int} {bo : Int} {li : Int} {z0 : Int} : zx_F 153 [la, ly, st, pl, ne, nz, bz] [nm, th, len, ba, bo, li, z0] 0 = ([(0 : Int), z0, (0 : Int), (0 : Int)], [nz, bz]) := rfl
theorem zy_dic_s {k : Nat} {la : zx_Rw} {ly : zx_Rw} {st : zx_Rw} {pl : zx_Rw} {ne : zx_Rw} {nz : zx_Rw} {bz : zx_Rw} {n : zx_Rw} {b : zx_Rw} {nm : Int} {th : Int} {len : Int} {ba : Int} {bo : Int} {li : Int} {z0 : Int} {z : Int} {x : Int} {y : Int} (h0 : 0 ≤ ba) (h5 : ba ≤ 5) (h : zx_F 153 [la, ly, st, pl, ne, nz, bz] [nm, th, len, ba, bo, li, z0] k = ([0, z, x, y], [n, b])) : zx_F 153 [la, ly, st, pl, ne, nz, bz] [nm, th, len, ba, bo, li, z0] (k + 1) = ([(if (if ((k : Int) + (1 : Int)) ≤ (zx_op 83 nm (100 : Int)) then (1 : Int) else 0) = 0 then (1 : Int) else (0 : Int)), (if (if ((k : Int) + (1 : Int)) ≤ (zx_op 83 nm (100 : Int)) then (1 : Int) else 0) = 0 then z else (zx_op 7 ((zx_op 7 (1103515245 * z) (0 : Int)) + (12345 : Int)) (0 : Int))), (if (if (if ((k : Int) + (1 : Int)) ≤ (zx_op 83 nm (100 : Int)) then (1 : Int) else 0) ≠ 0 ∧ (if ((zx_G 153 98 [pl, n, b, ly, ne] [bo, li, ba] 9).1.getD 1 0) = ((zx_op 88 (1 : Int) bo) - (1 : Int)) then (1 : Int) else 0) ≠ 0 then (1 : Int) else 0) = 0 then x else (x + (1 : Int))), (if (if ((k : Int) + (1 : Int)) ≤ (zx_op 83 nm (100 : Int)) then (1 : Int) else 0) = 0 then ((zx_G 153 152 [b] [ba, li] 6).1.getD 1 0) else (0 : Int))], if (if ((k : Int) + (1 : Int)) ≤ (zx_op 83 nm (100 : Int)) then (1 : Int) else 0) = 0 then [n, b] else [zy_to (zy_pd_n la ly st n b th len (k : Int) (zx_op 83 (zx_op 87 (zx_op 7 ((zx_op 7 (1103515245 * z) (0 : Int)) + (12345 : Int)) (0 : Int)) (8 : Int)) (8 : Int)) ba) n ba.toNat, zy_to (zy_pd_b b (zx_op 83 (zx_op 87 (zx_op 7 ((zx_op 7 (1103515245 * z) (0 : Int)) + (12345 : Int)) (0 : Int)) (8 : Int)) (8 : Int))) b ba.toNat]) := by
  have hs := zy_dc_sto (cl := zx_G 153) (R := [la, ly, st, pl, ne, nz, bz]) (n := n) (b := b) (P := [nm, th, len, ba, bo, li, z0]) (S := [0, z, x, y]) (k := (k : Int)) (la := 0) (ly := 1) (st := 2) (th := 1) (ln := 2) (ba := 3) (on := [(2, 0, []), (0, 1, []), (5, 0, []), (1, 0, []), (0, 100, []), (8, 83, []), (9, 0, [])]) (tu := [(3, 1, []), (7, 1103515245, []), (0, 0, []), (8, 7, []), (0, 12345, []), (5, 0, []), (0, 0, []), (8, 7, []), (0, 8, []), (8, 87, []), (0, 8, []), (8, 83, [])]) (von := (if ((k : Int) + (1 : Int)) ≤ (zx_op 83 nm (100 : Int)) then (1 : Int) else 0)) (vtu := (zx_op 83 (zx_op 87 (zx_op 7 ((zx_op 7 (1103515245 * z) (0 : Int)) + (12345 : Int)) (0 : Int)) (8 : Int)) (8 : Int))) (fun _ => rfl) (fun _ => rfl) h0 h5
  rw [zy_turn h, show (zx_dn 153).2.2.2.2 = zy_dc 0 1 2 1 2 3 [(2, 0, []), (0, 1, []), (5, 0, []), (1, 0, []), (0, 100, []), (8, 83, []), (9, 0, [])] [(3, 1, []), (7, 1103515245, []), (0, 0, []), (8, 7, []), (0, 12345, []), (5, 0, []), (0, 0, []), (8, 7, []), (0, 8, []), (8, 87, []), (0, 8, []), (8, 83, [])] from rfl, hs]
  rfl
theorem zy_dir_0 {la : zx_Rw} {be : zx_Rw} {st : zx_Rw} {ne : zx_Rw} {nz : zx_Rw} {bz : zx_Rw} {nm : Int} {th : Int} {len : Int} {ba : Int} {bo : Int} {li : Int} {z0 : Int} : zx_F 154 [la, be, st, ne, nz, bz] [nm, th, len, ba, bo, li, z0] 0 = ([(0 : Int), z0, (0 : Int), (0 : Int)], [nz, bz]) := rfl
theorem zy_dir_s {k : Nat} {la : zx_Rw} {be : zx_Rw} {st : zx_Rw} {ne : zx_Rw} {nz : zx_Rw} {bz : zx_Rw} {n : zx_Rw} {b : zx_Rw} {nm : Int} {th : Int} {len : Int} {ba : Int} {bo : Int} {li : Int} {z0 : Int} {z : Int} {x : Int} {y : Int} (h0 : 0 ≤ ba) (h5 : ba ≤ 5) (h : zx_F 154 [la, be, st, ne, nz, bz] [nm, th, len, ba, bo, li, z0] k = ([0, z, x, y], [n, b])) : zx_F 154 [la, be, st, ne, nz, bz] [nm, th, len, ba, bo, li, z0] (k + 1) = ([(if (if ((k : Int) + (1 : Int)) ≤ (zx_op 83 nm (100 : Int)) then (1 : Int) else 0) = 0 then (1 : Int) else (0 : Int)), (if (if ((k : Int) + (1 : Int)) ≤ (zx_op 83 nm (100 : Int)) then (1 : Int) else 0) = 0 then z else (zx_op 7 ((zx_op 7 (1103515245 * z) (0 : Int)) + (12345 : Int)) (0 : Int))), (if (if (if ((k : Int) + (1 : Int)) ≤ (zx_op 83 nm (100 : Int)) then (1 : Int) else 0) ≠ 0 ∧ (if ((zx_G 154 99 [be, n, b, ne] [bo, li] 9).1.getD 1 0) = ((zx_op 88 (1 : Int) bo) - (1 : Int)) then (1 : Int) else 0) ≠ 0 then (1 : Int) else 0) = 0 then x else (x + (1 : Int))), (if (if ((k : Int) + (1 : Int)) ≤ (zx_op 83 nm (100 : Int)) then (1 : Int) else 0) = 0 then ((zx_G 154 152 [b] [ba, li] 6).1.getD 1 0) else (0 : Int))], if (if ((k : Int) + (1 : Int)) ≤ (zx_op 83 nm (100 : Int)) then (1 : Int) else 0) = 0 then [n, b] else [zy_to (zy_pr_n la be st n b th len (k : Int) (zx_op 83 (zx_op 87 (zx_op 7 ((zx_op 7 (1103515245 * z) (0 : Int)) + (12345 : Int)) (0 : Int)) (8 : Int)) (8 : Int)) ba bo) n ba.toNat, zy_to (zy_pr_b b (zx_op 83 (zx_op 87 (zx_op 7 ((zx_op 7 (1103515245 * z) (0 : Int)) + (12345 : Int)) (0 : Int)) (8 : Int)) (8 : Int))) b ba.toNat]) := by
  have hs := zy_dr_sto (cl := zx_G 154) (R := [la, be, st, ne, nz, bz]) (n := n) (b := b) (P := [nm, th, len, ba, bo, li, z0]) (S := [0, z, x, y]) (k := (k : Int)) (la := 0) (ly := 1) (st := 2) (th := 1) (ln := 2) (ba := 3) (bo := 4) (on := [(2, 0, []), (0, 1, []), (5, 0, []), (1, 0, []), (0, 100, []), (8, 83, []), (9, 0, [])]) (tu := [(3, 1, []), (7, 1103515245, []), (0, 0, []), (8, 7, []), (0, 12345, []), (5, 0, []), (0, 0, []), (8, 7, []), (0, 8, []), (8, 87, []), (0, 8, []), (8, 83, [])]) (von := (if ((k : Int) + (1 : Int)) ≤ (zx_op 83 nm (100 : Int)) then (1 : Int) else 0)) (vtu := (zx_op 83 (zx_op 87 (zx_op 7 ((zx_op 7 (1103515245 * z) (0 : Int)) + (12345 : Int)) (0 : Int)) (8 : Int)) (8 : Int))) (fun _ => rfl) (fun _ => rfl) h0 h5
  rw [zy_turn h, show (zx_dn 154).2.2.2.2 = zy_dr 0 1 2 1 2 3 4 [(2, 0, []), (0, 1, []), (5, 0, []), (1, 0, []), (0, 100, []), (8, 83, []), (9, 0, [])] [(3, 1, []), (7, 1103515245, []), (0, 0, []), (8, 7, []), (0, 12345, []), (5, 0, []), (0, 0, []), (8, 7, []), (0, 8, []), (8, 87, []), (0, 8, []), (8, 83, [])] from rfl, hs]
  rfl
def zy_on153 : List zx_I := [(2, 0, []), (0, 1, []), (5, 0, []), (1, 0, []), (0, 100, []), (8, 83, []), (9, 0, [])]
def zy_tu153 : List zx_I := [(3, 1, []), (7, 1103515245, []), (0, 0, []), (8, 7, []), (0, 12345, []), (5, 0, []), (0, 0, []), (8, 7, []), (0, 8, []), (8, 87, []), (0, 8, []), (8, 83, [])]
theorem zy_e153 {k : Nat} {la : zx_Rw} {ly : zx_Rw} {st : zx_Rw} {pl : zx_Rw} {ne : zx_Rw} {n0 : zx_Rw} {b0 : zx_Rw} {n : zx_Rw} {b : zx_Rw} {nm : Int} {th : Int} {len : Int} {ba : Int} {bo : Int} {li : Int} {z0 : Int} {z_ : Int} {x_ : Int} {y_ : Int} (h0 : 0 ≤ ba) (h5 : ba ≤ 5) (h : zx_F 153 [la, ly, st, pl, ne, n0, b0] [nm, th, len, ba, bo, li, z0] k = ([0, z_, x_, y_], [n, b])) : zx_F 153 [la, ly, st, pl, ne, n0, b0] [nm, th, len, ba, bo, li, z0] (k + 1) = ((zx_dn 153).2.2.2.1.map (zx_ev (zx_G 153) [la, ly, st, pl, ne, n0, b0] [n, b] [nm, th, len, ba, bo, li, z0] (k : Int) [0, z_, x_, y_]), if (zx_ev (zx_G 153) [la, ly, st, pl, ne, n0, b0] [n, b] [nm, th, len, ba, bo, li, z0] (k : Int) [0, z_, x_, y_] zy_on153) = 0 then [n, b] else [zy_to (zy_pd_n la ly st n b th len (k : Int) (zx_ev (zx_G 153) [la, ly, st, pl, ne, n0, b0] [n, b] [nm, th, len, ba, bo, li, z0] (k : Int) [0, z_, x_, y_] zy_tu153) ba) n ba.toNat, zy_to (zy_pd_b b (zx_ev (zx_G 153) [la, ly, st, pl, ne, n0, b0] [n, b] [nm, th, len, ba, bo, li, z0] (k : Int) [0, z_, x_, y_] zy_tu153)) b ba.toNat]) := by
  have hs := zy_dc_sto (cl := zx_G 153) (R := [la, ly, st, pl, ne, n0, b0]) (n := n) (b := b) (P := [nm, th, len, ba, bo, li, z0]) (S := [0, z_, x_, y_]) (k := (k : Int)) (la := 0) (ly := 1) (st := 2) (th := 1) (ln := 2) (ba := 3) (on := zy_on153) (tu := zy_tu153) (von := (zx_ev (zx_G 153) [la, ly, st, pl, ne, n0, b0] [n, b] [nm, th, len, ba, bo, li, z0] (k : Int) [0, z_, x_, y_] zy_on153)) (vtu := (zx_ev (zx_G 153) [la, ly, st, pl, ne, n0, b0] [n, b] [nm, th, len, ba, bo, li, z0] (k : Int) [0, z_, x_, y_] zy_tu153)) (fun _ => rfl) (fun _ => rfl) h0 h5
  rw [zy_turn h, show (zx_dn 153).2.2.2.2 = zy_dc 0 1 2 1 2 3 zy_on153 zy_tu153 from rfl, hs]
  rfl
def zk_dy153 (N : zk_N) (g h : zk_G) : List zk_G := match zk_as 90 g, zk_as 90 h with
  | some ([la, ly, st, pl, ne, n0, b0, nn, bb], [i_, k, nm, th, len, ba, bo, li, z0, d_, z_, x_, y_]), some ([la2, ly2, st2, nn2, bb2, n2, b2], [j_, _, th2, ln2, da, tu2, ba2, e2]) => match zk_eqi (zk_fci N i_) 153 && zk_eqi (zk_fci N j_) 100 && zk_eqE N d_ (zk_c 0) && zk_nz N e2 && zk_eqNs [la, ly, st, nn, bb] [la2, ly2, st2, nn2, bb2] && zk_eqEs N [th, len, k, ba] [th2, ln2, da, ba2] && zk_n2 N k && zk_n2 N ba && zk_n2 N (zk_vsub (zk_c 5) ba) && Nat.beq (zk_b3 N (zk_sev N 153 [la, ly, st, pl, ne, n0, b0] [nn, bb] [nm, th, len, ba, bo, li, z0] k [d_, z_, x_, y_] zy_on153)) 1, zk_sev N 153 [la, ly, st, pl, ne, n0, b0] [nn, bb] [nm, th, len, ba, bo, li, z0] k [d_, z_, x_, y_] zy_tu153, zk_sevs N 153 [la, ly, st, pl, ne, n0, b0] [nn, bb] [nm, th, len, ba, bo, li, z0] k [d_, z_, x_, y_] (zx_dn 153).2.2.2.1 with
    | true, some t, some w => match zk_eqE N t tu2 with
      | true => [(90, [la, ly, st, pl, ne, n0, b0, n2, b2], i_ :: zk_vadd k (zk_c 1) :: nm :: th :: len :: ba :: bo :: li :: z0 :: w)]
      | false => []
    | _, _, _ => []
  | _, _ => []
theorem zk_dy153_ok {E : zk_E} {N : zk_N} (hN : zk_ok E N) (hc : zk_cl N) {g h : zk_G} (hg : g ∈ N.2.2.2) (hh : h ∈ N.2.2.2) : ∀ y ∈ zk_dy153 N g h, zk_tru E N.1 y := by
  have ht := zk_tru_of hN hc g hg
  have ht2 := zk_tru_of hN hc h hh
  intro y hy
  unfold zk_dy153 at hy
  split at hy
  · rename_i la ly st pl ne n0 b0 nn bb i_ k nm th len ba bo li z0 d_ z_ x_ y_ la2 ly2 st2 nn2 bb2 n2 b2 j_ K2 th2 ln2 da tu2 ba2  e2 hu hu2
    have e := zk_as_of hu
    have e' := zk_as_of hu2
    subst e e'
    split at hy
    · rename_i t w c htu hw
      split at hy
      · rename_i ct
        simp only [Bool.and_eq_true] at c
        obtain ⟨⟨⟨⟨⟨⟨⟨⟨⟨c1, c2⟩, c3⟩, c4⟩, c5⟩, c6⟩, c7⟩, c8⟩, c9⟩, c10⟩ := c
        have c1 := zk_fci_of (n := 153) hN c1
        have c3 := zk_eqE_of hN c3
        have c4 := zk_nz_ok hN c4
        have c5 := zk_eqNs_of c5
        have c6 := zk_eqEs_of hN c6
        have c7 := zk_n2_ok hN c7
        have c8 := zk_n2_ok hN c8
        have c9 := zk_n2_ok hN c9
        have ct := zk_eqE_of hN ct
        have hb3 := (zk_b3_of hN (z := zx_ev (zx_G 153) ([la, ly, st, pl, ne, n0, b0].map E.2) ([nn, bb].map E.2) ([nm, th, len, ba, bo, li, z0].map (zk_i E)) (zk_i E k) ([d_, z_, x_, y_].map (zk_i E)) zy_on153) (fun v hv => zk_sev_of hN hv)).2 (Nat.eq_of_beq_eq_true c10)
        have htu' := zk_sev_of hN htu
        have hw' := zk_sevs_of hN hw
        rw [zk_c_i] at c3
        rw [zk_vsub_i, zk_c_i] at c9
        injection c5 with p1 c5
        injection c5 with p2 c5
        injection c5 with p3 c5
        injection c5 with p4 c5
        injection c5 with p5 c5
        subst p1 p2 p3 p4 p5
        simp only [List.map_cons, List.map_nil] at c6 hb3 htu' hw'
        injection c6 with q1 c6
        injection c6 with q2 c6
        injection c6 with q3 c6
        injection c6 with q4 c6
        obtain ⟨k3, k4⟩ := zk_pdF hN ht2 c2 c4 (by rw [← q4]; exact c8)
        rw [← q1, ← q2, ← q3, ← q4, ← ct] at k3
        rw [← q4, ← ct] at k4
        obtain ⟨t1, t2, t3⟩ := ht
        obtain ⟨-, g2, -⟩ := ht2
        simp only [List.map_cons, List.map_nil, zq_6, zq_7, zq_8, zq_9, zq_20, zq_21, zq_22, zq_25, zq_26, zq_28, zq_30, zq_40, zq_51, zq_52, zq_53, zq_54, zq_55, zq_64, zq_65, zq_68, zq_72, zq_73, zq_85, zq_74, zq_75, zq_76, zq_71, zq_86, zq_87, zq_80, zq_41, zq_42, zq_43, zq_94, zq_95, zq_47, zq_48, zq_96, zq_97, zq_88, zq_89, zq_90, zq_46, zq_44, zq_93, zq_61, zq_62, zq_1, zq_2, zq_3, zq_4, zq_5, zx_90] at t1
        rw [c1] at t1
        obtain ⟨-, -, tF⟩ := t1
        have tF : zx_F 153 [E.2 la, E.2 ly, E.2 st, E.2 pl, E.2 ne, E.2 n0, E.2 b0] [zk_i E nm, zk_i E th, zk_i E len, zk_i E ba, zk_i E bo, zk_i E li, zk_i E z0] (zk_i E k).toNat = ([zk_i E d_, zk_i E z_, zk_i E x_, zk_i E y_], [E.2 nn, E.2 bb]) := tF
        rw [c3] at tF hb3 htu' hw'
        have ek : (((zk_i E k).toNat : Nat) : Int) = zk_i E k := Int.toNat_of_nonneg c7
        have r3 := zy_e153 c8 (by omega) tF
        rw [ek, if_neg hb3, ← htu', ← k3, ← k4, ← hw'] at r3
        rw [List.mem_singleton.mp hy]
        refine ⟨?_, fun a ha => ?_, fun u hu => ?_⟩
        · simp only [List.map_cons, List.map_nil, zq_6, zq_7, zq_8, zq_9, zq_20, zq_21, zq_22, zq_25, zq_26, zq_28, zq_30, zq_40, zq_51, zq_52, zq_53, zq_54, zq_55, zq_64, zq_65, zq_68, zq_72, zq_73, zq_85, zq_74, zq_75, zq_76, zq_71, zq_86, zq_87, zq_80, zq_41, zq_42, zq_43, zq_94, zq_95, zq_47, zq_48, zq_96, zq_97, zq_88, zq_89, zq_90, zq_46, zq_44, zq_93, zq_61, zq_62, zq_1, zq_2, zq_3, zq_4, zq_5, zx_90]
          rw [c1, zk_vadd_i, zk_c_i]
          refine ⟨by decide, by omega, ?_⟩
          rw [show (zk_i E k + 1).toNat = (zk_i E k).toNat + 1 by omega]
          exact r3
        · simp only [List.mem_cons, List.not_mem_nil, or_false] at ha
          rcases ha with rfl | rfl | rfl | rfl | rfl | rfl | rfl | rfl | rfl
          · exact t2 _ (by simp)
          · exact t2 _ (by simp)
          · exact t2 _ (by simp)
          · exact t2 _ (by simp)
          · exact t2 _ (by simp)
          · exact t2 _ (by simp)
          · exact t2 _ (by simp)
          · exact g2 _ (by simp)
          · exact g2 _ (by simp)
        · rcases List.mem_cons.mp hu with rfl | hu
          · exact t3 _ (by simp)
          rcases List.mem_cons.mp hu with rfl | hu
          · exact zk_vadd_sv (t3 _ (by simp)) zk_c_sv
          rcases List.mem_cons.mp hu with rfl | hu
          · exact t3 _ (by simp)
          rcases List.mem_cons.mp hu with rfl | hu
          · exact t3 _ (by simp)
          rcases List.mem_cons.mp hu with rfl | hu
          · exact t3 _ (by simp)
          rcases List.mem_cons.mp hu with rfl | hu
          · exact t3 _ (by simp)
          rcases List.mem_cons.mp hu with rfl | hu
          · exact t3 _ (by simp)
          rcases List.mem_cons.mp hu with rfl | hu
          · exact t3 _ (by simp)
          rcases List.mem_cons.mp hu with rfl | hu
          · exact t3 _ (by simp)
          exact zk_sevs_sv hc (fun v hv => t3 _ (by simp only [List.mem_cons, List.not_mem_nil, or_false] at hv ⊢; rcases hv with rfl | rfl | rfl | rfl | rfl | rfl | rfl <;> first | exact Or.inr (Or.inr (Or.inl rfl)) | exact Or.inr (Or.inr (Or.inr (Or.inl rfl))) | exact Or.inr (Or.inr (Or.inr (Or.inr (Or.inl rfl)))) | exact Or.inr (Or.inr (Or.inr (Or.inr (Or.inr (Or.inl rfl))))) | exact Or.inr (Or.inr (Or.inr (Or.inr (Or.inr (Or.inr (Or.inl rfl)))))) | exact Or.inr (Or.inr (Or.inr (Or.inr (Or.inr (Or.inr (Or.inr (Or.inl rfl))))))) | exact Or.inr (Or.inr (Or.inr (Or.inr (Or.inr (Or.inr (Or.inr (Or.inr (Or.inl rfl)))))))))) (fun v hv => t3 _ (by simp only [List.mem_cons, List.not_mem_nil, or_false] at hv ⊢; rcases hv with rfl | rfl | rfl | rfl <;> first | exact Or.inr (Or.inr (Or.inr (Or.inr (Or.inr (Or.inr (Or.inr (Or.inr (Or.inr (Or.inl rfl))))))))) | exact Or.inr (Or.inr (Or.inr (Or.inr (Or.inr (Or.inr (Or.inr (Or.inr (Or.inr (Or.inr (Or.inl rfl)))))))))) | exact Or.inr (Or.inr (Or.inr (Or.inr (Or.inr (Or.inr (Or.inr (Or.inr (Or.inr (Or.inr (Or.inr (Or.inl rfl))))))))))) | exact Or.inr (Or.inr (Or.inr (Or.inr (Or.inr (Or.inr (Or.inr (Or.inr (Or.inr (Or.inr (Or.inr (Or.inr (rfl)))))))))))))) (t3 _ (by simp)) hw u hu
      · cases hy
    · cases hy
  · cases hy
def zk_rdy153 : zk_Rl := zk_nr fun N => some (zk_addGs N ((zk_kd 90 N).flatMap fun p => (zk_kd 90 N).flatMap (zk_dy153 N p)))
theorem zk_rdy153_ok : zk_Rok zk_rdy153 := zk_nr_ok fun E n => zk_add_gd (f := fun N => (zk_kd 90 N).flatMap fun p => (zk_kd 90 N).flatMap (zk_dy153 N p)) fun N hN hc hn x hx => by
  obtain ⟨y, hy1, hy2⟩ := List.mem_flatMap.mp hx
  obtain ⟨w, hw1, hw2⟩ := List.mem_flatMap.mp hy2
  rw [← hn]
  exact zk_dy153_ok hN hc (zk_kd_m hy1) (zk_kd_m hw1) x hw2
def zy_on154 : List zx_I := [(2, 0, []), (0, 1, []), (5, 0, []), (1, 0, []), (0, 100, []), (8, 83, []), (9, 0, [])]
def zy_tu154 : List zx_I := [(3, 1, []), (7, 1103515245, []), (0, 0, []), (8, 7, []), (0, 12345, []), (5, 0, []), (0, 0, []), (8, 7, []), (0, 8, []), (8, 87, []), (0, 8, []), (8, 83, [])]
theorem zy_e154 {k : Nat} {la : zx_Rw} {be : zx_Rw} {st : zx_Rw} {ne : zx_Rw} {n0 : zx_Rw} {b0 : zx_Rw} {n : zx_Rw} {b : zx_Rw} {nm : Int} {th : Int} {len : Int} {ba : Int} {bo : Int} {li : Int} {z0 : Int} {z_ : Int} {x_ : Int} {y_ : Int} (h0 : 0 ≤ ba) (h5 : ba ≤ 5) (h : zx_F 154 [la, be, st, ne, n0, b0] [nm, th, len, ba, bo, li, z0] k = ([0, z_, x_, y_], [n, b])) : zx_F 154 [la, be, st, ne, n0, b0] [nm, th, len, ba, bo, li, z0] (k + 1) = ((zx_dn 154).2.2.2.1.map (zx_ev (zx_G 154) [la, be, st, ne, n0, b0] [n, b] [nm, th, len, ba, bo, li, z0] (k : Int) [0, z_, x_, y_]), if (zx_ev (zx_G 154) [la, be, st, ne, n0, b0] [n, b] [nm, th, len, ba, bo, li, z0] (k : Int) [0, z_, x_, y_] zy_on154) = 0 then [n, b] else [zy_to (zy_pr_n la be st n b th len (k : Int) (zx_ev (zx_G 154) [la, be, st, ne, n0, b0] [n, b] [nm, th, len, ba, bo, li, z0] (k : Int) [0, z_, x_, y_] zy_tu154) ba bo) n ba.toNat, zy_to (zy_pr_b b (zx_ev (zx_G 154) [la, be, st, ne, n0, b0] [n, b] [nm, th, len, ba, bo, li, z0] (k : Int) [0, z_, x_, y_] zy_tu154)) b ba.toNat]) := by
  have hs := zy_dr_sto (cl := zx_G 154) (R := [la, be, st, ne, n0, b0]) (n := n) (b := b) (P := [nm, th, len, ba, bo, li, z0]) (S := [0, z_, x_, y_]) (k := (k : Int)) (la := 0) (ly := 1) (st := 2) (th := 1) (ln := 2) (ba := 3) (bo := 4) (on := zy_on154) (tu := zy_tu154) (von := (zx_ev (zx_G 154) [la, be, st, ne, n0, b0] [n, b] [nm, th, len, ba, bo, li, z0] (k : Int) [0, z_, x_, y_] zy_on154)) (vtu := (zx_ev (zx_G 154) [la, be, st, ne, n0, b0] [n, b] [nm, th, len, ba, bo, li, z0] (k : Int) [0, z_, x_, y_] zy_tu154)) (fun _ => rfl) (fun _ => rfl) h0 h5
  rw [zy_turn h, show (zx_dn 154).2.2.2.2 = zy_dr 0 1 2 1 2 3 4 zy_on154 zy_tu154 from rfl, hs]
  rfl
def zk_dy154 (N : zk_N) (g h : zk_G) : List zk_G := match zk_as 90 g, zk_as 90 h with
  | some ([la, be, st, ne, n0, b0, nn, bb], [i_, k, nm, th, len, ba, bo, li, z0, d_, z_, x_, y_]), some ([la2, ly2, st2, nn2, bb2, n2, b2], [j_, _, th2, ln2, da, tu2, ba2, bo2, e2]) => match zk_eqi (zk_fci N i_) 154 && zk_eqi (zk_fci N j_) 101 && zk_eqE N d_ (zk_c 0) && zk_nz N e2 && zk_eqNs [la, be, st, nn, bb] [la2, ly2, st2, nn2, bb2] && zk_eqEs N [th, len, k, ba, bo] [th2, ln2, da, ba2, bo2] && zk_n2 N k && zk_n2 N ba && zk_n2 N (zk_vsub (zk_c 5) ba) && Nat.beq (zk_b3 N (zk_sev N 154 [la, be, st, ne, n0, b0] [nn, bb] [nm, th, len, ba, bo, li, z0] k [d_, z_, x_, y_] zy_on154)) 1, zk_sev N 154 [la, be, st, ne, n0, b0] [nn, bb] [nm, th, len, ba, bo, li, z0] k [d_, z_, x_, y_] zy_tu154, zk_sevs N 154 [la, be, st, ne, n0, b0] [nn, bb] [nm, th, len, ba, bo, li, z0] k [d_, z_, x_, y_] (zx_dn 154).2.2.2.1 with
    | true, some t, some w => match zk_eqE N t tu2 with
      | true => [(90, [la, be, st, ne, n0, b0, n2, b2], i_ :: zk_vadd k (zk_c 1) :: nm :: th :: len :: ba :: bo :: li :: z0 :: w)]
      | false => []
    | _, _, _ => []
  | _, _ => []
theorem zk_dy154_ok {E : zk_E} {N : zk_N} (hN : zk_ok E N) (hc : zk_cl N) {g h : zk_G} (hg : g ∈ N.2.2.2) (hh : h ∈ N.2.2.2) : ∀ y ∈ zk_dy154 N g h, zk_tru E N.1 y := by
  have ht := zk_tru_of hN hc g hg
  have ht2 := zk_tru_of hN hc h hh
  intro y hy
  unfold zk_dy154 at hy
  split at hy
  · rename_i la be st ne n0 b0 nn bb i_ k nm th len ba bo li z0 d_ z_ x_ y_ la2 ly2 st2 nn2 bb2 n2 b2 j_ K2 th2 ln2 da tu2 ba2 bo2 e2 hu hu2
    have e := zk_as_of hu
    have e' := zk_as_of hu2
    subst e e'
    split at hy
    · rename_i t w c htu hw
      split at hy
      · rename_i ct
        simp only [Bool.and_eq_true] at c
        obtain ⟨⟨⟨⟨⟨⟨⟨⟨⟨c1, c2⟩, c3⟩, c4⟩, c5⟩, c6⟩, c7⟩, c8⟩, c9⟩, c10⟩ := c
        have c1 := zk_fci_of (n := 154) hN c1
        have c3 := zk_eqE_of hN c3
        have c4 := zk_nz_ok hN c4
        have c5 := zk_eqNs_of c5
        have c6 := zk_eqEs_of hN c6
        have c7 := zk_n2_ok hN c7
        have c8 := zk_n2_ok hN c8
        have c9 := zk_n2_ok hN c9
        have ct := zk_eqE_of hN ct
        have hb3 := (zk_b3_of hN (z := zx_ev (zx_G 154) ([la, be, st, ne, n0, b0].map E.2) ([nn, bb].map E.2) ([nm, th, len, ba, bo, li, z0].map (zk_i E)) (zk_i E k) ([d_, z_, x_, y_].map (zk_i E)) zy_on154) (fun v hv => zk_sev_of hN hv)).2 (Nat.eq_of_beq_eq_true c10)
        have htu' := zk_sev_of hN htu
        have hw' := zk_sevs_of hN hw
        rw [zk_c_i] at c3
        rw [zk_vsub_i, zk_c_i] at c9
        injection c5 with p1 c5
        injection c5 with p2 c5
        injection c5 with p3 c5
        injection c5 with p4 c5
        injection c5 with p5 c5
        subst p1 p2 p3 p4 p5
        simp only [List.map_cons, List.map_nil] at c6 hb3 htu' hw'
        injection c6 with q1 c6
        injection c6 with q2 c6
        injection c6 with q3 c6
        injection c6 with q4 c6
        injection c6 with q5 c6
        obtain ⟨k3, k4⟩ := zk_prF hN ht2 c2 c4 (by rw [← q4]; exact c8)
        rw [← q1, ← q2, ← q3, ← q4, ← q5, ← ct] at k3
        rw [← q4, ← ct] at k4
        obtain ⟨t1, t2, t3⟩ := ht
        obtain ⟨-, g2, -⟩ := ht2
        simp only [List.map_cons, List.map_nil, zq_6, zq_7, zq_8, zq_9, zq_20, zq_21, zq_22, zq_25, zq_26, zq_28, zq_30, zq_40, zq_51, zq_52, zq_53, zq_54, zq_55, zq_64, zq_65, zq_68, zq_72, zq_73, zq_85, zq_74, zq_75, zq_76, zq_71, zq_86, zq_87, zq_80, zq_41, zq_42, zq_43, zq_94, zq_95, zq_47, zq_48, zq_96, zq_97, zq_88, zq_89, zq_90, zq_46, zq_44, zq_93, zq_61, zq_62, zq_1, zq_2, zq_3, zq_4, zq_5, zx_90] at t1
        rw [c1] at t1
        obtain ⟨-, -, tF⟩ := t1
        have tF : zx_F 154 [E.2 la, E.2 be, E.2 st, E.2 ne, E.2 n0, E.2 b0] [zk_i E nm, zk_i E th, zk_i E len, zk_i E ba, zk_i E bo, zk_i E li, zk_i E z0] (zk_i E k).toNat = ([zk_i E d_, zk_i E z_, zk_i E x_, zk_i E y_], [E.2 nn, E.2 bb]) := tF
        rw [c3] at tF hb3 htu' hw'
        have ek : (((zk_i E k).toNat : Nat) : Int) = zk_i E k := Int.toNat_of_nonneg c7
        have r3 := zy_e154 c8 (by omega) tF
        rw [ek, if_neg hb3, ← htu', ← k3, ← k4, ← hw'] at r3
        rw [List.mem_singleton.mp hy]
        refine ⟨?_, fun a ha => ?_, fun u hu => ?_⟩
        · simp only [List.map_cons, List.map_nil, zq_6, zq_7, zq_8, zq_9, zq_20, zq_21, zq_22, zq_25, zq_26, zq_28, zq_30, zq_40, zq_51, zq_52, zq_53, zq_54, zq_55, zq_64, zq_65, zq_68, zq_72, zq_73, zq_85, zq_74, zq_75, zq_76, zq_71, zq_86, zq_87, zq_80, zq_41, zq_42, zq_43, zq_94, zq_95, zq_47, zq_48, zq_96, zq_97, zq_88, zq_89, zq_90, zq_46, zq_44, zq_93, zq_61, zq_62, zq_1, zq_2, zq_3, zq_4, zq_5, zx_90]
          rw [c1, zk_vadd_i, zk_c_i]
          refine ⟨by decide, by omega, ?_⟩
          rw [show (zk_i E k + 1).toNat = (zk_i E k).toNat + 1 by omega]
          exact r3
        · simp only [List.mem_cons, List.not_mem_nil, or_false] at ha
          rcases ha with rfl | rfl | rfl | rfl | rfl | rfl | rfl | rfl
          · exact t2 _ (by simp)
          · exact t2 _ (by simp)
          · exact t2 _ (by simp)
          · exact t2 _ (by simp)
          · exact t2 _ (by simp)
          · exact t2 _ (by simp)
          · exact g2 _ (by simp)
          · exact g2 _ (by simp)
        · rcases List.mem_cons.mp hu with rfl | hu
          · exact t3 _ (by simp)
          rcases List.mem_cons.mp hu with rfl | hu
          · exact zk_vadd_sv (t3 _ (by simp)) zk_c_sv
          rcases List.mem_cons.mp hu with rfl | hu
          · exact t3 _ (by simp)
          rcases List.mem_cons.mp hu with rfl | hu
          · exact t3 _ (by simp)
          rcases List.mem_cons.mp hu with rfl | hu
          · exact t3 _ (by simp)
          rcases List.mem_cons.mp hu with rfl | hu
          · exact t3 _ (by simp)
          rcases List.mem_cons.mp hu with rfl | hu
          · exact t3 _ (by simp)
          rcases List.mem_cons.mp hu with rfl | hu
          · exact t3 _ (by simp)
          rcases List.mem_cons.mp hu with rfl | hu
          · exact t3 _ (by simp)
          exact zk_sevs_sv hc (fun v hv => t3 _ (by simp only [List.mem_cons, List.not_mem_nil, or_false] at hv ⊢; rcases hv with rfl | rfl | rfl | rfl | rfl | rfl | rfl <;> first | exact Or.inr (Or.inr (Or.inl rfl)) | exact Or.inr (Or.inr (Or.inr (Or.inl rfl))) | exact Or.inr (Or.inr (Or.inr (Or.inr (Or.inl rfl)))) | exact Or.inr (Or.inr (Or.inr (Or.inr (Or.inr (Or.inl rfl))))) | exact Or.inr (Or.inr (Or.inr (Or.inr (Or.inr (Or.inr (Or.inl rfl)))))) | exact Or.inr (Or.inr (Or.inr (Or.inr (Or.inr (Or.inr (Or.inr (Or.inl rfl))))))) | exact Or.inr (Or.inr (Or.inr (Or.inr (Or.inr (Or.inr (Or.inr (Or.inr (Or.inl rfl)))))))))) (fun v hv => t3 _ (by simp only [List.mem_cons, List.not_mem_nil, or_false] at hv ⊢; rcases hv with rfl | rfl | rfl | rfl <;> first | exact Or.inr (Or.inr (Or.inr (Or.inr (Or.inr (Or.inr (Or.inr (Or.inr (Or.inr (Or.inl rfl))))))))) | exact Or.inr (Or.inr (Or.inr (Or.inr (Or.inr (Or.inr (Or.inr (Or.inr (Or.inr (Or.inr (Or.inl rfl)))))))))) | exact Or.inr (Or.inr (Or.inr (Or.inr (Or.inr (Or.inr (Or.inr (Or.inr (Or.inr (Or.inr (Or.inr (Or.inl rfl))))))))))) | exact Or.inr (Or.inr (Or.inr (Or.inr (Or.inr (Or.inr (Or.inr (Or.inr (Or.inr (Or.inr (Or.inr (Or.inr (rfl)))))))))))))) (t3 _ (by simp)) hw u hu
      · cases hy
    · cases hy
  · cases hy
def zk_rdy154 : zk_Rl := zk_nr fun N => some (zk_addGs N ((zk_kd 90 N).flatMap fun p => (zk_kd 90 N).flatMap (zk_dy154 N p)))
theorem zk_rdy154_ok : zk_Rok zk_rdy154 := zk_nr_ok fun E n => zk_add_gd (f := fun N => (zk_kd 90 N).flatMap fun p => (zk_kd 90 N).flatMap (zk_dy154 N p)) fun N hN hc hn x hx => by
  obtain ⟨y, hy1, hy2⟩ := List.mem_flatMap.mp hx
  obtain ⟨w, hw1, hw2⟩ := List.mem_flatMap.mp hy2
  rw [← hn]
  exact zk_dy154_ok hN hc (zk_kd_m hy1) (zk_kd_m hw1) x hw2
theorem zy_bbc_0 {b : zx_Rw} {ba : Int} {li : Int} : zx_F 152 [b] [ba, li] 0 = ([(0 : Int), (0 : Int)], []) := rfl
theorem zy_bbc_s {k : Nat} {b : zx_Rw} {ba : Int} {li : Int} {w : Int} (h : zx_F 152 [b] [ba, li] k = ([0, w], [])) : zx_F 152 [b] [ba, li] (k + 1) =
  (([(if (if ((k : Int) + (1 : Int)) ≤ ba then (1 : Int) else 0) = 0 then (1 : Int) else (0 : Int)), (if (if (if ((k : Int) + (1 : Int)) ≤ ba then (1 : Int) else 0) ≠ 0 ∧ (if li ≤ (b ((k : Int)).toNat) then (1 : Int) else 0) ≠ 0 then (1 : Int) else 0) = 0 then w else (w + (1 : Int)))], [])) := by
  rw [zy_turn h]
  rfl
/-- how many are blue depends on barns alone -/
theorem zy_bbT {b b2 : zx_Rw} {ba li : Int} (h : ∀ j : Nat, (j : Int) < ba → b j = b2 j) : ∀ k : Nat, ∃ d w, zx_F 152 [b] [ba, li] k = ([d, w], []) ∧ zx_F 152 [b2] [ba, li] k = ([d, w], [])
  | 0 => ⟨0, 0, zy_bbc_0, zy_bbc_0⟩
  | k + 1 => by
    obtain ⟨d, w, e1, e2⟩ := zy_bbT (li := li) h k
    by_cases hd : d = 0
    · subst hd
      have f1 := zy_bbc_s e1
      have f2 := zy_bbc_s e2
      simp only [zy_if, zy_if0, zy_ne, zy_ne0] at f1 f2
      by_cases hk : (k : Int) + 1 ≤ ba
      · have hb : b ((k : Int)).toNat = b2 ((k : Int)).toNat := by rw [Int.toNat_natCast]; exact h k (by omega)
        rw [hb] at f1
        exact ⟨_, _, f1, f2⟩
      · simp only [hk, false_and, if_false] at f1 f2
        exact ⟨_, _, f1, f2⟩
    · exact ⟨d, w, zy_stay e1 hd, zy_stay e2 hd⟩
theorem zy_diT {la ly st pl ne la2 ly2 pl2 ne2 nz bz nz2 bz2 : zx_Rw} {nm th len ba bo li z0 : Int} (h0 : 0 ≤ ba) (h5 : ba ≤ 5) (hl : ∀ j : Nat, (j : Int) < ba → la j = la2 j ∧ ly j = ly2 j) (hp : ∀ j : Nat, (j : Int) < bo → pl j = pl2 j ∧ ne j = ne2 j) (hn : ∀ j : Nat, (j : Int) < ba → nz j = nz2 j) (hb : ∀ j : Nat, (j : Int) < ba → bz j = bz2 j) : ∀ K : Nat, ∃ d z x y n b n2 b2, zx_F 153 [la, ly, st, pl, ne, nz, bz] [nm, th, len, ba, bo, li, z0] K = ([d, z, x, y], [n, b]) ∧ zx_F 153 [la2, ly2, st, pl2, ne2, nz2, bz2] [nm, th, len, ba, bo, li, z0] K = ([d, z, x, y], [n2, b2]) ∧ (∀ j : Nat, (j : Int) < ba → n j = n2 j) ∧ (∀ j : Nat, (j : Int) < ba → b j = b2 j)
  | 0 => ⟨0, z0, 0, 0, nz, bz, nz2, bz2, zy_dic_0, zy_dic_0, hn, hb⟩
  | K + 1 => by
    obtain ⟨d, z, x, y, n, b, n2, b2, e1, e2, g1, g2⟩ := zy_diT (st := st) (nm := nm) (th := th) (len := len) (li := li) (z0 := z0) h0 h5 hl hp hn hb K
    have q1 : ∀ P k, zx_G 153 98 [pl, n, b, ly, ne] P k = zx_F 98 [pl, n, b, ly, ne] P k := fun P k => zx_G_F (by decide) _ _ _
    have q2 : ∀ P k, zx_G 153 98 [pl2, n2, b2, ly2, ne2] P k = zx_F 98 [pl2, n2, b2, ly2, ne2] P k := fun P k => zx_G_F (by decide) _ _ _
    have q3 : ∀ P k, zx_G 153 152 [b] P k = zx_F 152 [b] P k := fun P k => zx_G_F (by decide) _ _ _
    have q4 : ∀ P k, zx_G 153 152 [b2] P k = zx_F 152 [b2] P k := fun P k => zx_G_F (by decide) _ _ _
    have hsl : (zx_F 98 [pl, n, b, ly, ne] [bo, li, ba] 9).1.getD 1 0 = (zx_F 98 [pl2, n2, b2, ly2, ne2] [bo, li, ba] 9).1.getD 1 0 := by
      obtain ⟨d', w, k1, k2⟩ := zy_slpT (li := li) hp (fun j hj => ⟨g1 j hj, g2 j hj, (hl j hj).2⟩) 9
      rw [k1, k2]
    have hbl : (zx_F 152 [b] [ba, li] 6).1.getD 1 0 = (zx_F 152 [b2] [ba, li] 6).1.getD 1 0 := by
      obtain ⟨d', w, k1, k2⟩ := zy_bbT (li := li) g2 6
      rw [k1, k2]
    by_cases hd : d = 0
    · subst hd
      have f1 := zy_dic_s h0 h5 e1
      have f2 := zy_dic_s h0 h5 e2
      simp only [q1, q2, q3, q4, zy_if, zy_if0, zy_ne, zy_ne0] at f1 f2
      rw [hsl, hbl] at f1
      generalize (zx_F 98 [pl2, n2, b2, ly2, ne2] [bo, li, ba] 9).1.getD 1 0 = w at f1 f2
      generalize (zx_F 152 [b2] [ba, li] 6).1.getD 1 0 = v at f1 f2
      generalize (zx_op 7 ((zx_op 7 (1103515245 * z) (0 : Int)) + (12345 : Int)) (0 : Int)) = zn at f1 f2
      generalize zx_op 83 (zx_op 87 zn (8 : Int)) (8 : Int) = tu at f1 f2
      generalize zx_op 83 nm (100 : Int) = m at f1 f2
      by_cases hk : (K : Int) + 1 ≤ m
      · simp only [hk, true_and, if_true] at f1 f2
        refine ⟨_, _, _, _, _, _, _, _, f1, f2, fun j hj => ?_, fun j hj => ?_⟩
        · rw [zy_to_lt (by omega), zy_to_lt (by omega)]
          unfold zy_pd_n
          rw [(hl j hj).1, (hl j hj).2, g1 j hj, g2 j hj]
        · rw [zy_to_lt (by omega), zy_to_lt (by omega)]
          unfold zy_pd_b
          rw [g2 j hj]
      · simp only [hk, false_and, if_false] at f1 f2
        exact ⟨_, _, _, _, _, _, _, _, f1, f2, g1, g2⟩
    · exact ⟨d, z, x, y, n, b, n2, b2, zy_stay e1 hd, zy_stay e2 hd, g1, g2⟩
theorem zy_drT {la be st ne nz bz nz2 bz2 : zx_Rw} {nm th len ba bo li z0 : Int} (h0 : 0 ≤ ba) (h5 : ba ≤ 5) (hp : ∀ j : Nat, (j : Int) < bo → be j < ba) (hn : ∀ j : Nat, (j : Int) < ba → nz j = nz2 j) (hb : ∀ j : Nat, (j : Int) < ba → bz j = bz2 j) : ∀ K : Nat, ∃ d z x y n b n2 b2, zx_F 154 [la, be, st, ne, nz, bz] [nm, th, len, ba, bo, li, z0] K = ([d, z, x, y], [n, b]) ∧ zx_F 154 [la, be, st, ne, nz2, bz2] [nm, th, len, ba, bo, li, z0] K = ([d, z, x, y], [n2, b2]) ∧ (∀ j : Nat, (j : Int) < ba → n j = n2 j) ∧ (∀ j : Nat, (j : Int) < ba → b j = b2 j)
  | 0 => ⟨0, z0, 0, 0, nz, bz, nz2, bz2, zy_dir_0, zy_dir_0, hn, hb⟩
  | K + 1 => by
    obtain ⟨d, z, x, y, n, b, n2, b2, e1, e2, g1, g2⟩ := zy_drT (la := la) (st := st) (ne := ne) (nm := nm) (th := th) (len := len) (li := li) (z0 := z0) h0 h5 hp hn hb K
    have q1 : ∀ P k, zx_G 154 99 [be, n, b, ne] P k = zx_F 99 [be, n, b, ne] P k := fun P k => zx_G_F (by decide) _ _ _
    have q2 : ∀ P k, zx_G 154 99 [be, n2, b2, ne] P k = zx_F 99 [be, n2, b2, ne] P k := fun P k => zx_G_F (by decide) _ _ _
    have q3 : ∀ P k, zx_G 154 152 [b] P k = zx_F 152 [b] P k := fun P k => zx_G_F (by decide) _ _ _
    have q4 : ∀ P k, zx_G 154 152 [b2] P k = zx_F 152 [b2] P k := fun P k => zx_G_F (by decide) _ _ _
    have hsl : (zx_F 99 [be, n, b, ne] [bo, li] 9).1.getD 1 0 = (zx_F 99 [be, n2, b2, ne] [bo, li] 9).1.getD 1 0 := by
      obtain ⟨d', w, k1, k2⟩ := zy_sl (pl := be) (ni := n) (bl := b) (ly := fun j => (zx_cn be j bo.toNat : Int)) (ne := ne) (be := be) (ni2 := n) (bl2 := b) (ne2 := ne) (bo := bo) (li := li) (ba := ba) (fun j hj => ⟨rfl, rfl, hp j hj⟩) (fun j hj => ⟨rfl, rfl, rfl⟩) 9
      obtain ⟨d2, w2, k3, k4⟩ := zy_sl (pl := be) (ni := n) (bl := b) (ly := fun j => (zx_cn be j bo.toNat : Int)) (ne := ne) (be := be) (ni2 := n2) (bl2 := b2) (ne2 := ne) (bo := bo) (li := li) (ba := ba) (fun j hj => ⟨rfl, rfl, hp j hj⟩) (fun j hj => ⟨g1 j hj, g2 j hj, rfl⟩) 9
      rw [k1] at k3
      rw [k2, k4]
      exact congrArg (fun p => p.1.getD 1 0) k3
    have hbl : (zx_F 152 [b] [ba, li] 6).1.getD 1 0 = (zx_F 152 [b2] [ba, li] 6).1.getD 1 0 := by
      obtain ⟨d', w, k1, k2⟩ := zy_bbT (li := li) g2 6
      rw [k1, k2]
    by_cases hd : d = 0
    · subst hd
      have f1 := zy_dir_s h0 h5 e1
      have f2 := zy_dir_s h0 h5 e2
      simp only [q1, q2, q3, q4, zy_if, zy_if0, zy_ne, zy_ne0] at f1 f2
      rw [hsl, hbl] at f1
      generalize (zx_F 99 [be, n2, b2, ne] [bo, li] 9).1.getD 1 0 = w at f1 f2
      generalize (zx_F 152 [b2] [ba, li] 6).1.getD 1 0 = v at f1 f2
      generalize (zx_op 7 ((zx_op 7 (1103515245 * z) (0 : Int)) + (12345 : Int)) (0 : Int)) = zn at f1 f2
      generalize zx_op 83 (zx_op 87 zn (8 : Int)) (8 : Int) = tu at f1 f2
      generalize zx_op 83 nm (100 : Int) = m at f1 f2
      by_cases hk : (K : Int) + 1 ≤ m
      · simp only [hk, true_and, if_true] at f1 f2
        refine ⟨_, _, _, _, _, _, _, _, f1, f2, fun j hj => ?_, fun j hj => ?_⟩
        · rw [zy_to_lt (by omega), zy_to_lt (by omega)]
          unfold zy_pr_n
          rw [g1 j hj, g2 j hj]
        · rw [zy_to_lt (by omega), zy_to_lt (by omega)]
          unfold zy_pr_b
          rw [g2 j hj]
      · simp only [hk, false_and, if_false] at f1 f2
        exact ⟨_, _, _, _, _, _, _, _, f1, f2, g1, g2⟩
    · exact ⟨d, z, x, y, n, b, n2, b2, zy_stay e1 hd, zy_stay e2 hd, g1, g2⟩
theorem zy_di {la ly st pl ne la2 be ne2 nz bz nz2 bz2 : zx_Rw} {nm th len ba bo li z0 : Int} (h0 : 0 ≤ ba) (h5 : ba ≤ 5) (hl : ∀ j : Nat, (j : Int) < ba → la j = la2 j) (hy : ∀ j : Nat, (j : Int) < ba → ly j = (zx_cn be j bo.toNat : Int)) (hp : ∀ j : Nat, (j : Int) < bo → pl j = be j ∧ ne j = ne2 j ∧ pl j < ba) (hn : ∀ j : Nat, (j : Int) < ba → nz j = nz2 j) (hb : ∀ j : Nat, (j : Int) < ba → bz j = bz2 j) : ∀ K : Nat, ∃ d z x y n b n2 b2, zx_F 153 [la, ly, st, pl, ne, nz, bz] [nm, th, len, ba, bo, li, z0] K = ([d, z, x, y], [n, b]) ∧ zx_F 154 [la2, be, st, ne2, nz2, bz2] [nm, th, len, ba, bo, li, z0] K = ([d, z, x, y], [n2, b2]) ∧ (∀ j : Nat, (j : Int) < ba → n j = n2 j) ∧ (∀ j : Nat, (j : Int) < ba → b j = b2 j)
  | 0 => ⟨0, z0, 0, 0, nz, bz, nz2, bz2, zy_dic_0, zy_dir_0, hn, hb⟩
  | K + 1 => by
    obtain ⟨d, z, x, y, n, b, n2, b2, e1, e2, g1, g2⟩ := zy_di (st := st) (nm := nm) (th := th) (len := len) (li := li) (z0 := z0) h0 h5 hl hy hp hn hb K
    have q1 : ∀ P k, zx_G 153 98 [pl, n, b, ly, ne] P k = zx_F 98 [pl, n, b, ly, ne] P k := fun P k => zx_G_F (by decide) _ _ _
    have q2 : ∀ P k, zx_G 154 99 [be, n2, b2, ne2] P k = zx_F 99 [be, n2, b2, ne2] P k := fun P k => zx_G_F (by decide) _ _ _
    have q3 : ∀ P k, zx_G 153 152 [b] P k = zx_F 152 [b] P k := fun P k => zx_G_F (by decide) _ _ _
    have q4 : ∀ P k, zx_G 154 152 [b2] P k = zx_F 152 [b2] P k := fun P k => zx_G_F (by decide) _ _ _
    have hsl : (zx_F 98 [pl, n, b, ly, ne] [bo, li, ba] 9).1.getD 1 0 = (zx_F 99 [be, n2, b2, ne2] [bo, li] 9).1.getD 1 0 := by
      obtain ⟨d', w, k1, k2⟩ := zy_sl (pl := pl) (ni := n) (bl := b) (ly := ly) (ne := ne) (be := be) (ni2 := n2) (bl2 := b2) (ne2 := ne2) (bo := bo) (li := li) (ba := ba) hp (fun j hj => ⟨g1 j hj, g2 j hj, hy j hj⟩) 9
      rw [k1, k2]
    have hbl : (zx_F 152 [b] [ba, li] 6).1.getD 1 0 = (zx_F 152 [b2] [ba, li] 6).1.getD 1 0 := by
      obtain ⟨d', w, k1, k2⟩ := zy_bbT (li := li) g2 6
      rw [k1, k2]
    by_cases hd : d = 0
    · subst hd
      have f1 := zy_dic_s h0 h5 e1
      have f2 := zy_dir_s h0 h5 e2
      simp only [q1, q2, q3, q4, zy_if, zy_if0, zy_ne, zy_ne0] at f1 f2
      rw [hsl, hbl] at f1
      generalize (zx_F 99 [be, n2, b2, ne2] [bo, li] 9).1.getD 1 0 = w at f1 f2
      generalize (zx_F 152 [b2] [ba, li] 6).1.getD 1 0 = v at f1 f2
      generalize (zx_op 7 ((zx_op 7 (1103515245 * z) (0 : Int)) + (12345 : Int)) (0 : Int)) = zn at f1 f2
      generalize zx_op 83 (zx_op 87 zn (8 : Int)) (8 : Int) = tu at f1 f2
      generalize zx_op 83 nm (100 : Int) = m at f1 f2
      by_cases hk : (K : Int) + 1 ≤ m
      · simp only [hk, true_and, if_true] at f1 f2
        refine ⟨_, _, _, _, _, _, _, _, f1, f2, fun j hj => ?_, fun j hj => ?_⟩
        · rw [zy_to_lt (by omega), zy_to_lt (by omega)]
          unfold zy_pd_n zy_pr_n
          rw [hl j hj, hy j hj, g1 j hj, g2 j hj]
        · rw [zy_to_lt (by omega), zy_to_lt (by omega)]
          unfold zy_pd_b zy_pr_b
          rw [g2 j hj]
      · simp only [hk, false_and, if_false] at f1 f2
        exact ⟨_, _, _, _, _, _, _, _, f1, f2, g1, g2⟩
    · exact ⟨d, z, x, y, n, b, n2, b2, zy_stay e1 hd, zy_stay e2 hd, g1, g2⟩
def zk_46dC (T0 T1 T3 T4 T5 T6 : Nat) (N : zk_N) (g : zk_G) : List zk_G := match zk_as 90 g with
  | some ([la, ly, st, pl, ne, n0, b0, _, _], [i, K, nm, th, ln, ba, bo, li, z0, d, z, x, y]) => match zk_eqi (zk_fci N i) 153 && zk_nz N d && zk_n2 N (zk_vsub (zk_c 61) K) && zk_n2 N ba && zk_n2 N (zk_vsub (zk_c 5) ba) && (Nat.blt T0 N.1 && Nat.blt T1 N.1 && Nat.blt T3 N.1 && Nat.blt T4 N.1 && Nat.blt T5 N.1 && Nat.blt T6 N.1) && zk_pp N ba 3 la T0 && zk_pp N ba 3 ly T1 && zk_pp N bo 3 pl T3 && zk_pp N bo 3 ne T4 && zk_pp N ba 3 n0 T5 && zk_pp N ba 3 b0 T6 with
    | true => [(46, [T0, T1, st, T3, T4, T5, T6], [i, zk_c 61, zk_c 1, z, nm, th, ln, ba, bo, li, z0]), (46, [T0, T1, st, T3, T4, T5, T6], [i, zk_c 61, zk_c 2, x, nm, th, ln, ba, bo, li, z0]), (46, [T0, T1, st, T3, T4, T5, T6], [i, zk_c 61, zk_c 3, y, nm, th, ln, ba, bo, li, z0])]
    | false => []
  | _ => []
theorem zk_46dC_ok {E : zk_E} {N : zk_N} {T0 T1 T3 T4 T5 T6 : Nat} (hN : zk_ok E N) (hc : zk_cl N) {g : zk_G} (hg : g ∈ N.2.2.2) : ∀ y ∈ zk_46dC T0 T1 T3 T4 T5 T6 N g, zk_tru E N.1 y := by
  have ht := zk_tru_of hN hc g hg
  intro y_ hy
  unfold zk_46dC at hy
  split at hy
  · rename_i la ly st pl ne n0 b0 nn bb i K nm th ln ba bo li z0 d z x y hu
    have e := zk_as_of hu
    subst e
    split at hy
    · rename_i c
      simp only [Bool.and_eq_true] at c
      obtain ⟨⟨⟨⟨⟨⟨⟨⟨⟨⟨⟨c1, c2⟩, c3⟩, c4⟩, c5⟩, ⟨⟨⟨⟨⟨bT0', bT1'⟩, bT3'⟩, bT4'⟩, bT5'⟩, bT6'⟩⟩, c6⟩, c7⟩, c8⟩, c9⟩, c10⟩, c11⟩ := c
      have c1 := zk_fci_of (n := 153) hN c1
      have c2 := zk_nz_ok hN c2
      have c3 := zk_n2_ok hN c3
      have c4 := zk_n2_ok hN c4
      have c5 := zk_n2_ok hN c5
      rw [zk_vsub_i, zk_c_i] at c3 c5
      have bT0' := Nat.blt_eq.mp bT0'
      have bT1' := Nat.blt_eq.mp bT1'
      have bT3' := Nat.blt_eq.mp bT3'
      have bT4' := Nat.blt_eq.mp bT4'
      have bT5' := Nat.blt_eq.mp bT5'
      have bT6' := Nat.blt_eq.mp bT6'
      have c6 := zk_pp_of hN hc c6
      have c7 := zk_pp_of hN hc c7
      have c8 := zk_pp_of hN hc c8
      have c9 := zk_pp_of hN hc c9
      have c10 := zk_pp_of hN hc c10
      have c11 := zk_pp_of hN hc c11
      obtain ⟨t1, t2, t3⟩ := ht
      simp only [List.map_cons, List.map_nil, zq_6, zq_7, zq_8, zq_9, zq_20, zq_21, zq_22, zq_25, zq_26, zq_28, zq_30, zq_40, zq_51, zq_52, zq_53, zq_54, zq_55, zq_64, zq_65, zq_68, zq_72, zq_73, zq_85, zq_74, zq_75, zq_76, zq_71, zq_86, zq_87, zq_80, zq_41, zq_42, zq_43, zq_94, zq_95, zq_47, zq_48, zq_96, zq_97, zq_88, zq_89, zq_90, zq_93, zq_61, zq_62, zq_1, zq_2, zq_3, zq_4, zq_5, zq_46, zq_44, zx_90] at t1
      rw [c1] at t1
      obtain ⟨-, tk, tF⟩ := t1
      have tF : zx_F 153 [E.2 la, E.2 ly, E.2 st, E.2 pl, E.2 ne, E.2 n0, E.2 b0] [zk_i E nm, zk_i E th, zk_i E ln, zk_i E ba, zk_i E bo, zk_i E li, zk_i E z0] (zk_i E K).toNat = ([zk_i E d, zk_i E z, zk_i E x, zk_i E y], [E.2 nn, E.2 bb]) := tF
      have key : ∀ j : Nat, (zx_F 153 [E.2 T0, E.2 T1, E.2 st, E.2 T3, E.2 T4, E.2 T5, E.2 T6] [zk_i E nm, zk_i E th, zk_i E ln, zk_i E ba, zk_i E bo, zk_i E li, zk_i E z0] 61).1.getD j 0 = [zk_i E d, zk_i E z, zk_i E x, zk_i E y].getD j 0 := fun j => by
        obtain ⟨d', z', x', y', m1, m2, m3, m4, f1, f2, -, -⟩ := zy_diT (st := E.2 st) (nm := zk_i E nm) (th := zk_i E th) (len := zk_i E ln) (li := zk_i E li) (z0 := zk_i E z0) c4 (by omega) (fun j hj => ⟨c6 j hj, c7 j hj⟩) (fun j hj => ⟨c8 j hj, c9 j hj⟩) c10 c11 61
        rw [zx_F_max tF c2 (show (zk_i E K).toNat ≤ 61 by omega)] at f1
        rw [f2]
        exact (congrArg (fun p => p.1.getD j 0) f1).symm
      have hr : ∀ a ∈ [T0, T1, st, T3, T4, T5, T6], a < N.1 := fun a ha => by
        simp only [List.mem_cons, List.not_mem_nil, or_false] at ha
        rcases ha with rfl | rfl | rfl | rfl | rfl | rfl | rfl
        · exact bT0'
        · exact bT1'
        · exact t2 _ (by simp)
        · exact bT3'
        · exact bT4'
        · exact bT5'
        · exact bT6'
      have hp : ∀ (q v : zk_V), zk_sv N.1 q → zk_sv N.1 v → ∀ u ∈ [i, zk_c 61, q, v, nm, th, ln, ba, bo, li, z0], zk_sv N.1 u := fun q v hq hv u hu => by
        simp only [List.mem_cons, List.not_mem_nil, or_false] at hu
        rcases hu with rfl | rfl | rfl | rfl | rfl | rfl | rfl | rfl | rfl | rfl | rfl
        · exact t3 _ (by simp)
        · exact zk_c_sv
        · exact hq
        · exact hv
        · exact t3 _ (by simp)
        · exact t3 _ (by simp)
        · exact t3 _ (by simp)
        · exact t3 _ (by simp)
        · exact t3 _ (by simp)
        · exact t3 _ (by simp)
        · exact t3 _ (by simp)
      simp only [List.mem_cons, List.not_mem_nil, or_false] at hy
      rcases hy with rfl | rfl | rfl
      · refine ⟨?_, hr, hp _ _ zk_c_sv (t3 _ (by simp))⟩
        simp only [List.map_cons, List.map_nil, zq_6, zq_7, zq_8, zq_9, zq_20, zq_21, zq_22, zq_25, zq_26, zq_28, zq_30, zq_40, zq_51, zq_52, zq_53, zq_54, zq_55, zq_64, zq_65, zq_68, zq_72, zq_73, zq_85, zq_74, zq_75, zq_76, zq_71, zq_86, zq_87, zq_80, zq_41, zq_42, zq_43, zq_94, zq_95, zq_47, zq_48, zq_96, zq_97, zq_88, zq_89, zq_90, zq_93, zq_61, zq_62, zq_1, zq_2, zq_3, zq_4, zq_5, zq_46, zq_44, zx_46, zk_c_i]
        rw [c1]
        exact ⟨by decide, by decide, by decide, key 1⟩
      · refine ⟨?_, hr, hp _ _ zk_c_sv (t3 _ (by simp))⟩
        simp only [List.map_cons, List.map_nil, zq_6, zq_7, zq_8, zq_9, zq_20, zq_21, zq_22, zq_25, zq_26, zq_28, zq_30, zq_40, zq_51, zq_52, zq_53, zq_54, zq_55, zq_64, zq_65, zq_68, zq_72, zq_73, zq_85, zq_74, zq_75, zq_76, zq_71, zq_86, zq_87, zq_80, zq_41, zq_42, zq_43, zq_94, zq_95, zq_47, zq_48, zq_96, zq_97, zq_88, zq_89, zq_90, zq_93, zq_61, zq_62, zq_1, zq_2, zq_3, zq_4, zq_5, zq_46, zq_44, zx_46, zk_c_i]
        rw [c1]
        exact ⟨by decide, by decide, by decide, key 2⟩
      · refine ⟨?_, hr, hp _ _ zk_c_sv (t3 _ (by simp))⟩
        simp only [List.map_cons, List.map_nil, zq_6, zq_7, zq_8, zq_9, zq_20, zq_21, zq_22, zq_25, zq_26, zq_28, zq_30, zq_40, zq_51, zq_52, zq_53, zq_54, zq_55, zq_64, zq_65, zq_68, zq_72, zq_73, zq_85, zq_74, zq_75, zq_76, zq_71, zq_86, zq_87, zq_80, zq_41, zq_42, zq_43, zq_94, zq_95, zq_47, zq_48, zq_96, zq_97, zq_88, zq_89, zq_90, zq_93, zq_61, zq_62, zq_1, zq_2, zq_3, zq_4, zq_5, zq_46, zq_44, zx_46, zk_c_i]
        rw [c1]
        exact ⟨by decide, by decide, by decide, key 3⟩
    · cases hy
  · cases hy
def zk_46dR (T4 T5 : Nat) (N : zk_N) (g : zk_G) : List zk_G := match zk_as 90 g with
  | some ([la, be, st, ne, n0, b0, _, _], [i, K, nm, th, ln, ba, bo, li, z0, d, z, x, y]) => match zk_eqi (zk_fci N i) 154 && zk_nz N d && zk_n2 N (zk_vsub (zk_c 61) K) && zk_n2 N ba && zk_n2 N (zk_vsub (zk_c 5) ba) && (Nat.blt T4 N.1 && Nat.blt T5 N.1) && zk_pp N ba 3 n0 T4 && zk_pp N ba 3 b0 T5 && zk_h41 N be bo ba with
    | true => [(46, [la, be, st, ne, T4, T5], [i, zk_c 61, zk_c 1, z, nm, th, ln, ba, bo, li, z0]), (46, [la, be, st, ne, T4, T5], [i, zk_c 61, zk_c 2, x, nm, th, ln, ba, bo, li, z0]), (46, [la, be, st, ne, T4, T5], [i, zk_c 61, zk_c 3, y, nm, th, ln, ba, bo, li, z0])]
    | false => []
  | _ => []
theorem zk_46dR_ok {E : zk_E} {N : zk_N} {T4 T5 : Nat} (hN : zk_ok E N) (hc : zk_cl N) {g : zk_G} (hg : g ∈ N.2.2.2) : ∀ y ∈ zk_46dR T4 T5 N g, zk_tru E N.1 y := by
  have ht := zk_tru_of hN hc g hg
  intro y_ hy
  unfold zk_46dR at hy
  split at hy
  · rename_i la be st ne n0 b0 nn bb i K nm th ln ba bo li z0 d z x y hu
    have e := zk_as_of hu
    subst e
    split at hy
    · rename_i c
      simp only [Bool.and_eq_true] at c
      obtain ⟨⟨⟨⟨⟨⟨⟨⟨c1, c2⟩, c3⟩, c4⟩, c5⟩, ⟨bT4', bT5'⟩⟩, c6⟩, c7⟩, c8⟩ := c
      have c1 := zk_fci_of (n := 154) hN c1
      have c2 := zk_nz_ok hN c2
      have c3 := zk_n2_ok hN c3
      have c4 := zk_n2_ok hN c4
      have c5 := zk_n2_ok hN c5
      rw [zk_vsub_i, zk_c_i] at c3 c5
      have bT4' := Nat.blt_eq.mp bT4'
      have bT5' := Nat.blt_eq.mp bT5'
      have c6 := zk_pp_of hN hc c6
      have c7 := zk_pp_of hN hc c7
      have c8 := zk_h41_of hN hc c8
      obtain ⟨t1, t2, t3⟩ := ht
      simp only [List.map_cons, List.map_nil, zq_6, zq_7, zq_8, zq_9, zq_20, zq_21, zq_22, zq_25, zq_26, zq_28, zq_30, zq_40, zq_51, zq_52, zq_53, zq_54, zq_55, zq_64, zq_65, zq_68, zq_72, zq_73, zq_85, zq_74, zq_75, zq_76, zq_71, zq_86, zq_87, zq_80, zq_41, zq_42, zq_43, zq_94, zq_95, zq_47, zq_48, zq_96, zq_97, zq_88, zq_89, zq_90, zq_93, zq_61, zq_62, zq_1, zq_2, zq_3, zq_4, zq_5, zq_46, zq_44, zx_90] at t1
      rw [c1] at t1
      obtain ⟨-, tk, tF⟩ := t1
      have tF : zx_F 154 [E.2 la, E.2 be, E.2 st, E.2 ne, E.2 n0, E.2 b0] [zk_i E nm, zk_i E th, zk_i E ln, zk_i E ba, zk_i E bo, zk_i E li, zk_i E z0] (zk_i E K).toNat = ([zk_i E d, zk_i E z, zk_i E x, zk_i E y], [E.2 nn, E.2 bb]) := tF
      have key : ∀ j : Nat, (zx_F 154 [E.2 la, E.2 be, E.2 st, E.2 ne, E.2 T4, E.2 T5] [zk_i E nm, zk_i E th, zk_i E ln, zk_i E ba, zk_i E bo, zk_i E li, zk_i E z0] 61).1.getD j 0 = [zk_i E d, zk_i E z, zk_i E x, zk_i E y].getD j 0 := fun j => by
        obtain ⟨d', z', x', y', m1, m2, m3, m4, f1, f2, -, -⟩ := zy_drT (la := E.2 la) (st := E.2 st) (ne := E.2 ne) (nm := zk_i E nm) (th := zk_i E th) (len := zk_i E ln) (li := zk_i E li) (z0 := zk_i E z0) c4 (by omega) c8 c6 c7 61
        rw [zx_F_max tF c2 (show (zk_i E K).toNat ≤ 61 by omega)] at f1
        rw [f2]
        exact (congrArg (fun p => p.1.getD j 0) f1).symm
      have hr : ∀ a ∈ [la, be, st, ne, T4, T5], a < N.1 := fun a ha => by
        simp only [List.mem_cons, List.not_mem_nil, or_false] at ha
        rcases ha with rfl | rfl | rfl | rfl | rfl | rfl
        · exact t2 _ (by simp)
        · exact t2 _ (by simp)
        · exact t2 _ (by simp)
        · exact t2 _ (by simp)
        · exact bT4'
        · exact bT5'
      have hp : ∀ (q v : zk_V), zk_sv N.1 q → zk_sv N.1 v → ∀ u ∈ [i, zk_c 61, q, v, nm, th, ln, ba, bo, li, z0], zk_sv N.1 u := fun q v hq hv u hu => by
        simp only [List.mem_cons, List.not_mem_nil, or_false] at hu
        rcases hu with rfl | rfl | rfl | rfl | rfl | rfl | rfl | rfl | rfl | rfl | rfl
        · exact t3 _ (by simp)
        · exact zk_c_sv
        · exact hq
        · exact hv
        · exact t3 _ (by simp)
        · exact t3 _ (by simp)
        · exact t3 _ (by simp)
        · exact t3 _ (by simp)
        · exact t3 _ (by simp)
        · exact t3 _ (by simp)
        · exact t3 _ (by simp)
      simp only [List.mem_cons, List.not_mem_nil, or_false] at hy
      rcases hy with rfl | rfl | rfl
      · refine ⟨?_, hr, hp _ _ zk_c_sv (t3 _ (by simp))⟩
        simp only [List.map_cons, List.map_nil, zq_6, zq_7, zq_8, zq_9, zq_20, zq_21, zq_22, zq_25, zq_26, zq_28, zq_30, zq_40, zq_51, zq_52, zq_53, zq_54, zq_55, zq_64, zq_65, zq_68, zq_72, zq_73, zq_85, zq_74, zq_75, zq_76, zq_71, zq_86, zq_87, zq_80, zq_41, zq_42, zq_43, zq_94, zq_95, zq_47, zq_48, zq_96, zq_97, zq_88, zq_89, zq_90, zq_93, zq_61, zq_62, zq_1, zq_2, zq_3, zq_4, zq_5, zq_46, zq_44, zx_46, zk_c_i]
        rw [c1]
        exact ⟨by decide, by decide, by decide, key 1⟩
      · refine ⟨?_, hr, hp _ _ zk_c_sv (t3 _ (by simp))⟩
        simp only [List.map_cons, List.map_nil, zq_6, zq_7, zq_8, zq_9, zq_20, zq_21, zq_22, zq_25, zq_26, zq_28, zq_30, zq_40, zq_51, zq_52, zq_53, zq_54, zq_55, zq_64, zq_65, zq_68, zq_72, zq_73, zq_85, zq_74, zq_75, zq_76, zq_71, zq_86, zq_87, zq_80, zq_41, zq_42, zq_43, zq_94, zq_95, zq_47, zq_48, zq_96, zq_97, zq_88, zq_89, zq_90, zq_93, zq_61, zq_62, zq_1, zq_2, zq_3, zq_4, zq_5, zq_46, zq_44, zx_46, zk_c_i]
        rw [c1]
        exact ⟨by decide, by decide, by decide, key 2⟩
      · refine ⟨?_, hr, hp _ _ zk_c_sv (t3 _ (by simp))⟩
        simp only [List.map_cons, List.map_nil, zq_6, zq_7, zq_8, zq_9, zq_20, zq_21, zq_22, zq_25, zq_26, zq_28, zq_30, zq_40, zq_51, zq_52, zq_53, zq_54, zq_55, zq_64, zq_65, zq_68, zq_72, zq_73, zq_85, zq_74, zq_75, zq_76, zq_71, zq_86, zq_87, zq_80, zq_41, zq_42, zq_43, zq_94, zq_95, zq_47, zq_48, zq_96, zq_97, zq_88, zq_89, zq_90, zq_93, zq_61, zq_62, zq_1, zq_2, zq_3, zq_4, zq_5, zq_46, zq_44, zx_46, zk_c_i]
        rw [c1]
        exact ⟨by decide, by decide, by decide, key 3⟩
    · cases hy
  · cases hy
def zk_46d (id : Nat) (rs : List (Option (Nat × Nat × Nat × Nat))) (N : zk_N) : List zk_G := match Nat.beq id 153, rs with
  | true, [some (_, _, _, T0), some (_, _, _, T1), _, some (_, _, _, T3), some (_, _, _, T4), some (_, _, _, T5), some (_, _, _, T6)] => (zk_kd 90 N).flatMap (zk_46dC T0 T1 T3 T4 T5 T6 N)
  | false, [_, _, _, _, some (_, _, _, T4), some (_, _, _, T5)] => (zk_kd 90 N).flatMap (zk_46dR T4 T5 N)
  | _, _ => []
def zk_r46d (id : Nat) (cs : List (Option Nat)) : zk_Rl := fun z => some [zk_addGs z.1 (zk_46d id (cs.map fun q => match q with
  | some k => zk_row z.2.1 (3, k, [], 0)
  | none => none) z.1)]
theorem zk_r46d_ok (id : Nat) (cs : List (Option Nat)) : zk_Rok (zk_r46d id cs) := by
  refine zk_Rs_ok fun z L' hz E h hc hcs hl hs => ?_
  unfold zk_r46d at hz
  generalize (cs.map fun q => match q with
    | some k => zk_row z.2.1 (3, k, [], 0)
    | none => none) = rs at hz
  obtain ⟨N', a1, a2, a3, a4⟩ := zk_add_gd (E := E) (n := z.1.1) (f := fun N => zk_46d id rs N) (fun N hN hc hn x hx => by
    rw [← hn]
    unfold zk_46d at hx
    split at hx
    · obtain ⟨y, hy, hx⟩ := List.mem_flatMap.mp hx
      exact zk_46dC_ok hN hc (zk_kd_m hy) x hx
    · obtain ⟨y, hy, hx⟩ := List.mem_flatMap.mp hx
      exact zk_46dR_ok hN hc (zk_kd_m hy) x hx
    · cases hx) z.1 h hc rfl
  cases a1
  cases hz
  exact ⟨_, List.mem_cons_self, a2, a3, a4⟩
theorem zy_dwc_0 {la : zx_Rw} {ly : zx_Rw} {st : zx_Rw} {pl : zx_Rw} {ne : zx_Rw} {n0 : zx_Rw} {b0 : zx_Rw} {nm : Int} {th : Int} {len : Int} {ba : Int} {bo : Int} {li : Int} {z0 : Int} : zx_F 155 [la, ly, st, pl, ne, n0, b0] [nm, th, len, ba, bo, li, z0] 0 = ([(0 : Int), z0, (0 : Int), (0 : Int)], []) := rfl
theorem zy_dwc_s {k : Nat} {la : zx_Rw} {ly : zx_Rw} {st : zx_Rw} {pl : zx_Rw} {ne : zx_Rw} {n0 : zx_Rw} {b0 : zx_Rw} {nm : Int} {th : Int} {len : Int} {ba : Int} {bo : Int} {li : Int} {z0 : Int} {z : Int} {x : Int} {y : Int} (h : zx_F 155 [la, ly, st, pl, ne, n0, b0] [nm, th, len, ba, bo, li, z0] k = ([0, z, x, y], [])) : zx_F 155 [la, ly, st, pl, ne, n0, b0] [nm, th, len, ba, bo, li, z0] (k + 1) =
  (([(if (if ((k : Int) + (1 : Int)) ≤ (zx_op 82 nm (100 : Int)) then (1 : Int) else 0) = 0 then (1 : Int) else (0 : Int)), (if (if ((k : Int) + (1 : Int)) ≤ (zx_op 82 nm (100 : Int)) then (1 : Int) else 0) = 0 then z else ((zx_G 155 153 [la, ly, st, pl, ne, n0, b0] [nm, th, len, ba, bo, li, z] ((61 : Int)).toNat).1.getD 1 0)), (if (if ((k : Int) + (1 : Int)) ≤ (zx_op 82 nm (100 : Int)) then (1 : Int) else 0) = 0 then x else (x + ((zx_G 155 153 [la, ly, st, pl, ne, n0, b0] [nm, th, len, ba, bo, li, z] ((61 : Int)).toNat).1.getD 2 0))), (if (if ((k : Int) + (1 : Int)) ≤ (zx_op 82 nm (100 : Int)) then (1 : Int) else 0) = 0 then y else (y + ((zx_G 155 153 [la, ly, st, pl, ne, n0, b0] [nm, th, len, ba, bo, li, z] ((61 : Int)).toNat).1.getD 3 0)))], [])) := by
  rw [zy_turn h]
  rfl
theorem zy_dwr_0 {la : zx_Rw} {be : zx_Rw} {st : zx_Rw} {ne : zx_Rw} {n0 : zx_Rw} {b0 : zx_Rw} {nm : Int} {th : Int} {len : Int} {ba : Int} {bo : Int} {li : Int} {z0 : Int} : zx_F 156 [la, be, st, ne, n0, b0] [nm, th, len, ba, bo, li, z0] 0 = ([(0 : Int), z0, (0 : Int), (0 : Int)], []) := rfl
theorem zy_dwr_s {k : Nat} {la : zx_Rw} {be : zx_Rw} {st : zx_Rw} {ne : zx_Rw} {n0 : zx_Rw} {b0 : zx_Rw} {nm : Int} {th : Int} {len : Int} {ba : Int} {bo : Int} {li : Int} {z0 : Int} {z : Int} {x : Int} {y : Int} (h : zx_F 156 [la, be, st, ne, n0, b0] [nm, th, len, ba, bo, li, z0] k = ([0, z, x, y], [])) : zx_F 156 [la, be, st, ne, n0, b0] [nm, th, len, ba, bo, li, z0] (k + 1) =
  (([(if (if ((k : Int) + (1 : Int)) ≤ (zx_op 82 nm (100 : Int)) then (1 : Int) else 0) = 0 then (1 : Int) else (0 : Int)), (if (if ((k : Int) + (1 : Int)) ≤ (zx_op 82 nm (100 : Int)) then (1 : Int) else 0) = 0 then z else ((zx_G 156 154 [la, be, st, ne, n0, b0] [nm, th, len, ba, bo, li, z] ((61 : Int)).toNat).1.getD 1 0)), (if (if ((k : Int) + (1 : Int)) ≤ (zx_op 82 nm (100 : Int)) then (1 : Int) else 0) = 0 then x else (x + ((zx_G 156 154 [la, be, st, ne, n0, b0] [nm, th, len, ba, bo, li, z] ((61 : Int)).toNat).1.getD 2 0))), (if (if ((k : Int) + (1 : Int)) ≤ (zx_op 82 nm (100 : Int)) then (1 : Int) else 0) = 0 then y else (y + ((zx_G 156 154 [la, be, st, ne, n0, b0] [nm, th, len, ba, bo, li, z] ((61 : Int)).toNat).1.getD 3 0)))], [])) := by
  rw [zy_turn h]
  rfl
theorem zy_dw {la ly st pl ne la2 be ne2 nz bz nz2 bz2 : zx_Rw} {nm th len ba bo li z0 : Int} (h0 : 0 ≤ ba) (h5 : ba ≤ 5) (hl : ∀ j : Nat, (j : Int) < ba → la j = la2 j) (hy : ∀ j : Nat, (j : Int) < ba → ly j = (zx_cn be j bo.toNat : Int)) (hp : ∀ j : Nat, (j : Int) < bo → pl j = be j ∧ ne j = ne2 j ∧ pl j < ba) (hn : ∀ j : Nat, (j : Int) < ba → nz j = nz2 j) (hb : ∀ j : Nat, (j : Int) < ba → bz j = bz2 j) : ∀ K : Nat, ∃ d z x y, zx_F 155 [la, ly, st, pl, ne, nz, bz] [nm, th, len, ba, bo, li, z0] K = ([d, z, x, y], []) ∧ zx_F 156 [la2, be, st, ne2, nz2, bz2] [nm, th, len, ba, bo, li, z0] K = ([d, z, x, y], [])
  | 0 => ⟨0, z0, 0, 0, zy_dwc_0, zy_dwr_0⟩
  | K + 1 => by
    obtain ⟨d, z, x, y, e1, e2⟩ := zy_dw (st := st) (nm := nm) (th := th) (len := len) (li := li) (z0 := z0) h0 h5 hl hy hp hn hb K
    by_cases hd : d = 0
    · subst hd
      have f1 := zy_dwc_s e1
      have f2 := zy_dwr_s e2
      have q1 : ∀ P k, zx_G 155 153 [la, ly, st, pl, ne, nz, bz] P k = zx_F 153 [la, ly, st, pl, ne, nz, bz] P k := fun P k => zx_G_F (by decide) _ _ _
      have q2 : ∀ P k, zx_G 156 154 [la2, be, st, ne2, nz2, bz2] P k = zx_F 154 [la2, be, st, ne2, nz2, bz2] P k := fun P k => zx_G_F (by decide) _ _ _
      have t61 : (61 : Int).toNat = 61 := rfl
      have hW : ∀ (z : Int) (j : Nat), (zx_F 153 [la, ly, st, pl, ne, nz, bz] [nm, th, len, ba, bo, li, z] 61).1.getD j 0 = (zx_F 154 [la2, be, st, ne2, nz2, bz2] [nm, th, len, ba, bo, li, z] 61).1.getD j 0 := fun z j => by
        obtain ⟨d', z', x', y', n, b, n2, b2, k1, k2, -, -⟩ := zy_di (st := st) (nm := nm) (th := th) (len := len) (li := li) (z0 := z) h0 h5 hl hy hp hn hb 61
        rw [k1, k2]
      simp only [q1, q2, t61, hW, zy_if, zy_if0, zy_ne, zy_ne0] at f1 f2
      exact ⟨_, _, _, _, f1, f2⟩
    · exact ⟨d, z, x, y, zy_stay e1 hd, zy_stay e2 hd⟩
theorem zy_dwE {la ly st pl ne la2 be ne2 nz bz nz2 bz2 : zx_Rw} {nm th len ba bo li z0 d z x y d2 z2 x2 y2 : Int} {K K2 : Nat} (h0 : 0 ≤ ba) (h5 : ba ≤ 5) (hl : ∀ j : Nat, (j : Int) < ba → la j = la2 j) (hy : ∀ j : Nat, (j : Int) < ba → ly j = (zx_cn be j bo.toNat : Int)) (hp : ∀ j : Nat, (j : Int) < bo → pl j = be j ∧ ne j = ne2 j ∧ pl j < ba) (hn : ∀ j : Nat, (j : Int) < ba → nz j = nz2 j) (hb : ∀ j : Nat, (j : Int) < ba → bz j = bz2 j) (e1 : zx_F 155 [la, ly, st, pl, ne, nz, bz] [nm, th, len, ba, bo, li, z0] K = ([d, z, x, y], [])) (hd : d ≠ 0) (e2 : zx_F 156 [la2, be, st, ne2, nz2, bz2] [nm, th, len, ba, bo, li, z0] K2 = ([d2, z2, x2, y2], [])) (hd2 : d2 ≠ 0) : z = z2 ∧ x = x2 ∧ y = y2 := by
  obtain ⟨d', z', x', y', f1, f2⟩ := zy_dw (st := st) (nm := nm) (th := th) (len := len) (li := li) (z0 := z0) h0 h5 hl hy hp hn hb (max K K2)
  rw [zx_F_max e1 hd (Nat.le_max_left K K2)] at f1
  rw [zx_F_max e2 hd2 (Nat.le_max_right K K2)] at f2
  have a1 : z = z' := congrArg (fun p => p.1.getD 1 0) f1
  have a2 : x = x' := congrArg (fun p => p.1.getD 2 0) f1
  have a3 : y = y' := congrArg (fun p => p.1.getD 3 0) f1
  have b1 : z2 = z' := congrArg (fun p => p.1.getD 1 0) f2
  have b2 : x2 = x' := congrArg (fun p => p.1.getD 2 0) f2
  have b3 : y2 = y' := congrArg (fun p => p.1.getD 3 0) f2
  rw [a1, a2, a3, b1, b2, b3]
  exact ⟨rfl, rfl, rfl⟩
def zk_dw2f (g h : zk_G) (N : zk_N) : Option zk_N := match zk_as 90 g, zk_as 90 h with
  | some ([la, ly, st, pl, ne, n0, b0], [i, _, nm, th, ln, ba, bo, lm, z0, d, z, x, y]), some ([la2, be, st2, ne2, m0, c0], [i2, _, nm2, th2, ln2, ba2, bo2, lm2, z2, d2, u, v, w]) => match zk_eqi (zk_fci N i) 155 && zk_eqi (zk_fci N i2) 156 && zk_nz N d && zk_nz N d2 && Nat.beq st st2 && zk_eqEs N [nm, th, ln, ba, bo, lm, z0] [nm2, th2, ln2, ba2, bo2, lm2, z2] && zk_n2 N ba && zk_n2 N (zk_vsub (zk_c 5) ba) && zk_h41 N be bo ba && ((zk_cp5 N ly).any fun w => zk_h43 N w be bo ba) && zk_pp N ba 3 la la2 && zk_pp N ba 3 n0 m0 && zk_pp N ba 3 b0 c0 && zk_pp N bo 2 pl be && zk_pp N bo 2 ne ne2 with
    | true => zk_sq (fun N => zk_eqs N (zk_vsub z u)) (zk_sq (fun N => zk_eqs N (zk_vsub x v)) (fun N => zk_eqs N (zk_vsub y w))) N
    | false => some N
  | _, _ => some N
theorem zk_dw2f_gd {E : zk_E} {n : Nat} {g h : zk_G} (hg : zk_tru E n g) (hh : zk_tru E n h) : zk_gd E n (zk_dw2f g h) := by
  intro N hN hc hn
  unfold zk_dw2f
  split
  · rename_i la ly st pl ne n0 b0 i K nm th ln ba bo lm z0 d z x y la2 be st2 ne2 m0 c0 i2 K2 nm2 th2 ln2 ba2 bo2 lm2 z2 d2 u v w hu hu2
    have e := zk_as_of hu
    have e2 := zk_as_of hu2
    subst e e2
    obtain ⟨t1, t2, t3⟩ := hg
    obtain ⟨g1, g2, g3⟩ := hh
    split
    · rename_i cc
      simp only [Bool.and_eq_true] at cc
      obtain ⟨⟨⟨⟨⟨⟨⟨⟨⟨⟨⟨⟨⟨⟨c1, c2'⟩, c3⟩, c4⟩, c5⟩, c6⟩, c7⟩, c8⟩, ch⟩, c10⟩, c11⟩, c12⟩, c13⟩, c14⟩, c15⟩ := cc
      have c1 := zk_fci_of (n := 155) hN c1
      have c2' := zk_fci_of (n := 156) hN c2'
      have c3 := zk_nz_ok hN c3
      have c4 := zk_nz_ok hN c4
      have c5 := Nat.eq_of_beq_eq_true c5
      have c6 := zk_eqEs_of hN c6
      have c7 := zk_n2_ok hN c7
      have c8 := zk_n2_ok hN c8
      rw [zk_vsub_i, zk_c_i] at c8
      have ch := zk_h41_of hN hc ch
      obtain ⟨r_, hr_, c10⟩ := List.any_eq_true.mp c10
      have hcp := zk_cp5_of hN hc hr_
      have c10 := zk_h43_of hN hc c10
      have c11 := zk_pp_of hN hc c11
      have c12 := zk_pp_of hN hc c12
      have c13 := zk_pp_of hN hc c13
      have c14 := zk_pp_of hN hc c14
      have c15 := zk_pp_of hN hc c15
      simp only [List.map_cons, List.map_nil] at c6
      injection c6 with q1 c6
      injection c6 with q2 c6
      injection c6 with q3 c6
      injection c6 with q4 c6
      injection c6 with q5 c6
      injection c6 with q6 c6
      injection c6 with q7 c6
      simp only [List.map_cons, List.map_nil, zq_6, zq_7, zq_8, zq_9, zq_20, zq_21, zq_22, zq_25, zq_26, zq_28, zq_30, zq_40, zq_51, zq_52, zq_53, zq_54, zq_55, zq_64, zq_65, zq_68, zq_72, zq_73, zq_85, zq_74, zq_75, zq_76, zq_71, zq_86, zq_87, zq_80, zq_41, zq_42, zq_43, zq_94, zq_95, zq_47, zq_48, zq_96, zq_97, zq_88, zq_89, zq_90, zq_93, zq_61, zq_62, zq_1, zq_2, zq_3, zq_4, zq_5, zq_46, zq_44, zx_90] at t1 g1
      rw [c1] at t1
      rw [c2'] at g1
      obtain ⟨-, -, tF⟩ := t1
      obtain ⟨-, -, gF⟩ := g1
      have tF : zx_F 155 [E.2 la, E.2 ly, E.2 st, E.2 pl, E.2 ne, E.2 n0, E.2 b0] [zk_i E nm, zk_i E th, zk_i E ln, zk_i E ba, zk_i E bo, zk_i E lm, zk_i E z0] (zk_i E K).toNat = ([zk_i E d, zk_i E z, zk_i E x, zk_i E y], []) := tF
      have gF : zx_F 156 [E.2 la2, E.2 be, E.2 st2, E.2 ne2, E.2 m0, E.2 c0] [zk_i E nm2, zk_i E th2, zk_i E ln2, zk_i E ba2, zk_i E bo2, zk_i E lm2, zk_i E z2] (zk_i E K2).toNat = ([zk_i E d2, zk_i E u, zk_i E v, zk_i E w], []) := gF
      rw [← q1, ← q2, ← q3, ← q4, ← q5, ← q6, ← q7, ← c5] at gF
      obtain ⟨r1, r2, r3⟩ := zy_dwE c7 (by omega) c11 (fun j hj => by rw [hcp j (by omega), c10 j (by omega), if_pos hj]) (fun j hj => ⟨c14 j hj, c15 j hj, by rw [c14 j hj]; exact ch j hj⟩) c12 c13 tF c3 gF c4
      have k1 : zk_gd E n (fun N => zk_eqs N (zk_vsub z u)) := zk_eqsg (by rw [zk_vsub_i]; omega) (zk_vsub_sv (t3 _ (by simp)) (g3 _ (by simp)))
      have k2 : zk_gd E n (fun N => zk_eqs N (zk_vsub x v)) := zk_eqsg (by rw [zk_vsub_i]; omega) (zk_vsub_sv (t3 _ (by simp)) (g3 _ (by simp)))
      have k3 : zk_gd E n (fun N => zk_eqs N (zk_vsub y w)) := zk_eqsg (by rw [zk_vsub_i]; omega) (zk_vsub_sv (t3 _ (by simp)) (g3 _ (by simp)))
      exact zk_sq_gd k1 (zk_sq_gd k2 k3) N hN hc hn
    · exact zk_id_gd N hN hc hn
  · exact zk_id_gd N hN hc hn
def zk_rdw : zk_Rl := zk_nr (zk_on zk_f90 fun p => zk_on zk_f90 (zk_dw2f p))
theorem zk_rdw_ok : zk_Rok zk_rdw := zk_nr_ok fun E n => zk_on_gd fun N h hc hn p hp => by
  have ht := zk_trs h hc hn p (List.mem_filter.mp hp).1
  exact zk_on_gd fun N' h' hc' hn' q hq => zk_dw2f_gd ht (zk_trs h' hc' hn' q (List.mem_filter.mp hq).1)
/-! a quotient of less than 0 by more than 0 -/
theorem zy_ng9 {x : Int} {c : Int} (hx : -2147483648 ≤ x ∧ x < 0) (hc : 0 < c ∧ c ≤ 2147483647) : (zx_o32 2 (Int32.ofInt x) (Int32.ofInt c)).toInt ≤ 0 := by
  show (Int32.ofInt x / Int32.ofInt c).toInt ≤ 0
  rw [Int32.toInt_div_of_ne_right _ _ (fun q => by
    have := congrArg Int32.toInt q
    rw [Int32.toInt_ofInt_of_le (by omega) (by omega)] at this
    have e : (-1 : Int32).toInt = -1 := by decide
    rw [e] at this
    omega)]
  rw [Int32.toInt_ofInt_of_le (by omega) (by omega), Int32.toInt_ofInt_of_le (by omega) (by omega)]
  have h1 : 0 ≤ (-x).tdiv c := Int.tdiv_nonneg (by omega) (by omega)
  rw [Int.neg_tdiv] at h1
  omega
def zk_ng9 (q : zk_G) (N : zk_N) : Option zk_N := match zk_as 80 q with
  | some ([], [o, x, y, w]) => match y.1 with
    | [] => match zk_eqv o (zk_c 2) && zk_n2 N (zk_vsub (zk_c (-1)) x) && zk_le 1 y.2 && zk_le y.2 2147483647 && zk_in N x && zk_in N w with
      | true => zk_asm N (zk_vsub (zk_c 0) w)
      | false => some N
    | _ => some N
  | _ => some N
theorem zk_ng9_gd {E : zk_E} {n : Nat} {q : zk_G} (hq : zk_tru E n q) : zk_gd E n (zk_ng9 q) := by
  intro N hN hc hn
  unfold zk_ng9
  split
  · rename_i o x y w hu
    have e := zk_as_of hu
    subst e
    obtain ⟨h1, -, h3⟩ := hq
    simp only [List.map_cons, List.map_nil, zq_6, zq_7, zq_8, zq_9, zq_20, zq_21, zq_22, zq_25, zq_26, zq_28, zq_30, zq_40, zq_51, zq_52, zq_53, zq_54, zq_55, zq_64, zq_65, zq_68, zq_72, zq_73, zq_85, zq_74, zq_75, zq_76, zq_71, zq_86, zq_87, zq_80, zq_41, zq_42, zq_43, zq_94, zq_95, zq_47, zq_48, zq_96, zq_97, zq_88, zq_89, zq_90, zq_93, zq_61, zq_62, zq_1, zq_2, zq_3, zq_4, zq_5, zq_46, zq_44] at h1
    split
    · rename_i hy
      split
      · rename_i c
        simp only [Bool.and_eq_true] at c
        obtain ⟨⟨⟨⟨⟨c1, c2⟩, c3⟩, c4⟩, c5⟩, c6⟩ := c
        have c1 := zk_eqv_of c1
        subst c1
        have c2 := zk_n2_ok hN c2
        rw [zk_vsub_i, zk_c_i] at c2
        have c3 := zk_le_of c3
        have c4 := zk_le_of c4
        have b5 := zk_in_b hN c5
        have c6 := zk_in_ok hN c6
        rw [zk_i_nil hy, zk_c_i] at h1
        have h1 : Int32.ofInt (zk_i E w) = zx_o32 2 (Int32.ofInt (zk_i E x)) (Int32.ofInt y.2) := h1
        have key := zy_ng9 (x := zk_i E x) (c := y.2) ⟨by omega, by omega⟩ ⟨by omega, by omega⟩
        rw [← h1, c6] at key
        have hd : 0 ≤ zk_i E (zk_vsub (zk_c 0) w) := by rw [zk_vsub_i, zk_c_i]; omega
        obtain ⟨N1, a1, a2⟩ := zk_asm_ok hN hd
        obtain ⟨a3, a4⟩ := zk_asm_cl hc (by rw [hn]; exact zk_vsub_sv zk_c_sv (h3 _ (by simp))) a1
        exact ⟨N1, a1, a2, a3, a4.trans hn⟩
      · exact zk_id_gd N hN hc hn
    · exact zk_id_gd N hN hc hn
  · exact zk_id_gd N hN hc hn
def zk_rng9 : zk_Rl := zk_nr (zk_on (zk_kd 80) zk_ng9)
theorem zk_rng9_ok : zk_Rok zk_rng9 := zk_nr_ok fun E n => zk_on_gd fun N h hc hn p hp => zk_ng9_gd (zk_trs h hc hn p (zk_kd_m hp))
end
