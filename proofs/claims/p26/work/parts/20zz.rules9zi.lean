noncomputable section
/-! HOW OFTEN SO MANY SLEEP (wip/p41/mk9zi.py) -/
theorem zy_oc_0 {la : zx_Rw} {ly : zx_Rw} {st : zx_Rw} {el : zx_Rw} {pl : zx_Rw} {ne : zx_Rw} {nz : zx_Rw} {bz : zx_Rw} {nd : Int} {th : Int} {len : Int} {sz : Int} {ba : Int} {bo : Int} {li : Int} {wt : Int} : zx_F 141 [la, ly, st, el, pl, ne, nz, bz] [nd, th, len, sz, ba, bo, li, wt] 0 = ([(0 : Int), (0 : Int)], [nz, bz]) := rfl
theorem zy_oc_s {k : Nat} {la : zx_Rw} {ly : zx_Rw} {st : zx_Rw} {el : zx_Rw} {pl : zx_Rw} {ne : zx_Rw} {nz : zx_Rw} {bz : zx_Rw} {n : zx_Rw} {b : zx_Rw} {nd : Int} {th : Int} {len : Int} {sz : Int} {ba : Int} {bo : Int} {li : Int} {wt : Int} {x : Int} (h0 : 0 ≤ ba) (h5 : ba ≤ 5) (h : zx_F 141 [la, ly, st, el, pl, ne, nz, bz] [nd, th, len, sz, ba, bo, li, wt] k = ([0, x], [n, b])) : zx_F 141 [la, ly, st, el, pl, ne, nz, bz] [nd, th, len, sz, ba, bo, li, wt] (k + 1) = ([(if (if ((k : Int) + (1 : Int)) ≤ nd then (1 : Int) else 0) = 0 then (1 : Int) else (0 : Int)), (if (if (if ((k : Int) + (1 : Int)) ≤ nd then (1 : Int) else 0) ≠ 0 ∧ (if (zx_op 84 ((zx_G 141 98 [pl, n, b, ly, ne] [bo, li, ba] 9).1.getD 1 0) wt) = wt then (1 : Int) else 0) ≠ 0 then (1 : Int) else 0) = 0 then x else (x + (1 : Int)))], if (if ((k : Int) + (1 : Int)) ≤ nd then (1 : Int) else 0) = 0 then [n, b] else [zy_to (zy_pd_n la ly st n b th len (k : Int) (if (if ((k : Int) + (1 : Int)) ≤ sz then (1 : Int) else 0) = 0 then (-1 : Int) else (zx_op 4 (el ((k : Int)).toNat) (0 : Int))) ba) n ba.toNat, zy_to (zy_pd_b b (if (if ((k : Int) + (1 : Int)) ≤ sz then (1 : Int) else 0) = 0 then (-1 : Int) else (zx_op 4 (el ((k : Int)).toNat) (0 : Int)))) b ba.toNat]) := by
  have hs := zy_dc_sto (cl := zx_G 141) (R := [la, ly, st, el, pl, ne, nz, bz]) (n := n) (b := b) (P := [nd, th, len, sz, ba, bo, li, wt]) (S := [0, x]) (k := (k : Int)) (la := 0) (ly := 1) (st := 2) (th := 1) (ln := 2) (ba := 4) (on := [(2, 0, []), (0, 1, []), (5, 0, []), (1, 0, []), (9, 0, [])]) (tu := [(2, 0, []), (0, 1, []), (5, 0, []), (1, 3, []), (9, 0, []), (2, 0, []), (4, 3, []), (0, 0, []), (8, 4, []), (0, (-1), []), (13, 0, [])]) (von := (if ((k : Int) + (1 : Int)) ≤ nd then (1 : Int) else 0)) (vtu := (if (if ((k : Int) + (1 : Int)) ≤ sz then (1 : Int) else 0) = 0 then (-1 : Int) else (zx_op 4 (el ((k : Int)).toNat) (0 : Int)))) (fun _ => rfl) (fun _ => rfl) h0 h5
  rw [zy_turn h, show (zx_dn 141).2.2.2.2 = zy_dc 0 1 2 1 2 4 [(2, 0, []), (0, 1, []), (5, 0, []), (1, 0, []), (9, 0, [])] [(2, 0, []), (0, 1, []), (5, 0, []), (1, 3, []), (9, 0, []), (2, 0, []), (4, 3, []), (0, 0, []), (8, 4, []), (0, (-1), []), (13, 0, [])] from rfl, hs]
  rfl
theorem zy_or2_0 {la : zx_Rw} {be : zx_Rw} {st : zx_Rw} {el : zx_Rw} {szr : zx_Rw} {ne : zx_Rw} {nz : zx_Rw} {bz : zx_Rw} {nd : Int} {th : Int} {len : Int} {sh : Int} {off : Int} {ba : Int} {bo : Int} {li : Int} {boy : Int} : zx_F 142 [la, be, st, el, szr, ne, nz, bz] [nd, th, len, sh, off, ba, bo, li, boy] 0 = ([(0 : Int), (0 : Int)], [nz, bz]) := rfl
theorem zy_or2_s {k : Nat} {la : zx_Rw} {be : zx_Rw} {st : zx_Rw} {el : zx_Rw} {szr : zx_Rw} {ne : zx_Rw} {nz : zx_Rw} {bz : zx_Rw} {n : zx_Rw} {b : zx_Rw} {nd : Int} {th : Int} {len : Int} {sh : Int} {off : Int} {ba : Int} {bo : Int} {li : Int} {boy : Int} {x : Int} (h0 : 0 ≤ ba) (h5 : ba ≤ 5) (h : zx_F 142 [la, be, st, el, szr, ne, nz, bz] [nd, th, len, sh, off, ba, bo, li, boy] k = ([0, x], [n, b])) : zx_F 142 [la, be, st, el, szr, ne, nz, bz] [nd, th, len, sh, off, ba, bo, li, boy] (k + 1) = ([(if (if ((k : Int) + (1 : Int)) ≤ nd then (1 : Int) else 0) = 0 then (1 : Int) else (0 : Int)), (if (if (if ((k : Int) + (1 : Int)) ≤ nd then (1 : Int) else 0) ≠ 0 ∧ (if (if boy ≤ (-1 : Int) then (1 : Int) else 0) = 0 then (if (zx_op 84 (zx_op 91 ((zx_G 142 99 [be, n, b, ne] [bo, li] 9).1.getD 1 0) boy) (1 : Int)) = (1 : Int) then (1 : Int) else 0) else (if ((zx_G 142 99 [be, n, b, ne] [bo, li] 9).1.getD 1 0) = ((zx_op 88 (1 : Int) bo) - (1 : Int)) then (1 : Int) else 0)) ≠ 0 then (1 : Int) else 0) = 0 then x else (x + (1 : Int)))], if (if ((k : Int) + (1 : Int)) ≤ nd then (1 : Int) else 0) = 0 then [n, b] else [zy_to (zy_pr_n la be st n b th len (k : Int) (if (if ((k : Int) + (1 : Int)) ≤ (szr (sh).toNat) then (1 : Int) else 0) = 0 then (-1 : Int) else (zx_op 4 (el ((off + (k : Int))).toNat) (0 : Int))) ba bo) n ba.toNat, zy_to (zy_pr_b b (if (if ((k : Int) + (1 : Int)) ≤ (szr (sh).toNat) then (1 : Int) else 0) = 0 then (-1 : Int) else (zx_op 4 (el ((off + (k : Int))).toNat) (0 : Int)))) b ba.toNat]) := by
  have hs := zy_dr_sto (cl := zx_G 142) (R := [la, be, st, el, szr, ne, nz, bz]) (n := n) (b := b) (P := [nd, th, len, sh, off, ba, bo, li, boy]) (S := [0, x]) (k := (k : Int)) (la := 0) (ly := 1) (st := 2) (th := 1) (ln := 2) (ba := 5) (bo := 6) (on := [(2, 0, []), (0, 1, []), (5, 0, []), (1, 0, []), (9, 0, [])]) (tu := [(2, 0, []), (0, 1, []), (5, 0, []), (1, 3, []), (4, 4, []), (9, 0, []), (1, 4, []), (2, 0, []), (5, 0, []), (4, 3, []), (0, 0, []), (8, 4, []), (0, (-1), []), (13, 0, [])]) (von := (if ((k : Int) + (1 : Int)) ≤ nd then (1 : Int) else 0)) (vtu := (if (if ((k : Int) + (1 : Int)) ≤ (szr (sh).toNat) then (1 : Int) else 0) = 0 then (-1 : Int) else (zx_op 4 (el ((off + (k : Int))).toNat) (0 : Int)))) (fun _ => rfl) (fun _ => rfl) h0 h5
  rw [zy_turn h, show (zx_dn 142).2.2.2.2 = zy_dr 0 1 2 1 2 5 6 [(2, 0, []), (0, 1, []), (5, 0, []), (1, 0, []), (9, 0, [])] [(2, 0, []), (0, 1, []), (5, 0, []), (1, 3, []), (4, 4, []), (9, 0, []), (1, 4, []), (2, 0, []), (5, 0, []), (4, 3, []), (0, 0, []), (8, 4, []), (0, (-1), []), (13, 0, [])] from rfl, hs]
  rfl
def zy_on141 : List zx_I := [(2, 0, []), (0, 1, []), (5, 0, []), (1, 0, []), (9, 0, [])]
def zy_tu141 : List zx_I := [(2, 0, []), (0, 1, []), (5, 0, []), (1, 3, []), (9, 0, []), (2, 0, []), (4, 3, []), (0, 0, []), (8, 4, []), (0, (-1), []), (13, 0, [])]
theorem zy_e141 {k : Nat} {la : zx_Rw} {ly : zx_Rw} {st : zx_Rw} {el : zx_Rw} {pl : zx_Rw} {ne : zx_Rw} {n0 : zx_Rw} {b0 : zx_Rw} {n : zx_Rw} {b : zx_Rw} {nd : Int} {th : Int} {len : Int} {sz : Int} {ba : Int} {bo : Int} {li : Int} {wt : Int} {x_ : Int} (h0 : 0 ≤ ba) (h5 : ba ≤ 5) (h : zx_F 141 [la, ly, st, el, pl, ne, n0, b0] [nd, th, len, sz, ba, bo, li, wt] k = ([0, x_], [n, b])) : zx_F 141 [la, ly, st, el, pl, ne, n0, b0] [nd, th, len, sz, ba, bo, li, wt] (k + 1) = ((zx_dn 141).2.2.2.1.map (zx_ev (zx_G 141) [la, ly, st, el, pl, ne, n0, b0] [n, b] [nd, th, len, sz, ba, bo, li, wt] (k : Int) [0, x_]), if (zx_ev (zx_G 141) [la, ly, st, el, pl, ne, n0, b0] [n, b] [nd, th, len, sz, ba, bo, li, wt] (k : Int) [0, x_] zy_on141) = 0 then [n, b] else [zy_to (zy_pd_n la ly st n b th len (k : Int) (zx_ev (zx_G 141) [la, ly, st, el, pl, ne, n0, b0] [n, b] [nd, th, len, sz, ba, bo, li, wt] (k : Int) [0, x_] zy_tu141) ba) n ba.toNat, zy_to (zy_pd_b b (zx_ev (zx_G 141) [la, ly, st, el, pl, ne, n0, b0] [n, b] [nd, th, len, sz, ba, bo, li, wt] (k : Int) [0, x_] zy_tu141)) b ba.toNat]) := by
  have hs := zy_dc_sto (cl := zx_G 141) (R := [la, ly, st, el, pl, ne, n0, b0]) (n := n) (b := b) (P := [nd, th, len, sz, ba, bo, li, wt]) (S := [0, x_]) (k := (k : Int)) (la := 0) (ly := 1) (st := 2) (th := 1) (ln := 2) (ba := 4) (on := zy_on141) (tu := zy_tu141) (von := (zx_ev (zx_G 141) [la, ly, st, el, pl, ne, n0, b0] [n, b] [nd, th, len, sz, ba, bo, li, wt] (k : Int) [0, x_] zy_on141)) (vtu := (zx_ev (zx_G 141) [la, ly, st, el, pl, ne, n0, b0] [n, b] [nd, th, len, sz, ba, bo, li, wt] (k : Int) [0, x_] zy_tu141)) (fun _ => rfl) (fun _ => rfl) h0 h5
  rw [zy_turn h, show (zx_dn 141).2.2.2.2 = zy_dc 0 1 2 1 2 4 zy_on141 zy_tu141 from rfl, hs]
  rfl
def zk_dy141 (N : zk_N) (g h : zk_G) : List zk_G := match zk_as 90 g, zk_as 90 h with
  | some ([la, ly, st, el, pl, ne, n0, b0, nn, bb], [i_, k, nd, th, len, sz, ba, bo, li, wt, d_, x_]), some ([la2, ly2, st2, nn2, bb2, n2, b2], [j_, _, th2, ln2, da, tu2, ba2, e2]) => match zk_eqi (zk_fci N i_) 141 && zk_eqi (zk_fci N j_) 100 && zk_eqE N d_ (zk_c 0) && zk_nz N e2 && zk_eqNs [la, ly, st, nn, bb] [la2, ly2, st2, nn2, bb2] && zk_eqEs N [th, len, k, ba] [th2, ln2, da, ba2] && zk_n2 N k && zk_n2 N ba && zk_n2 N (zk_vsub (zk_c 5) ba) && Nat.beq (zk_b3 N (zk_sev N 141 [la, ly, st, el, pl, ne, n0, b0] [nn, bb] [nd, th, len, sz, ba, bo, li, wt] k [d_, x_] zy_on141)) 1, zk_sev N 141 [la, ly, st, el, pl, ne, n0, b0] [nn, bb] [nd, th, len, sz, ba, bo, li, wt] k [d_, x_] zy_tu141, zk_sevs N 141 [la, ly, st, el, pl, ne, n0, b0] [nn, bb] [nd, th, len, sz, ba, bo, li, wt] k [d_, x_] (zx_dn 141).2.2.2.1 with
    | true, some t, some w => match zk_eqE N t tu2 with
      | true => [(90, [la, ly, st, el, pl, ne, n0, b0, n2, b2], i_ :: zk_vadd k (zk_c 1) :: nd :: th :: len :: sz :: ba :: bo :: li :: wt :: w)]
      | false => []
    | _, _, _ => []
  | _, _ => []
theorem zk_dy141_ok {E : zk_E} {N : zk_N} (hN : zk_ok E N) (hc : zk_cl N) {g h : zk_G} (hg : g ∈ N.2.2.2) (hh : h ∈ N.2.2.2) : ∀ y ∈ zk_dy141 N g h, zk_tru E N.1 y := by
  have ht := zk_tru_of hN hc g hg
  have ht2 := zk_tru_of hN hc h hh
  intro y hy
  unfold zk_dy141 at hy
  split at hy
  · rename_i la ly st el pl ne n0 b0 nn bb i_ k nd th len sz ba bo li wt d_ x_ la2 ly2 st2 nn2 bb2 n2 b2 j_ K2 th2 ln2 da tu2 ba2  e2 hu hu2
    have e := zk_as_of hu
    have e' := zk_as_of hu2
    subst e e'
    split at hy
    · rename_i t w c htu hw
      split at hy
      · rename_i ct
        simp only [Bool.and_eq_true] at c
        obtain ⟨⟨⟨⟨⟨⟨⟨⟨⟨c1, c2⟩, c3⟩, c4⟩, c5⟩, c6⟩, c7⟩, c8⟩, c9⟩, c10⟩ := c
        have c1 := zk_fci_of (n := 141) hN c1
        have c3 := zk_eqE_of hN c3
        have c4 := zk_nz_ok hN c4
        have c5 := zk_eqNs_of c5
        have c6 := zk_eqEs_of hN c6
        have c7 := zk_n2_ok hN c7
        have c8 := zk_n2_ok hN c8
        have c9 := zk_n2_ok hN c9
        have ct := zk_eqE_of hN ct
        have hb3 := (zk_b3_of hN (z := zx_ev (zx_G 141) ([la, ly, st, el, pl, ne, n0, b0].map E.2) ([nn, bb].map E.2) ([nd, th, len, sz, ba, bo, li, wt].map (zk_i E)) (zk_i E k) ([d_, x_].map (zk_i E)) zy_on141) (fun v hv => zk_sev_of hN hv)).2 (Nat.eq_of_beq_eq_true c10)
        have htu' := zk_sev_of hN htu
        have hw' := zk_sevs_of hN hw
        rw [zk_c_i] at c3
        rw [zk_vsub_i, zk_c_i] at c9
        injection c5 with p1 c5
        injection c5 with p2 c5
        injection c5 with p3 c5
        injection c5 with p4 c5
        injection c5 with p5 c5
        subst p1 p2 p3 p4 p5
        simp only [List.map_cons, List.map_nil] at c6 hb3 htu' hw'
        injection c6 with q1 c6
        injection c6 with q2 c6
        injection c6 with q3 c6
        injection c6 with q4 c6
        obtain ⟨k3, k4⟩ := zk_pdF hN ht2 c2 c4 (by rw [← q4]; exact c8)
        rw [← q1, ← q2, ← q3, ← q4, ← ct] at k3
        rw [← q4, ← ct] at k4
        obtain ⟨t1, t2, t3⟩ := ht
        obtain ⟨-, g2, -⟩ := ht2
        simp only [List.map_cons, List.map_nil, zq_6, zq_7, zq_8, zq_9, zq_20, zq_21, zq_22, zq_25, zq_26, zq_28, zq_30, zq_40, zq_51, zq_52, zq_53, zq_54, zq_55, zq_64, zq_65, zq_68, zq_72, zq_73, zq_85, zq_74, zq_75, zq_76, zq_71, zq_86, zq_87, zq_80, zq_41, zq_42, zq_43, zq_94, zq_95, zq_47, zq_48, zq_96, zq_97, zq_88, zq_89, zq_90, zq_93, zq_61, zq_62, zq_1, zq_2, zq_3, zq_4, zq_5, zq_46, zq_44, zx_90] at t1
        rw [c1] at t1
        obtain ⟨-, -, tF⟩ := t1
        have tF : zx_F 141 [E.2 la, E.2 ly, E.2 st, E.2 el, E.2 pl, E.2 ne, E.2 n0, E.2 b0] [zk_i E nd, zk_i E th, zk_i E len, zk_i E sz, zk_i E ba, zk_i E bo, zk_i E li, zk_i E wt] (zk_i E k).toNat = ([zk_i E d_, zk_i E x_], [E.2 nn, E.2 bb]) := tF
        rw [c3] at tF hb3 htu' hw'
        have ek : (((zk_i E k).toNat : Nat) : Int) = zk_i E k := Int.toNat_of_nonneg c7
        have r3 := zy_e141 c8 (by omega) tF
        rw [ek, if_neg hb3, ← htu', ← k3, ← k4, ← hw'] at r3
        rw [List.mem_singleton.mp hy]
        refine ⟨?_, fun a ha => ?_, fun u hu => ?_⟩
        · simp only [List.map_cons, List.map_nil, zq_6, zq_7, zq_8, zq_9, zq_20, zq_21, zq_22, zq_25, zq_26, zq_28, zq_30, zq_40, zq_51, zq_52, zq_53, zq_54, zq_55, zq_64, zq_65, zq_68, zq_72, zq_73, zq_85, zq_74, zq_75, zq_76, zq_71, zq_86, zq_87, zq_80, zq_41, zq_42, zq_43, zq_94, zq_95, zq_47, zq_48, zq_96, zq_97, zq_88, zq_89, zq_90, zq_93, zq_61, zq_62, zq_1, zq_2, zq_3, zq_4, zq_5, zq_46, zq_44, zx_90]
          rw [c1, zk_vadd_i, zk_c_i]
          refine ⟨by decide, by omega, ?_⟩
          rw [show (zk_i E k + 1).toNat = (zk_i E k).toNat + 1 by omega]
          exact r3
        · simp only [List.mem_cons, List.not_mem_nil, or_false] at ha
          rcases ha with rfl | rfl | rfl | rfl | rfl | rfl | rfl | rfl | rfl | rfl
          · exact t2 _ (by simp)
          · exact t2 _ (by simp)
          · exact t2 _ (by simp)
          · exact t2 _ (by simp)
          · exact t2 _ (by simp)
          · exact t2 _ (by simp)
          · exact t2 _ (by simp)
          · exact t2 _ (by simp)
          · exact g2 _ (by simp)
          · exact g2 _ (by simp)
        · rcases List.mem_cons.mp hu with rfl | hu
          · exact t3 _ (by simp)
          rcases List.mem_cons.mp hu with rfl | hu
          · exact zk_vadd_sv (t3 _ (by simp)) zk_c_sv
          rcases List.mem_cons.mp hu with rfl | hu
          · exact t3 _ (by simp)
          rcases List.mem_cons.mp hu with rfl | hu
          · exact t3 _ (by simp)
          rcases List.mem_cons.mp hu with rfl | hu
          · exact t3 _ (by simp)
          rcases List.mem_cons.mp hu with rfl | hu
          · exact t3 _ (by simp)
          rcases List.mem_cons.mp hu with rfl | hu
          · exact t3 _ (by simp)
          rcases List.mem_cons.mp hu with rfl | hu
          · exact t3 _ (by simp)
          rcases List.mem_cons.mp hu with rfl | hu
          · exact t3 _ (by simp)
          rcases List.mem_cons.mp hu with rfl | hu
          · exact t3 _ (by simp)
          exact zk_sevs_sv hc (fun v hv => t3 _ (by simp only [List.mem_cons, List.not_mem_nil, or_false] at hv ⊢; rcases hv with rfl | rfl | rfl | rfl | rfl | rfl | rfl | rfl <;> first | exact Or.inr (Or.inr (Or.inl rfl)) | exact Or.inr (Or.inr (Or.inr (Or.inl rfl))) | exact Or.inr (Or.inr (Or.inr (Or.inr (Or.inl rfl)))) | exact Or.inr (Or.inr (Or.inr (Or.inr (Or.inr (Or.inl rfl))))) | exact Or.inr (Or.inr (Or.inr (Or.inr (Or.inr (Or.inr (Or.inl rfl)))))) | exact Or.inr (Or.inr (Or.inr (Or.inr (Or.inr (Or.inr (Or.inr (Or.inl rfl))))))) | exact Or.inr (Or.inr (Or.inr (Or.inr (Or.inr (Or.inr (Or.inr (Or.inr (Or.inl rfl)))))))) | exact Or.inr (Or.inr (Or.inr (Or.inr (Or.inr (Or.inr (Or.inr (Or.inr (Or.inr (Or.inl rfl))))))))))) (fun v hv => t3 _ (by simp only [List.mem_cons, List.not_mem_nil, or_false] at hv ⊢; rcases hv with rfl | rfl <;> first | exact Or.inr (Or.inr (Or.inr (Or.inr (Or.inr (Or.inr (Or.inr (Or.inr (Or.inr (Or.inr (Or.inl rfl)))))))))) | exact Or.inr (Or.inr (Or.inr (Or.inr (Or.inr (Or.inr (Or.inr (Or.inr (Or.inr (Or.inr (Or.inr (rfl))))))))))))) (t3 _ (by simp)) hw u hu
      · cases hy
    · cases hy
  · cases hy
def zk_rdy141 : zk_Rl := zk_nr fun N => some (zk_addGs N ((zk_kd 90 N).flatMap fun p => (zk_kd 90 N).flatMap (zk_dy141 N p)))
theorem zk_rdy141_ok : zk_Rok zk_rdy141 := zk_nr_ok fun E n => zk_add_gd (f := fun N => (zk_kd 90 N).flatMap fun p => (zk_kd 90 N).flatMap (zk_dy141 N p)) fun N hN hc hn x hx => by
  obtain ⟨y, hy1, hy2⟩ := List.mem_flatMap.mp hx
  obtain ⟨w, hw1, hw2⟩ := List.mem_flatMap.mp hy2
  rw [← hn]
  exact zk_dy141_ok hN hc (zk_kd_m hy1) (zk_kd_m hw1) x hw2
def zy_on142 : List zx_I := [(2, 0, []), (0, 1, []), (5, 0, []), (1, 0, []), (9, 0, [])]
def zy_tu142 : List zx_I := [(2, 0, []), (0, 1, []), (5, 0, []), (1, 3, []), (4, 4, []), (9, 0, []), (1, 4, []), (2, 0, []), (5, 0, []), (4, 3, []), (0, 0, []), (8, 4, []), (0, (-1), []), (13, 0, [])]
theorem zy_e142 {k : Nat} {la : zx_Rw} {be : zx_Rw} {st : zx_Rw} {el : zx_Rw} {szr : zx_Rw} {ne : zx_Rw} {n0 : zx_Rw} {b0 : zx_Rw} {n : zx_Rw} {b : zx_Rw} {nd : Int} {th : Int} {len : Int} {sh : Int} {off : Int} {ba : Int} {bo : Int} {li : Int} {boy : Int} {x_ : Int} (h0 : 0 ≤ ba) (h5 : ba ≤ 5) (h : zx_F 142 [la, be, st, el, szr, ne, n0, b0] [nd, th, len, sh, off, ba, bo, li, boy] k = ([0, x_], [n, b])) : zx_F 142 [la, be, st, el, szr, ne, n0, b0] [nd, th, len, sh, off, ba, bo, li, boy] (k + 1) = ((zx_dn 142).2.2.2.1.map (zx_ev (zx_G 142) [la, be, st, el, szr, ne, n0, b0] [n, b] [nd, th, len, sh, off, ba, bo, li, boy] (k : Int) [0, x_]), if (zx_ev (zx_G 142) [la, be, st, el, szr, ne, n0, b0] [n, b] [nd, th, len, sh, off, ba, bo, li, boy] (k : Int) [0, x_] zy_on142) = 0 then [n, b] else [zy_to (zy_pr_n la be st n b th len (k : Int) (zx_ev (zx_G 142) [la, be, st, el, szr, ne, n0, b0] [n, b] [nd, th, len, sh, off, ba, bo, li, boy] (k : Int) [0, x_] zy_tu142) ba bo) n ba.toNat, zy_to (zy_pr_b b (zx_ev (zx_G 142) [la, be, st, el, szr, ne, n0, b0] [n, b] [nd, th, len, sh, off, ba, bo, li, boy] (k : Int) [0, x_] zy_tu142)) b ba.toNat]) := by
  have hs := zy_dr_sto (cl := zx_G 142) (R := [la, be, st, el, szr, ne, n0, b0]) (n := n) (b := b) (P := [nd, th, len, sh, off, ba, bo, li, boy]) (S := [0, x_]) (k := (k : Int)) (la := 0) (ly := 1) (st := 2) (th := 1) (ln := 2) (ba := 5) (bo := 6) (on := zy_on142) (tu := zy_tu142) (von := (zx_ev (zx_G 142) [la, be, st, el, szr, ne, n0, b0] [n, b] [nd, th, len, sh, off, ba, bo, li, boy] (k : Int) [0, x_] zy_on142)) (vtu := (zx_ev (zx_G 142) [la, be, st, el, szr, ne, n0, b0] [n, b] [nd, th, len, sh, off, ba, bo, li, boy] (k : Int) [0, x_] zy_tu142)) (fun _ => rfl) (fun _ => rfl) h0 h5
  rw [zy_turn h, show (zx_dn 142).2.2.2.2 = zy_dr 0 1 2 1 2 5 6 zy_on142 zy_tu142 from rfl, hs]
  rfl
def zk_dy142 (N : zk_N) (g h : zk_G) : List zk_G := match zk_as 90 g, zk_as 90 h with
  | some ([la, be, st, el, szr, ne, n0, b0, nn, bb], [i_, k, nd, th, len, sh, off, ba, bo, li, boy, d_, x_]), some ([la2, ly2, st2, nn2, bb2, n2, b2], [j_, _, th2, ln2, da, tu2, ba2, bo2, e2]) => match zk_eqi (zk_fci N i_) 142 && zk_eqi (zk_fci N j_) 101 && zk_eqE N d_ (zk_c 0) && zk_nz N e2 && zk_eqNs [la, be, st, nn, bb] [la2, ly2, st2, nn2, bb2] && zk_eqEs N [th, len, k, ba, bo] [th2, ln2, da, ba2, bo2] && zk_n2 N k && zk_n2 N ba && zk_n2 N (zk_vsub (zk_c 5) ba) && Nat.beq (zk_b3 N (zk_sev N 142 [la, be, st, el, szr, ne, n0, b0] [nn, bb] [nd, th, len, sh, off, ba, bo, li, boy] k [d_, x_] zy_on142)) 1, zk_sev N 142 [la, be, st, el, szr, ne, n0, b0] [nn, bb] [nd, th, len, sh, off, ba, bo, li, boy] k [d_, x_] zy_tu142, zk_sevs N 142 [la, be, st, el, szr, ne, n0, b0] [nn, bb] [nd, th, len, sh, off, ba, bo, li, boy] k [d_, x_] (zx_dn 142).2.2.2.1 with
    | true, some t, some w => match zk_eqE N t tu2 with
      | true => [(90, [la, be, st, el, szr, ne, n0, b0, n2, b2], i_ :: zk_vadd k (zk_c 1) :: nd :: th :: len :: sh :: off :: ba :: bo :: li :: boy :: w)]
      | false => []
    | _, _, _ => []
  | _, _ => []
theorem zk_dy142_ok {E : zk_E} {N : zk_N} (hN : zk_ok E N) (hc : zk_cl N) {g h : zk_G} (hg : g ∈ N.2.2.2) (hh : h ∈ N.2.2.2) : ∀ y ∈ zk_dy142 N g h, zk_tru E N.1 y := by
  have ht := zk_tru_of hN hc g hg
  have ht2 := zk_tru_of hN hc h hh
  intro y hy
  unfold zk_dy142 at hy
  split at hy
  · rename_i la be st el szr ne n0 b0 nn bb i_ k nd th len sh off ba bo li boy d_ x_ la2 ly2 st2 nn2 bb2 n2 b2 j_ K2 th2 ln2 da tu2 ba2 bo2 e2 hu hu2
    have e := zk_as_of hu
    have e' := zk_as_of hu2
    subst e e'
    split at hy
    · rename_i t w c htu hw
      split at hy
      · rename_i ct
        simp only [Bool.and_eq_true] at c
        obtain ⟨⟨⟨⟨⟨⟨⟨⟨⟨c1, c2⟩, c3⟩, c4⟩, c5⟩, c6⟩, c7⟩, c8⟩, c9⟩, c10⟩ := c
        have c1 := zk_fci_of (n := 142) hN c1
        have c3 := zk_eqE_of hN c3
        have c4 := zk_nz_ok hN c4
        have c5 := zk_eqNs_of c5
        have c6 := zk_eqEs_of hN c6
        have c7 := zk_n2_ok hN c7
        have c8 := zk_n2_ok hN c8
        have c9 := zk_n2_ok hN c9
        have ct := zk_eqE_of hN ct
        have hb3 := (zk_b3_of hN (z := zx_ev (zx_G 142) ([la, be, st, el, szr, ne, n0, b0].map E.2) ([nn, bb].map E.2) ([nd, th, len, sh, off, ba, bo, li, boy].map (zk_i E)) (zk_i E k) ([d_, x_].map (zk_i E)) zy_on142) (fun v hv => zk_sev_of hN hv)).2 (Nat.eq_of_beq_eq_true c10)
        have htu' := zk_sev_of hN htu
        have hw' := zk_sevs_of hN hw
        rw [zk_c_i] at c3
        rw [zk_vsub_i, zk_c_i] at c9
        injection c5 with p1 c5
        injection c5 with p2 c5
        injection c5 with p3 c5
        injection c5 with p4 c5
        injection c5 with p5 c5
        subst p1 p2 p3 p4 p5
        simp only [List.map_cons, List.map_nil] at c6 hb3 htu' hw'
        injection c6 with q1 c6
        injection c6 with q2 c6
        injection c6 with q3 c6
        injection c6 with q4 c6
        injection c6 with q5 c6
        obtain ⟨k3, k4⟩ := zk_prF hN ht2 c2 c4 (by rw [← q4]; exact c8)
        rw [← q1, ← q2, ← q3, ← q4, ← q5, ← ct] at k3
        rw [← q4, ← ct] at k4
        obtain ⟨t1, t2, t3⟩ := ht
        obtain ⟨-, g2, -⟩ := ht2
        simp only [List.map_cons, List.map_nil, zq_6, zq_7, zq_8, zq_9, zq_20, zq_21, zq_22, zq_25, zq_26, zq_28, zq_30, zq_40, zq_51, zq_52, zq_53, zq_54, zq_55, zq_64, zq_65, zq_68, zq_72, zq_73, zq_85, zq_74, zq_75, zq_76, zq_71, zq_86, zq_87, zq_80, zq_41, zq_42, zq_43, zq_94, zq_95, zq_47, zq_48, zq_96, zq_97, zq_88, zq_89, zq_90, zq_93, zq_61, zq_62, zq_1, zq_2, zq_3, zq_4, zq_5, zq_46, zq_44, zx_90] at t1
        rw [c1] at t1
        obtain ⟨-, -, tF⟩ := t1
        have tF : zx_F 142 [E.2 la, E.2 be, E.2 st, E.2 el, E.2 szr, E.2 ne, E.2 n0, E.2 b0] [zk_i E nd, zk_i E th, zk_i E len, zk_i E sh, zk_i E off, zk_i E ba, zk_i E bo, zk_i E li, zk_i E boy] (zk_i E k).toNat = ([zk_i E d_, zk_i E x_], [E.2 nn, E.2 bb]) := tF
        rw [c3] at tF hb3 htu' hw'
        have ek : (((zk_i E k).toNat : Nat) : Int) = zk_i E k := Int.toNat_of_nonneg c7
        have r3 := zy_e142 c8 (by omega) tF
        rw [ek, if_neg hb3, ← htu', ← k3, ← k4, ← hw'] at r3
        rw [List.mem_singleton.mp hy]
        refine ⟨?_, fun a ha => ?_, fun u hu => ?_⟩
        · simp only [List.map_cons, List.map_nil, zq_6, zq_7, zq_8, zq_9, zq_20, zq_21, zq_22, zq_25, zq_26, zq_28, zq_30, zq_40, zq_51, zq_52, zq_53, zq_54, zq_55, zq_64, zq_65, zq_68, zq_72, zq_73, zq_85, zq_74, zq_75, zq_76, zq_71, zq_86, zq_87, zq_80, zq_41, zq_42, zq_43, zq_94, zq_95, zq_47, zq_48, zq_96, zq_97, zq_88, zq_89, zq_90, zq_93, zq_61, zq_62, zq_1, zq_2, zq_3, zq_4, zq_5, zq_46, zq_44, zx_90]
          rw [c1, zk_vadd_i, zk_c_i]
          refine ⟨by decide, by omega, ?_⟩
          rw [show (zk_i E k + 1).toNat = (zk_i E k).toNat + 1 by omega]
          exact r3
        · simp only [List.mem_cons, List.not_mem_nil, or_false] at ha
          rcases ha with rfl | rfl | rfl | rfl | rfl | rfl | rfl | rfl | rfl | rfl
          · exact t2 _ (by simp)
          · exact t2 _ (by simp)
          · exact t2 _ (by simp)
          · exact t2 _ (by simp)
          · exact t2 _ (by simp)
          · exact t2 _ (by simp)
          · exact t2 _ (by simp)
          · exact t2 _ (by simp)
          · exact g2 _ (by simp)
          · exact g2 _ (by simp)
        · rcases List.mem_cons.mp hu with rfl | hu
          · exact t3 _ (by simp)
          rcases List.mem_cons.mp hu with rfl | hu
          · exact zk_vadd_sv (t3 _ (by simp)) zk_c_sv
          rcases List.mem_cons.mp hu with rfl | hu
          · exact t3 _ (by simp)
          rcases List.mem_cons.mp hu with rfl | hu
          · exact t3 _ (by simp)
          rcases List.mem_cons.mp hu with rfl | hu
          · exact t3 _ (by simp)
          rcases List.mem_cons.mp hu with rfl | hu
          · exact t3 _ (by simp)
          rcases List.mem_cons.mp hu with rfl | hu
          · exact t3 _ (by simp)
          rcases List.mem_cons.mp hu with rfl | hu
          · exact t3 _ (by simp)
          rcases List.mem_cons.mp hu with rfl | hu
          · exact t3 _ (by simp)
          rcases List.mem_cons.mp hu with rfl | hu
          · exact t3 _ (by simp)
          rcases List.mem_cons.mp hu with rfl | hu
          · exact t3 _ (by simp)
          exact zk_sevs_sv hc (fun v hv => t3 _ (by simp only [List.mem_cons, List.not_mem_nil, or_false] at hv ⊢; rcases hv with rfl | rfl | rfl | rfl | rfl | rfl | rfl | rfl | rfl <;> first | exact Or.inr (Or.inr (Or.inl rfl)) | exact Or.inr (Or.inr (Or.inr (Or.inl rfl))) | exact Or.inr (Or.inr (Or.inr (Or.inr (Or.inl rfl)))) | exact Or.inr (Or.inr (Or.inr (Or.inr (Or.inr (Or.inl rfl))))) | exact Or.inr (Or.inr (Or.inr (Or.inr (Or.inr (Or.inr (Or.inl rfl)))))) | exact Or.inr (Or.inr (Or.inr (Or.inr (Or.inr (Or.inr (Or.inr (Or.inl rfl))))))) | exact Or.inr (Or.inr (Or.inr (Or.inr (Or.inr (Or.inr (Or.inr (Or.inr (Or.inl rfl)))))))) | exact Or.inr (Or.inr (Or.inr (Or.inr (Or.inr (Or.inr (Or.inr (Or.inr (Or.inr (Or.inl rfl))))))))) | exact Or.inr (Or.inr (Or.inr (Or.inr (Or.inr (Or.inr (Or.inr (Or.inr (Or.inr (Or.inr (Or.inl rfl)))))))))))) (fun v hv => t3 _ (by simp only [List.mem_cons, List.not_mem_nil, or_false] at hv ⊢; rcases hv with rfl | rfl <;> first | exact Or.inr (Or.inr (Or.inr (Or.inr (Or.inr (Or.inr (Or.inr (Or.inr (Or.inr (Or.inr (Or.inr (Or.inl rfl))))))))))) | exact Or.inr (Or.inr (Or.inr (Or.inr (Or.inr (Or.inr (Or.inr (Or.inr (Or.inr (Or.inr (Or.inr (Or.inr (rfl)))))))))))))) (t3 _ (by simp)) hw u hu
      · cases hy
    · cases hy
  · cases hy
def zk_rdy142 : zk_Rl := zk_nr fun N => some (zk_addGs N ((zk_kd 90 N).flatMap fun p => (zk_kd 90 N).flatMap (zk_dy142 N p)))
theorem zk_rdy142_ok : zk_Rok zk_rdy142 := zk_nr_ok fun E n => zk_add_gd (f := fun N => (zk_kd 90 N).flatMap fun p => (zk_kd 90 N).flatMap (zk_dy142 N p)) fun N hN hc hn x hx => by
  obtain ⟨y, hy1, hy2⟩ := List.mem_flatMap.mp hx
  obtain ⟨w, hw1, hw2⟩ := List.mem_flatMap.mp hy2
  rw [← hn]
  exact zk_dy142_ok hN hc (zk_kd_m hy1) (zk_kd_m hw1) x hw2
/-! bits -/
def zy_p2 (b : Int) : Int := zx_op 88 1 b
def zy_oA_ (b s : Nat) : Bool := decide ((s : Int) ≤ zy_p2 b - 1 → (zx_op 84 (s : Int) (zy_p2 b - 1) = zy_p2 b - 1 ↔ (s : Int) = zy_p2 b - 1))
def zy_oB_ (b s : Nat) : Bool := decide (zx_op 84 (s : Int) (zy_p2 b) = zy_p2 b ↔ zx_op 84 (zx_op 91 (s : Int) (b : Int)) 1 = 1)
def zy_oC_ (b s : Nat) : Bool := decide ((s : Int) ≤ zy_p2 b - 1 → (0 ≤ zx_op 85 (s : Int) (zy_p2 b) ∧ zx_op 85 (s : Int) (zy_p2 b) ≤ zy_p2 ((b + 1 : Nat) : Int) - 1))
def zy_oD_ (a b : Nat) : Bool := decide (a ≤ b → zy_p2 a ≤ zy_p2 b)
theorem zy_oAt_ : ((List.range 9).all fun b => (List.range 256).all (zy_oA_ b)) = true := by decide +kernel
theorem zy_oBt_ : ((List.range 9).all fun b => (List.range 256).all (zy_oB_ b)) = true := by decide +kernel
theorem zy_oCt_ : ((List.range 8).all fun b => (List.range 256).all (zy_oC_ b)) = true := by decide +kernel
theorem zy_oDt_ : ((List.range 9).all fun b => (List.range 9).all (zy_oD_ b)) = true := by decide +kernel
theorem zy_all2 {f : Nat → Nat → Bool} {n m b s : Nat} (h : ((List.range n).all fun b => (List.range m).all (f b)) = true) (hb : b < n) (hs : s < m) : f b s = true := List.all_eq_true.mp (List.all_eq_true.mp h b (List.mem_range.mpr hb)) s (List.mem_range.mpr hs)
theorem zy_p2_8 : zy_p2 8 = 256 := by decide +kernel
theorem zy_p2_0 : zy_p2 0 = 1 := by decide +kernel
theorem zy_p2m {a b : Nat} (h : a ≤ b) (hb : b ≤ 8) : zy_p2 a ≤ zy_p2 b := of_decide_eq_true (zy_all2 zy_oDt_ (b := a) (s := b) (by omega) (by omega)) h
/-- who sleeps: bits of boys alone -/
theorem zy_sb {be ni bl ne : zx_Rw} {bo li : Int} (hb : bo ≤ 8) : ∀ K : Nat, ∃ d w, zx_F 99 [be, ni, bl, ne] [bo, li] K = ([d, w], []) ∧ 0 ≤ w ∧ ((d = 0 ∧ (K : Int) ≤ max bo 0 ∧ w ≤ zy_p2 K - 1) ∨ (d ≠ 0 ∧ w ≤ zy_p2 (max bo 0) - 1))
  | 0 => ⟨0, 0, zy_slr_0, by omega, Or.inl ⟨rfl, by omega, by show (0 : Int) ≤ zy_p2 0 - 1; rw [zy_p2_0]; omega⟩⟩
  | K + 1 => by
    obtain ⟨d, w, e, h0, g⟩ := zy_sb (be := be) (ni := ni) (bl := bl) (ne := ne) (li := li) hb K
    rcases g with ⟨rfl, g1, g2⟩ | ⟨g1, g2⟩
    · obtain ⟨b1, b2, b3⟩ := zy_slr_c e
      by_cases hk : (K : Int) + 1 ≤ bo
      · have hK : K < 8 := by omega
        have hw8 : w < 256 := by
          have := zy_p2m (a := K) (b := 8) (by omega) (by omega)
          rw [show ((8 : Nat) : Int) = 8 from rfl, zy_p2_8] at this
          omega
        have ew : ((w.toNat : Nat) : Int) = w := Int.toNat_of_nonneg h0
        have hC := of_decide_eq_true (zy_all2 zy_oCt_ (b := K) (s := w.toNat) hK (by omega))
        rw [ew] at hC
        obtain ⟨c1, c2⟩ := hC g2
        have hm := zy_p2m (a := K) (b := K + 1) (by omega) (by omega)
        by_cases hc : (0 ≤ be K ∧ bl (be K).toNat + 1 ≤ li ∧ ne K ≤ ni (be K).toNat / (zx_cn be (be K) bo.toNat : Int))
        · exact ⟨_, _, b2 hk hc, c1, Or.inl ⟨rfl, by push_cast; omega, c2⟩⟩
        · exact ⟨_, _, b3 hk hc, h0, Or.inl ⟨rfl, by push_cast; omega, by omega⟩⟩
      · refine ⟨_, _, b1 hk, h0, Or.inr ⟨by decide, ?_⟩⟩
        have : max bo 0 = ((K : Nat) : Int) := by omega
        rw [this]
        exact g2
    · exact ⟨d, w, zy_stay e g1, h0, Or.inr ⟨g1, g2⟩⟩
theorem zy_sb9 {be ni bl ne : zx_Rw} {bo li : Int} (h0 : 0 ≤ bo) (hb : bo ≤ 8) : 0 ≤ (zx_F 99 [be, ni, bl, ne] [bo, li] 9).1.getD 1 0 ∧ (zx_F 99 [be, ni, bl, ne] [bo, li] 9).1.getD 1 0 ≤ zy_p2 bo - 1 := by
  obtain ⟨d, w, e, k1, g⟩ := zy_sb (be := be) (ni := ni) (bl := bl) (ne := ne) (li := li) hb 9
  rw [e]
  refine ⟨k1, ?_⟩
  rcases g with ⟨-, g1, -⟩ | ⟨-, g2⟩
  · exfalso
    push_cast at g1
    omega
  · have : max bo 0 = bo := by omega
    rw [this] at g2
    exact g2
/-- the same asked of both sides -/
theorem zy_hit {w bo boy wt : Int} (h0 : 0 ≤ bo) (hb : bo ≤ 8) (h1 : 0 ≤ w) (h2 : w ≤ zy_p2 bo - 1) (hw : (boy ≤ -1 ∧ wt = zy_p2 bo - 1) ∨ (0 ≤ boy ∧ boy + 1 ≤ bo ∧ wt = zy_p2 boy)) : (zx_op 84 w wt = wt) ↔ (if boy ≤ -1 then w = zy_p2 bo - 1 else zx_op 84 (zx_op 91 w boy) 1 = 1) := by
  have ew : ((w.toNat : Nat) : Int) = w := Int.toNat_of_nonneg h1
  have eb : ((bo.toNat : Nat) : Int) = bo := Int.toNat_of_nonneg h0
  have h8 : w < 256 := by
    have := zy_p2m (a := bo.toNat) (b := 8) (by omega) (by omega)
    rw [show ((8 : Nat) : Int) = 8 from rfl, zy_p2_8, eb] at this
    omega
  rcases hw with ⟨k1, k2⟩ | ⟨k1, k2, k3⟩
  · rw [if_pos k1, k2]
    have hA := of_decide_eq_true (zy_all2 zy_oAt_ (b := bo.toNat) (s := w.toNat) (by omega) (by omega))
    rw [ew, eb] at hA
    exact hA h2
  · rw [if_neg (by omega), k3]
    have ey : ((boy.toNat : Nat) : Int) = boy := Int.toNat_of_nonneg k1
    have hB := of_decide_eq_true (zy_all2 zy_oBt_ (b := boy.toNat) (s := w.toNat) (by omega) (by omega))
    rw [ew, ey] at hB
    exact hB
theorem zy_of {la ly st el pl ne la2 be X szr ne2 nz bz nz2 bz2 : zx_Rw} {nd th len sz sh off ba bo li wt boy : Int} (h0 : 0 ≤ ba) (h5 : ba ≤ 5) (hb0 : 0 ≤ bo) (hb8 : bo ≤ 8) (hl : ∀ j : Nat, (j : Int) < ba → la j = la2 j) (hy : ∀ j : Nat, (j : Int) < ba → ly j = (zx_cn be j bo.toNat : Int)) (hn : ∀ j : Nat, (j : Int) < ba → nz j = nz2 j) (hb : ∀ j : Nat, (j : Int) < ba → bz j = bz2 j) (hp : ∀ j : Nat, (j : Int) < bo → pl j = be j ∧ ne j = ne2 j ∧ pl j < ba) (hs : szr sh.toNat = sz) (hz : sz ≤ 60) (ho : 0 ≤ off) (he : ∀ j : Nat, j < 60 → X (off.toNat + j) = el j) (hw : (boy ≤ -1 ∧ wt = zy_p2 bo - 1) ∨ (0 ≤ boy ∧ boy + 1 ≤ bo ∧ wt = zy_p2 boy)) : ∀ K : Nat, ∃ d x n b n2 b2, zx_F 141 [la, ly, st, el, pl, ne, nz, bz] [nd, th, len, sz, ba, bo, li, wt] K = ([d, x], [n, b]) ∧ zx_F 142 [la2, be, st, X, szr, ne2, nz2, bz2] [nd, th, len, sh, off, ba, bo, li, boy] K = ([d, x], [n2, b2]) ∧ (∀ j : Nat, (j : Int) < ba → n j = n2 j) ∧ (∀ j : Nat, (j : Int) < ba → b j = b2 j)
  | 0 => ⟨0, 0, nz, bz, nz2, bz2, zy_oc_0, zy_or2_0, hn, hb⟩
  | K + 1 => by
    obtain ⟨d, x, n, b, n2, b2, e1, e2, g1, g2⟩ := zy_of (st := st) (nd := nd) (th := th) (len := len) (li := li) h0 h5 hb0 hb8 hl hy hn hb hp hs hz ho he hw K
    have q1 : ∀ P k, zx_G 141 98 [pl, n, b, ly, ne] P k = zx_F 98 [pl, n, b, ly, ne] P k := fun P k => zx_G_F (by decide) _ _ _
    have q2 : ∀ P k, zx_G 142 99 [be, n2, b2, ne2] P k = zx_F 99 [be, n2, b2, ne2] P k := fun P k => zx_G_F (by decide) _ _ _
    have hsl : (zx_F 98 [pl, n, b, ly, ne] [bo, li, ba] 9).1.getD 1 0 = (zx_F 99 [be, n2, b2, ne2] [bo, li] 9).1.getD 1 0 := by
      obtain ⟨d', w, k1, k2⟩ := zy_sl (pl := pl) (ni := n) (bl := b) (ly := ly) (ne := ne) (be := be) (ni2 := n2) (bl2 := b2) (ne2 := ne2) (bo := bo) (li := li) (ba := ba) hp (fun j hj => ⟨g1 j hj, g2 j hj, hy j hj⟩) 9
      rw [k1, k2]
    obtain ⟨w1, w2⟩ := zy_sb9 (be := be) (ni := n2) (bl := b2) (ne := ne2) (li := li) hb0 hb8
    by_cases hd : d = 0
    · subst hd
      have f1 := zy_oc_s h0 h5 e1
      have f2 := zy_or2_s h0 h5 e2
      rw [zy_tu hs hz ho he] at f2
      generalize (if (if (K : Int) + (1 : Int) ≤ sz then (1 : Int) else 0) = 0 then (-1 : Int) else zx_op 4 (el ((K : Int)).toNat) (0 : Int)) = tu at f1 f2
      simp only [q1, q2, zy_if, zy_if0, zy_ne, zy_ne0] at f1 f2
      rw [hsl] at f1
      generalize (zx_F 99 [be, n2, b2, ne2] [bo, li] 9).1.getD 1 0 = w at f1 f2 w1 w2
      have hh := zy_hit hb0 hb8 w1 w2 hw
      by_cases hk : (K : Int) + 1 ≤ nd
      · have fin : ∀ x1 x2 : Int, x1 = x2 → zx_F 141 [la, ly, st, el, pl, ne, nz, bz] [nd, th, len, sz, ba, bo, li, wt] (K + 1) = ([0, x1], [zy_to (zy_pd_n la ly st n b th len (K : Int) tu ba) n ba.toNat, zy_to (zy_pd_b b tu) b ba.toNat]) → zx_F 142 [la2, be, st, X, szr, ne2, nz2, bz2] [nd, th, len, sh, off, ba, bo, li, boy] (K + 1) = ([0, x2], [zy_to (zy_pr_n la2 be st n2 b2 th len (K : Int) tu ba bo) n2 ba.toNat, zy_to (zy_pr_b b2 tu) b2 ba.toNat]) → ∃ d x n b n2 b2, zx_F 141 [la, ly, st, el, pl, ne, nz, bz] [nd, th, len, sz, ba, bo, li, wt] (K + 1) = ([d, x], [n, b]) ∧ zx_F 142 [la2, be, st, X, szr, ne2, nz2, bz2] [nd, th, len, sh, off, ba, bo, li, boy] (K + 1) = ([d, x], [n2, b2]) ∧ (∀ j : Nat, (j : Int) < ba → n j = n2 j) ∧ (∀ j : Nat, (j : Int) < ba → b j = b2 j) := by
          intro x1 x2 hx r1 r2
          subst hx
          refine ⟨_, _, _, _, _, _, r1, r2, fun j hj => ?_, fun j hj => ?_⟩
          · rw [zy_to_lt (by omega), zy_to_lt (by omega)]
            unfold zy_pd_n zy_pr_n
            rw [hl j hj, hy j hj, g1 j hj, g2 j hj]
          · rw [zy_to_lt (by omega), zy_to_lt (by omega)]
            unfold zy_pd_b zy_pr_b
            rw [g2 j hj]
        have en : ∀ u : Int, zx_op 88 1 u = zy_p2 u := fun _ => rfl
        rw [en] at f2
        by_cases hb : boy ≤ -1
        · rw [if_pos hb] at hh
          by_cases hq : w = zy_p2 bo - 1
          · have hq1 := hh.mpr hq
            subst hq
            simp only [hk, hb, if_true] at f1 f2
            exact fin _ _ (by simp [hq1]) f1 f2
          · have hq1 : ¬ zx_op 84 w wt = wt := fun h => hq (hh.mp h)
            simp only [hk, hb, hq1, hq, and_false, if_true, if_false] at f1 f2
            exact fin _ _ rfl f1 f2
        · rw [if_neg hb] at hh
          by_cases hq : zx_op 84 (zx_op 91 w boy) 1 = 1
          · have hq1 := hh.mpr hq
            simp only [hk, hb, hq1, hq, and_self, if_true, if_false] at f1 f2
            exact fin _ _ rfl f1 f2
          · have hq1 : ¬ zx_op 84 w wt = wt := fun h => hq (hh.mp h)
            simp only [hk, hb, hq1, hq, and_false, if_true, if_false] at f1 f2
            exact fin _ _ rfl f1 f2
      · simp only [hk, false_and, if_false] at f1 f2
        exact ⟨_, _, _, _, _, _, f1, f2, g1, g2⟩
    · exact ⟨d, x, n, b, n2, b2, zy_stay e1 hd, zy_stay e2 hd, g1, g2⟩
theorem zy_ofE {la ly st el pl ne la2 be X szr ne2 nz bz nz2 bz2 n b n2 b2 : zx_Rw} {nd th len sz sh off ba bo li wt boy d x d2 y : Int} {K K2 : Nat} (h0 : 0 ≤ ba) (h5 : ba ≤ 5) (hb0 : 0 ≤ bo) (hb8 : bo ≤ 8) (hl : ∀ j : Nat, (j : Int) < ba → la j = la2 j) (hy : ∀ j : Nat, (j : Int) < ba → ly j = (zx_cn be j bo.toNat : Int)) (hn : ∀ j : Nat, (j : Int) < ba → nz j = nz2 j) (hb : ∀ j : Nat, (j : Int) < ba → bz j = bz2 j) (hp : ∀ j : Nat, (j : Int) < bo → pl j = be j ∧ ne j = ne2 j ∧ pl j < ba) (hs : szr sh.toNat = sz) (hz : sz ≤ 60) (ho : 0 ≤ off) (he : ∀ j : Nat, j < 60 → X (off.toNat + j) = el j) (hw : (boy ≤ -1 ∧ wt = zy_p2 bo - 1) ∨ (0 ≤ boy ∧ boy + 1 ≤ bo ∧ wt = zy_p2 boy)) (e1 : zx_F 141 [la, ly, st, el, pl, ne, nz, bz] [nd, th, len, sz, ba, bo, li, wt] K = ([d, x], [n, b])) (hd : d ≠ 0) (e2 : zx_F 142 [la2, be, st, X, szr, ne2, nz2, bz2] [nd, th, len, sh, off, ba, bo, li, boy] K2 = ([d2, y], [n2, b2])) (hd2 : d2 ≠ 0) : x = y := by
  obtain ⟨d', x', m1, m2, m3, m4, f1, f2, -, -⟩ := zy_of (st := st) (nd := nd) (th := th) (len := len) (li := li) h0 h5 hb0 hb8 hl hy hn hb hp hs hz ho he hw (max K K2)
  rw [zx_F_max e1 hd (Nat.le_max_left K K2)] at f1
  rw [zx_F_max e2 hd2 (Nat.le_max_right K K2)] at f2
  have a1 : x = x' := congrArg (fun p => p.1.getD 1 0) f1
  have a2 : y = x' := congrArg (fun p => p.1.getD 1 0) f2
  rw [a1, a2]
/-- a power of two, known -/
def zk_p2 (N : zk_N) (b w : zk_V) : Bool := match zk_f80 N 6 (zk_c 1) b N.2.2.2 with
  | some u => zk_eqE N u w
  | none => false
theorem zk_p2_of {E : zk_E} {N : zk_N} (hN : zk_ok E N) {b w : zk_V} (h : zk_p2 N b w = true) : zk_i E w = zy_p2 (zk_i E b) := by
  unfold zk_p2 at h
  split at h
  · rename_i u hu
    rw [← zk_eqE_of hN h, zk_f80_of hN hu, zk_c_i]
    rfl
  · cases h
def zk_of2 (g h : zk_G) (N : zk_N) : Option zk_N := match zk_as 90 g, zk_as 90 h with
  | some ([la, ly, st, el, pl, ne, n0, b0, nn, bb], [i, _, nd, th, ln, sz, ba, bo, lm, wt, d, x]), some ([la2, be, st2, X, szr, ne2, m0, c0, mm, cc], [i2, _, nd2, th2, ln2, sh, off, ba2, bo2, lm2, boy, d2, y]) => match zk_eqi (zk_fci N i) 141 && zk_eqi (zk_fci N i2) 142 && zk_nz N d && zk_nz N d2 && Nat.beq st st2 && zk_eqEs N [nd, th, ln, ba, bo, lm] [nd2, th2, ln2, ba2, bo2, lm2] && zk_n2 N ba && zk_n2 N (zk_vsub (zk_c 5) ba) && zk_n2 N bo && zk_n2 N (zk_vsub (zk_c 8) bo) && zk_sf N el X szr sz sh off && zk_h41 N be bo ba && ((zk_cp5 N ly).any fun w => zk_h43 N w be bo ba) && zk_pp N ba 3 la la2 && zk_pp N ba 4 n0 m0 && zk_pp N ba 4 b0 c0 && zk_pp N bo 2 pl be && zk_pp N bo 2 ne ne2 && ((zk_n2 N (zk_vsub (zk_c (-1)) boy) && zk_p2 N bo (zk_vadd wt (zk_c 1))) || (zk_n2 N boy && zk_n2 N (zk_vsub (zk_vsub bo boy) (zk_c 1)) && zk_p2 N boy wt)) with
    | true => zk_eqs N (zk_vsub x y)
    | false => some N
  | _, _ => some N
theorem zk_of2_gd {E : zk_E} {n : Nat} {g h : zk_G} (hg : zk_tru E n g) (hh : zk_tru E n h) : zk_gd E n (zk_of2 g h) := by
  intro N hN hc hn
  unfold zk_of2
  split
  · rename_i la ly st el pl ne n0 b0 nn bb i K nd th ln sz ba bo lm wt d x la2 be st2 X szr ne2 m0 c0 mm cc i2 K2 nd2 th2 ln2 sh off ba2 bo2 lm2 boy d2 y hu hu2
    have e := zk_as_of hu
    have e2 := zk_as_of hu2
    subst e e2
    obtain ⟨t1, t2, t3⟩ := hg
    obtain ⟨g1, g2, g3⟩ := hh
    split
    · rename_i c
      rw [Bool.and_eq_true] at c
      obtain ⟨c, cw⟩ := c
      simp only [Bool.and_eq_true] at c
      obtain ⟨⟨⟨⟨⟨⟨⟨⟨⟨⟨⟨⟨⟨⟨⟨⟨⟨c1, c2⟩, c3⟩, c4⟩, c5⟩, c6⟩, c7⟩, c8⟩, o1⟩, o2⟩, c9⟩, ch⟩, c10⟩, c11⟩, c12⟩, c13⟩, c14⟩, c15⟩ := c
      have c1 := zk_fci_of (n := 141) hN c1
      have c2 := zk_fci_of (n := 142) hN c2
      have c3 := zk_nz_ok hN c3
      have c4 := zk_nz_ok hN c4
      have c5 := Nat.eq_of_beq_eq_true c5
      have c6 := zk_eqEs_of hN c6
      have c7 := zk_n2_ok hN c7
      have c8 := zk_n2_ok hN c8
      have o1 := zk_n2_ok hN o1
      have o2 := zk_n2_ok hN o2
      rw [zk_vsub_i, zk_c_i] at c8 o2
      obtain ⟨s1, s2, s3, s4⟩ := zk_sf_of hN hc c9
      have ch := zk_h41_of hN hc ch
      obtain ⟨w, hw, c10⟩ := List.any_eq_true.mp c10
      have hcp := zk_cp5_of hN hc hw
      have c10 := zk_h43_of hN hc c10
      have c11 := zk_pp_of hN hc c11
      have c12 := zk_pp_of hN hc c12
      have c13 := zk_pp_of hN hc c13
      have c14 := zk_pp_of hN hc c14
      have c15 := zk_pp_of hN hc c15
      have hwt : (zk_i E boy ≤ -1 ∧ zk_i E wt = zy_p2 (zk_i E bo) - 1) ∨ (0 ≤ zk_i E boy ∧ zk_i E boy + 1 ≤ zk_i E bo ∧ zk_i E wt = zy_p2 (zk_i E boy)) := by
        rw [Bool.or_eq_true, Bool.and_eq_true, Bool.and_eq_true, Bool.and_eq_true] at cw
        rcases cw with ⟨k1, k2⟩ | ⟨⟨k1, k2⟩, k3⟩
        · have k1 := zk_n2_ok hN k1
          have k2 := zk_p2_of hN k2
          rw [zk_vsub_i, zk_c_i] at k1
          rw [zk_vadd_i, zk_c_i] at k2
          exact Or.inl ⟨by omega, by omega⟩
        · have k1 := zk_n2_ok hN k1
          have k2 := zk_n2_ok hN k2
          have k3 := zk_p2_of hN k3
          rw [zk_vsub_i, zk_vsub_i, zk_c_i] at k2
          exact Or.inr ⟨k1, by omega, k3⟩
      simp only [List.map_cons, List.map_nil] at c6
      injection c6 with q1 c6
      injection c6 with q2 c6
      injection c6 with q3 c6
      injection c6 with q4 c6
      injection c6 with q5 c6
      injection c6 with q6 c6
      simp only [List.map_cons, List.map_nil, zq_6, zq_7, zq_8, zq_9, zq_20, zq_21, zq_22, zq_25, zq_26, zq_28, zq_30, zq_40, zq_51, zq_52, zq_53, zq_54, zq_55, zq_64, zq_65, zq_68, zq_72, zq_73, zq_85, zq_74, zq_75, zq_76, zq_71, zq_86, zq_87, zq_80, zq_41, zq_42, zq_43, zq_94, zq_95, zq_47, zq_48, zq_96, zq_97, zq_88, zq_89, zq_90, zq_93, zq_61, zq_62, zq_1, zq_2, zq_3, zq_4, zq_5, zq_46, zq_44, zx_90] at t1 g1
      rw [c1] at t1
      rw [c2] at g1
      obtain ⟨-, -, tF⟩ := t1
      obtain ⟨-, -, gF⟩ := g1
      have tF : zx_F 141 [E.2 la, E.2 ly, E.2 st, E.2 el, E.2 pl, E.2 ne, E.2 n0, E.2 b0] [zk_i E nd, zk_i E th, zk_i E ln, zk_i E sz, zk_i E ba, zk_i E bo, zk_i E lm, zk_i E wt] (zk_i E K).toNat = ([zk_i E d, zk_i E x], [E.2 nn, E.2 bb]) := tF
      have gF : zx_F 142 [E.2 la2, E.2 be, E.2 st2, E.2 X, E.2 szr, E.2 ne2, E.2 m0, E.2 c0] [zk_i E nd2, zk_i E th2, zk_i E ln2, zk_i E sh, zk_i E off, zk_i E ba2, zk_i E bo2, zk_i E lm2, zk_i E boy] (zk_i E K2).toNat = ([zk_i E d2, zk_i E y], [E.2 mm, E.2 cc]) := gF
      rw [← q1, ← q2, ← q3, ← q4, ← q5, ← q6, ← c5] at gF
      have r := zy_ofE c7 (by omega) o1 (by omega) c11 (fun j hj => by rw [hcp j (by omega), c10 j (by omega), if_pos hj]) c12 c13 (fun j hj => ⟨c14 j hj, c15 j hj, by rw [c14 j hj]; exact ch j hj⟩) s1 s2 s3 s4 hwt tF c3 gF c4
      exact zk_eqsg (by rw [zk_vsub_i]; omega) (zk_vsub_sv (t3 _ (by simp)) (g3 _ (by simp))) N hN hc hn
    · exact zk_id_gd N hN hc hn
  · exact zk_id_gd N hN hc hn
def zk_rof : zk_Rl := zk_nr (zk_on zk_f90 fun p => zk_on zk_f90 (zk_of2 p))
theorem zk_rof_ok : zk_Rok zk_rof := zk_nr_ok fun E n => zk_on_gd fun N h hc hn p hp => by
  have ht := zk_trs h hc hn p (List.mem_filter.mp hp).1
  exact zk_on_gd fun N' h' hc' hn' q hq => zk_of2_gd ht (zk_trs h' hc' hn' q (List.mem_filter.mp hq).1)
end
