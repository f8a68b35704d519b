noncomputable section
/-! RULES OF DAYS IN THOUGHT (wip/p41/mk9zg.py) -/
def zy_on134 : List zx_I := [(2, 0, []), (0, 1, []), (5, 0, []), (1, 0, []), (9, 0, [])]
def zy_tu134 : List zx_I := [(2, 0, []), (0, 1, []), (5, 0, []), (1, 3, []), (9, 0, []), (2, 0, []), (4, 3, []), (0, 0, []), (8, 4, []), (0, (-1), []), (13, 0, [])]
theorem zy_e134 {k : Nat} {la : zx_Rw} {ly : zx_Rw} {st : zx_Rw} {el : zx_Rw} {n0 : zx_Rw} {b0 : zx_Rw} {n : zx_Rw} {b : zx_Rw} {nd : Int} {th : Int} {len : Int} {sz : Int} {ba : Int} (h0 : 0 ≤ ba) (h5 : ba ≤ 5) (h : zx_F 134 [la, ly, st, el, n0, b0] [nd, th, len, sz, ba] k = ([0], [n, b])) : zx_F 134 [la, ly, st, el, n0, b0] [nd, th, len, sz, ba] (k + 1) = ((zx_dn 134).2.2.2.1.map (zx_ev (zx_G 134) [la, ly, st, el, n0, b0] [n, b] [nd, th, len, sz, ba] (k : Int) [0]), if (zx_ev (zx_G 134) [la, ly, st, el, n0, b0] [n, b] [nd, th, len, sz, ba] (k : Int) [0] zy_on134) = 0 then [n, b] else [zy_to (zy_pd_n la ly st n b th len (k : Int) (zx_ev (zx_G 134) [la, ly, st, el, n0, b0] [n, b] [nd, th, len, sz, ba] (k : Int) [0] zy_tu134) ba) n ba.toNat, zy_to (zy_pd_b b (zx_ev (zx_G 134) [la, ly, st, el, n0, b0] [n, b] [nd, th, len, sz, ba] (k : Int) [0] zy_tu134)) b ba.toNat]) := by
  have hs := zy_dc_sto (cl := zx_G 134) (R := [la, ly, st, el, n0, b0]) (n := n) (b := b) (P := [nd, th, len, sz, ba]) (S := [0]) (k := (k : Int)) (la := 0) (ly := 1) (st := 2) (th := 1) (ln := 2) (ba := 4) (on := zy_on134) (tu := zy_tu134) (von := (zx_ev (zx_G 134) [la, ly, st, el, n0, b0] [n, b] [nd, th, len, sz, ba] (k : Int) [0] zy_on134)) (vtu := (zx_ev (zx_G 134) [la, ly, st, el, n0, b0] [n, b] [nd, th, len, sz, ba] (k : Int) [0] zy_tu134)) (fun _ => rfl) (fun _ => rfl) h0 h5
  rw [zy_turn h, show (zx_dn 134).2.2.2.2 = zy_dc 0 1 2 1 2 4 zy_on134 zy_tu134 from rfl, hs]
  rfl
def zk_dy134 (N : zk_N) (g h : zk_G) : List zk_G := match zk_as 90 g, zk_as 90 h with
  | some ([la, ly, st, el, n0, b0, nn, bb], [i_, k, nd, th, len, sz, ba, d_]), some ([la2, ly2, st2, nn2, bb2, n2, b2], [j_, _, th2, ln2, da, tu2, ba2, e2]) => match zk_eqi (zk_fci N i_) 134 && zk_eqi (zk_fci N j_) 100 && zk_eqE N d_ (zk_c 0) && zk_nz N e2 && zk_eqNs [la, ly, st, nn, bb] [la2, ly2, st2, nn2, bb2] && zk_eqEs N [th, len, k, ba] [th2, ln2, da, ba2] && zk_n2 N k && zk_n2 N ba && zk_n2 N (zk_vsub (zk_c 5) ba) && Nat.beq (zk_b3 N (zk_sev N 134 [la, ly, st, el, n0, b0] [nn, bb] [nd, th, len, sz, ba] k [d_] zy_on134)) 1, zk_sev N 134 [la, ly, st, el, n0, b0] [nn, bb] [nd, th, len, sz, ba] k [d_] zy_tu134, zk_sevs N 134 [la, ly, st, el, n0, b0] [nn, bb] [nd, th, len, sz, ba] k [d_] (zx_dn 134).2.2.2.1 with
    | true, some t, some w => match zk_eqE N t tu2 with
      | true => [(90, [la, ly, st, el, n0, b0, n2, b2], i_ :: zk_vadd k (zk_c 1) :: nd :: th :: len :: sz :: ba :: w)]
      | false => []
    | _, _, _ => []
  | _, _ => []
theorem zk_dy134_ok {E : zk_E} {N : zk_N} (hN : zk_ok E N) (hc : zk_cl N) {g h : zk_G} (hg : g ∈ N.2.2.2) (hh : h ∈ N.2.2.2) : ∀ y ∈ zk_dy134 N g h, zk_tru E N.1 y := by
  have ht := zk_tru_of hN hc g hg
  have ht2 := zk_tru_of hN hc h hh
  intro y hy
  unfold zk_dy134 at hy
  split at hy
  · rename_i la ly st el n0 b0 nn bb i_ k nd th len sz ba d_ la2 ly2 st2 nn2 bb2 n2 b2 j_ K2 th2 ln2 da tu2 ba2  e2 hu hu2
    have e := zk_as_of hu
    have e' := zk_as_of hu2
    subst e e'
    split at hy
    · rename_i t w c htu hw
      split at hy
      · rename_i ct
        simp only [Bool.and_eq_true] at c
        obtain ⟨⟨⟨⟨⟨⟨⟨⟨⟨c1, c2⟩, c3⟩, c4⟩, c5⟩, c6⟩, c7⟩, c8⟩, c9⟩, c10⟩ := c
        have c1 := zk_fci_of (n := 134) hN c1
        have c3 := zk_eqE_of hN c3
        have c4 := zk_nz_ok hN c4
        have c5 := zk_eqNs_of c5
        have c6 := zk_eqEs_of hN c6
        have c7 := zk_n2_ok hN c7
        have c8 := zk_n2_ok hN c8
        have c9 := zk_n2_ok hN c9
        have ct := zk_eqE_of hN ct
        have hb3 := (zk_b3_of hN (z := zx_ev (zx_G 134) ([la, ly, st, el, n0, b0].map E.2) ([nn, bb].map E.2) ([nd, th, len, sz, ba].map (zk_i E)) (zk_i E k) ([d_].map (zk_i E)) zy_on134) (fun v hv => zk_sev_of hN hv)).2 (Nat.eq_of_beq_eq_true c10)
        have htu' := zk_sev_of hN htu
        have hw' := zk_sevs_of hN hw
        rw [zk_c_i] at c3
        rw [zk_vsub_i, zk_c_i] at c9
        injection c5 with p1 c5
        injection c5 with p2 c5
        injection c5 with p3 c5
        injection c5 with p4 c5
        injection c5 with p5 c5
        subst p1 p2 p3 p4 p5
        simp only [List.map_cons, List.map_nil] at c6 hb3 htu' hw'
        injection c6 with q1 c6
        injection c6 with q2 c6
        injection c6 with q3 c6
        injection c6 with q4 c6
        obtain ⟨k3, k4⟩ := zk_pdF hN ht2 c2 c4 (by rw [← q4]; exact c8)
        rw [← q1, ← q2, ← q3, ← q4, ← ct] at k3
        rw [← q4, ← ct] at k4
        obtain ⟨t1, t2, t3⟩ := ht
        obtain ⟨-, g2, -⟩ := ht2
        simp only [List.map_cons, List.map_nil, zq_6, zq_7, zq_8, zq_9, zq_20, zq_21, zq_22, zq_25, zq_26, zq_28, zq_30, zq_40, zq_51, zq_52, zq_53, zq_54, zq_55, zq_64, zq_65, zq_68, zq_72, zq_73, zq_85, zq_74, zq_75, zq_76, zq_71, zq_86, zq_87, zq_80, zq_41, zq_42, zq_43, zq_94, zq_95, zq_47, zq_48, zq_96, zq_97, zq_88, zq_89, zq_90, zq_93, zq_61, zq_62, zq_1, zq_2, zq_3, zq_4, zq_5, zx_90] at t1
        rw [c1] at t1
        obtain ⟨-, -, tF⟩ := t1
        have tF : zx_F 134 [E.2 la, E.2 ly, E.2 st, E.2 el, E.2 n0, E.2 b0] [zk_i E nd, zk_i E th, zk_i E len, zk_i E sz, zk_i E ba] (zk_i E k).toNat = ([zk_i E d_], [E.2 nn, E.2 bb]) := tF
        rw [c3] at tF hb3 htu' hw'
        have ek : (((zk_i E k).toNat : Nat) : Int) = zk_i E k := Int.toNat_of_nonneg c7
        have r3 := zy_e134 c8 (by omega) tF
        rw [ek, if_neg hb3, ← htu', ← k3, ← k4, ← hw'] at r3
        rw [List.mem_singleton.mp hy]
        refine ⟨?_, fun a ha => ?_, fun u hu => ?_⟩
        · simp only [List.map_cons, List.map_nil, zq_6, zq_7, zq_8, zq_9, zq_20, zq_21, zq_22, zq_25, zq_26, zq_28, zq_30, zq_40, zq_51, zq_52, zq_53, zq_54, zq_55, zq_64, zq_65, zq_68, zq_72, zq_73, zq_85, zq_74, zq_75, zq_76, zq_71, zq_86, zq_87, zq_80, zq_41, zq_42, zq_43, zq_94, zq_95, zq_47, zq_48, zq_96, zq_97, zq_88, zq_89, zq_90, zq_93, zq_61, zq_62, zq_1, zq_2, zq_3, zq_4, zq_5, zx_90]
          rw [c1, zk_vadd_i, zk_c_i]
          refine ⟨by decide, by omega, ?_⟩
          rw [show (zk_i E k + 1).toNat = (zk_i E k).toNat + 1 by omega]
          exact r3
        · simp only [List.mem_cons, List.not_mem_nil, or_false] at ha
          rcases ha with rfl | rfl | rfl | rfl | rfl | rfl | rfl | rfl
          · exact t2 _ (by simp)
          · exact t2 _ (by simp)
          · exact t2 _ (by simp)
          · exact t2 _ (by simp)
          · exact t2 _ (by simp)
          · exact t2 _ (by simp)
          · exact g2 _ (by simp)
          · exact g2 _ (by simp)
        · rcases List.mem_cons.mp hu with rfl | hu
          · exact t3 _ (by simp)
          rcases List.mem_cons.mp hu with rfl | hu
          · exact zk_vadd_sv (t3 _ (by simp)) zk_c_sv
          rcases List.mem_cons.mp hu with rfl | hu
          · exact t3 _ (by simp)
          rcases List.mem_cons.mp hu with rfl | hu
          · exact t3 _ (by simp)
          rcases List.mem_cons.mp hu with rfl | hu
          · exact t3 _ (by simp)
          rcases List.mem_cons.mp hu with rfl | hu
          · exact t3 _ (by simp)
          rcases List.mem_cons.mp hu with rfl | hu
          · exact t3 _ (by simp)
          exact zk_sevs_sv hc (fun v hv => t3 _ (by simp only [List.mem_cons, List.not_mem_nil, or_false] at hv ⊢; rcases hv with rfl | rfl | rfl | rfl | rfl <;> first | exact Or.inr (Or.inr (Or.inl rfl)) | exact Or.inr (Or.inr (Or.inr (Or.inl rfl))) | exact Or.inr (Or.inr (Or.inr (Or.inr (Or.inl rfl)))) | exact Or.inr (Or.inr (Or.inr (Or.inr (Or.inr (Or.inl rfl))))) | exact Or.inr (Or.inr (Or.inr (Or.inr (Or.inr (Or.inr (Or.inl rfl)))))))) (fun v hv => t3 _ (by simp only [List.mem_cons, List.not_mem_nil, or_false] at hv ⊢; subst hv; exact Or.inr (Or.inr (Or.inr (Or.inr (Or.inr (Or.inr (Or.inr (rfl))))))))) (t3 _ (by simp)) hw u hu
      · cases hy
    · cases hy
  · cases hy
def zk_rdy134 : zk_Rl := zk_nr fun N => some (zk_addGs N ((zk_kd 90 N).flatMap fun p => (zk_kd 90 N).flatMap (zk_dy134 N p)))
theorem zk_rdy134_ok : zk_Rok zk_rdy134 := zk_nr_ok fun E n => zk_add_gd (f := fun N => (zk_kd 90 N).flatMap fun p => (zk_kd 90 N).flatMap (zk_dy134 N p)) fun N hN hc hn x hx => by
  obtain ⟨y, hy1, hy2⟩ := List.mem_flatMap.mp hx
  obtain ⟨w, hw1, hw2⟩ := List.mem_flatMap.mp hy2
  rw [← hn]
  exact zk_dy134_ok hN hc (zk_kd_m hy1) (zk_kd_m hw1) x hw2
def zy_on135 : List zx_I := [(2, 0, []), (0, 1, []), (5, 0, []), (1, 0, []), (9, 0, [])]
def zy_tu135 : List zx_I := [(2, 0, []), (0, 1, []), (5, 0, []), (1, 3, []), (4, 4, []), (9, 0, []), (1, 4, []), (2, 0, []), (5, 0, []), (4, 3, []), (0, 0, []), (8, 4, []), (0, (-1), []), (13, 0, [])]
theorem zy_e135 {k : Nat} {la : zx_Rw} {be : zx_Rw} {st : zx_Rw} {el : zx_Rw} {szr : zx_Rw} {n0 : zx_Rw} {b0 : zx_Rw} {n : zx_Rw} {b : zx_Rw} {nd : Int} {th : Int} {len : Int} {sh : Int} {off : Int} {ba : Int} {bo : Int} (h0 : 0 ≤ ba) (h5 : ba ≤ 5) (h : zx_F 135 [la, be, st, el, szr, n0, b0] [nd, th, len, sh, off, ba, bo] k = ([0], [n, b])) : zx_F 135 [la, be, st, el, szr, n0, b0] [nd, th, len, sh, off, ba, bo] (k + 1) = ((zx_dn 135).2.2.2.1.map (zx_ev (zx_G 135) [la, be, st, el, szr, n0, b0] [n, b] [nd, th, len, sh, off, ba, bo] (k : Int) [0]), if (zx_ev (zx_G 135) [la, be, st, el, szr, n0, b0] [n, b] [nd, th, len, sh, off, ba, bo] (k : Int) [0] zy_on135) = 0 then [n, b] else [zy_to (zy_pr_n la be st n b th len (k : Int) (zx_ev (zx_G 135) [la, be, st, el, szr, n0, b0] [n, b] [nd, th, len, sh, off, ba, bo] (k : Int) [0] zy_tu135) ba bo) n ba.toNat, zy_to (zy_pr_b b (zx_ev (zx_G 135) [la, be, st, el, szr, n0, b0] [n, b] [nd, th, len, sh, off, ba, bo] (k : Int) [0] zy_tu135)) b ba.toNat]) := by
  have hs := zy_dr_sto (cl := zx_G 135) (R := [la, be, st, el, szr, n0, b0]) (n := n) (b := b) (P := [nd, th, len, sh, off, ba, bo]) (S := [0]) (k := (k : Int)) (la := 0) (ly := 1) (st := 2) (th := 1) (ln := 2) (ba := 5) (bo := 6) (on := zy_on135) (tu := zy_tu135) (von := (zx_ev (zx_G 135) [la, be, st, el, szr, n0, b0] [n, b] [nd, th, len, sh, off, ba, bo] (k : Int) [0] zy_on135)) (vtu := (zx_ev (zx_G 135) [la, be, st, el, szr, n0, b0] [n, b] [nd, th, len, sh, off, ba, bo] (k : Int) [0] zy_tu135)) (fun _ => rfl) (fun _ => rfl) h0 h5
  rw [zy_turn h, show (zx_dn 135).2.2.2.2 = zy_dr 0 1 2 1 2 5 6 zy_on135 zy_tu135 from rfl, hs]
  rfl
def zk_dy135 (N : zk_N) (g h : zk_G) : List zk_G := match zk_as 90 g, zk_as 90 h with
  | some ([la, be, st, el, szr, n0, b0, nn, bb], [i_, k, nd, th, len, sh, off, ba, bo, d_]), some ([la2, ly2, st2, nn2, bb2, n2, b2], [j_, _, th2, ln2, da, tu2, ba2, bo2, e2]) => match zk_eqi (zk_fci N i_) 135 && zk_eqi (zk_fci N j_) 101 && zk_eqE N d_ (zk_c 0) && zk_nz N e2 && zk_eqNs [la, be, st, nn, bb] [la2, ly2, st2, nn2, bb2] && zk_eqEs N [th, len, k, ba, bo] [th2, ln2, da, ba2, bo2] && zk_n2 N k && zk_n2 N ba && zk_n2 N (zk_vsub (zk_c 5) ba) && Nat.beq (zk_b3 N (zk_sev N 135 [la, be, st, el, szr, n0, b0] [nn, bb] [nd, th, len, sh, off, ba, bo] k [d_] zy_on135)) 1, zk_sev N 135 [la, be, st, el, szr, n0, b0] [nn, bb] [nd, th, len, sh, off, ba, bo] k [d_] zy_tu135, zk_sevs N 135 [la, be, st, el, szr, n0, b0] [nn, bb] [nd, th, len, sh, off, ba, bo] k [d_] (zx_dn 135).2.2.2.1 with
    | true, some t, some w => match zk_eqE N t tu2 with
      | true => [(90, [la, be, st, el, szr, n0, b0, n2, b2], i_ :: zk_vadd k (zk_c 1) :: nd :: th :: len :: sh :: off :: ba :: bo :: w)]
      | false => []
    | _, _, _ => []
  | _, _ => []
theorem zk_dy135_ok {E : zk_E} {N : zk_N} (hN : zk_ok E N) (hc : zk_cl N) {g h : zk_G} (hg : g ∈ N.2.2.2) (hh : h ∈ N.2.2.2) : ∀ y ∈ zk_dy135 N g h, zk_tru E N.1 y := by
  have ht := zk_tru_of hN hc g hg
  have ht2 := zk_tru_of hN hc h hh
  intro y hy
  unfold zk_dy135 at hy
  split at hy
  · rename_i la be st el szr n0 b0 nn bb i_ k nd th len sh off ba bo d_ la2 ly2 st2 nn2 bb2 n2 b2 j_ K2 th2 ln2 da tu2 ba2 bo2 e2 hu hu2
    have e := zk_as_of hu
    have e' := zk_as_of hu2
    subst e e'
    split at hy
    · rename_i t w c htu hw
      split at hy
      · rename_i ct
        simp only [Bool.and_eq_true] at c
        obtain ⟨⟨⟨⟨⟨⟨⟨⟨⟨c1, c2⟩, c3⟩, c4⟩, c5⟩, c6⟩, c7⟩, c8⟩, c9⟩, c10⟩ := c
        have c1 := zk_fci_of (n := 135) hN c1
        have c3 := zk_eqE_of hN c3
        have c4 := zk_nz_ok hN c4
        have c5 := zk_eqNs_of c5
        have c6 := zk_eqEs_of hN c6
        have c7 := zk_n2_ok hN c7
        have c8 := zk_n2_ok hN c8
        have c9 := zk_n2_ok hN c9
        have ct := zk_eqE_of hN ct
        have hb3 := (zk_b3_of hN (z := zx_ev (zx_G 135) ([la, be, st, el, szr, n0, b0].map E.2) ([nn, bb].map E.2) ([nd, th, len, sh, off, ba, bo].map (zk_i E)) (zk_i E k) ([d_].map (zk_i E)) zy_on135) (fun v hv => zk_sev_of hN hv)).2 (Nat.eq_of_beq_eq_true c10)
        have htu' := zk_sev_of hN htu
        have hw' := zk_sevs_of hN hw
        rw [zk_c_i] at c3
        rw [zk_vsub_i, zk_c_i] at c9
        injection c5 with p1 c5
        injection c5 with p2 c5
        injection c5 with p3 c5
        injection c5 with p4 c5
        injection c5 with p5 c5
        subst p1 p2 p3 p4 p5
        simp only [List.map_cons, List.map_nil] at c6 hb3 htu' hw'
        injection c6 with q1 c6
        injection c6 with q2 c6
        injection c6 with q3 c6
        injection c6 with q4 c6
        injection c6 with q5 c6
        obtain ⟨k3, k4⟩ := zk_prF hN ht2 c2 c4 (by rw [← q4]; exact c8)
        rw [← q1, ← q2, ← q3, ← q4, ← q5, ← ct] at k3
        rw [← q4, ← ct] at k4
        obtain ⟨t1, t2, t3⟩ := ht
        obtain ⟨-, g2, -⟩ := ht2
        simp only [List.map_cons, List.map_nil, zq_6, zq_7, zq_8, zq_9, zq_20, zq_21, zq_22, zq_25, zq_26, zq_28, zq_30, zq_40, zq_51, zq_52, zq_53, zq_54, zq_55, zq_64, zq_65, zq_68, zq_72, zq_73, zq_85, zq_74, zq_75, zq_76, zq_71, zq_86, zq_87, zq_80, zq_41, zq_42, zq_43, zq_94, zq_95, zq_47, zq_48, zq_96, zq_97, zq_88, zq_89, zq_90, zq_93, zq_61, zq_62, zq_1, zq_2, zq_3, zq_4, zq_5, zx_90] at t1
        rw [c1] at t1
        obtain ⟨-, -, tF⟩ := t1
        have tF : zx_F 135 [E.2 la, E.2 be, E.2 st, E.2 el, E.2 szr, E.2 n0, E.2 b0] [zk_i E nd, zk_i E th, zk_i E len, zk_i E sh, zk_i E off, zk_i E ba, zk_i E bo] (zk_i E k).toNat = ([zk_i E d_], [E.2 nn, E.2 bb]) := tF
        rw [c3] at tF hb3 htu' hw'
        have ek : (((zk_i E k).toNat : Nat) : Int) = zk_i E k := Int.toNat_of_nonneg c7
        have r3 := zy_e135 c8 (by omega) tF
        rw [ek, if_neg hb3, ← htu', ← k3, ← k4, ← hw'] at r3
        rw [List.mem_singleton.mp hy]
        refine ⟨?_, fun a ha => ?_, fun u hu => ?_⟩
        · simp only [List.map_cons, List.map_nil, zq_6, zq_7, zq_8, zq_9, zq_20, zq_21, zq_22, zq_25, zq_26, zq_28, zq_30, zq_40, zq_51, zq_52, zq_53, zq_54, zq_55, zq_64, zq_65, zq_68, zq_72, zq_73, zq_85, zq_74, zq_75, zq_76, zq_71, zq_86, zq_87, zq_80, zq_41, zq_42, zq_43, zq_94, zq_95, zq_47, zq_48, zq_96, zq_97, zq_88, zq_89, zq_90, zq_93, zq_61, zq_62, zq_1, zq_2, zq_3, zq_4, zq_5, zx_90]
          rw [c1, zk_vadd_i, zk_c_i]
          refine ⟨by decide, by omega, ?_⟩
          rw [show (zk_i E k + 1).toNat = (zk_i E k).toNat + 1 by omega]
          exact r3
        · simp only [List.mem_cons, List.not_mem_nil, or_false] at ha
          rcases ha with rfl | rfl | rfl | rfl | rfl | rfl | rfl | rfl | rfl
          · exact t2 _ (by simp)
          · exact t2 _ (by simp)
          · exact t2 _ (by simp)
          · exact t2 _ (by simp)
          · exact t2 _ (by simp)
          · exact t2 _ (by simp)
          · exact t2 _ (by simp)
          · exact g2 _ (by simp)
          · exact g2 _ (by simp)
        · rcases List.mem_cons.mp hu with rfl | hu
          · exact t3 _ (by simp)
          rcases List.mem_cons.mp hu with rfl | hu
          · exact zk_vadd_sv (t3 _ (by simp)) zk_c_sv
          rcases List.mem_cons.mp hu with rfl | hu
          · exact t3 _ (by simp)
          rcases List.mem_cons.mp hu with rfl | hu
          · exact t3 _ (by simp)
          rcases List.mem_cons.mp hu with rfl | hu
          · exact t3 _ (by simp)
          rcases List.mem_cons.mp hu with rfl | hu
          · exact t3 _ (by simp)
          rcases List.mem_cons.mp hu with rfl | hu
          · exact t3 _ (by simp)
          rcases List.mem_cons.mp hu with rfl | hu
          · exact t3 _ (by simp)
          rcases List.mem_cons.mp hu with rfl | hu
          · exact t3 _ (by simp)
          exact zk_sevs_sv hc (fun v hv => t3 _ (by simp only [List.mem_cons, List.not_mem_nil, or_false] at hv ⊢; rcases hv with rfl | rfl | rfl | rfl | rfl | rfl | rfl <;> first | exact Or.inr (Or.inr (Or.inl rfl)) | exact Or.inr (Or.inr (Or.inr (Or.inl rfl))) | exact Or.inr (Or.inr (Or.inr (Or.inr (Or.inl rfl)))) | exact Or.inr (Or.inr (Or.inr (Or.inr (Or.inr (Or.inl rfl))))) | exact Or.inr (Or.inr (Or.inr (Or.inr (Or.inr (Or.inr (Or.inl rfl)))))) | exact Or.inr (Or.inr (Or.inr (Or.inr (Or.inr (Or.inr (Or.inr (Or.inl rfl))))))) | exact Or.inr (Or.inr (Or.inr (Or.inr (Or.inr (Or.inr (Or.inr (Or.inr (Or.inl rfl)))))))))) (fun v hv => t3 _ (by simp only [List.mem_cons, List.not_mem_nil, or_false] at hv ⊢; subst hv; exact Or.inr (Or.inr (Or.inr (Or.inr (Or.inr (Or.inr (Or.inr (Or.inr (Or.inr (rfl))))))))))) (t3 _ (by simp)) hw u hu
      · cases hy
    · cases hy
  · cases hy
def zk_rdy135 : zk_Rl := zk_nr fun N => some (zk_addGs N ((zk_kd 90 N).flatMap fun p => (zk_kd 90 N).flatMap (zk_dy135 N p)))
theorem zk_rdy135_ok : zk_Rok zk_rdy135 := zk_nr_ok fun E n => zk_add_gd (f := fun N => (zk_kd 90 N).flatMap fun p => (zk_kd 90 N).flatMap (zk_dy135 N p)) fun N hN hc hn x hx => by
  obtain ⟨y, hy1, hy2⟩ := List.mem_flatMap.mp hx
  obtain ⟨w, hw1, hw2⟩ := List.mem_flatMap.mp hy2
  rw [← hn]
  exact zk_dy135_ok hN hc (zk_kd_m hy1) (zk_kd_m hw1) x hw2
def zy_on138 : List zx_I := [(2, 0, []), (0, 99, []), (9, 0, []), (1, 1, []), (1, 0, []), (4, 101, []), (9, 0, []), (12, 0, []), (11, 0, [])]
def zy_tu138 : List zx_I := [(2, 0, []), (0, 1, []), (5, 0, []), (1, 4, []), (4, 4, []), (9, 0, []), (1, 5, []), (2, 0, []), (5, 0, []), (4, 3, []), (0, 0, []), (8, 4, []), (0, (-1), []), (13, 0, [])]
theorem zy_e138 {k : Nat} {la : zx_Rw} {be : zx_Rw} {st : zx_Rw} {el : zx_Rw} {szr : zx_Rw} {n0 : zx_Rw} {b0 : zx_Rw} {n : zx_Rw} {b : zx_Rw} {bi : Int} {lim : Int} {th : Int} {len : Int} {sh : Int} {off : Int} {ba : Int} {bo : Int} {x_ : Int} (h0 : 0 ≤ ba) (h5 : ba ≤ 5) (h : zx_F 138 [la, be, st, el, szr, n0, b0] [bi, lim, th, len, sh, off, ba, bo] k = ([0, x_], [n, b])) : zx_F 138 [la, be, st, el, szr, n0, b0] [bi, lim, th, len, sh, off, ba, bo] (k + 1) = ((zx_dn 138).2.2.2.1.map (zx_ev (zx_G 138) [la, be, st, el, szr, n0, b0] [n, b] [bi, lim, th, len, sh, off, ba, bo] (k : Int) [0, x_]), if (zx_ev (zx_G 138) [la, be, st, el, szr, n0, b0] [n, b] [bi, lim, th, len, sh, off, ba, bo] (k : Int) [0, x_] zy_on138) = 0 then [n, b] else [zy_to (zy_pr_n la be st n b th len (k : Int) (zx_ev (zx_G 138) [la, be, st, el, szr, n0, b0] [n, b] [bi, lim, th, len, sh, off, ba, bo] (k : Int) [0, x_] zy_tu138) ba bo) n ba.toNat, zy_to (zy_pr_b b (zx_ev (zx_G 138) [la, be, st, el, szr, n0, b0] [n, b] [bi, lim, th, len, sh, off, ba, bo] (k : Int) [0, x_] zy_tu138)) b ba.toNat]) := by
  have hs := zy_dr_sto (cl := zx_G 138) (R := [la, be, st, el, szr, n0, b0]) (n := n) (b := b) (P := [bi, lim, th, len, sh, off, ba, bo]) (S := [0, x_]) (k := (k : Int)) (la := 0) (ly := 1) (st := 2) (th := 2) (ln := 3) (ba := 6) (bo := 7) (on := zy_on138) (tu := zy_tu138) (von := (zx_ev (zx_G 138) [la, be, st, el, szr, n0, b0] [n, b] [bi, lim, th, len, sh, off, ba, bo] (k : Int) [0, x_] zy_on138)) (vtu := (zx_ev (zx_G 138) [la, be, st, el, szr, n0, b0] [n, b] [bi, lim, th, len, sh, off, ba, bo] (k : Int) [0, x_] zy_tu138)) (fun _ => rfl) (fun _ => rfl) h0 h5
  rw [zy_turn h, show (zx_dn 138).2.2.2.2 = zy_dr 0 1 2 2 3 6 7 zy_on138 zy_tu138 from rfl, hs]
  rfl
def zk_dy138 (N : zk_N) (g h : zk_G) : List zk_G := match zk_as 90 g, zk_as 90 h with
  | some ([la, be, st, el, szr, n0, b0, nn, bb], [i_, k, bi, lim, th, len, sh, off, ba, bo, d_, x_]), some ([la2, ly2, st2, nn2, bb2, n2, b2], [j_, _, th2, ln2, da, tu2, ba2, bo2, e2]) => match zk_eqi (zk_fci N i_) 138 && zk_eqi (zk_fci N j_) 101 && zk_eqE N d_ (zk_c 0) && zk_nz N e2 && zk_eqNs [la, be, st, nn, bb] [la2, ly2, st2, nn2, bb2] && zk_eqEs N [th, len, k, ba, bo] [th2, ln2, da, ba2, bo2] && zk_n2 N k && zk_n2 N ba && zk_n2 N (zk_vsub (zk_c 5) ba) && Nat.beq (zk_b3 N (zk_sev N 138 [la, be, st, el, szr, n0, b0] [nn, bb] [bi, lim, th, len, sh, off, ba, bo] k [d_, x_] zy_on138)) 1, zk_sev N 138 [la, be, st, el, szr, n0, b0] [nn, bb] [bi, lim, th, len, sh, off, ba, bo] k [d_, x_] zy_tu138, zk_sevs N 138 [la, be, st, el, szr, n0, b0] [nn, bb] [bi, lim, th, len, sh, off, ba, bo] k [d_, x_] (zx_dn 138).2.2.2.1 with
    | true, some t, some w => match zk_eqE N t tu2 with
      | true => [(90, [la, be, st, el, szr, n0, b0, n2, b2], i_ :: zk_vadd k (zk_c 1) :: bi :: lim :: th :: len :: sh :: off :: ba :: bo :: w)]
      | false => []
    | _, _, _ => []
  | _, _ => []
theorem zk_dy138_ok {E : zk_E} {N : zk_N} (hN : zk_ok E N) (hc : zk_cl N) {g h : zk_G} (hg : g ∈ N.2.2.2) (hh : h ∈ N.2.2.2) : ∀ y ∈ zk_dy138 N g h, zk_tru E N.1 y := by
  have ht := zk_tru_of hN hc g hg
  have ht2 := zk_tru_of hN hc h hh
  intro y hy
  unfold zk_dy138 at hy
  split at hy
  · rename_i la be st el szr n0 b0 nn bb i_ k bi lim th len sh off ba bo d_ x_ la2 ly2 st2 nn2 bb2 n2 b2 j_ K2 th2 ln2 da tu2 ba2 bo2 e2 hu hu2
    have e := zk_as_of hu
    have e' := zk_as_of hu2
    subst e e'
    split at hy
    · rename_i t w c htu hw
      split at hy
      · rename_i ct
        simp only [Bool.and_eq_true] at c
        obtain ⟨⟨⟨⟨⟨⟨⟨⟨⟨c1, c2⟩, c3⟩, c4⟩, c5⟩, c6⟩, c7⟩, c8⟩, c9⟩, c10⟩ := c
        have c1 := zk_fci_of (n := 138) hN c1
        have c3 := zk_eqE_of hN c3
        have c4 := zk_nz_ok hN c4
        have c5 := zk_eqNs_of c5
        have c6 := zk_eqEs_of hN c6
        have c7 := zk_n2_ok hN c7
        have c8 := zk_n2_ok hN c8
        have c9 := zk_n2_ok hN c9
        have ct := zk_eqE_of hN ct
        have hb3 := (zk_b3_of hN (z := zx_ev (zx_G 138) ([la, be, st, el, szr, n0, b0].map E.2) ([nn, bb].map E.2) ([bi, lim, th, len, sh, off, ba, bo].map (zk_i E)) (zk_i E k) ([d_, x_].map (zk_i E)) zy_on138) (fun v hv => zk_sev_of hN hv)).2 (Nat.eq_of_beq_eq_true c10)
        have htu' := zk_sev_of hN htu
        have hw' := zk_sevs_of hN hw
        rw [zk_c_i] at c3
        rw [zk_vsub_i, zk_c_i] at c9
        injection c5 with p1 c5
        injection c5 with p2 c5
        injection c5 with p3 c5
        injection c5 with p4 c5
        injection c5 with p5 c5
        subst p1 p2 p3 p4 p5
        simp only [List.map_cons, List.map_nil] at c6 hb3 htu' hw'
        injection c6 with q1 c6
        injection c6 with q2 c6
        injection c6 with q3 c6
        injection c6 with q4 c6
        injection c6 with q5 c6
        obtain ⟨k3, k4⟩ := zk_prF hN ht2 c2 c4 (by rw [← q4]; exact c8)
        rw [← q1, ← q2, ← q3, ← q4, ← q5, ← ct] at k3
        rw [← q4, ← ct] at k4
        obtain ⟨t1, t2, t3⟩ := ht
        obtain ⟨-, g2, -⟩ := ht2
        simp only [List.map_cons, List.map_nil, zq_6, zq_7, zq_8, zq_9, zq_20, zq_21, zq_22, zq_25, zq_26, zq_28, zq_30, zq_40, zq_51, zq_52, zq_53, zq_54, zq_55, zq_64, zq_65, zq_68, zq_72, zq_73, zq_85, zq_74, zq_75, zq_76, zq_71, zq_86, zq_87, zq_80, zq_41, zq_42, zq_43, zq_94, zq_95, zq_47, zq_48, zq_96, zq_97, zq_88, zq_89, zq_90, zq_93, zq_61, zq_62, zq_1, zq_2, zq_3, zq_4, zq_5, zx_90] at t1
        rw [c1] at t1
        obtain ⟨-, -, tF⟩ := t1
        have tF : zx_F 138 [E.2 la, E.2 be, E.2 st, E.2 el, E.2 szr, E.2 n0, E.2 b0] [zk_i E bi, zk_i E lim, zk_i E th, zk_i E len, zk_i E sh, zk_i E off, zk_i E ba, zk_i E bo] (zk_i E k).toNat = ([zk_i E d_, zk_i E x_], [E.2 nn, E.2 bb]) := tF
        rw [c3] at tF hb3 htu' hw'
        have ek : (((zk_i E k).toNat : Nat) : Int) = zk_i E k := Int.toNat_of_nonneg c7
        have r3 := zy_e138 c8 (by omega) tF
        rw [ek, if_neg hb3, ← htu', ← k3, ← k4, ← hw'] at r3
        rw [List.mem_singleton.mp hy]
        refine ⟨?_, fun a ha => ?_, fun u hu => ?_⟩
        · simp only [List.map_cons, List.map_nil, zq_6, zq_7, zq_8, zq_9, zq_20, zq_21, zq_22, zq_25, zq_26, zq_28, zq_30, zq_40, zq_51, zq_52, zq_53, zq_54, zq_55, zq_64, zq_65, zq_68, zq_72, zq_73, zq_85, zq_74, zq_75, zq_76, zq_71, zq_86, zq_87, zq_80, zq_41, zq_42, zq_43, zq_94, zq_95, zq_47, zq_48, zq_96, zq_97, zq_88, zq_89, zq_90, zq_93, zq_61, zq_62, zq_1, zq_2, zq_3, zq_4, zq_5, zx_90]
          rw [c1, zk_vadd_i, zk_c_i]
          refine ⟨by decide, by omega, ?_⟩
          rw [show (zk_i E k + 1).toNat = (zk_i E k).toNat + 1 by omega]
          exact r3
        · simp only [List.mem_cons, List.not_mem_nil, or_false] at ha
          rcases ha with rfl | rfl | rfl | rfl | rfl | rfl | rfl | rfl | rfl
          · exact t2 _ (by simp)
          · exact t2 _ (by simp)
          · exact t2 _ (by simp)
          · exact t2 _ (by simp)
          · exact t2 _ (by simp)
          · exact t2 _ (by simp)
          · exact t2 _ (by simp)
          · exact g2 _ (by simp)
          · exact g2 _ (by simp)
        · rcases List.mem_cons.mp hu with rfl | hu
          · exact t3 _ (by simp)
          rcases List.mem_cons.mp hu with rfl | hu
          · exact zk_vadd_sv (t3 _ (by simp)) zk_c_sv
          rcases List.mem_cons.mp hu with rfl | hu
          · exact t3 _ (by simp)
          rcases List.mem_cons.mp hu with rfl | hu
          · exact t3 _ (by simp)
          rcases List.mem_cons.mp hu with rfl | hu
          · exact t3 _ (by simp)
          rcases List.mem_cons.mp hu with rfl | hu
          · exact t3 _ (by simp)
          rcases List.mem_cons.mp hu with rfl | hu
          · exact t3 _ (by simp)
          rcases List.mem_cons.mp hu with rfl | hu
          · exact t3 _ (by simp)
          rcases List.mem_cons.mp hu with rfl | hu
          · exact t3 _ (by simp)
          rcases List.mem_cons.mp hu with rfl | hu
          · exact t3 _ (by simp)
          exact zk_sevs_sv hc (fun v hv => t3 _ (by simp only [List.mem_cons, List.not_mem_nil, or_false] at hv ⊢; rcases hv with rfl | rfl | rfl | rfl | rfl | rfl | rfl | rfl <;> first | exact Or.inr (Or.inr (Or.inl rfl)) | exact Or.inr (Or.inr (Or.inr (Or.inl rfl))) | exact Or.inr (Or.inr (Or.inr (Or.inr (Or.inl rfl)))) | exact Or.inr (Or.inr (Or.inr (Or.inr (Or.inr (Or.inl rfl))))) | exact Or.inr (Or.inr (Or.inr (Or.inr (Or.inr (Or.inr (Or.inl rfl)))))) | exact Or.inr (Or.inr (Or.inr (Or.inr (Or.inr (Or.inr (Or.inr (Or.inl rfl))))))) | exact Or.inr (Or.inr (Or.inr (Or.inr (Or.inr (Or.inr (Or.inr (Or.inr (Or.inl rfl)))))))) | exact Or.inr (Or.inr (Or.inr (Or.inr (Or.inr (Or.inr (Or.inr (Or.inr (Or.inr (Or.inl rfl))))))))))) (fun v hv => t3 _ (by simp only [List.mem_cons, List.not_mem_nil, or_false] at hv ⊢; rcases hv with rfl | rfl <;> first | exact Or.inr (Or.inr (Or.inr (Or.inr (Or.inr (Or.inr (Or.inr (Or.inr (Or.inr (Or.inr (Or.inl rfl)))))))))) | exact Or.inr (Or.inr (Or.inr (Or.inr (Or.inr (Or.inr (Or.inr (Or.inr (Or.inr (Or.inr (Or.inr (rfl))))))))))))) (t3 _ (by simp)) hw u hu
      · cases hy
    · cases hy
  · cases hy
def zk_rdy138 : zk_Rl := zk_nr fun N => some (zk_addGs N ((zk_kd 90 N).flatMap fun p => (zk_kd 90 N).flatMap (zk_dy138 N p)))
theorem zk_rdy138_ok : zk_Rok zk_rdy138 := zk_nr_ok fun E n => zk_add_gd (f := fun N => (zk_kd 90 N).flatMap fun p => (zk_kd 90 N).flatMap (zk_dy138 N p)) fun N hN hc hn x hx => by
  obtain ⟨y, hy1, hy2⟩ := List.mem_flatMap.mp hx
  obtain ⟨w, hw1, hw2⟩ := List.mem_flatMap.mp hy2
  rw [← hn]
  exact zk_dy138_ok hN hc (zk_kd_m hy1) (zk_kd_m hw1) x hw2
/-! so many days: both sides -/
theorem zy_yE {la ly la2 be st el X szr nz bz nz2 bz2 n b n2 b2 : zx_Rw} {nd th len sz sh off ba bo d d2 : Int} {K K2 : Nat} (h0 : 0 ≤ ba) (h5 : ba ≤ 5) (hl : ∀ j : Nat, (j : Int) < ba → la j = la2 j) (hy : ∀ j : Nat, (j : Int) < ba → ly j = (zx_cn be j bo.toNat : Int)) (hn : ∀ j : Nat, (j : Int) < ba → nz j = nz2 j) (hb : ∀ j : Nat, (j : Int) < ba → bz j = bz2 j) (hs : szr sh.toNat = sz) (hz : sz ≤ 60) (ho : 0 ≤ off) (he : ∀ j : Nat, j < 60 → X (off.toNat + j) = el j) (e1 : zx_F 134 [la, ly, st, el, nz, bz] [nd, th, len, sz, ba] K = ([d], [n, b])) (hd : d ≠ 0) (e2 : zx_F 135 [la2, be, st, X, szr, nz2, bz2] [nd, th, len, sh, off, ba, bo] K2 = ([d2], [n2, b2])) (hd2 : d2 ≠ 0) : (∀ j : Nat, (j : Int) < ba → n j = n2 j) ∧ (∀ j : Nat, (j : Int) < ba → b j = b2 j) := by
  obtain ⟨d', m1, m2, m3, m4, f1, f2, g1, g2⟩ := zy_yq (st := st) (nd := nd) (th := th) (len := len) h0 h5 hl hy hn hb hs hz ho he (max K K2)
  rw [zx_F_max e1 hd (Nat.le_max_left K K2)] at f1
  rw [zx_F_max e2 hd2 (Nat.le_max_right K K2)] at f2
  injection f1 with _ f1
  injection f1 with a1 f1
  injection f1 with a2 _
  injection f2 with _ f2
  injection f2 with a3 f2
  injection f2 with a4 _
  subst a1 a2 a3 a4
  exact ⟨g1, g2⟩
theorem zy_lE {la ly la2 be st el X szr nz bz nz2 bz2 n b n2 b2 : zx_Rw} {nd th len sz sh off i ba bo d d2 : Int} {K K2 : Nat} (h0 : 0 ≤ i) (h1 : i + 1 ≤ ba) (h5 : ba ≤ 5) (hl : la i.toNat = la2 i.toNat) (hy : ly i.toNat = (zx_cn be i bo.toNat : Int)) (hn : nz i.toNat = nz2 i.toNat) (hb : bz i.toNat = bz2 i.toNat) (hs : szr sh.toNat = sz) (hz : sz ≤ 60) (ho : 0 ≤ off) (he : ∀ j : Nat, j < 60 → X (off.toNat + j) = el j) (e1 : zx_F 136 [la, ly, st, el, nz, bz] [nd, th, len, sz, i] K = ([d], [n, b])) (hd : d ≠ 0) (e2 : zx_F 135 [la2, be, st, X, szr, nz2, bz2] [nd, th, len, sh, off, ba, bo] K2 = ([d2], [n2, b2])) (hd2 : d2 ≠ 0) : n i.toNat = n2 i.toNat ∧ b i.toNat = b2 i.toNat := by
  obtain ⟨d', m1, m2, m3, m4, f1, f2, g1, g2⟩ := zy_lq (st := st) (nd := nd) (th := th) (len := len) h0 h1 h5 hl hy hn hb hs hz ho he (max K K2)
  rw [zx_F_max e1 hd (Nat.le_max_left K K2)] at f1
  rw [zx_F_max e2 hd2 (Nat.le_max_right K K2)] at f2
  injection f1 with _ f1
  injection f1 with a1 f1
  injection f1 with a2 _
  injection f2 with _ f2
  injection f2 with a3 f2
  injection f2 with a4 _
  subst a1 a2 a3 a4
  exact ⟨g1, g2⟩
theorem zy_bE {la2 be st el X szr bz nz2 bz2 b n2 b2 : zx_Rw} {lim th len sz sh off i ba bo d x d2 x2 : Int} {K K2 : Nat} (h0 : 0 ≤ i) (h1 : i + 1 ≤ ba) (h5 : ba ≤ 5) (hb : bz i.toNat = bz2 i.toNat) (hs : szr sh.toNat = sz) (hz : sz ≤ 60) (ho : 0 ≤ off) (he : ∀ j : Nat, j < 60 → X (off.toNat + j) = el j) (e1 : zx_F 137 [el, bz] [i, lim, sz] K = ([d, x], [b])) (hd : d ≠ 0) (e2 : zx_F 138 [la2, be, st, X, szr, nz2, bz2] [i, lim, th, len, sh, off, ba, bo] K2 = ([d2, x2], [n2, b2])) (hd2 : d2 ≠ 0) : x = x2 := by
  obtain ⟨d', x', m1, m2, m3, f1, f2, -⟩ := zy_bq (la2 := la2) (be := be) (st := st) (nz2 := nz2) (lim := lim) (th := th) (len := len) (bo := bo) h0 h1 h5 hb hs hz ho he (max K K2)
  rw [zx_F_max e1 hd (Nat.le_max_left K K2)] at f1
  rw [zx_F_max e2 hd2 (Nat.le_max_right K K2)] at f2
  have a1 : x = x' := congrArg (fun p => p.1.getD 1 0) f1
  have a2 : x2 = x' := congrArg (fun p => p.1.getD 1 0) f2
  rw [a1, a2]
/-- a shelf's row, on both sides -/
def zk_sf (N : zk_N) (el X szr : Nat) (sz sh off : zk_V) : Bool := match zk_rdv N szr sh N.2.2.2 with
  | some w => zk_eqE N w sz && zk_n2 N (zk_vsub (zk_c 60) sz) && zk_n2 N off && (zk_kd 68 N).any fun q => match zk_as68 q with
    | some (f, g, a, b, m) => Nat.beq f X && Nat.beq g el && zk_eqE N a off && zk_eqE N b (zk_c 0) && zk_n2 N (zk_vsub m (zk_c 60))
    | none => false
  | none => false
theorem zk_sf_of {E : zk_E} {N : zk_N} (hN : zk_ok E N) (hc : zk_cl N) {el X szr : Nat} {sz sh off : zk_V} (h : zk_sf N el X szr sz sh off = true) : E.2 szr (zk_i E sh).toNat = zk_i E sz ∧ zk_i E sz ≤ 60 ∧ 0 ≤ zk_i E off ∧ ∀ j : Nat, j < 60 → E.2 X ((zk_i E off).toNat + j) = E.2 el j := by
  unfold zk_sf at h
  split at h
  · rename_i w hw
    simp only [Bool.and_eq_true] at h
    obtain ⟨⟨⟨h1, h2⟩, h3⟩, h4⟩ := h
    have h1 := zk_eqE_of hN h1
    have h2 := zk_n2_ok hN h2
    have h3 := zk_n2_ok hN h3
    rw [zk_vsub_i, zk_c_i] at h2
    have hr := zk_rdv_ok hN (fun _ h => h) hw
    obtain ⟨q, hq, h4⟩ := List.any_eq_true.mp h4
    split at h4
    · rename_i f g a b m e
      obtain ⟨t1, -⟩ := zk_as68_of (zk_tru_of hN hc q (zk_kd_m hq)) e
      simp only [Bool.and_eq_true] at h4
      obtain ⟨⟨⟨⟨k1, k2⟩, k3⟩, k4⟩, k5⟩ := h4
      have k1 := Nat.eq_of_beq_eq_true k1
      have k2 := Nat.eq_of_beq_eq_true k2
      have k3 := zk_eqE_of hN k3
      have k4 := zk_eqE_of hN k4
      have k5 := zk_n2_ok hN k5
      rw [zk_c_i] at k4
      rw [zk_vsub_i, zk_c_i] at k5
      subst k1 k2
      refine ⟨by rw [hr, h1], by omega, h3, fun j hj => ?_⟩
      have := t1 j (by omega)
      rw [k3, k4] at this
      simpa using this
    · cases h4
  · cases h
def zk_dq2 (N : zk_N) (g h : zk_G) : List zk_G := match zk_as 90 g, zk_as 90 h with
  | some ([la, ly, st, el, n0, b0, nn, bb], [i, _, nd, th, ln, sz, ba, d]), some ([la2, be, st2, X, szr, m0, c0, mm, cc], [i2, _, nd2, th2, ln2, sh, off, ba2, bo, d2]) => match zk_eqi (zk_fci N i) 134 && zk_eqi (zk_fci N i2) 135 && zk_nz N d && zk_nz N d2 && Nat.beq st st2 && zk_eqEs N [nd, th, ln, ba] [nd2, th2, ln2, ba2] && zk_n2 N ba && zk_n2 N (zk_vsub (zk_c 5) ba) && zk_sf N el X szr sz sh off && ((zk_cp5 N ly).any fun w => zk_h43 N w be bo ba) && zk_pp N ba 3 la la2 && zk_pp N ba 4 n0 m0 && zk_pp N ba 4 b0 c0 with
    | true => [(68, [mm, nn], [zk_c 0, zk_c 0, ba]), (68, [cc, bb], [zk_c 0, zk_c 0, ba])]
    | false => []
  | _, _ => []
theorem zk_dq2_ok {E : zk_E} {N : zk_N} (hN : zk_ok E N) (hc : zk_cl N) {g h : zk_G} (hg : g ∈ N.2.2.2) (hh : h ∈ N.2.2.2) : ∀ y ∈ zk_dq2 N g h, zk_tru E N.1 y := by
  have ht := zk_tru_of hN hc g hg
  have ht2 := zk_tru_of hN hc h hh
  intro y hy
  unfold zk_dq2 at hy
  split at hy
  · rename_i la ly st el n0 b0 nn bb i K nd th ln sz ba d la2 be st2 X szr m0 c0 mm cc i2 K2 nd2 th2 ln2 sh off ba2 bo d2 hu hu2
    have e := zk_as_of hu
    have e2 := zk_as_of hu2
    subst e e2
    obtain ⟨t1, t2, t3⟩ := ht
    obtain ⟨g1, g2, g3⟩ := ht2
    split at hy
    · rename_i c
      simp only [Bool.and_eq_true] at c
      obtain ⟨⟨⟨⟨⟨⟨⟨⟨⟨⟨⟨⟨c1, c2⟩, c3⟩, c4⟩, c5⟩, c6⟩, c7⟩, c8⟩, c9⟩, c10⟩, c11⟩, c12⟩, c13⟩ := c
      have c1 := zk_fci_of (n := 134) hN c1
      have c2 := zk_fci_of (n := 135) hN c2
      have c3 := zk_nz_ok hN c3
      have c4 := zk_nz_ok hN c4
      have c5 := Nat.eq_of_beq_eq_true c5
      have c6 := zk_eqEs_of hN c6
      have c7 := zk_n2_ok hN c7
      have c8 := zk_n2_ok hN c8
      rw [zk_vsub_i, zk_c_i] at c8
      obtain ⟨s1, s2, s3, s4⟩ := zk_sf_of hN hc c9
      obtain ⟨w, hw, c10⟩ := List.any_eq_true.mp c10
      have hcp := zk_cp5_of hN hc hw
      have c10 := zk_h43_of hN hc c10
      have c11 := zk_pp_of hN hc c11
      have c12 := zk_pp_of hN hc c12
      have c13 := zk_pp_of hN hc c13
      simp only [List.map_cons, List.map_nil] at c6
      injection c6 with q1 c6
      injection c6 with q2 c6
      injection c6 with q3 c6
      injection c6 with q4 c6
      simp only [List.map_cons, List.map_nil, zq_6, zq_7, zq_8, zq_9, zq_20, zq_21, zq_22, zq_25, zq_26, zq_28, zq_30, zq_40, zq_51, zq_52, zq_53, zq_54, zq_55, zq_64, zq_65, zq_68, zq_72, zq_73, zq_85, zq_74, zq_75, zq_76, zq_71, zq_86, zq_87, zq_80, zq_41, zq_42, zq_43, zq_94, zq_95, zq_47, zq_48, zq_96, zq_97, zq_88, zq_89, zq_90, zq_93, zq_61, zq_62, zq_1, zq_2, zq_3, zq_4, zq_5, zx_90] at t1 g1
      rw [c1] at t1
      rw [c2] at g1
      obtain ⟨-, -, tF⟩ := t1
      obtain ⟨-, -, gF⟩ := g1
      have tF : zx_F 134 [E.2 la, E.2 ly, E.2 st, E.2 el, E.2 n0, E.2 b0] [zk_i E nd, zk_i E th, zk_i E ln, zk_i E sz, zk_i E ba] (zk_i E K).toNat = ([zk_i E d], [E.2 nn, E.2 bb]) := tF
      have gF : zx_F 135 [E.2 la2, E.2 be, E.2 st2, E.2 X, E.2 szr, E.2 m0, E.2 c0] [zk_i E nd2, zk_i E th2, zk_i E ln2, zk_i E sh, zk_i E off, zk_i E ba2, zk_i E bo] (zk_i E K2).toNat = ([zk_i E d2], [E.2 mm, E.2 cc]) := gF
      rw [← q1, ← q2, ← q3, ← q4, ← c5] at gF
      obtain ⟨r1, r2⟩ := zy_yE c7 (by omega) c11 (fun j hj => by rw [hcp j (by omega), c10 j (by omega), if_pos hj]) c12 c13 s1 s2 s3 s4 tF c3 gF c4
      simp only [List.mem_cons, List.not_mem_nil, or_false] at hy
      rcases hy with rfl | rfl
      · exact zk_68tr (fun j hj => (r1 j hj).symm) (g2 _ (by simp)) (t2 _ (by simp)) (t3 _ (by simp))
      · exact zk_68tr (fun j hj => (r2 j hj).symm) (g2 _ (by simp)) (t2 _ (by simp)) (t3 _ (by simp))
    · cases hy
  · cases hy
def zk_rdq : zk_Rl := zk_nr fun N => some (zk_addGs N ((zk_kd 90 N).flatMap fun p => (zk_kd 90 N).flatMap (zk_dq2 N p)))
theorem zk_rdq_ok : zk_Rok zk_rdq := zk_nr_ok fun E n => zk_add_gd (f := fun N => (zk_kd 90 N).flatMap fun p => (zk_kd 90 N).flatMap (zk_dq2 N p)) fun N hN hc hn x hx => by
  obtain ⟨y, hy1, hy2⟩ := List.mem_flatMap.mp hx
  obtain ⟨w, hw1, hw2⟩ := List.mem_flatMap.mp hy2
  rw [← hn]
  exact zk_dq2_ok hN hc (zk_kd_m hy1) (zk_kd_m hw1) x hw2
/-- reads of two rows at a place, the same -/
def zk_rr2 (a b : Nat) (i : zk_V) (N : zk_N) : Option zk_N := match zk_rdv N a i N.2.2.2, zk_rdv N b i N.2.2.2 with
  | some u, some w => match zk_svB N.1 u && zk_svB N.1 w with
    | true => zk_eqs N (zk_vsub u w)
    | false => some N
  | _, _ => some N
theorem zk_rr2_gd {E : zk_E} {n a b : Nat} {i : zk_V} (h : E.2 a (zk_i E i).toNat = E.2 b (zk_i E i).toNat) : zk_gd E n (zk_rr2 a b i) := by
  intro N hN hc hn
  unfold zk_rr2
  split
  · rename_i u w hu hw
    have h1 := zk_rdv_ok hN (fun _ h => h) hu
    have h2 := zk_rdv_ok hN (fun _ h => h) hw
    split
    · rename_i c
      rw [Bool.and_eq_true] at c
      exact zk_eqsg (by rw [zk_vsub_i]; omega) (zk_vsub_sv (by rw [← hn]; exact zk_svB_of c.1) (by rw [← hn]; exact zk_svB_of c.2)) N hN hc hn
    · exact zk_id_gd N hN hc hn
  · exact zk_id_gd N hN hc hn
def zk_lq2 (g h : zk_G) (N : zk_N) : Option zk_N := match zk_as 90 g, zk_as 90 h with
  | some ([la, ly, st, el, n0, b0, nn, bb], [i, _, nd, th, ln, sz, b, d]), some ([la2, be, st2, X, szr, m0, c0, mm, cc], [i2, _, nd2, th2, ln2, sh, off, ba, bo, d2]) => match zk_eqi (zk_fci N i) 136 && zk_eqi (zk_fci N i2) 135 && zk_nz N d && zk_nz N d2 && Nat.beq st st2 && zk_eqEs N [nd, th, ln] [nd2, th2, ln2] && zk_n2 N b && zk_n2 N (zk_vsub (zk_vsub ba b) (zk_c 1)) && zk_n2 N (zk_vsub (zk_c 5) ba) && zk_sf N el X szr sz sh off && ((zk_cp5 N ly).any fun w => zk_h43 N w be bo ba) && zk_pp N ba 3 la la2 && zk_pp N ba 4 n0 m0 && zk_pp N ba 4 b0 c0 with
    | true => zk_sq (zk_rr2 nn mm b) (zk_rr2 bb cc b) N
    | false => some N
  | _, _ => some N
theorem zk_lq2_gd {E : zk_E} {n : Nat} {g h : zk_G} (hg : zk_tru E n g) (hh : zk_tru E n h) : zk_gd E n (zk_lq2 g h) := by
  intro N hN hc hn
  unfold zk_lq2
  split
  · rename_i la ly st el n0 b0 nn bb i K nd th ln sz b d la2 be st2 X szr m0 c0 mm cc i2 K2 nd2 th2 ln2 sh off ba bo d2 hu hu2
    have e := zk_as_of hu
    have e2 := zk_as_of hu2
    subst e e2
    obtain ⟨t1, t2, t3⟩ := hg
    obtain ⟨g1, g2, g3⟩ := hh
    split
    · rename_i c
      simp only [Bool.and_eq_true] at c
      obtain ⟨⟨⟨⟨⟨⟨⟨⟨⟨⟨⟨⟨⟨c1, c2⟩, c3⟩, c4⟩, c5⟩, c6⟩, c7⟩, c8⟩, c9⟩, cs⟩, c10⟩, c11⟩, c12⟩, c13⟩ := c
      have c1 := zk_fci_of (n := 136) hN c1
      have c2 := zk_fci_of (n := 135) hN c2
      have c3 := zk_nz_ok hN c3
      have c4 := zk_nz_ok hN c4
      have c5 := Nat.eq_of_beq_eq_true c5
      have c6 := zk_eqEs_of hN c6
      have c7 := zk_n2_ok hN c7
      have c8 := zk_n2_ok hN c8
      have c9 := zk_n2_ok hN c9
      rw [zk_vsub_i, zk_vsub_i, zk_c_i] at c8
      rw [zk_vsub_i, zk_c_i] at c9
      obtain ⟨s1, s2, s3, s4⟩ := zk_sf_of hN hc cs
      obtain ⟨w, hw, c10⟩ := List.any_eq_true.mp c10
      have hcp := zk_cp5_of hN hc hw
      have c10 := zk_h43_of hN hc c10
      have c11 := zk_pp_of hN hc c11
      have c12 := zk_pp_of hN hc c12
      have c13 := zk_pp_of hN hc c13
      simp only [List.map_cons, List.map_nil] at c6
      injection c6 with q1 c6
      injection c6 with q2 c6
      injection c6 with q3 c6
      simp only [List.map_cons, List.map_nil, zq_6, zq_7, zq_8, zq_9, zq_20, zq_21, zq_22, zq_25, zq_26, zq_28, zq_30, zq_40, zq_51, zq_52, zq_53, zq_54, zq_55, zq_64, zq_65, zq_68, zq_72, zq_73, zq_85, zq_74, zq_75, zq_76, zq_71, zq_86, zq_87, zq_80, zq_41, zq_42, zq_43, zq_94, zq_95, zq_47, zq_48, zq_96, zq_97, zq_88, zq_89, zq_90, zq_93, zq_61, zq_62, zq_1, zq_2, zq_3, zq_4, zq_5, zx_90] at t1 g1
      rw [c1] at t1
      rw [c2] at g1
      obtain ⟨-, -, tF⟩ := t1
      obtain ⟨-, -, gF⟩ := g1
      have tF : zx_F 136 [E.2 la, E.2 ly, E.2 st, E.2 el, E.2 n0, E.2 b0] [zk_i E nd, zk_i E th, zk_i E ln, zk_i E sz, zk_i E b] (zk_i E K).toNat = ([zk_i E d], [E.2 nn, E.2 bb]) := tF
      have gF : zx_F 135 [E.2 la2, E.2 be, E.2 st2, E.2 X, E.2 szr, E.2 m0, E.2 c0] [zk_i E nd2, zk_i E th2, zk_i E ln2, zk_i E sh, zk_i E off, zk_i E ba, zk_i E bo] (zk_i E K2).toNat = ([zk_i E d2], [E.2 mm, E.2 cc]) := gF
      rw [← q1, ← q2, ← q3, ← c5] at gF
      have eb : (((zk_i E b).toNat : Nat) : Int) = zk_i E b := Int.toNat_of_nonneg c7
      have hb : (((zk_i E b).toNat : Nat) : Int) < zk_i E ba := by omega
      have hy : E.2 ly (zk_i E b).toNat = (zx_cn (E.2 be) (zk_i E b) (zk_i E bo).toNat : Int) := by
        rw [hcp _ (by omega), c10 _ (by omega), if_pos hb, eb]
      obtain ⟨r1, r2⟩ := zy_lE c7 (by omega) (by omega) (c11 _ hb) hy (c12 _ hb) (c13 _ hb) s1 s2 s3 s4 tF c3 gF c4
      exact zk_sq_gd (zk_rr2_gd r1) (zk_rr2_gd r2) N hN hc hn
    · exact zk_id_gd N hN hc hn
  · exact zk_id_gd N hN hc hn
def zk_rlq : zk_Rl := zk_nr (zk_on zk_f90 fun p => zk_on zk_f90 (zk_lq2 p))
theorem zk_rlq_ok : zk_Rok zk_rlq := zk_nr_ok fun E n => zk_on_gd fun N h hc hn p hp => by
  have ht := zk_trs h hc hn p (List.mem_filter.mp hp).1
  exact zk_on_gd fun N' h' hc' hn' q hq => zk_lq2_gd ht (zk_trs h' hc' hn' q (List.mem_filter.mp hq).1)
def zk_bl2 (g h : zk_G) (N : zk_N) : Option zk_N := match zk_as 90 g, zk_as 90 h with
  | some ([el, b0, _], [i, _, b, lm, sz, d, x]), some ([la2, be, st2, X, szr, m0, c0, mm, cc], [i2, _, b2, lm2, th2, ln2, sh, off, ba, bo, d2, x2]) => match zk_eqi (zk_fci N i) 137 && zk_eqi (zk_fci N i2) 138 && zk_nz N d && zk_nz N d2 && zk_eqEs N [b, lm] [b2, lm2] && zk_n2 N b && zk_n2 N (zk_vsub (zk_vsub ba b) (zk_c 1)) && zk_n2 N (zk_vsub (zk_c 5) ba) && zk_sf N el X szr sz sh off && zk_pp N ba 4 b0 c0 with
    | true => zk_eqs N (zk_vsub x x2)
    | false => some N
  | _, _ => some N
theorem zk_bl2_gd {E : zk_E} {n : Nat} {g h : zk_G} (hg : zk_tru E n g) (hh : zk_tru E n h) : zk_gd E n (zk_bl2 g h) := by
  intro N hN hc hn
  unfold zk_bl2
  split
  · rename_i el b0 bb i K b lm sz d x la2 be st2 X szr m0 c0 mm cc i2 K2 b2 lm2 th2 ln2 sh off ba bo d2 x2 hu hu2
    have e := zk_as_of hu
    have e2 := zk_as_of hu2
    subst e e2
    obtain ⟨t1, t2, t3⟩ := hg
    obtain ⟨g1, g2, g3⟩ := hh
    split
    · rename_i c
      simp only [Bool.and_eq_true] at c
      obtain ⟨⟨⟨⟨⟨⟨⟨⟨⟨c1, c2⟩, c3⟩, c4⟩, c6⟩, c7⟩, c8⟩, c9⟩, cs⟩, c13⟩ := c
      have c1 := zk_fci_of (n := 137) hN c1
      have c2 := zk_fci_of (n := 138) hN c2
      have c3 := zk_nz_ok hN c3
      have c4 := zk_nz_ok hN c4
      have c6 := zk_eqEs_of hN c6
      have c7 := zk_n2_ok hN c7
      have c8 := zk_n2_ok hN c8
      have c9 := zk_n2_ok hN c9
      rw [zk_vsub_i, zk_vsub_i, zk_c_i] at c8
      rw [zk_vsub_i, zk_c_i] at c9
      obtain ⟨s1, s2, s3, s4⟩ := zk_sf_of hN hc cs
      have c13 := zk_pp_of hN hc c13
      simp only [List.map_cons, List.map_nil] at c6
      injection c6 with q1 c6
      injection c6 with q2 c6
      simp only [List.map_cons, List.map_nil, zq_6, zq_7, zq_8, zq_9, zq_20, zq_21, zq_22, zq_25, zq_26, zq_28, zq_30, zq_40, zq_51, zq_52, zq_53, zq_54, zq_55, zq_64, zq_65, zq_68, zq_72, zq_73, zq_85, zq_74, zq_75, zq_76, zq_71, zq_86, zq_87, zq_80, zq_41, zq_42, zq_43, zq_94, zq_95, zq_47, zq_48, zq_96, zq_97, zq_88, zq_89, zq_90, zq_93, zq_61, zq_62, zq_1, zq_2, zq_3, zq_4, zq_5, zx_90] at t1 g1
      rw [c1] at t1
      rw [c2] at g1
      obtain ⟨-, -, tF⟩ := t1
      obtain ⟨-, -, gF⟩ := g1
      have tF : zx_F 137 [E.2 el, E.2 b0] [zk_i E b, zk_i E lm, zk_i E sz] (zk_i E K).toNat = ([zk_i E d, zk_i E x], [E.2 bb]) := tF
      have gF : zx_F 138 [E.2 la2, E.2 be, E.2 st2, E.2 X, E.2 szr, E.2 m0, E.2 c0] [zk_i E b2, zk_i E lm2, zk_i E th2, zk_i E ln2, zk_i E sh, zk_i E off, zk_i E ba, zk_i E bo] (zk_i E K2).toNat = ([zk_i E d2, zk_i E x2], [E.2 mm, E.2 cc]) := gF
      rw [← q1, ← q2] at gF
      have eb : (((zk_i E b).toNat : Nat) : Int) = zk_i E b := Int.toNat_of_nonneg c7
      have hb : (((zk_i E b).toNat : Nat) : Int) < zk_i E ba := by omega
      have r := zy_bE c7 (by omega) (by omega) (c13 _ hb) s1 s2 s3 s4 tF c3 gF c4
      exact zk_eqsg (by rw [zk_vsub_i]; omega) (zk_vsub_sv (t3 _ (by simp)) (g3 _ (by simp))) N hN hc hn
    · exact zk_id_gd N hN hc hn
  · exact zk_id_gd N hN hc hn
def zk_rbl : zk_Rl := zk_nr (zk_on zk_f90 fun p => zk_on zk_f90 (zk_bl2 p))
theorem zk_rbl_ok : zk_Rok zk_rbl := zk_nr_ok fun E n => zk_on_gd fun N h hc hn p hp => by
  have ht := zk_trs h hc hn p (List.mem_filter.mp hp).1
  exact zk_on_gd fun N' h' hc' hn' q hq => zk_bl2_gd ht (zk_trs h' hc' hn' q (List.mem_filter.mp hq).1)
/-! who sleeps, of copies -/
def zk_s22 (p q : zk_G) (N : zk_N) : Option zk_N := match zk_as 90 p, zk_as 90 q with
  | some ([pl, ni, bl, ly, ne], [i, _, bo, li, ba, d, r]), some ([be, ni2, bl2, ne2], [i2, _, bo2, li2, d2, r2]) => match zk_eqi (zk_fci N i) 98 && zk_eqi (zk_fci N i2) 99 && zk_nz N d && zk_nz N d2 && zk_eqE N bo bo2 && zk_eqE N li li2 && zk_n2 N (zk_vsub (zk_c 5) ba) && zk_h41 N be bo ba && ((zk_cp5 N ly).any fun w => zk_h43 N w be bo ba) && zk_pp N bo 2 pl be && zk_pp N bo 2 ne ne2 && zk_pp N ba 2 ni2 ni && zk_pp N ba 2 bl2 bl with
    | true => zk_eqs N (zk_vsub r r2)
    | false => some N
  | _, _ => some N
theorem zk_s22_gd {E : zk_E} {n : Nat} {p q : zk_G} (hp : zk_tru E n p) (hq : zk_tru E n q) : zk_gd E n (zk_s22 p q) := by
  intro N hN hc hn
  unfold zk_s22
  split
  · rename_i pl ni bl ly ne i K bo li ba d r be ni2 bl2 ne2 i2 K2 bo2 li2 d2 r2 hu hu2
    have e := zk_as_of hu
    have e2 := zk_as_of hu2
    subst e e2
    obtain ⟨h1, h2, h3⟩ := hp
    obtain ⟨g1, g2, g3⟩ := hq
    split
    · rename_i c
      simp only [Bool.and_eq_true] at c
      obtain ⟨⟨⟨⟨⟨⟨⟨⟨⟨⟨⟨⟨c1, c2⟩, c3⟩, c4⟩, c5⟩, c6⟩, c7⟩, c8⟩, c9⟩, c10⟩, c11⟩, c12⟩, c13⟩ := c
      have c1 := zk_fci_of (n := 98) hN c1
      have c2 := zk_fci_of (n := 99) hN c2
      have c3 := zk_nz_ok hN c3
      have c4 := zk_nz_ok hN c4
      have c5 := zk_eqE_of hN c5
      have c6 := zk_eqE_of hN c6
      have c7 := zk_n2_ok hN c7
      rw [zk_vsub_i, zk_c_i] at c7
      have c8 := zk_h41_of hN hc c8
      obtain ⟨w, hw, c9⟩ := List.any_eq_true.mp c9
      have hcp := zk_cp5_of hN hc hw
      have c9 := zk_h43_of hN hc c9
      have c10 := zk_pp_of hN hc c10
      have c11 := zk_pp_of hN hc c11
      have c12 := zk_pp_of hN hc c12
      have c13 := zk_pp_of hN hc c13
      simp only [List.map_cons, List.map_nil, zq_6, zq_7, zq_8, zq_9, zq_20, zq_21, zq_22, zq_25, zq_26, zq_28, zq_30, zq_40, zq_51, zq_52, zq_53, zq_54, zq_55, zq_64, zq_65, zq_68, zq_72, zq_73, zq_85, zq_74, zq_75, zq_76, zq_71, zq_86, zq_87, zq_80, zq_41, zq_42, zq_43, zq_94, zq_95, zq_47, zq_48, zq_96, zq_97, zq_88, zq_89, zq_90, zq_93, zq_61, zq_62, zq_1, zq_2, zq_3, zq_4, zq_5, zx_90] at h1 g1
      rw [c1] at h1
      rw [c2] at g1
      obtain ⟨-, -, hF⟩ := h1
      obtain ⟨-, -, hG⟩ := g1
      have hF : zx_F 98 [E.2 pl, E.2 ni, E.2 bl, E.2 ly, E.2 ne] [zk_i E bo, zk_i E li, zk_i E ba] (zk_i E K).toNat = ([zk_i E d, zk_i E r], []) := hF
      have hG : zx_F 99 [E.2 be, E.2 ni2, E.2 bl2, E.2 ne2] [zk_i E bo2, zk_i E li2] (zk_i E K2).toNat = ([zk_i E d2, zk_i E r2], []) := hG
      rw [← c5, ← c6] at hG
      have f1 := zx_F_max hF c3 (Nat.le_max_left _ (zk_i E K2).toNat)
      have f2 := zx_F_max hG c4 (Nat.le_max_right (zk_i E K).toNat _)
      obtain ⟨d', w', k1, k2⟩ := zy_sl (pl := E.2 pl) (ni := E.2 ni) (bl := E.2 bl) (ly := E.2 ly) (ne := E.2 ne) (be := E.2 be) (ni2 := E.2 ni2) (bl2 := E.2 bl2) (ne2 := E.2 ne2) (bo := zk_i E bo) (li := zk_i E li) (ba := zk_i E ba) (fun j hj => ⟨c10 j hj, c11 j hj, by rw [c10 j hj]; exact c8 j hj⟩) (fun b hb => ⟨(c12 b hb).symm, (c13 b hb).symm, by rw [hcp b (by omega), c9 b (by omega), if_pos hb]⟩) (max (zk_i E K).toNat (zk_i E K2).toNat)
      rw [f1] at k1
      rw [f2] at k2
      have e1 : zk_i E r = w' := by injection k1 with k1 _; injection k1 with _ k1; injection k1
      have e2 : zk_i E r2 = w' := by injection k2 with k2 _; injection k2 with _ k2; injection k2
      refine zk_eqsg ?_ (zk_vsub_sv (h3 _ (by simp)) (g3 _ (by simp))) N hN hc hn
      rw [zk_vsub_i]
      omega
    · exact zk_id_gd N hN hc hn
  · exact zk_id_gd N hN hc hn
def zk_rsc : zk_Rl := zk_nr (zk_on zk_f90 fun p => zk_on zk_f90 (zk_s22 p))
theorem zk_rsc_ok : zk_Rok zk_rsc := zk_nr_ok fun E n => zk_on_gd fun N h hc hn p hp => by
  have ht := zk_trs h hc hn p (List.mem_filter.mp hp).1
  exact zk_on_gd fun N' h' hc' hn' q hq => zk_s22_gd ht (zk_trs h' hc' hn' q (List.mem_filter.mp hq).1)
end
