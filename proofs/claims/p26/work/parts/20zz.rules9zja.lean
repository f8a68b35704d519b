noncomputable section
/-! WHAT IS TOLD OF DAYS CARRIED OVER; thaws (wip/p41/mk9zl.py) -/
def zk_e41 (N : zk_N) (h g : zk_G) : List zk_G := match zk_as8 h, zk_as 41 g with
  | some (a, b), some ([x], vs) => (match Nat.beq x a && !(N.2.2.2.any (zk_eqG (41, [b], vs))) with
    | true => [(41, [b], vs)]
    | false => []) ++ (match Nat.beq x b && !(N.2.2.2.any (zk_eqG (41, [a], vs))) with
    | true => [(41, [a], vs)]
    | false => [])
  | _, _ => []
theorem zk_e41_ok {E : zk_E} {n : Nat} {N : zk_N} {h g : zk_G} (hh : zk_tru E n h) (hg : zk_tru E n g) : ∀ y ∈ zk_e41 N h g, zk_tru E n y := by
  intro y hy
  unfold zk_e41 at hy
  split at hy
  · rename_i a b x vs e1 e2
    obtain ⟨s1, s2, s3⟩ := zk_as8_of hh e1
    have e := zk_as_of e2
    subst e
    obtain ⟨t1, t2, t3⟩ := hg
    simp only [List.map_cons, List.map_nil] at t1
    rcases List.mem_append.mp hy with hz | hz
    · clear hy
      split at hz
      · rename_i c
        rw [Bool.and_eq_true] at c
        have c1 := Nat.eq_of_beq_eq_true c.1
        subst c1
        rw [List.mem_singleton.mp hz]
        refine ⟨?_, fun u hu => by rw [List.mem_singleton.mp hu]; exact s3, t3⟩
        simp only [List.map_cons, List.map_nil]
        rw [← s1]
        exact t1
      · cases hz
    · clear hy
      split at hz
      · rename_i c
        rw [Bool.and_eq_true] at c
        have c1 := Nat.eq_of_beq_eq_true c.1
        subst c1
        rw [List.mem_singleton.mp hz]
        refine ⟨?_, fun u hu => by rw [List.mem_singleton.mp hu]; exact s2, t3⟩
        simp only [List.map_cons, List.map_nil]
        rw [s1]
        exact t1
      · cases hz
  · cases hy
def zk_re41 : zk_Rl := zk_nr fun N => some (zk_addGs N ((zk_o9 8 N).flatMap fun h => (zk_kd 41 N).flatMap (zk_e41 N h)))
theorem zk_re41_ok : zk_Rok zk_re41 := zk_nr_ok fun E n => zk_add_gd (f := fun N => (zk_o9 8 N).flatMap fun h => (zk_kd 41 N).flatMap (zk_e41 N h)) fun N hN hc hn x hx => by
  obtain ⟨a, ha, hx⟩ := List.mem_flatMap.mp hx
  obtain ⟨b, hb, hx⟩ := List.mem_flatMap.mp hx
  exact zk_e41_ok (zk_trs hN hc hn a (zk_o9_m ha)) (zk_trs hN hc hn b (zk_kd_m hb)) x hx
theorem zy_jrT {la be st X szr ne nz bz nz2 bz2 : zx_Rw} {th len sh ba bo li : Int} (h0 : 0 ≤ ba) (h5 : ba ≤ 5) (hp : ∀ j : Nat, (j : Int) < bo → be j < ba) (hn : ∀ j : Nat, (j : Int) < ba → nz j = nz2 j) (hb : ∀ j : Nat, (j : Int) < ba → bz j = bz2 j) : ∀ K : Nat, ∃ d x n b n2 b2, zx_F 144 [la, be, st, X, szr, ne, nz, bz] [th, len, sh, ba, bo, li] K = ([d, x], [n, b]) ∧ zx_F 144 [la, be, st, X, szr, ne, nz2, bz2] [th, len, sh, ba, bo, li] K = ([d, x], [n2, b2]) ∧ (∀ j : Nat, (j : Int) < ba → n j = n2 j) ∧ (∀ j : Nat, (j : Int) < ba → b j = b2 j)
  | 0 => ⟨0, 1, nz, bz, nz2, bz2, zy_jbr_0, zy_jbr_0, hn, hb⟩
  | K + 1 => by
    obtain ⟨d, x, n, b, n2, b2, e1, e2, g1, g2⟩ := zy_jrT (la := la) (st := st) (X := X) (szr := szr) (ne := ne) (th := th) (len := len) (sh := sh) (li := li) h0 h5 hp hn hb K
    have q1 : ∀ P k, zx_G 144 99 [be, n, b, ne] P k = zx_F 99 [be, n, b, ne] P k := fun P k => zx_G_F (by decide) _ _ _
    have q2 : ∀ P k, zx_G 144 99 [be, n2, b2, ne] P k = zx_F 99 [be, n2, b2, ne] P k := fun P k => zx_G_F (by decide) _ _ _
    have hsl : (zx_F 99 [be, n, b, ne] [bo, li] 9).1.getD 1 0 = (zx_F 99 [be, n2, b2, ne] [bo, li] 9).1.getD 1 0 := by
      obtain ⟨d', w, k1, k2⟩ := zy_sl (pl := be) (ni := n) (bl := b) (ly := fun j => (zx_cn be j bo.toNat : Int)) (ne := ne) (be := be) (ni2 := n) (bl2 := b) (ne2 := ne) (bo := bo) (li := li) (ba := ba) (fun j hj => ⟨rfl, rfl, hp j hj⟩) (fun j hj => ⟨rfl, rfl, rfl⟩) 9
      obtain ⟨d2, w2, k3, k4⟩ := zy_sl (pl := be) (ni := n) (bl := b) (ly := fun j => (zx_cn be j bo.toNat : Int)) (ne := ne) (be := be) (ni2 := n2) (bl2 := b2) (ne2 := ne) (bo := bo) (li := li) (ba := ba) (fun j hj => ⟨rfl, rfl, hp j hj⟩) (fun j hj => ⟨g1 j hj, g2 j hj, rfl⟩) 9
      rw [k1] at k3
      rw [k2, k4]
      exact congrArg (fun p => p.1.getD 1 0) k3
    by_cases hd : d = 0
    · subst hd
      have f1 := zy_jbr_s h0 h5 e1
      have f2 := zy_jbr_s h0 h5 e2
      simp only [q1, q2, zy_if, zy_if0, zy_ne, zy_ne0] at f1 f2
      rw [hsl] at f1
      generalize (zx_F 99 [be, n2, b2, ne] [bo, li] 9).1.getD 1 0 = w at f1 f2
      by_cases hk : (K : Int) + 1 ≤ szr sh.toNat
      · generalize zx_op 84 (zx_op 4 (X (60 * sh + (K : Int)).toNat) 0) 255 = v at f1 f2
        by_cases hw : w = v
        · simp only [hk, hw, not_true, and_true, and_false, if_true, if_false] at f1 f2
          refine ⟨_, _, _, _, _, _, f1, f2, fun j hj => ?_, fun j hj => ?_⟩
          · rw [zy_to_lt (by omega), zy_to_lt (by omega)]
            unfold zy_pr_n
            rw [g1 j hj, g2 j hj]
          · rw [zy_to_lt (by omega), zy_to_lt (by omega)]
            unfold zy_pr_b
            rw [g2 j hj]
        · simp only [hk, hw, not_false_iff, and_true, and_false, if_true, if_false] at f1 f2
          exact ⟨_, _, _, _, _, _, f1, f2, g1, g2⟩
      · simp only [hk, false_and, if_false] at f1 f2
        exact ⟨_, _, _, _, _, _, f1, f2, g1, g2⟩
    · exact ⟨d, x, n, b, n2, b2, zy_stay e1 hd, zy_stay e2 hd, g1, g2⟩
def zk_46r (X' Y' : Nat) (N : zk_N) (g : zk_G) : List zk_G := match zk_as 90 g with
  | some ([la, be, st, X, szr, ne, n0, b0, _, _], [i, K, th, ln, sh, ba, bo, li, d, x]) => match zk_eqi (zk_fci N i) 144 && zk_nz N d && zk_n2 N (zk_vsub (zk_c 61) K) && zk_n2 N ba && zk_n2 N (zk_vsub (zk_c 5) ba) && Nat.blt X' N.1 && Nat.blt Y' N.1 && zk_pp N ba 4 n0 X' && zk_pp N ba 4 b0 Y' && zk_h41 N be bo ba with
    | true => [(46, [la, be, st, X, szr, ne, X', Y'], [i, zk_c 61, zk_c 1, x, th, ln, sh, ba, bo, li])]
    | false => []
  | _ => []
theorem zk_46r_ok {E : zk_E} {N : zk_N} {X' Y' : Nat} (hN : zk_ok E N) (hc : zk_cl N) {g : zk_G} (hg : g ∈ N.2.2.2) : ∀ y ∈ zk_46r X' Y' N g, zk_tru E N.1 y := by
  have ht := zk_tru_of hN hc g hg
  intro y hy
  unfold zk_46r at hy
  split at hy
  · rename_i la be st X szr ne n0 b0 nn bb i K th ln sh ba bo li d x hu
    have e := zk_as_of hu
    subst e
    split at hy
    · rename_i c
      simp only [Bool.and_eq_true] at c
      obtain ⟨⟨⟨⟨⟨⟨⟨⟨⟨c1, c2⟩, c3⟩, c4⟩, c5⟩, c6⟩, c7⟩, c8⟩, c9⟩, c10⟩ := c
      have c1 := zk_fci_of (n := 144) hN c1
      have c2 := zk_nz_ok hN c2
      have c3 := zk_n2_ok hN c3
      have c4 := zk_n2_ok hN c4
      have c5 := zk_n2_ok hN c5
      rw [zk_vsub_i, zk_c_i] at c3 c5
      have c6 := Nat.blt_eq.mp c6
      have c7 := Nat.blt_eq.mp c7
      have c8 := zk_pp_of hN hc c8
      have c9 := zk_pp_of hN hc c9
      have c10 := zk_h41_of hN hc c10
      obtain ⟨t1, t2, t3⟩ := ht
      simp only [List.map_cons, List.map_nil, zq_6, zq_7, zq_8, zq_9, zq_20, zq_21, zq_22, zq_25, zq_26, zq_28, zq_30, zq_40, zq_51, zq_52, zq_53, zq_54, zq_55, zq_64, zq_65, zq_68, zq_72, zq_73, zq_85, zq_74, zq_75, zq_76, zq_71, zq_86, zq_87, zq_80, zq_41, zq_42, zq_43, zq_94, zq_95, zq_47, zq_48, zq_96, zq_97, zq_88, zq_89, zq_90, zq_93, zq_61, zq_62, zq_1, zq_2, zq_3, zq_4, zq_5, zq_46, zq_44, zx_90] at t1
      rw [c1] at t1
      obtain ⟨-, tk, tF⟩ := t1
      have tF : zx_F 144 [E.2 la, E.2 be, E.2 st, E.2 X, E.2 szr, E.2 ne, E.2 n0, E.2 b0] [zk_i E th, zk_i E ln, zk_i E sh, zk_i E ba, zk_i E bo, zk_i E li] (zk_i E K).toNat = ([zk_i E d, zk_i E x], [E.2 nn, E.2 bb]) := tF
      have key : (zx_F 144 [E.2 la, E.2 be, E.2 st, E.2 X, E.2 szr, E.2 ne, E.2 X', E.2 Y'] [zk_i E th, zk_i E ln, zk_i E sh, zk_i E ba, zk_i E bo, zk_i E li] 61).1.getD 1 0 = zk_i E x := by
        obtain ⟨d', x', m1, m2, m3, m4, f1, f2, -, -⟩ := zy_jrT (la := E.2 la) (st := E.2 st) (X := E.2 X) (szr := E.2 szr) (ne := E.2 ne) (th := zk_i E th) (len := zk_i E ln) (sh := zk_i E sh) (li := zk_i E li) c4 (by omega) c10 c8 c9 61
        rw [zx_F_max tF c2 (show (zk_i E K).toNat ≤ 61 by omega)] at f1
        rw [f2]
        exact (congrArg (fun p => p.1.getD 1 0) f1).symm
      rw [List.mem_singleton.mp hy]
      refine ⟨?_, fun a ha => ?_, fun u hu => ?_⟩
      · simp only [List.map_cons, List.map_nil, zq_6, zq_7, zq_8, zq_9, zq_20, zq_21, zq_22, zq_25, zq_26, zq_28, zq_30, zq_40, zq_51, zq_52, zq_53, zq_54, zq_55, zq_64, zq_65, zq_68, zq_72, zq_73, zq_85, zq_74, zq_75, zq_76, zq_71, zq_86, zq_87, zq_80, zq_41, zq_42, zq_43, zq_94, zq_95, zq_47, zq_48, zq_96, zq_97, zq_88, zq_89, zq_90, zq_93, zq_61, zq_62, zq_1, zq_2, zq_3, zq_4, zq_5, zq_46, zq_44, zx_46, zk_c_i]
        rw [c1]
        exact ⟨by decide, by decide, by decide, key⟩
      · simp only [List.mem_cons, List.not_mem_nil, or_false] at ha
        rcases ha with rfl | rfl | rfl | rfl | rfl | rfl | rfl | rfl
        · exact t2 _ (by simp)
        · exact t2 _ (by simp)
        · exact t2 _ (by simp)
        · exact t2 _ (by simp)
        · exact t2 _ (by simp)
        · exact t2 _ (by simp)
        · exact c6
        · exact c7
      · simp only [List.mem_cons, List.not_mem_nil, or_false] at hu
        rcases hu with rfl | rfl | rfl | rfl | rfl | rfl | rfl | rfl | rfl | rfl
        · exact t3 _ (by simp)
        · exact zk_c_sv
        · exact zk_c_sv
        · exact t3 _ (by simp)
        · exact t3 _ (by simp)
        · exact t3 _ (by simp)
        · exact t3 _ (by simp)
        · exact t3 _ (by simp)
        · exact t3 _ (by simp)
        · exact t3 _ (by simp)
    · cases hy
  · cases hy
def zk_r46r (cn cb : Nat) : zk_Rl := fun z => match zk_row z.2.1 (3, cn, [], 0), zk_row z.2.1 (3, cb, [], 0) with
  | some (_, _, _, X), some (_, _, _, Y) => some [zk_addGs z.1 ((zk_kd 90 z.1).flatMap (zk_46r X Y z.1))]
  | _, _ => some [z.1]
theorem zk_r46r_ok (cn cb : Nat) : zk_Rok (zk_r46r cn cb) := by
  refine zk_Rs_ok fun z L' hz E h hc hcs hl hs => ?_
  unfold zk_r46r at hz
  split at hz
  · rename_i X k2 d2 l2 Y e1 e2
    obtain ⟨N', a1, a2, a3, a4⟩ := zk_add_gd (E := E) (n := z.1.1) (f := fun N => (zk_kd 90 N).flatMap (zk_46r X Y N)) (fun N hN hc hn x hx => by
      obtain ⟨y, hy, hx⟩ := List.mem_flatMap.mp hx
      rw [← hn]
      exact zk_46r_ok hN hc (zk_kd_m hy) x hx) z.1 h hc rfl
    cases a1
    cases hz
    exact ⟨_, List.mem_cons_self, a2, a3, a4⟩
  · cases hz
    exact ⟨_, List.mem_cons_self, h, hc, rfl⟩
def zk_46c (T0 T1 T2 T3 T4 T5 : Nat) (N : zk_N) (g : zk_G) : List zk_G := match zk_as 90 g with
  | some ([la, ly, st, el, pl, ne, n0, b0, _, _], [i, K, th, ln, sz, ba, bo, li, d, x]) => match zk_eqi (zk_fci N i) 143 && zk_nz N d && zk_n2 N (zk_vsub (zk_c 61) K) && zk_n2 N ba && zk_n2 N (zk_vsub (zk_c 5) ba) && (Nat.blt T0 N.1 && Nat.blt T1 N.1 && Nat.blt T2 N.1 && Nat.blt T3 N.1 && Nat.blt T4 N.1 && Nat.blt T5 N.1) && zk_pp N ba 3 la T0 && zk_pp N ba 3 ly T1 && zk_pp N ba 3 n0 T4 && zk_pp N ba 3 b0 T5 && zk_pp N bo 3 pl T2 && zk_pp N bo 3 ne T3 with
    | true => [(46, [T0, T1, st, el, T2, T3, T4, T5], [i, zk_c 61, zk_c 1, x, th, ln, sz, ba, bo, li])]
    | false => []
  | _ => []
theorem zk_46c_ok {E : zk_E} {N : zk_N} {T0 T1 T2 T3 T4 T5 : Nat} (hN : zk_ok E N) (hc : zk_cl N) {g : zk_G} (hg : g ∈ N.2.2.2) : ∀ y ∈ zk_46c T0 T1 T2 T3 T4 T5 N g, zk_tru E N.1 y := by
  have ht := zk_tru_of hN hc g hg
  intro y hy
  unfold zk_46c at hy
  split at hy
  · rename_i la ly st el pl ne n0 b0 nn bb i K th ln sz ba bo li d x hu
    have e := zk_as_of hu
    subst e
    split at hy
    · rename_i c
      simp only [Bool.and_eq_true] at c
      obtain ⟨⟨⟨⟨⟨⟨⟨⟨⟨⟨⟨c1, c2⟩, c3⟩, c4⟩, c5⟩, ⟨⟨⟨⟨⟨b0', b1'⟩, b2'⟩, b3'⟩, b4'⟩, b5'⟩⟩, c6⟩, c7⟩, c8⟩, c9⟩, c10⟩, c11⟩ := c
      have c1 := zk_fci_of (n := 143) hN c1
      have c2 := zk_nz_ok hN c2
      have c3 := zk_n2_ok hN c3
      have c4 := zk_n2_ok hN c4
      have c5 := zk_n2_ok hN c5
      rw [zk_vsub_i, zk_c_i] at c3 c5
      have b0' := Nat.blt_eq.mp b0'
      have b1' := Nat.blt_eq.mp b1'
      have b2' := Nat.blt_eq.mp b2'
      have b3' := Nat.blt_eq.mp b3'
      have b4' := Nat.blt_eq.mp b4'
      have b5' := Nat.blt_eq.mp b5'
      have c6 := zk_pp_of hN hc c6
      have c7 := zk_pp_of hN hc c7
      have c8 := zk_pp_of hN hc c8
      have c9 := zk_pp_of hN hc c9
      have c10 := zk_pp_of hN hc c10
      have c11 := zk_pp_of hN hc c11
      obtain ⟨t1, t2, t3⟩ := ht
      simp only [List.map_cons, List.map_nil, zq_6, zq_7, zq_8, zq_9, zq_20, zq_21, zq_22, zq_25, zq_26, zq_28, zq_30, zq_40, zq_51, zq_52, zq_53, zq_54, zq_55, zq_64, zq_65, zq_68, zq_72, zq_73, zq_85, zq_74, zq_75, zq_76, zq_71, zq_86, zq_87, zq_80, zq_41, zq_42, zq_43, zq_94, zq_95, zq_47, zq_48, zq_96, zq_97, zq_88, zq_89, zq_90, zq_93, zq_61, zq_62, zq_1, zq_2, zq_3, zq_4, zq_5, zq_46, zq_44, zx_90] at t1
      rw [c1] at t1
      obtain ⟨-, tk, tF⟩ := t1
      have tF : zx_F 143 [E.2 la, E.2 ly, E.2 st, E.2 el, E.2 pl, E.2 ne, E.2 n0, E.2 b0] [zk_i E th, zk_i E ln, zk_i E sz, zk_i E ba, zk_i E bo, zk_i E li] (zk_i E K).toNat = ([zk_i E d, zk_i E x], [E.2 nn, E.2 bb]) := tF
      have key : (zx_F 143 [E.2 T0, E.2 T1, E.2 st, E.2 el, E.2 T2, E.2 T3, E.2 T4, E.2 T5] [zk_i E th, zk_i E ln, zk_i E sz, zk_i E ba, zk_i E bo, zk_i E li] 61).1.getD 1 0 = zk_i E x := by
        obtain ⟨d', x', m1, m2, m3, m4, f1, f2, -, -⟩ := zy_jbT (st := E.2 st) (el := E.2 el) (th := zk_i E th) (len := zk_i E ln) (sz := zk_i E sz) (sh := 0) (li := zk_i E li) c4 (by omega) (fun j hj => ⟨c6 j hj, c7 j hj⟩) (fun j hj => ⟨c10 j hj, c11 j hj⟩) c8 c9 61
        rw [zx_F_max tF c2 (show (zk_i E K).toNat ≤ 61 by omega)] at f1
        rw [f2]
        exact (congrArg (fun p => p.1.getD 1 0) f1).symm
      rw [List.mem_singleton.mp hy]
      refine ⟨?_, fun a ha => ?_, fun u hu => ?_⟩
      · simp only [List.map_cons, List.map_nil, zq_6, zq_7, zq_8, zq_9, zq_20, zq_21, zq_22, zq_25, zq_26, zq_28, zq_30, zq_40, zq_51, zq_52, zq_53, zq_54, zq_55, zq_64, zq_65, zq_68, zq_72, zq_73, zq_85, zq_74, zq_75, zq_76, zq_71, zq_86, zq_87, zq_80, zq_41, zq_42, zq_43, zq_94, zq_95, zq_47, zq_48, zq_96, zq_97, zq_88, zq_89, zq_90, zq_93, zq_61, zq_62, zq_1, zq_2, zq_3, zq_4, zq_5, zq_46, zq_44, zx_46, zk_c_i]
        rw [c1]
        exact ⟨by decide, by decide, by decide, key⟩
      · simp only [List.mem_cons, List.not_mem_nil, or_false] at ha
        rcases ha with rfl | rfl | rfl | rfl | rfl | rfl | rfl | rfl
        · exact b0'
        · exact b1'
        · exact t2 _ (by simp)
        · exact t2 _ (by simp)
        · exact b2'
        · exact b3'
        · exact b4'
        · exact b5'
      · simp only [List.mem_cons, List.not_mem_nil, or_false] at hu
        rcases hu with rfl | rfl | rfl | rfl | rfl | rfl | rfl | rfl | rfl | rfl
        · exact t3 _ (by simp)
        · exact zk_c_sv
        · exact zk_c_sv
        · exact t3 _ (by simp)
        · exact t3 _ (by simp)
        · exact t3 _ (by simp)
        · exact t3 _ (by simp)
        · exact t3 _ (by simp)
        · exact t3 _ (by simp)
        · exact t3 _ (by simp)
    · cases hy
  · cases hy
def zk_r46c (cs : List Nat) : zk_Rl := fun z => match cs.map fun k => zk_row z.2.1 (3, k, [], 0) with
  | [some (_, _, _, T0), some (_, _, _, T1), some (_, _, _, T2), some (_, _, _, T3), some (_, _, _, T4), some (_, _, _, T5)] => some [zk_addGs z.1 ((zk_kd 90 z.1).flatMap (zk_46c T0 T1 T2 T3 T4 T5 z.1))]
  | _ => some [z.1]
theorem zk_r46c_ok (cs : List Nat) : zk_Rok (zk_r46c cs) := by
  refine zk_Rs_ok fun z L' hz E h hc hcs hl hs => ?_
  unfold zk_r46c at hz
  split at hz
  · rename_i T0 _ _ _ T1 _ _ _ T2 _ _ _ T3 _ _ _ T4 _ _ _ T5 e1
    obtain ⟨N', a1, a2, a3, a4⟩ := zk_add_gd (E := E) (n := z.1.1) (f := fun N => (zk_kd 90 N).flatMap (zk_46c T0 T1 T2 T3 T4 T5 N)) (fun N hN hc hn x hx => by
      obtain ⟨y, hy, hx⟩ := List.mem_flatMap.mp hx
      rw [← hn]
      exact zk_46c_ok hN hc (zk_kd_m hy) x hx) z.1 h hc rfl
    cases a1
    cases hz
    exact ⟨_, List.mem_cons_self, a2, a3, a4⟩
  · cases hz
    exact ⟨_, List.mem_cons_self, h, hc, rfl⟩
theorem zy_thc_0 {la : zx_Rw} {ly : zx_Rw} {st : zx_Rw} {el : zx_Rw} {pl : zx_Rw} {ne : zx_Rw} {n0 : zx_Rw} {b0 : zx_Rw} {ln : Int} {sz : Int} {ba : Int} {bo : Int} {li : Int} : zx_F 145 [la, ly, st, el, pl, ne, n0, b0] [ln, sz, ba, bo, li] 0 = ([(0 : Int), (0 : Int), (-2 : Int)], []) := rfl
theorem zy_thc_s {k : Nat} {la : zx_Rw} {ly : zx_Rw} {st : zx_Rw} {el : zx_Rw} {pl : zx_Rw} {ne : zx_Rw} {n0 : zx_Rw} {b0 : zx_Rw} {ln : Int} {sz : Int} {ba : Int} {bo : Int} {li : Int} {a : Int} {c : Int} (h : zx_F 145 [la, ly, st, el, pl, ne, n0, b0] [ln, sz, ba, bo, li] k = ([0, a, c], [])) : zx_F 145 [la, ly, st, el, pl, ne, n0, b0] [ln, sz, ba, bo, li] (k + 1) =
  (([(if (if (k : Int) ≤ (9 : Int) then (1 : Int) else 0) = 0 then (1 : Int) else (0 : Int)), (if (if (if (k : Int) ≤ (9 : Int) then (1 : Int) else 0) ≠ 0 ∧ ((zx_G 145 143 [la, ly, st, el, pl, ne, n0, b0] [((9 : Int) - (k : Int)), ln, sz, ba, bo, li] ((61 : Int)).toNat).1.getD 1 0) ≠ 0 then (1 : Int) else 0) = 0 then a else (a + (1 : Int))), (if (if (if (k : Int) ≤ (9 : Int) then (1 : Int) else 0) ≠ 0 ∧ ((zx_G 145 143 [la, ly, st, el, pl, ne, n0, b0] [((9 : Int) - (k : Int)), ln, sz, ba, bo, li] ((61 : Int)).toNat).1.getD 1 0) ≠ 0 then (1 : Int) else 0) = 0 then c else ((9 : Int) - (k : Int)))], [])) := by
  rw [zy_turn h]
  rfl
theorem zy_thr_0 {la : zx_Rw} {be : zx_Rw} {st : zx_Rw} {X : zx_Rw} {szr : zx_Rw} {ne : zx_Rw} {n0 : zx_Rw} {b0 : zx_Rw} {ln : Int} {sh : Int} {ba : Int} {bo : Int} {li : Int} : zx_F 146 [la, be, st, X, szr, ne, n0, b0] [ln, sh, ba, bo, li] 0 = ([(0 : Int), (0 : Int), (-2 : Int)], []) := rfl
theorem zy_thr_s {k : Nat} {la : zx_Rw} {be : zx_Rw} {st : zx_Rw} {X : zx_Rw} {szr : zx_Rw} {ne : zx_Rw} {n0 : zx_Rw} {b0 : zx_Rw} {ln : Int} {sh : Int} {ba : Int} {bo : Int} {li : Int} {a : Int} {c : Int} (h : zx_F 146 [la, be, st, X, szr, ne, n0, b0] [ln, sh, ba, bo, li] k = ([0, a, c], [])) : zx_F 146 [la, be, st, X, szr, ne, n0, b0] [ln, sh, ba, bo, li] (k + 1) =
  (([(if (if (k : Int) ≤ (9 : Int) then (1 : Int) else 0) = 0 then (1 : Int) else (0 : Int)), (if (if (if (k : Int) ≤ (9 : Int) then (1 : Int) else 0) ≠ 0 ∧ ((zx_G 146 144 [la, be, st, X, szr, ne, n0, b0] [(k : Int), ln, sh, ba, bo, li] ((61 : Int)).toNat).1.getD 1 0) ≠ 0 then (1 : Int) else 0) = 0 then a else (a + (1 : Int))), (if (if (if (k : Int) ≤ (9 : Int) then (1 : Int) else 0) ≠ 0 ∧ (if ((zx_G 146 144 [la, be, st, X, szr, ne, n0, b0] [(k : Int), ln, sh, ba, bo, li] ((61 : Int)).toNat).1.getD 1 0) ≠ 0 ∧ (if a = (0 : Int) then (1 : Int) else 0) ≠ 0 then (1 : Int) else 0) ≠ 0 then (1 : Int) else 0) = 0 then c else (k : Int))], [])) := by
  rw [zy_turn h]
  rfl
/-- of ten, from above; from below -/
def zy_tcz (b : Nat → Bool) : Nat → Int × Int
  | 0 => (0, -2)
  | k + 1 => match b (9 - k) with
    | true => ((zy_tcz b k).1 + 1, ((9 - k : Nat) : Int))
    | false => zy_tcz b k
def zy_trz (b : Nat → Bool) : Nat → Int × Int
  | 0 => (0, -2)
  | k + 1 => match b k with
    | true => ((zy_trz b k).1 + 1, match decide ((zy_trz b k).1 = 0) with
      | true => (k : Int)
      | false => (zy_trz b k).2)
    | false => zy_trz b k
theorem zy_t10 (b : Nat → Bool) : zy_tcz b 10 = zy_trz b 10 := by
  have h : ∀ b0 b1 b2 b3 b4 b5 b6 b7 b8 b9 : Bool, zy_tcz (fun t => [b0, b1, b2, b3, b4, b5, b6, b7, b8, b9].getD t false) 10 = zy_trz (fun t => [b0, b1, b2, b3, b4, b5, b6, b7, b8, b9].getD t false) 10 := by decide +kernel
  exact h (b 0) (b 1) (b 2) (b 3) (b 4) (b 5) (b 6) (b 7) (b 8) (b 9)
def zy_bt (W : Nat → Int) (t : Nat) : Bool := !(decide (W t = 0))
theorem zy_thcF {W : Nat → Int} {la ly st el pl ne n0 b0 : zx_Rw} {ln sz ba bo li : Int} (hW : ∀ t : Nat, (zx_F 143 [la, ly, st, el, pl, ne, n0, b0] [(t : Int), ln, sz, ba, bo, li] 61).1.getD 1 0 = W t) : ∀ k : Nat, k ≤ 10 → zx_F 145 [la, ly, st, el, pl, ne, n0, b0] [ln, sz, ba, bo, li] k = ([0, (zy_tcz (zy_bt W) k).1, (zy_tcz (zy_bt W) k).2], [])
  | 0, _ => zy_thc_0
  | k + 1, hk => by
    have f := zy_thc_s (zy_thcF hW k (by omega))
    have q1 : ∀ P K, zx_G 145 143 [la, ly, st, el, pl, ne, n0, b0] P K = zx_F 143 [la, ly, st, el, pl, ne, n0, b0] P K := fun P K => zx_G_F (by decide) _ _ _
    have t61 : (61 : Int).toNat = 61 := rfl
    have h9 : (k : Int) ≤ 9 := by omega
    have e9 : (9 : Int) - (k : Int) = ((9 - k : Nat) : Int) := by omega
    simp only [q1, t61, e9, hW, zy_if, zy_if0, zy_ne, zy_ne0, h9, true_and, if_true] at f
    rw [f]
    have z1 : ¬ ((1 : Int) = 0) := by decide
    by_cases hw : W (9 - k) = 0
    · have hb : zy_bt W (9 - k) = false := by unfold zy_bt; rw [decide_eq_true hw]; rfl
      have hT : zy_tcz (zy_bt W) (k + 1) = zy_tcz (zy_bt W) k := by
        conv => lhs; unfold zy_tcz
        rw [hb]
      rw [hT]
      simp only [hw, z1, ne_eq, not_true_eq_false, not_false_eq_true, and_false, if_false]
    · have hb : zy_bt W (9 - k) = true := by unfold zy_bt; rw [decide_eq_false hw]; rfl
      have hT : zy_tcz (zy_bt W) (k + 1) = ((zy_tcz (zy_bt W) k).1 + 1, ((9 - k : Nat) : Int)) := by
        conv => lhs; unfold zy_tcz
        rw [hb]
      rw [hT]
      simp only [hw, z1, ne_eq, not_false_eq_true, and_true, if_true, if_false]
theorem zy_thrF {W : Nat → Int} {la be st X szr ne n0 b0 : zx_Rw} {ln sh ba bo li : Int} (hW : ∀ t : Nat, (zx_F 144 [la, be, st, X, szr, ne, n0, b0] [(t : Int), ln, sh, ba, bo, li] 61).1.getD 1 0 = W t) : ∀ k : Nat, k ≤ 10 → zx_F 146 [la, be, st, X, szr, ne, n0, b0] [ln, sh, ba, bo, li] k = ([0, (zy_trz (zy_bt W) k).1, (zy_trz (zy_bt W) k).2], [])
  | 0, _ => zy_thr_0
  | k + 1, hk => by
    have f := zy_thr_s (zy_thrF hW k (by omega))
    have q1 : ∀ P K, zx_G 146 144 [la, be, st, X, szr, ne, n0, b0] P K = zx_F 144 [la, be, st, X, szr, ne, n0, b0] P K := fun P K => zx_G_F (by decide) _ _ _
    have t61 : (61 : Int).toNat = 61 := rfl
    have h9 : (k : Int) ≤ 9 := by omega
    simp only [q1, t61, hW, zy_if, zy_if0, zy_ne, zy_ne0, h9, true_and, if_true] at f
    rw [f]
    have z1 : ¬ ((1 : Int) = 0) := by decide
    by_cases hw : W k = 0
    · have hb : zy_bt W k = false := by unfold zy_bt; rw [decide_eq_true hw]; rfl
      have hT : zy_trz (zy_bt W) (k + 1) = zy_trz (zy_bt W) k := by
        conv => lhs; unfold zy_trz
        rw [hb]
      rw [hT]
      simp only [hw, z1, ne_eq, not_true_eq_false, not_false_eq_true, false_and, and_false, if_false]
    · have hb : zy_bt W k = true := by unfold zy_bt; rw [decide_eq_false hw]; rfl
      by_cases h0 : (zy_trz (zy_bt W) k).1 = 0
      · have hT : zy_trz (zy_bt W) (k + 1) = ((zy_trz (zy_bt W) k).1 + 1, (k : Int)) := by
          conv => lhs; unfold zy_trz
          rw [hb, decide_eq_true h0]
        rw [hT]
        simp only [hw, h0, z1, ne_eq, not_false_eq_true, true_and, and_true, if_true, if_false]
      · have hT : zy_trz (zy_bt W) (k + 1) = ((zy_trz (zy_bt W) k).1 + 1, (zy_trz (zy_bt W) k).2) := by
          conv => lhs; unfold zy_trz
          rw [hb, decide_eq_false h0]
        rw [hT]
        simp only [hw, h0, z1, ne_eq, not_false_eq_true, true_and, and_true, and_false, if_true, if_false]
theorem zy_thcE {W : Nat → Int} {la ly st el pl ne n0 b0 : zx_Rw} {ln sz ba bo li d a c : Int} {K : Nat} (hW : ∀ t : Nat, (zx_F 143 [la, ly, st, el, pl, ne, n0, b0] [(t : Int), ln, sz, ba, bo, li] 61).1.getD 1 0 = W t) (e : zx_F 145 [la, ly, st, el, pl, ne, n0, b0] [ln, sz, ba, bo, li] K = ([d, a, c], [])) (hd : d ≠ 0) : a = (zy_tcz (zy_bt W) 10).1 ∧ c = (zy_tcz (zy_bt W) 10).2 := by
  have f := zy_thc_s (zy_thcF hW 10 (by omega))
  have h9 : ¬ ((10 : Nat) : Int) ≤ 9 := by decide
  simp only [zy_if, zy_if0, zy_ne, zy_ne0, h9, false_and, if_false] at f
  have f1 := zx_F_max e hd (Nat.le_max_left K 11)
  have f2 := zx_F_max f (show (1 : Int) ≠ 0 by decide) (Nat.le_max_right K 11)
  rw [f1] at f2
  exact ⟨congrArg (fun p => p.1.getD 1 0) f2, congrArg (fun p => p.1.getD 2 0) f2⟩
theorem zy_thrE {W : Nat → Int} {la be st X szr ne n0 b0 : zx_Rw} {ln sh ba bo li d a c : Int} {K : Nat} (hW : ∀ t : Nat, (zx_F 144 [la, be, st, X, szr, ne, n0, b0] [(t : Int), ln, sh, ba, bo, li] 61).1.getD 1 0 = W t) (e : zx_F 146 [la, be, st, X, szr, ne, n0, b0] [ln, sh, ba, bo, li] K = ([d, a, c], [])) (hd : d ≠ 0) : a = (zy_trz (zy_bt W) 10).1 ∧ c = (zy_trz (zy_bt W) 10).2 := by
  have f := zy_thr_s (zy_thrF hW 10 (by omega))
  have h9 : ¬ ((10 : Nat) : Int) ≤ 9 := by decide
  simp only [zy_if, zy_if0, zy_ne, zy_ne0, h9, false_and, if_false] at f
  have f1 := zx_F_max e hd (Nat.le_max_left K 11)
  have f2 := zx_F_max f (show (1 : Int) ≠ 0 by decide) (Nat.le_max_right K 11)
  rw [f1] at f2
  exact ⟨congrArg (fun p => p.1.getD 1 0) f2, congrArg (fun p => p.1.getD 2 0) f2⟩
theorem zy_thE {la ly st el pl ne la2 be X szr ne2 nz bz nz2 bz2 : zx_Rw} {len sz sh ba bo li d a c d2 a2 c2 : Int} {K K2 : Nat} (h0 : 0 ≤ ba) (h5 : ba ≤ 5) (hl : ∀ j : Nat, (j : Int) < ba → la j = la2 j) (hy : ∀ j : Nat, (j : Int) < ba → ly j = (zx_cn be j bo.toNat : Int)) (hp : ∀ j : Nat, (j : Int) < bo → pl j = be j ∧ ne j = ne2 j ∧ pl j < ba) (hs : szr sh.toNat = sz) (hz : sz ≤ 60) (ho : 0 ≤ sh) (he : ∀ j : Nat, j < 60 → X ((60 * sh).toNat + j) = el j) (hn : ∀ j : Nat, (j : Int) < ba → nz j = nz2 j) (hb : ∀ j : Nat, (j : Int) < ba → bz j = bz2 j) (e1 : zx_F 145 [la, ly, st, el, pl, ne, nz, bz] [len, sz, ba, bo, li] K = ([d, a, c], [])) (hd : d ≠ 0) (e2 : zx_F 146 [la2, be, st, X, szr, ne2, nz2, bz2] [len, sh, ba, bo, li] K2 = ([d2, a2, c2], [])) (hd2 : d2 ≠ 0) : a = a2 ∧ c = c2 := by
  have hW : ∀ t : Nat, (zx_F 144 [la2, be, st, X, szr, ne2, nz2, bz2] [(t : Int), len, sh, ba, bo, li] 61).1.getD 1 0 = (fun t : Nat => (zx_F 143 [la, ly, st, el, pl, ne, nz, bz] [(t : Int), len, sz, ba, bo, li] 61).1.getD 1 0) t := fun t => by
    obtain ⟨d', x, n, b, n2, b2, f1, f2, -, -⟩ := zy_jb (st := st) (th := (t : Int)) (len := len) (li := li) h0 h5 hl hy hp hs hz ho he hn hb 61
    show _ = (zx_F 143 [la, ly, st, el, pl, ne, nz, bz] [(t : Int), len, sz, ba, bo, li] 61).1.getD 1 0
    rw [f1, f2]
  obtain ⟨p1, p2⟩ := zy_thcE (fun t => rfl) e1 hd
  obtain ⟨p3, p4⟩ := zy_thrE hW e2 hd2
  rw [p1, p2, p3, p4, zy_t10]
  exact ⟨rfl, rfl⟩
def zk_th2f (g h : zk_G) (N : zk_N) : Option zk_N := match zk_as 90 g, zk_as 90 h with
  | some ([la, ly, st, el, pl, ne, n0, b0], [i, _, ln, sz, ba, bo, lm, d, a, c]), some ([la2, be, st2, X, szr, ne2, m0, c0], [i2, _, ln2, sh, ba2, bo2, lm2, d2, a2, c2]) => match zk_eqi (zk_fci N i) 145 && zk_eqi (zk_fci N i2) 146 && zk_nz N d && zk_nz N d2 && Nat.beq st st2 && zk_eqEs N [ln, ba, bo, lm] [ln2, ba2, bo2, lm2] && zk_n2 N ba && zk_n2 N (zk_vsub (zk_c 5) ba) && zk_sf N el X szr sz sh (zk_vmul 60 sh) && zk_n2 N sh && zk_h41 N be bo ba && ((zk_cp5 N ly).any fun w => zk_h43 N w be bo ba) && zk_pp N ba 3 la la2 && zk_pp N ba 3 n0 m0 && zk_pp N ba 3 b0 c0 && zk_pp N bo 2 pl be && zk_pp N bo 2 ne ne2 with
    | true => zk_sq (fun N => zk_eqs N (zk_vsub a a2)) (fun N => zk_eqs N (zk_vsub c c2)) N
    | false => some N
  | _, _ => some N
theorem zk_th2f_gd {E : zk_E} {n : Nat} {g h : zk_G} (hg : zk_tru E n g) (hh : zk_tru E n h) : zk_gd E n (zk_th2f g h) := by
  intro N hN hc hn
  unfold zk_th2f
  split
  · rename_i la ly st el pl ne n0 b0 i K ln sz ba bo lm d a c la2 be st2 X szr ne2 m0 c0 i2 K2 ln2 sh ba2 bo2 lm2 d2 a2 c2 hu hu2
    have e := zk_as_of hu
    have e2 := zk_as_of hu2
    subst e e2
    obtain ⟨t1, t2, t3⟩ := hg
    obtain ⟨g1, g2, g3⟩ := hh
    split
    · rename_i cc
      simp only [Bool.and_eq_true] at cc
      obtain ⟨⟨⟨⟨⟨⟨⟨⟨⟨⟨⟨⟨⟨⟨⟨⟨c1, c2'⟩, c3⟩, c4⟩, c5⟩, c6⟩, c7⟩, c8⟩, c9⟩, cs⟩, ch⟩, c10⟩, c11⟩, c12⟩, c13⟩, c14⟩, c15⟩ := cc
      have c1 := zk_fci_of (n := 145) hN c1
      have c2' := zk_fci_of (n := 146) hN c2'
      have c3 := zk_nz_ok hN c3
      have c4 := zk_nz_ok hN c4
      have c5 := Nat.eq_of_beq_eq_true c5
      have c6 := zk_eqEs_of hN c6
      have c7 := zk_n2_ok hN c7
      have c8 := zk_n2_ok hN c8
      rw [zk_vsub_i, zk_c_i] at c8
      obtain ⟨s1, s2, s3, s4⟩ := zk_sf_of hN hc c9
      rw [zk_vmul_i] at s3 s4
      have cs := zk_n2_ok hN cs
      have ch := zk_h41_of hN hc ch
      obtain ⟨w, hw, c10⟩ := List.any_eq_true.mp c10
      have hcp := zk_cp5_of hN hc hw
      have c10 := zk_h43_of hN hc c10
      have c11 := zk_pp_of hN hc c11
      have c12 := zk_pp_of hN hc c12
      have c13 := zk_pp_of hN hc c13
      have c14 := zk_pp_of hN hc c14
      have c15 := zk_pp_of hN hc c15
      simp only [List.map_cons, List.map_nil] at c6
      injection c6 with q1 c6
      injection c6 with q2 c6
      injection c6 with q3 c6
      injection c6 with q4 c6
      simp only [List.map_cons, List.map_nil, zq_6, zq_7, zq_8, zq_9, zq_20, zq_21, zq_22, zq_25, zq_26, zq_28, zq_30, zq_40, zq_51, zq_52, zq_53, zq_54, zq_55, zq_64, zq_65, zq_68, zq_72, zq_73, zq_85, zq_74, zq_75, zq_76, zq_71, zq_86, zq_87, zq_80, zq_41, zq_42, zq_43, zq_94, zq_95, zq_47, zq_48, zq_96, zq_97, zq_88, zq_89, zq_90, zq_93, zq_61, zq_62, zq_1, zq_2, zq_3, zq_4, zq_5, zq_46, zq_44, zx_90] at t1 g1
      rw [c1] at t1
      rw [c2'] at g1
      obtain ⟨-, -, tF⟩ := t1
      obtain ⟨-, -, gF⟩ := g1
      have tF : zx_F 145 [E.2 la, E.2 ly, E.2 st, E.2 el, E.2 pl, E.2 ne, E.2 n0, E.2 b0] [zk_i E ln, zk_i E sz, zk_i E ba, zk_i E bo, zk_i E lm] (zk_i E K).toNat = ([zk_i E d, zk_i E a, zk_i E c], []) := tF
      have gF : zx_F 146 [E.2 la2, E.2 be, E.2 st2, E.2 X, E.2 szr, E.2 ne2, E.2 m0, E.2 c0] [zk_i E ln2, zk_i E sh, zk_i E ba2, zk_i E bo2, zk_i E lm2] (zk_i E K2).toNat = ([zk_i E d2, zk_i E a2, zk_i E c2], []) := gF
      rw [← q1, ← q2, ← q3, ← q4, ← c5] at gF
      obtain ⟨r1, r2⟩ := zy_thE c7 (by omega) c11 (fun j hj => by rw [hcp j (by omega), c10 j (by omega), if_pos hj]) (fun j hj => ⟨c14 j hj, c15 j hj, by rw [c14 j hj]; exact ch j hj⟩) s1 s2 cs s4 c12 c13 tF c3 gF c4
      exact zk_sq_gd (zk_eqsg (by rw [zk_vsub_i]; omega) (zk_vsub_sv (t3 _ (by simp)) (g3 _ (by simp)))) (zk_eqsg (by rw [zk_vsub_i]; omega) (zk_vsub_sv (t3 _ (by simp)) (g3 _ (by simp)))) N hN hc hn
    · exact zk_id_gd N hN hc hn
  · exact zk_id_gd N hN hc hn
def zk_rth : zk_Rl := zk_nr (zk_on zk_f90 fun p => zk_on zk_f90 (zk_th2f p))
theorem zk_rth_ok : zk_Rok zk_rth := zk_nr_ok fun E n => zk_on_gd fun N h hc hn p hp => by
  have ht := zk_trs h hc hn p (List.mem_filter.mp hp).1
  exact zk_on_gd fun N' h' hc' hn' q hq => zk_th2f_gd ht (zk_trs h' hc' hn' q (List.mem_filter.mp hq).1)
end
