noncomputable section
/-! A LATCH THAT IS ANOTHER; how bad it is, both sides (wip/p41/mk9zm.py) -/
theorem zk_rdv_sv {N : zk_N} (hc : zk_cl N) {a : Nat} {i v : zk_V} : ∀ {l : List zk_G}, (∀ g ∈ l, g ∈ N.2.2.2) → zk_rdv N a i l = some v → zk_sv N.1 v
  | [], _, hr => by cases hr
  | g :: l, hl, hr => by
    have up : zk_rdv N a i l = some v → zk_sv N.1 v := zk_rdv_sv hc fun g hg => hl g (List.mem_cons_of_mem _ hg)
    have hg := (hc.2.2 g (hl g List.mem_cons_self)).2
    obtain ⟨k, rs, vs⟩ := g
    unfold zk_rdv at hr
    simp only at hr hg
    split at hr
    · split at hr
      · rename_i b j v' heq
        cases heq
        split at hr
        · cases hr
          exact hg _ (by simp)
        · exact up hr
      · exact up hr
    · exact up hr
def zk_44r (ri : Nat) (N : zk_N) (g h : zk_G) : List zk_G := match zk_as 46 g, zk_as 65 h with
  | some (rs, i :: K :: j :: v :: P), some ([f, f'], [a, b]) => match zk_eqi (zk_fci N i) 144 && Nat.blt ri rs.length && Nat.beq (rs.getD ri 0) f && zk_n2 N a && zk_eqE N b (zk_vadd a (zk_c 1)), zk_rdv N f a N.2.2.2 with
    | true, some w => [(44, rs.set ri f', i :: K :: j :: v :: zk_c (ri : Int) :: a :: w :: P)]
    | _, _ => []
  | _, _ => []
theorem zk_44r_ok {E : zk_E} {N : zk_N} {ri : Nat} (hN : zk_ok E N) (hc : zk_cl N) {g h : zk_G} (hg : g ∈ N.2.2.2) (hh : h ∈ N.2.2.2) : ∀ y ∈ zk_44r ri N g h, zk_tru E N.1 y := by
  have ht := zk_tru_of hN hc g hg
  have ht2 := zk_tru_of hN hc h hh
  intro y hy
  unfold zk_44r at hy
  split at hy
  · rename_i rs i K j v P f f' a b hu hu2
    have e := zk_as_of hu
    have e2 := zk_as_of hu2
    subst e e2
    split at hy
    · rename_i w c hw
      simp only [Bool.and_eq_true] at c
      obtain ⟨⟨⟨⟨c1, c2⟩, c3⟩, c4⟩, c5⟩ := c
      have c1 := zk_fci_of (n := 144) hN c1
      have c2 := Nat.blt_eq.mp c2
      have c3 := Nat.eq_of_beq_eq_true c3
      have c4 := zk_n2_ok hN c4
      have c5 := zk_eqE_of hN c5
      rw [zk_vadd_i, zk_c_i] at c5
      have hv := zk_rdv_ok hN (fun q hq => hq) hw
      obtain ⟨t1, t2, t3⟩ := ht
      obtain ⟨g1, g2, g3⟩ := ht2
      simp only [List.map_cons, List.map_nil, zq_6, zq_7, zq_8, zq_9, zq_20, zq_21, zq_22, zq_25, zq_26, zq_28, zq_30, zq_40, zq_51, zq_52, zq_53, zq_54, zq_55, zq_64, zq_65, zq_68, zq_72, zq_73, zq_85, zq_74, zq_75, zq_76, zq_71, zq_86, zq_87, zq_80, zq_41, zq_42, zq_43, zq_94, zq_95, zq_47, zq_48, zq_96, zq_97, zq_88, zq_89, zq_90, zq_93, zq_61, zq_62, zq_1, zq_2, zq_3, zq_4, zq_5, zq_46, zq_44] at g1
      simp only [List.map_cons, zq_6, zq_7, zq_8, zq_9, zq_20, zq_21, zq_22, zq_25, zq_26, zq_28, zq_30, zq_40, zq_51, zq_52, zq_53, zq_54, zq_55, zq_64, zq_65, zq_68, zq_72, zq_73, zq_85, zq_74, zq_75, zq_76, zq_71, zq_86, zq_87, zq_80, zq_41, zq_42, zq_43, zq_94, zq_95, zq_47, zq_48, zq_96, zq_97, zq_88, zq_89, zq_90, zq_93, zq_61, zq_62, zq_1, zq_2, zq_3, zq_4, zq_5, zq_46, zq_44, zx_46] at t1
      obtain ⟨k1, k2, k3, k4⟩ := t1
      rw [List.mem_singleton.mp hy]
      have hrow : E.2 f = zx_up (E.2 f') (zk_i E a) (zk_i E w) := by
        funext t
        unfold zx_up
        by_cases e : t = (zk_i E a).toNat
        · rw [if_pos e, e]
          exact hv
        · rw [if_neg e]
          exact g1 t (by omega)
      have hset : (rs.map E.2) = zx_ov ((rs.set ri f').map E.2) ri (zk_i E a) (zk_i E w) := by
        unfold zx_ov
        have hl : ri < ((rs.set ri f').map E.2).length := by simp [c2]
        have hg : ((rs.set ri f').map E.2).getD ri (fun _ => 0) = E.2 f' := by
          rw [List.getD_eq_getElem?_getD, List.getElem?_map, List.getElem?_set]
          simp [c2]
        rw [hg, ← hrow, List.map_set, List.set_set, ← c3]
        apply List.ext_getElem?
        intro t
        rw [List.getElem?_set]
        by_cases e : ri = t
        · subst e
          rw [if_pos rfl]
          simp [c2, List.getD_eq_getElem?_getD]
        · rw [if_neg e]
      refine ⟨?_, fun u hu => ?_, fun u hu => ?_⟩
      · simp only [List.map_cons, zq_6, zq_7, zq_8, zq_9, zq_20, zq_21, zq_22, zq_25, zq_26, zq_28, zq_30, zq_40, zq_51, zq_52, zq_53, zq_54, zq_55, zq_64, zq_65, zq_68, zq_72, zq_73, zq_85, zq_74, zq_75, zq_76, zq_71, zq_86, zq_87, zq_80, zq_41, zq_42, zq_43, zq_94, zq_95, zq_47, zq_48, zq_96, zq_97, zq_88, zq_89, zq_90, zq_93, zq_61, zq_62, zq_1, zq_2, zq_3, zq_4, zq_5, zq_46, zq_44, zx_44, zk_c_i]
        refine ⟨k1, k2, k3, by omega, ?_⟩
        rw [Int.toNat_natCast, ← hset]
        exact k4
      · rcases List.mem_or_eq_of_mem_set hu with hu | rfl
        · exact t2 u hu
        · exact g2 _ (by simp)
      · simp only [List.mem_cons] at hu
        rcases hu with rfl | rfl | rfl | rfl | rfl | rfl | rfl | hu
        · exact t3 _ (by simp)
        · exact t3 _ (by simp)
        · exact t3 _ (by simp)
        · exact t3 _ (by simp)
        · exact zk_c_sv
        · exact g3 _ (by simp)
        · exact zk_rdv_sv hc (fun q hq => hq) hw
        · exact t3 _ (by simp [hu])
    · cases hy
  · cases hy
def zk_r44r (ri : Nat) : zk_Rl := zk_nr fun N => some (zk_addGs N ((zk_kd 46 N).flatMap fun p => (zk_kd 65 N).flatMap (zk_44r ri N p)))
theorem zk_r44r_ok (ri : Nat) : zk_Rok (zk_r44r ri) := zk_nr_ok fun E n => zk_add_gd (f := fun N => (zk_kd 46 N).flatMap fun p => (zk_kd 65 N).flatMap (zk_44r ri N p)) fun N hN hc hn x hx => by
  obtain ⟨y, hy1, hy2⟩ := List.mem_flatMap.mp hx
  obtain ⟨w, hw1, hw2⟩ := List.mem_flatMap.mp hy2
  rw [← hn]
  exact zk_44r_ok hN hc (zk_kd_m hy1) (zk_kd_m hw1) x hw2
def zk_44c (T0 T1 T2 T3 T4 T5 : Nat) (N : zk_N) (g h : zk_G) : List zk_G := match zk_as 90 g, zk_as 2 h with
  | some ([la, ly, st, el, pl, ne, n0, b0, _, _], [i, K, th, ln, sz, ba, bo, li, d, x]), some ([f, f'], [oi, ov]) => match zk_eqi (zk_fci N i) 143 && zk_nz N d && zk_n2 N (zk_vsub (zk_c 61) K) && zk_n2 N ba && zk_n2 N (zk_vsub (zk_c 5) ba) && (Nat.blt T0 N.1 && Nat.blt T1 N.1 && Nat.blt T2 N.1 && Nat.blt T3 N.1 && Nat.blt T4 N.1 && Nat.blt T5 N.1) && Nat.beq f la && zk_n2 N oi && zk_pp N ba 3 f' T0 && zk_pp N ba 3 ly T1 && zk_pp N ba 3 n0 T4 && zk_pp N ba 3 b0 T5 && zk_pp N bo 3 pl T2 && zk_pp N bo 3 ne T3 with
    | true => [(44, [T0, T1, st, el, T2, T3, T4, T5], [i, zk_c 61, zk_c 1, x, zk_c 0, oi, ov, th, ln, sz, ba, bo, li])]
    | false => []
  | _, _ => []
theorem zk_44c_ok {E : zk_E} {N : zk_N} {T0 T1 T2 T3 T4 T5 : Nat} (hN : zk_ok E N) (hc : zk_cl N) {g h : zk_G} (hg : g ∈ N.2.2.2) (hh : h ∈ N.2.2.2) : ∀ y ∈ zk_44c T0 T1 T2 T3 T4 T5 N g h, zk_tru E N.1 y := by
  have ht := zk_tru_of hN hc g hg
  have ht2 := zk_tru_of hN hc h hh
  intro y hy
  unfold zk_44c at hy
  split at hy
  · rename_i la ly st el pl ne n0 b0 nn bb i K th ln sz ba bo li d x f f' oi ov hu hu2
    have e := zk_as_of hu
    have e2 := zk_as_of hu2
    subst e e2
    split at hy
    · rename_i c
      simp only [Bool.and_eq_true] at c
      obtain ⟨⟨⟨⟨⟨⟨⟨⟨⟨⟨⟨⟨⟨c1, c2⟩, c3⟩, c4⟩, c5⟩, ⟨⟨⟨⟨⟨b0', b1'⟩, b2'⟩, b3'⟩, b4'⟩, b5'⟩⟩, cf⟩, co⟩, c6⟩, c7⟩, c8⟩, c9⟩, c10⟩, c11⟩ := c
      have c1 := zk_fci_of (n := 143) hN c1
      have c2 := zk_nz_ok hN c2
      have c3 := zk_n2_ok hN c3
      have c4 := zk_n2_ok hN c4
      have c5 := zk_n2_ok hN c5
      rw [zk_vsub_i, zk_c_i] at c3 c5
      have cf := Nat.eq_of_beq_eq_true cf
      have b0' := Nat.blt_eq.mp b0'
      have b1' := Nat.blt_eq.mp b1'
      have b2' := Nat.blt_eq.mp b2'
      have b3' := Nat.blt_eq.mp b3'
      have b4' := Nat.blt_eq.mp b4'
      have b5' := Nat.blt_eq.mp b5'
      have c6 := zk_pp_of hN hc c6
      have c7 := zk_pp_of hN hc c7
      have c8 := zk_pp_of hN hc c8
      have c9 := zk_pp_of hN hc c9
      have c10 := zk_pp_of hN hc c10
      have c11 := zk_pp_of hN hc c11
      obtain ⟨t1, t2, t3⟩ := ht
      obtain ⟨g1, g2, g3⟩ := ht2
      simp only [List.map_cons, List.map_nil, zq_6, zq_7, zq_8, zq_9, zq_20, zq_21, zq_22, zq_25, zq_26, zq_28, zq_30, zq_40, zq_51, zq_52, zq_53, zq_54, zq_55, zq_64, zq_65, zq_68, zq_72, zq_73, zq_85, zq_74, zq_75, zq_76, zq_71, zq_86, zq_87, zq_80, zq_41, zq_42, zq_43, zq_94, zq_95, zq_47, zq_48, zq_96, zq_97, zq_88, zq_89, zq_90, zq_93, zq_61, zq_62, zq_1, zq_2, zq_3, zq_4, zq_5, zq_46, zq_44] at g1
      simp only [List.map_cons, List.map_nil, zq_6, zq_7, zq_8, zq_9, zq_20, zq_21, zq_22, zq_25, zq_26, zq_28, zq_30, zq_40, zq_51, zq_52, zq_53, zq_54, zq_55, zq_64, zq_65, zq_68, zq_72, zq_73, zq_85, zq_74, zq_75, zq_76, zq_71, zq_86, zq_87, zq_80, zq_41, zq_42, zq_43, zq_94, zq_95, zq_47, zq_48, zq_96, zq_97, zq_88, zq_89, zq_90, zq_93, zq_61, zq_62, zq_1, zq_2, zq_3, zq_4, zq_5, zq_46, zq_44, zx_90] at t1
      rw [c1] at t1
      obtain ⟨-, tk, tF⟩ := t1
      have tF : zx_F 143 [E.2 la, E.2 ly, E.2 st, E.2 el, E.2 pl, E.2 ne, E.2 n0, E.2 b0] [zk_i E th, zk_i E ln, zk_i E sz, zk_i E ba, zk_i E bo, zk_i E li] (zk_i E K).toNat = ([zk_i E d, zk_i E x], [E.2 nn, E.2 bb]) := tF
      have key : (zx_F 143 [zx_up (E.2 T0) (zk_i E oi) (zk_i E ov), E.2 T1, E.2 st, E.2 el, E.2 T2, E.2 T3, E.2 T4, E.2 T5] [zk_i E th, zk_i E ln, zk_i E sz, zk_i E ba, zk_i E bo, zk_i E li] 61).1.getD 1 0 = zk_i E x := by
        obtain ⟨d', x', m1, m2, m3, m4, f1, f2, -, -⟩ := zy_jbT (la := E.2 la) (la2 := zx_up (E.2 T0) (zk_i E oi) (zk_i E ov)) (st := E.2 st) (el := E.2 el) (th := zk_i E th) (len := zk_i E ln) (sz := zk_i E sz) (sh := 0) (li := zk_i E li) c4 (by omega) (fun j hj => ⟨by rw [← cf, g1]; unfold zx_up; by_cases e : j = (zk_i E oi).toNat <;> simp only [e, if_true, if_false] <;> first | rfl | (rw [if_neg (by omega), if_neg (by omega)]; exact c6 j hj) | exact c6 j hj, c7 j hj⟩) (fun j hj => ⟨c10 j hj, c11 j hj⟩) c8 c9 61
        rw [zx_F_max tF c2 (show (zk_i E K).toNat ≤ 61 by omega)] at f1
        rw [f2]
        exact (congrArg (fun p => p.1.getD 1 0) f1).symm
      rw [List.mem_singleton.mp hy]
      refine ⟨?_, fun a ha => ?_, fun u hu => ?_⟩
      · simp only [List.map_cons, List.map_nil, zq_6, zq_7, zq_8, zq_9, zq_20, zq_21, zq_22, zq_25, zq_26, zq_28, zq_30, zq_40, zq_51, zq_52, zq_53, zq_54, zq_55, zq_64, zq_65, zq_68, zq_72, zq_73, zq_85, zq_74, zq_75, zq_76, zq_71, zq_86, zq_87, zq_80, zq_41, zq_42, zq_43, zq_94, zq_95, zq_47, zq_48, zq_96, zq_97, zq_88, zq_89, zq_90, zq_93, zq_61, zq_62, zq_1, zq_2, zq_3, zq_4, zq_5, zq_46, zq_44, zx_44, zk_c_i]
        rw [c1]
        exact ⟨by decide, by decide, by decide, by decide, key⟩
      · simp only [List.mem_cons, List.not_mem_nil, or_false] at ha
        rcases ha with rfl | rfl | rfl | rfl | rfl | rfl | rfl | rfl
        · exact b0'
        · exact b1'
        · exact t2 _ (by simp)
        · exact t2 _ (by simp)
        · exact b2'
        · exact b3'
        · exact b4'
        · exact b5'
      · simp only [List.mem_cons, List.not_mem_nil, or_false] at hu
        rcases hu with rfl | rfl | rfl | rfl | rfl | rfl | rfl | rfl | rfl | rfl | rfl | rfl | rfl
        · exact t3 _ (by simp)
        · exact zk_c_sv
        · exact zk_c_sv
        · exact t3 _ (by simp)
        · exact zk_c_sv
        · exact g3 _ (by simp)
        · exact g3 _ (by simp)
        · exact t3 _ (by simp)
        · exact t3 _ (by simp)
        · exact t3 _ (by simp)
        · exact t3 _ (by simp)
        · exact t3 _ (by simp)
        · exact t3 _ (by simp)
    · cases hy
  · cases hy
def zk_r44c (cs : List Nat) : zk_Rl := fun z => match cs.map fun k => zk_row z.2.1 (3, k, [], 0) with
  | [some (_, _, _, T0), some (_, _, _, T1), some (_, _, _, T2), some (_, _, _, T3), some (_, _, _, T4), some (_, _, _, T5)] => some [zk_addGs z.1 ((zk_kd 90 z.1).flatMap fun p => (zk_kd 2 z.1).flatMap (zk_44c T0 T1 T2 T3 T4 T5 z.1 p))]
  | _ => some [z.1]
theorem zk_r44c_ok (cs : List Nat) : zk_Rok (zk_r44c cs) := by
  refine zk_Rs_ok fun z L' hz E h hc hcs hl hs => ?_
  unfold zk_r44c at hz
  split at hz
  · rename_i T0 _ _ _ T1 _ _ _ T2 _ _ _ T3 _ _ _ T4 _ _ _ T5 e1
    obtain ⟨N', a1, a2, a3, a4⟩ := zk_add_gd (E := E) (n := z.1.1) (f := fun N => (zk_kd 90 N).flatMap fun p => (zk_kd 2 N).flatMap (zk_44c T0 T1 T2 T3 T4 T5 N p)) (fun N hN hc hn x hx => by
      obtain ⟨y, hy, hx⟩ := List.mem_flatMap.mp hx
      obtain ⟨w, hw, hx⟩ := List.mem_flatMap.mp hx
      rw [← hn]
      exact zk_44c_ok hN hc (zk_kd_m hy) (zk_kd_m hw) x hx) z.1 h hc rfl
    cases a1
    cases hz
    exact ⟨_, List.mem_cons_self, a2, a3, a4⟩
  · cases hz
    exact ⟨_, List.mem_cons_self, h, hc, rfl⟩
theorem zy_hbc_0 {la : zx_Rw} {ly : zx_Rw} {st : zx_Rw} {el : zx_Rw} {pl : zx_Rw} {ne : zx_Rw} {n0 : zx_Rw} {b0 : zx_Rw} {i : Int} {ln : Int} {sz : Int} {ba : Int} {bo : Int} {li : Int} {th : Int} : zx_F 148 [la, ly, st, el, pl, ne, n0, b0] [i, ln, sz, ba, bo, li, th] 0 = ([(0 : Int), (-2 : Int)], []) := rfl
theorem zy_hbc_s {k : Nat} {la : zx_Rw} {ly : zx_Rw} {st : zx_Rw} {el : zx_Rw} {pl : zx_Rw} {ne : zx_Rw} {n0 : zx_Rw} {b0 : zx_Rw} {i : Int} {ln : Int} {sz : Int} {ba : Int} {bo : Int} {li : Int} {th : Int} {c : Int} (h : zx_F 148 [la, ly, st, el, pl, ne, n0, b0] [i, ln, sz, ba, bo, li, th] k = ([0, c], [])) : zx_F 148 [la, ly, st, el, pl, ne, n0, b0] [i, ln, sz, ba, bo, li, th] (k + 1) =
  (([(if (if (k : Int) ≤ (9 : Int) then (1 : Int) else 0) = 0 then (1 : Int) else (if ((zx_G 148 143 (zx_ov [la, ly, st, el, pl, ne, n0, b0] 0 i (k : Int)) [th, ln, sz, ba, bo, li] ((61 : Int)).toNat).1.getD 1 0) = 0 then (0 : Int) else (1 : Int))), (if (if (if (k : Int) ≤ (9 : Int) then (1 : Int) else 0) ≠ 0 ∧ ((zx_G 148 143 (zx_ov [la, ly, st, el, pl, ne, n0, b0] 0 i (k : Int)) [th, ln, sz, ba, bo, li] ((61 : Int)).toNat).1.getD 1 0) ≠ 0 then (1 : Int) else 0) = 0 then c else (k : Int))], [])) := by
  rw [zy_turn h]
  rfl
theorem zy_hbr_0 {la : zx_Rw} {be : zx_Rw} {st : zx_Rw} {X : zx_Rw} {szr : zx_Rw} {ne : zx_Rw} {n0 : zx_Rw} {b0 : zx_Rw} {i : Int} {ln : Int} {sh : Int} {ba : Int} {bo : Int} {li : Int} {th : Int} : zx_F 149 [la, be, st, X, szr, ne, n0, b0] [i, ln, sh, ba, bo, li, th] 0 = ([(0 : Int), (-2 : Int)], []) := rfl
theorem zy_hbr_s {k : Nat} {la : zx_Rw} {be : zx_Rw} {st : zx_Rw} {X : zx_Rw} {szr : zx_Rw} {ne : zx_Rw} {n0 : zx_Rw} {b0 : zx_Rw} {i : Int} {ln : Int} {sh : Int} {ba : Int} {bo : Int} {li : Int} {th : Int} {c : Int} (h : zx_F 149 [la, be, st, X, szr, ne, n0, b0] [i, ln, sh, ba, bo, li, th] k = ([0, c], [])) : zx_F 149 [la, be, st, X, szr, ne, n0, b0] [i, ln, sh, ba, bo, li, th] (k + 1) =
  (([(if (if (if (k : Int) ≤ (9 : Int) then (1 : Int) else 0) ≠ 0 ∧ (if c ≤ (-1 : Int) then (1 : Int) else 0) ≠ 0 then (1 : Int) else 0) = 0 then (1 : Int) else (0 : Int)), (if (if (if (if (k : Int) ≤ (9 : Int) then (1 : Int) else 0) ≠ 0 ∧ (if c ≤ (-1 : Int) then (1 : Int) else 0) ≠ 0 then (1 : Int) else 0) ≠ 0 ∧ ((zx_G 149 144 (zx_ov [la, be, st, X, szr, ne, n0, b0] 0 i (k : Int)) [th, ln, sh, ba, bo, li] ((61 : Int)).toNat).1.getD 1 0) ≠ 0 then (1 : Int) else 0) = 0 then c else (k : Int))], [])) := by
  rw [zy_turn h]
  rfl
/-- the first of ten -/
def zy_ff (W : Nat → Int) : Nat → Int
  | 0 => -2
  | k + 1 => if (k : Int) ≤ 9 ∧ zy_ff W k ≤ -1 ∧ W k ≠ 0 then (k : Int) else zy_ff W k
theorem zy_ff_y {W : Nat → Int} {k : Nat} (h : (k : Int) ≤ 9 ∧ zy_ff W k ≤ -1 ∧ W k ≠ 0) : zy_ff W (k + 1) = (k : Int) := if_pos h
theorem zy_ff_n {W : Nat → Int} {k : Nat} (h : ¬ ((k : Int) ≤ 9 ∧ zy_ff W k ≤ -1 ∧ W k ≠ 0)) : zy_ff W (k + 1) = zy_ff W k := if_neg h
theorem zy_hbcF {W : Nat → Int} {la ly st el pl ne n0 b0 : zx_Rw} {i ln sz ba bo li th : Int} (hW : ∀ t : Nat, (zx_F 143 (zx_ov [la, ly, st, el, pl, ne, n0, b0] 0 i (t : Int)) [th, ln, sz, ba, bo, li] 61).1.getD 1 0 = W t) : ∀ k : Nat, ∃ d, zx_F 148 [la, ly, st, el, pl, ne, n0, b0] [i, ln, sz, ba, bo, li, th] k = ([d, zy_ff W k], []) ∧ (d = 0 → zy_ff W k = -2) ∧ (d ≠ 0 → 0 ≤ zy_ff W k ∨ 10 ≤ k)
  | 0 => ⟨0, zy_hbc_0, fun _ => rfl, fun h => absurd rfl h⟩
  | k + 1 => by
    obtain ⟨d, e, h1, h2⟩ := zy_hbcF hW k
    by_cases hd : d = 0
    · subst hd
      have f := zy_hbc_s e
      have h1 := h1 rfl
      have q1 : ∀ R P K, zx_G 148 143 R P K = zx_F 143 R P K := fun R P K => zx_G_F (by decide) _ _ _
      have t61 : (61 : Int).toNat = 61 := rfl
      simp only [q1, t61, hW, zy_if, zy_if0, zy_ne, zy_ne0] at f
      by_cases hk : (k : Int) ≤ 9
      · by_cases hw : W k = 0
        · have ef := zy_ff_n (W := W) (k := k) (fun q => q.2.2 hw)
          simp only [hk, hw, if_true, if_false, ne_eq, not_true, and_false] at f
          refine ⟨0, ?_, fun _ => by rw [ef]; exact h1, fun h => absurd rfl h⟩
          rw [f, ef]
        · have ef := zy_ff_y (W := W) (k := k) ⟨hk, by omega, hw⟩
          simp only [hk, hw, if_true, if_false, ne_eq, not_false_iff, and_self] at f
          refine ⟨1, ?_, fun h => absurd h (by decide), fun _ => Or.inl (by rw [ef]; omega)⟩
          rw [f, ef]
      · have ef := zy_ff_n (W := W) (k := k) (fun q => hk q.1)
        simp only [hk, if_true, if_false, false_and] at f
        refine ⟨1, ?_, fun h => absurd h (by decide), fun _ => Or.inr (by omega)⟩
        rw [f, ef]
    · have ef : zy_ff W (k + 1) = zy_ff W k := zy_ff_n (fun q => by rcases h2 hd with h | h <;> omega)
      refine ⟨d, by rw [ef]; exact zy_stay e hd, fun h => absurd h hd, fun _ => ?_⟩
      rw [ef]
      rcases h2 hd with h | h
      · exact Or.inl h
      · exact Or.inr (by omega)
theorem zy_hbrF {W : Nat → Int} {la be st X szr ne n0 b0 : zx_Rw} {i ln sh ba bo li th : Int} (hW : ∀ t : Nat, (zx_F 144 (zx_ov [la, be, st, X, szr, ne, n0, b0] 0 i (t : Int)) [th, ln, sh, ba, bo, li] 61).1.getD 1 0 = W t) : ∀ k : Nat, ∃ d, zx_F 149 [la, be, st, X, szr, ne, n0, b0] [i, ln, sh, ba, bo, li, th] k = ([d, zy_ff W k], []) ∧ (d ≠ 0 → 0 ≤ zy_ff W k ∨ 10 ≤ k)
  | 0 => ⟨0, zy_hbr_0, fun h => absurd rfl h⟩
  | k + 1 => by
    obtain ⟨d, e, h2⟩ := zy_hbrF hW k
    by_cases hd : d = 0
    · subst hd
      have f := zy_hbr_s e
      have q1 : ∀ R P K, zx_G 149 144 R P K = zx_F 144 R P K := fun R P K => zx_G_F (by decide) _ _ _
      have t61 : (61 : Int).toNat = 61 := rfl
      simp only [q1, t61, hW, zy_if, zy_if0, zy_ne, zy_ne0] at f
      by_cases hk : (k : Int) ≤ 9
      · by_cases hf : zy_ff W k ≤ -1
        · by_cases hw : W k = 0
          · have ef := zy_ff_n (W := W) (k := k) (fun q => q.2.2 hw)
            simp only [hk, hf, hw, if_true, if_false, ne_eq, not_true, and_false, and_self] at f
            refine ⟨0, ?_, fun h => absurd rfl h⟩
            rw [f, ef]
          · have ef := zy_ff_y (W := W) (k := k) ⟨hk, hf, hw⟩
            simp only [hk, hf, hw, if_true, if_false, ne_eq, not_false_iff, and_self] at f
            refine ⟨0, ?_, fun h => absurd rfl h⟩
            rw [f, ef]
        · have ef := zy_ff_n (W := W) (k := k) (fun q => hf q.2.1)
          simp only [hk, hf, if_true, if_false, and_false, false_and] at f
          refine ⟨1, ?_, fun _ => Or.inl (by rw [ef]; omega)⟩
          rw [f, ef]
      · have ef := zy_ff_n (W := W) (k := k) (fun q => hk q.1)
        simp only [hk, if_true, if_false, false_and] at f
        refine ⟨1, ?_, fun _ => Or.inr (by omega)⟩
        rw [f, ef]
    · have ef : zy_ff W (k + 1) = zy_ff W k := zy_ff_n (fun q => by rcases h2 hd with h | h <;> omega)
      refine ⟨d, by rw [ef]; exact zy_stay e hd, fun _ => ?_⟩
      rw [ef]
      rcases h2 hd with h | h
      · exact Or.inl h
      · exact Or.inr (by omega)
theorem zy_hbE {la ly st el pl ne la2 be X szr ne2 nz bz nz2 bz2 : zx_Rw} {i len sz sh ba bo li th d c d2 c2 : Int} {K K2 : Nat} (h0 : 0 ≤ ba) (h5 : ba ≤ 5) (hl : ∀ j : Nat, (j : Int) < ba → la j = la2 j) (hy : ∀ j : Nat, (j : Int) < ba → ly j = (zx_cn be j bo.toNat : Int)) (hp : ∀ j : Nat, (j : Int) < bo → pl j = be j ∧ ne j = ne2 j ∧ pl j < ba) (hs : szr sh.toNat = sz) (hz : sz ≤ 60) (ho : 0 ≤ sh) (he : ∀ j : Nat, j < 60 → X ((60 * sh).toNat + j) = el j) (hn : ∀ j : Nat, (j : Int) < ba → nz j = nz2 j) (hb : ∀ j : Nat, (j : Int) < ba → bz j = bz2 j) (e1 : zx_F 148 [la, ly, st, el, pl, ne, nz, bz] [i, len, sz, ba, bo, li, th] K = ([d, c], [])) (hd : d ≠ 0) (e2 : zx_F 149 [la2, be, st, X, szr, ne2, nz2, bz2] [i, len, sh, ba, bo, li, th] K2 = ([d2, c2], [])) (hd2 : d2 ≠ 0) : c = c2 := by
  have hW : ∀ t : Nat, (zx_F 144 (zx_ov [la2, be, st, X, szr, ne2, nz2, bz2] 0 i (t : Int)) [th, len, sh, ba, bo, li] 61).1.getD 1 0 = (fun t : Nat => (zx_F 143 (zx_ov [la, ly, st, el, pl, ne, nz, bz] 0 i (t : Int)) [th, len, sz, ba, bo, li] 61).1.getD 1 0) t := fun t => by
    show (zx_F 144 [zx_up la2 i (t : Int), be, st, X, szr, ne2, nz2, bz2] [th, len, sh, ba, bo, li] 61).1.getD 1 0 = (zx_F 143 [zx_up la i (t : Int), ly, st, el, pl, ne, nz, bz] [th, len, sz, ba, bo, li] 61).1.getD 1 0
    obtain ⟨d', x, n, b, n2, b2, f1, f2, -, -⟩ := zy_jb (la := zx_up la i (t : Int)) (la2 := zx_up la2 i (t : Int)) (st := st) (th := th) (len := len) (li := li) h0 h5 (fun j hj => by unfold zx_up; rw [hl j hj]) hy hp hs hz ho he hn hb 61
    rw [f1, f2]
  obtain ⟨m1, p1, -, -⟩ := zy_hbcF (la := la) (ly := ly) (st := st) (el := el) (pl := pl) (ne := ne) (n0 := nz) (b0 := bz) (i := i) (ln := len) (sz := sz) (ba := ba) (bo := bo) (li := li) (th := th) (fun t => rfl) (max K K2)
  obtain ⟨m2, p2, -⟩ := zy_hbrF hW (max K K2)
  rw [zx_F_max e1 hd (Nat.le_max_left K K2)] at p1
  rw [zx_F_max e2 hd2 (Nat.le_max_right K K2)] at p2
  have a1 : c = _ := congrArg (fun p => p.1.getD 1 0) p1
  have a2 : c2 = _ := congrArg (fun p => p.1.getD 1 0) p2
  rw [a1, a2]
  rfl
def zk_hb2f (g h : zk_G) (N : zk_N) : Option zk_N := match zk_as 90 g, zk_as 90 h with
  | some ([la, ly, st, el, pl, ne, n0, b0], [i, _, ii, ln, sz, ba, bo, lm, th, d, c]), some ([la2, be, st2, X, szr, ne2, m0, c0], [i2, _, ii2, ln2, sh, ba2, bo2, lm2, th2, d2, c2]) => match zk_eqi (zk_fci N i) 148 && zk_eqi (zk_fci N i2) 149 && zk_nz N d && zk_nz N d2 && Nat.beq st st2 && zk_eqEs N [ii, ln, ba, bo, lm, th] [ii2, ln2, ba2, bo2, lm2, th2] && zk_n2 N ba && zk_n2 N (zk_vsub (zk_c 5) ba) && zk_sf N el X szr sz sh (zk_vmul 60 sh) && zk_n2 N sh && zk_h41 N be bo ba && ((zk_cp5 N ly).any fun w => zk_h43 N w be bo ba) && zk_pp N ba 3 la la2 && zk_pp N ba 3 n0 m0 && zk_pp N ba 3 b0 c0 && zk_pp N bo 2 pl be && zk_pp N bo 2 ne ne2 with
    | true => zk_eqs N (zk_vsub c c2)
    | false => some N
  | _, _ => some N
theorem zk_hb2f_gd {E : zk_E} {n : Nat} {g h : zk_G} (hg : zk_tru E n g) (hh : zk_tru E n h) : zk_gd E n (zk_hb2f g h) := by
  intro N hN hc hn
  unfold zk_hb2f
  split
  · rename_i la ly st el pl ne n0 b0 i K ii ln sz ba bo lm th d c la2 be st2 X szr ne2 m0 c0 i2 K2 ii2 ln2 sh ba2 bo2 lm2 th2 d2 c2 hu hu2
    have e := zk_as_of hu
    have e2 := zk_as_of hu2
    subst e e2
    obtain ⟨t1, t2, t3⟩ := hg
    obtain ⟨g1, g2, g3⟩ := hh
    split
    · rename_i cc
      simp only [Bool.and_eq_true] at cc
      obtain ⟨⟨⟨⟨⟨⟨⟨⟨⟨⟨⟨⟨⟨⟨⟨⟨c1, c2'⟩, c3⟩, c4⟩, c5⟩, c6⟩, c7⟩, c8⟩, c9⟩, cs⟩, ch⟩, c10⟩, c11⟩, c12⟩, c13⟩, c14⟩, c15⟩ := cc
      have c1 := zk_fci_of (n := 148) hN c1
      have c2' := zk_fci_of (n := 149) hN c2'
      have c3 := zk_nz_ok hN c3
      have c4 := zk_nz_ok hN c4
      have c5 := Nat.eq_of_beq_eq_true c5
      have c6 := zk_eqEs_of hN c6
      have c7 := zk_n2_ok hN c7
      have c8 := zk_n2_ok hN c8
      rw [zk_vsub_i, zk_c_i] at c8
      obtain ⟨s1, s2, s3, s4⟩ := zk_sf_of hN hc c9
      rw [zk_vmul_i] at s3 s4
      have cs := zk_n2_ok hN cs
      have ch := zk_h41_of hN hc ch
      obtain ⟨w, hw, c10⟩ := List.any_eq_true.mp c10
      have hcp := zk_cp5_of hN hc hw
      have c10 := zk_h43_of hN hc c10
      have c11 := zk_pp_of hN hc c11
      have c12 := zk_pp_of hN hc c12
      have c13 := zk_pp_of hN hc c13
      have c14 := zk_pp_of hN hc c14
      have c15 := zk_pp_of hN hc c15
      simp only [List.map_cons, List.map_nil] at c6
      injection c6 with q0 c6
      injection c6 with q1 c6
      injection c6 with q2 c6
      injection c6 with q3 c6
      injection c6 with q4 c6
      injection c6 with q5 c6
      simp only [List.map_cons, List.map_nil, zq_6, zq_7, zq_8, zq_9, zq_20, zq_21, zq_22, zq_25, zq_26, zq_28, zq_30, zq_40, zq_51, zq_52, zq_53, zq_54, zq_55, zq_64, zq_65, zq_68, zq_72, zq_73, zq_85, zq_74, zq_75, zq_76, zq_71, zq_86, zq_87, zq_80, zq_41, zq_42, zq_43, zq_94, zq_95, zq_47, zq_48, zq_96, zq_97, zq_88, zq_89, zq_90, zq_93, zq_61, zq_62, zq_1, zq_2, zq_3, zq_4, zq_5, zq_46, zq_44, zx_90] at t1 g1
      rw [c1] at t1
      rw [c2'] at g1
      obtain ⟨-, -, tF⟩ := t1
      obtain ⟨-, -, gF⟩ := g1
      have tF : zx_F 148 [E.2 la, E.2 ly, E.2 st, E.2 el, E.2 pl, E.2 ne, E.2 n0, E.2 b0] [zk_i E ii, zk_i E ln, zk_i E sz, zk_i E ba, zk_i E bo, zk_i E lm, zk_i E th] (zk_i E K).toNat = ([zk_i E d, zk_i E c], []) := tF
      have gF : zx_F 149 [E.2 la2, E.2 be, E.2 st2, E.2 X, E.2 szr, E.2 ne2, E.2 m0, E.2 c0] [zk_i E ii2, zk_i E ln2, zk_i E sh, zk_i E ba2, zk_i E bo2, zk_i E lm2, zk_i E th2] (zk_i E K2).toNat = ([zk_i E d2, zk_i E c2], []) := gF
      rw [← q0, ← q1, ← q2, ← q3, ← q4, ← q5, ← c5] at gF
      have r := zy_hbE c7 (by omega) c11 (fun j hj => by rw [hcp j (by omega), c10 j (by omega), if_pos hj]) (fun j hj => ⟨c14 j hj, c15 j hj, by rw [c14 j hj]; exact ch j hj⟩) s1 s2 cs s4 c12 c13 tF c3 gF c4
      exact zk_eqsg (by rw [zk_vsub_i]; omega) (zk_vsub_sv (t3 _ (by simp)) (g3 _ (by simp))) N hN hc hn
    · exact zk_id_gd N hN hc hn
  · exact zk_id_gd N hN hc hn
def zk_rhb : zk_Rl := zk_nr (zk_on zk_f90 fun p => zk_on zk_f90 (zk_hb2f p))
theorem zk_rhb_ok : zk_Rok zk_rhb := zk_nr_ok fun E n => zk_on_gd fun N h hc hn p hp => by
  have ht := zk_trs h hc hn p (List.mem_filter.mp hp).1
  exact zk_on_gd fun N' h' hc' hn' q hq => zk_hb2f_gd ht (zk_trs h' hc' hn' q (List.mem_filter.mp hq).1)
end
