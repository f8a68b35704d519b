noncomputable section
/-! THE WORLD WITH ALL STATE ALIKE: what told functions of both sides say -/
theorem zx_F_max {id : Nat} {R : List zx_Rw} {P : List Int} {K K' : Nat} {S : List Int} {M : List zx_Rw} (h : zx_F id R P K = (S, M)) (hd : S.getD 0 0 ≠ 0) (hk : K ≤ K') : zx_F id R P K' = (S, M) := by
  rw [zx_F_st (K := K) (by rw [h]; exact hd) hk, h]
/-- how many lie is told of a row alike -/
def zk_h43 (N : zk_N) (ly pl : Nat) (bo ba : zk_V) : Bool := (zk_kd 43 N).any fun q => match zk_as 43 q with
  | some ([ly', pl'], [bo', ba']) => Nat.beq ly' ly && zk_alk N pl' pl && zk_eqE N bo bo' && zk_eqE N ba ba'
  | _ => false
theorem zk_h43_of {E : zk_E} {N : zk_N} (h : zk_ok E N) (hc : zk_cl N) {ly pl : Nat} {bo ba : zk_V} (hw : zk_h43 N ly pl bo ba = true) : ∀ b : Nat, b < 5 → E.2 ly b = if (b : Int) < zk_i E ba then (zx_cn (E.2 pl) b (zk_i E bo).toNat : Int) else 0 := by
  unfold zk_h43 at hw
  obtain ⟨q, hq, hw⟩ := List.any_eq_true.mp hw
  split at hw
  · rename_i ly' pl' bo' ba' hu
    have e := zk_as_of hu
    subst e
    have t := h.2.2 _ (zk_kd_m hq)
    simp only [List.map_cons, List.map_nil, zq_6, zq_7, zq_8, zq_9, zq_20, zq_21, zq_22, zq_25, zq_26, zq_28, zq_30, zq_40, zq_51, zq_52, zq_53, zq_54, zq_55, zq_64, zq_65, zq_68, zq_72, zq_73, zq_85, zq_74, zq_75, zq_76, zq_71, zq_86, zq_87, zq_80, zq_41, zq_42, zq_43, zq_94, zq_95, zq_47, zq_48, zq_96, zq_97, zq_88, zq_89, zq_90, zq_93, zq_61, zq_62, zq_1, zq_2, zq_3, zq_4, zq_5] at t
    simp only [Bool.and_eq_true] at hw
    have c1 := Nat.eq_of_beq_eq_true hw.1.1.1
    have c2 := zk_alk_of h hc hw.1.1.2
    have c3 := zk_eqE_of h hw.1.2
    have c4 := zk_eqE_of h hw.2
    subst c1
    rw [c3, c4, ← c2]
    exact t
  · cases hw
def zk_h41 (N : zk_N) (pl : Nat) (bo ba : zk_V) : Bool := (zk_kd 41 N).any fun q => match zk_as 41 q with
  | some ([pl'], [bo', ba']) => zk_alk N pl' pl && zk_eqE N bo bo' && zk_eqE N ba ba'
  | _ => false
theorem zk_h41_of {E : zk_E} {N : zk_N} (h : zk_ok E N) (hc : zk_cl N) {pl : Nat} {bo ba : zk_V} (hw : zk_h41 N pl bo ba = true) : ∀ j : Nat, (j : Int) < zk_i E bo → E.2 pl j < zk_i E ba := by
  unfold zk_h41 at hw
  obtain ⟨q, hq, hw⟩ := List.any_eq_true.mp hw
  split at hw
  · rename_i pl' bo' ba' hu
    have e := zk_as_of hu
    subst e
    have t := h.2.2 _ (zk_kd_m hq)
    simp only [List.map_cons, List.map_nil, zq_6, zq_7, zq_8, zq_9, zq_20, zq_21, zq_22, zq_25, zq_26, zq_28, zq_30, zq_40, zq_51, zq_52, zq_53, zq_54, zq_55, zq_64, zq_65, zq_68, zq_72, zq_73, zq_85, zq_74, zq_75, zq_76, zq_71, zq_86, zq_87, zq_80, zq_41, zq_42, zq_43, zq_94, zq_95, zq_47, zq_48, zq_96, zq_97, zq_88, zq_89, zq_90, zq_93, zq_61, zq_62, zq_1, zq_2, zq_3, zq_4, zq_5] at t
    simp only [Bool.and_eq_true] at hw
    have c2 := zk_alk_of h hc hw.1.1
    have c3 := zk_eqE_of h hw.1.2
    have c4 := zk_eqE_of h hw.2
    rw [c3, c4, ← c2]
    exact t
  · cases hw
/-! who sleeps -/
def zk_sl2 (p q : zk_G) (N : zk_N) : Option zk_N := match zk_as 90 p, zk_as 90 q with
  | some ([pl, ni, bl, ly, ne], [i, _, bo, li, ba, d, r]), some ([be, ni2, bl2, ne2], [i2, _, bo2, li2, d2, r2]) => match zk_eqi (zk_fci N i) 98 && zk_eqi (zk_fci N i2) 99 && zk_nz N d && zk_nz N d2 && zk_eqE N bo bo2 && zk_eqE N li li2 && zk_n2 N (zk_vsub (zk_c 5) ba) && zk_alk N pl be && zk_alk N ne ne2 && zk_h41 N pl bo ba && zk_h43 N ly pl bo ba && zk_pp N ba 2 ni2 ni && zk_pp N ba 2 bl2 bl with
    | true => zk_eqs N (zk_vsub r r2)
    | false => some N
  | _, _ => some N
theorem zk_sl2_gd {E : zk_E} {n : Nat} {p q : zk_G} (hp : zk_tru E n p) (hq : zk_tru E n q) : zk_gd E n (zk_sl2 p q) := by
  intro N hN hc hn
  unfold zk_sl2
  split
  · rename_i pl ni bl ly ne i K bo li ba d r be ni2 bl2 ne2 i2 K2 bo2 li2 d2 r2 hu hu2
    have e := zk_as_of hu
    have e2 := zk_as_of hu2
    subst e e2
    obtain ⟨h1, h2, h3⟩ := hp
    obtain ⟨g1, g2, g3⟩ := hq
    split
    · rename_i c
      simp only [Bool.and_eq_true] at c
      obtain ⟨⟨⟨⟨⟨⟨⟨⟨⟨⟨⟨⟨c1, c2⟩, c3⟩, c4⟩, c5⟩, c6⟩, c7⟩, c8⟩, c9⟩, c10⟩, c11⟩, c12⟩, c13⟩ := c
      have c1 := zk_fci_of (n := 98) hN c1
      have c2 := zk_fci_of (n := 99) hN c2
      have c3 := zk_nz_ok hN c3
      have c4 := zk_nz_ok hN c4
      have c5 := zk_eqE_of hN c5
      have c6 := zk_eqE_of hN c6
      have c7 := zk_n2_ok hN c7
      rw [zk_vsub_i, zk_c_i] at c7
      have c8 := zk_alk_of hN hc c8
      have c9 := zk_alk_of hN hc c9
      have c10 := zk_h41_of hN hc c10
      have c11 := zk_h43_of hN hc c11
      have c12 := zk_pp_of hN hc c12
      have c13 := zk_pp_of hN hc c13
      simp only [List.map_cons, List.map_nil, zq_6, zq_7, zq_8, zq_9, zq_20, zq_21, zq_22, zq_25, zq_26, zq_28, zq_30, zq_40, zq_51, zq_52, zq_53, zq_54, zq_55, zq_64, zq_65, zq_68, zq_72, zq_73, zq_85, zq_74, zq_75, zq_76, zq_71, zq_86, zq_87, zq_80, zq_41, zq_42, zq_43, zq_94, zq_95, zq_47, zq_48, zq_96, zq_97, zq_88, zq_89, zq_90, zq_93, zq_61, zq_62, zq_1, zq_2, zq_3, zq_4, zq_5, zx_90] at h1 g1
      rw [c1] at h1
      rw [c2] at g1
      obtain ⟨-, -, hF⟩ := h1
      obtain ⟨-, -, hG⟩ := g1
      have hF : zx_F 98 [E.2 pl, E.2 ni, E.2 bl, E.2 ly, E.2 ne] [zk_i E bo, zk_i E li, zk_i E ba] (zk_i E K).toNat = ([zk_i E d, zk_i E r], []) := hF
      have hG : zx_F 99 [E.2 be, E.2 ni2, E.2 bl2, E.2 ne2] [zk_i E bo2, zk_i E li2] (zk_i E K2).toNat = ([zk_i E d2, zk_i E r2], []) := hG
      rw [← c5, ← c6] at hG
      have f1 := zx_F_max hF c3 (Nat.le_max_left _ (zk_i E K2).toNat)
      have f2 := zx_F_max hG c4 (Nat.le_max_right (zk_i E K).toNat _)
      obtain ⟨d', w, k1, k2⟩ := zy_sl (pl := E.2 pl) (ni := E.2 ni) (bl := E.2 bl) (ly := E.2 ly) (ne := E.2 ne) (be := E.2 be) (ni2 := E.2 ni2) (bl2 := E.2 bl2) (ne2 := E.2 ne2) (bo := zk_i E bo) (li := zk_i E li) (ba := zk_i E ba) (fun j hj => ⟨by rw [c8], by rw [c9], c10 j hj⟩) (fun b hb => ⟨(c12 b hb).symm, (c13 b hb).symm, by rw [c11 b (by omega), if_pos hb, c8]⟩) (max (zk_i E K).toNat (zk_i E K2).toNat)
      rw [f1] at k1
      rw [f2] at k2
      have e1 : zk_i E r = w := by injection k1 with k1 _; injection k1 with _ k1; injection k1
      have e2 : zk_i E r2 = w := by injection k2 with k2 _; injection k2 with _ k2; injection k2
      refine zk_eqsg ?_ (zk_vsub_sv (h3 _ (by simp)) (g3 _ (by simp))) N hN hc hn
      rw [zk_vsub_i]
      omega
    · exact zk_id_gd N hN hc hn
  · exact zk_id_gd N hN hc hn
def zk_rsl : zk_Rl := zk_nr (zk_on zk_f90 fun p => zk_on zk_f90 (zk_sl2 p))
theorem zk_rsl_ok : zk_Rok zk_rsl := zk_nr_ok fun E n => zk_on_gd fun N h hc hn p hp => by
  have ht := zk_trs h hc hn p (List.mem_filter.mp hp).1
  exact zk_on_gd fun N' h' hc' hn' q hq => zk_sl2_gd ht (zk_trs h' hc' hn' q (List.mem_filter.mp hq).1)
/-! a day passes -/
def zk_pda (N : zk_N) (q : zk_G) : List zk_G := match zk_as 90 q with
  | some ([_, _, _, nz, bz, n, b], [i, _, _, _, _, _, ba, d]) => match zk_eqi (zk_fci N i) 100 && zk_nz N d && zk_n2 N ba with
    | true => [(65, [n, nz], [zk_c 0, ba]), (65, [b, bz], [zk_c 0, ba])]
    | false => []
  | some ([_, _, _, nz, bz, n, b], [i, _, _, _, _, _, ba, _, d]) => match zk_eqi (zk_fci N i) 101 && zk_nz N d && zk_n2 N ba with
    | true => [(65, [n, nz], [zk_c 0, ba]), (65, [b, bz], [zk_c 0, ba])]
    | false => []
  | _ => []
theorem zy_to_ge {f g : zx_Rw} {n j : Nat} (h : n ≤ j) : zy_to f g n j = g j := if_neg (by omega)
theorem zy_to_lt {f g : zx_Rw} {n j : Nat} (h : j < n) : zy_to f g n j = f j := if_pos h
theorem zk_pdF {E : zk_E} {N : zk_N} (hN : zk_ok E N) {la ly st nz bz n b : Nat} {i K th len da tu ba d : zk_V} {m : Nat} (ht : zk_tru E m (90, [la, ly, st, nz, bz, n, b], [i, K, th, len, da, tu, ba, d])) (c1 : zk_eqi (zk_fci N i) 100 = true) (c2 : zk_i E d ≠ 0) (c3 : 0 ≤ zk_i E ba) : E.2 n = zy_to (zy_pd_n (E.2 la) (E.2 ly) (E.2 st) (E.2 nz) (E.2 bz) (zk_i E th) (zk_i E len) (zk_i E da) (zk_i E tu) (zk_i E ba)) (E.2 nz) (zk_i E ba).toNat ∧ E.2 b = zy_to (zy_pd_b (E.2 bz) (zk_i E tu)) (E.2 bz) (zk_i E ba).toNat := by
  obtain ⟨h1, -, -⟩ := ht
  have c1 := zk_fci_of (n := 100) hN c1
  simp only [List.map_cons, List.map_nil, zq_6, zq_7, zq_8, zq_9, zq_20, zq_21, zq_22, zq_25, zq_26, zq_28, zq_30, zq_40, zq_51, zq_52, zq_53, zq_54, zq_55, zq_64, zq_65, zq_68, zq_72, zq_73, zq_85, zq_74, zq_75, zq_76, zq_71, zq_86, zq_87, zq_80, zq_41, zq_42, zq_43, zq_94, zq_95, zq_47, zq_48, zq_96, zq_97, zq_88, zq_89, zq_90, zq_93, zq_61, zq_62, zq_1, zq_2, zq_3, zq_4, zq_5, zx_90] at h1
  rw [c1] at h1
  obtain ⟨-, -, hF⟩ := h1
  have hF : zx_F 100 [E.2 la, E.2 ly, E.2 st, E.2 nz, E.2 bz] [zk_i E th, zk_i E len, zk_i E da, zk_i E tu, zk_i E ba] (zk_i E K).toNat = ([zk_i E d], [E.2 n, E.2 b]) := hF
  obtain ⟨d', n', b', g1, g2⟩ := zy_pd (la := E.2 la) (ly := E.2 ly) (st := E.2 st) (nz := E.2 nz) (bz := E.2 bz) (th := zk_i E th) (len := zk_i E len) (da := zk_i E da) (tu := zk_i E tu) c3 (zk_i E K).toNat
  rw [hF] at g1
  injection g1 with g1 g1'
  injection g1 with g1 _
  injection g1' with k1 k2
  injection k2 with k2 _
  rcases g2 with ⟨g2, -⟩ | ⟨-, g2⟩
  · exact absurd (g1.trans g2) c2
  · rw [k1, k2]
    exact g2
theorem zk_prF {E : zk_E} {N : zk_N} (hN : zk_ok E N) {la be st nz bz n b : Nat} {i K th len da tu ba bo d : zk_V} {m : Nat} (ht : zk_tru E m (90, [la, be, st, nz, bz, n, b], [i, K, th, len, da, tu, ba, bo, d])) (c1 : zk_eqi (zk_fci N i) 101 = true) (c2 : zk_i E d ≠ 0) (c3 : 0 ≤ zk_i E ba) : E.2 n = zy_to (zy_pr_n (E.2 la) (E.2 be) (E.2 st) (E.2 nz) (E.2 bz) (zk_i E th) (zk_i E len) (zk_i E da) (zk_i E tu) (zk_i E ba) (zk_i E bo)) (E.2 nz) (zk_i E ba).toNat ∧ E.2 b = zy_to (zy_pr_b (E.2 bz) (zk_i E tu)) (E.2 bz) (zk_i E ba).toNat := by
  obtain ⟨h1, -, -⟩ := ht
  have c1 := zk_fci_of (n := 101) hN c1
  simp only [List.map_cons, List.map_nil, zq_6, zq_7, zq_8, zq_9, zq_20, zq_21, zq_22, zq_25, zq_26, zq_28, zq_30, zq_40, zq_51, zq_52, zq_53, zq_54, zq_55, zq_64, zq_65, zq_68, zq_72, zq_73, zq_85, zq_74, zq_75, zq_76, zq_71, zq_86, zq_87, zq_80, zq_41, zq_42, zq_43, zq_94, zq_95, zq_47, zq_48, zq_96, zq_97, zq_88, zq_89, zq_90, zq_93, zq_61, zq_62, zq_1, zq_2, zq_3, zq_4, zq_5, zx_90] at h1
  rw [c1] at h1
  obtain ⟨-, -, hF⟩ := h1
  have hF : zx_F 101 [E.2 la, E.2 be, E.2 st, E.2 nz, E.2 bz] [zk_i E th, zk_i E len, zk_i E da, zk_i E tu, zk_i E ba, zk_i E bo] (zk_i E K).toNat = ([zk_i E d], [E.2 n, E.2 b]) := hF
  obtain ⟨d', n', b', g1, g2⟩ := zy_pr (la := E.2 la) (be := E.2 be) (st := E.2 st) (nz := E.2 nz) (bz := E.2 bz) (th := zk_i E th) (len := zk_i E len) (da := zk_i E da) (tu := zk_i E tu) (bo := zk_i E bo) c3 (zk_i E K).toNat
  rw [hF] at g1
  injection g1 with g1 g1'
  injection g1 with g1 _
  injection g1' with k1 k2
  injection k2 with k2 _
  rcases g2 with ⟨g2, -⟩ | ⟨-, g2⟩
  · exact absurd (g1.trans g2) c2
  · rw [k1, k2]
    exact g2
theorem zk_65tr {E : zk_E} {m n nz : Nat} {ba : zk_V} (h : ∀ j : Nat, (zk_i E ba).toNat ≤ j → E.2 n j = E.2 nz j) (h1 : n < m) (h2 : nz < m) (h3 : zk_sv m ba) : zk_tru E m (65, [n, nz], [zk_c 0, ba]) := by
  refine ⟨?_, fun a ha => ?_, fun v hv => ?_⟩
  · simp only [List.map_cons, List.map_nil, zq_6, zq_7, zq_8, zq_9, zq_20, zq_21, zq_22, zq_25, zq_26, zq_28, zq_30, zq_40, zq_51, zq_52, zq_53, zq_54, zq_55, zq_64, zq_65, zq_68, zq_72, zq_73, zq_85, zq_74, zq_75, zq_76, zq_71, zq_86, zq_87, zq_80, zq_41, zq_42, zq_43, zq_94, zq_95, zq_47, zq_48, zq_96, zq_97, zq_88, zq_89, zq_90, zq_93, zq_61, zq_62, zq_1, zq_2, zq_3, zq_4, zq_5, zk_c_i]
    rintro j (hj | hj)
    · exact absurd hj (by simp)
    · exact h j hj
  · simp only [List.mem_cons, List.not_mem_nil, or_false] at ha
    rcases ha with rfl | rfl
    · exact h1
    · exact h2
  · simp only [List.mem_cons, List.not_mem_nil, or_false] at hv
    rcases hv with rfl | rfl
    · exact zk_c_sv
    · exact h3
theorem zk_pda_ok {E : zk_E} {N : zk_N} (hN : zk_ok E N) (hc : zk_cl N) {q : zk_G} (hq : q ∈ N.2.2.2) : ∀ x ∈ zk_pda N q, zk_tru E N.1 x := by
  have ht := zk_tru_of hN hc q hq
  intro x hx
  unfold zk_pda at hx
  split at hx
  · rename_i la ly st nz bz n b i K th len da tu ba d hu
    have e := zk_as_of hu
    subst e
    split at hx
    · rename_i c
      simp only [Bool.and_eq_true] at c
      have c2 := zk_nz_ok hN c.1.2
      have c3 := zk_n2_ok hN c.2
      obtain ⟨k1, k2⟩ := zk_pdF hN ht c.1.1 c2 c3
      obtain ⟨-, h2, h3⟩ := ht
      simp only [List.mem_cons, List.not_mem_nil, or_false] at hx
      rcases hx with rfl | rfl
      · exact zk_65tr (fun j hj => by rw [k1, zy_to_ge hj]) (h2 _ (by simp)) (h2 _ (by simp)) (h3 _ (by simp))
      · exact zk_65tr (fun j hj => by rw [k2, zy_to_ge hj]) (h2 _ (by simp)) (h2 _ (by simp)) (h3 _ (by simp))
    · cases hx
  · rename_i la ly st nz bz n b i K th len da tu ba bo d hu
    have e := zk_as_of hu
    subst e
    split at hx
    · rename_i c
      simp only [Bool.and_eq_true] at c
      have c2 := zk_nz_ok hN c.1.2
      have c3 := zk_n2_ok hN c.2
      obtain ⟨k1, k2⟩ := zk_prF hN ht c.1.1 c2 c3
      obtain ⟨-, h2, h3⟩ := ht
      simp only [List.mem_cons, List.not_mem_nil, or_false] at hx
      rcases hx with rfl | rfl
      · exact zk_65tr (fun j hj => by rw [k1, zy_to_ge hj]) (h2 _ (by simp)) (h2 _ (by simp)) (h3 _ (by simp))
      · exact zk_65tr (fun j hj => by rw [k2, zy_to_ge hj]) (h2 _ (by simp)) (h2 _ (by simp)) (h3 _ (by simp))
    · cases hx
  · cases hx
def zk_pdb (N : zk_N) (p q : zk_G) : List zk_G := match zk_as 90 p, zk_as 90 q with
  | some ([la, ly, st, nz, bz, n, b], [i, _, th, len, da, tu, ba, d]), some ([la2, be, st2, nz2, bz2, n2, b2], [i2, _, th2, len2, da2, tu2, ba2, bo, d2]) => match zk_eqi (zk_fci N i) 100 && zk_eqi (zk_fci N i2) 101 && zk_nz N d && zk_nz N d2 && Nat.beq st st2 && zk_eqEs N [th, len, da, tu, ba] [th2, len2, da2, tu2, ba2] && zk_n2 N ba && zk_n2 N (zk_vsub (zk_c 5) ba) && zk_h43 N ly be bo ba && zk_pp N ba 2 la2 la && zk_pp N ba 3 nz2 nz && zk_pp N ba 3 bz2 bz with
    | true => [(68, [n2, n], [zk_c 0, zk_c 0, ba]), (68, [b2, b], [zk_c 0, zk_c 0, ba])]
    | false => []
  | _, _ => []
theorem zk_68tr {E : zk_E} {m f g : Nat} {ba : zk_V} (h : ∀ j : Nat, (j : Int) < zk_i E ba → E.2 f j = E.2 g j) (h1 : f < m) (h2 : g < m) (h3 : zk_sv m ba) : zk_tru E m (68, [f, g], [zk_c 0, zk_c 0, ba]) := by
  refine ⟨?_, fun a ha => ?_, fun v hv => ?_⟩
  · simp only [List.map_cons, List.map_nil, zq_6, zq_7, zq_8, zq_9, zq_20, zq_21, zq_22, zq_25, zq_26, zq_28, zq_30, zq_40, zq_51, zq_52, zq_53, zq_54, zq_55, zq_64, zq_65, zq_68, zq_72, zq_73, zq_85, zq_74, zq_75, zq_76, zq_71, zq_86, zq_87, zq_80, zq_41, zq_42, zq_43, zq_94, zq_95, zq_47, zq_48, zq_96, zq_97, zq_88, zq_89, zq_90, zq_93, zq_61, zq_62, zq_1, zq_2, zq_3, zq_4, zq_5, zk_c_i]
    intro j hj
    rw [show (0 : Int).toNat + j = j by simp]
    exact h j (by omega)
  · simp only [List.mem_cons, List.not_mem_nil, or_false] at ha
    rcases ha with rfl | rfl
    · exact h1
    · exact h2
  · simp only [List.mem_cons, List.not_mem_nil, or_false] at hv
    rcases hv with rfl | rfl | rfl
    · exact zk_c_sv
    · exact zk_c_sv
    · exact h3
theorem zk_pdb_ok {E : zk_E} {N : zk_N} (hN : zk_ok E N) (hc : zk_cl N) {p q : zk_G} (hp : p ∈ N.2.2.2) (hq : q ∈ N.2.2.2) : ∀ x ∈ zk_pdb N p q, zk_tru E N.1 x := by
  have ht := zk_tru_of hN hc p hp
  have ht2 := zk_tru_of hN hc q hq
  intro x hx
  unfold zk_pdb at hx
  split at hx
  · rename_i la ly st nz bz n b i K th len da tu ba d la2 be st2 nz2 bz2 n2 b2 i2 K2 th2 len2 da2 tu2 ba2 bo d2 hu hu2
    have e := zk_as_of hu
    have e2 := zk_as_of hu2
    subst e e2
    split at hx
    · rename_i c
      simp only [Bool.and_eq_true] at c
      obtain ⟨⟨⟨⟨⟨⟨⟨⟨⟨⟨⟨c1, c2⟩, c3⟩, c4⟩, c5⟩, c6⟩, c7⟩, c8⟩, c9⟩, c10⟩, c11⟩, c12⟩ := c
      have c3 := zk_nz_ok hN c3
      have c4 := zk_nz_ok hN c4
      have c5 := Nat.eq_of_beq_eq_true c5
      have c6 := zk_eqEs_of hN c6
      simp only [List.map_cons, List.map_nil] at c6
      injection c6 with q1 c6
      injection c6 with q2 c6
      injection c6 with q3 c6
      injection c6 with q4 c6
      injection c6 with q5 c6
      have c7 := zk_n2_ok hN c7
      have c8 := zk_n2_ok hN c8
      rw [zk_vsub_i, zk_c_i] at c8
      have c9 := zk_h43_of hN hc c9
      have c10 := zk_pp_of hN hc c10
      have c11 := zk_pp_of hN hc c11
      have c12 := zk_pp_of hN hc c12
      obtain ⟨k1, k2⟩ := zk_pdF hN ht c1 c3 c7
      obtain ⟨k3, k4⟩ := zk_prF hN ht2 c2 c4 (by rw [← q5]; exact c7)
      rw [← q1, ← q2, ← q3, ← q4, ← q5, ← c5] at k3
      rw [← q4, ← q5] at k4
      obtain ⟨-, h2, h3⟩ := ht
      obtain ⟨-, g2, g3⟩ := ht2
      simp only [List.mem_cons, List.not_mem_nil, or_false] at hx
      rcases hx with rfl | rfl
      · refine zk_68tr (fun j hj => ?_) (g2 _ (by simp)) (h2 _ (by simp)) (h3 _ (by simp))
        rw [k1, k3, zy_to_lt (by omega), zy_to_lt (by omega)]
        unfold zy_pr_n zy_pd_n
        rw [c10 j hj, c11 j hj, c12 j hj, c9 j (by omega), if_pos hj]
      · refine zk_68tr (fun j hj => ?_) (g2 _ (by simp)) (h2 _ (by simp)) (h3 _ (by simp))
        rw [k2, k4, zy_to_lt (by omega), zy_to_lt (by omega)]
        unfold zy_pr_b zy_pd_b
        rw [c12 j hj]
    · cases hx
  · cases hx
def zk_xpa (N : zk_N) : Option zk_N := some (zk_addGs N ((zk_kd 90 N).flatMap (zk_pda N)))
def zk_xpb (N : zk_N) : Option zk_N := some (zk_addGs N ((zk_kd 90 N).flatMap fun p => (zk_kd 90 N).flatMap (zk_pdb N p)))
def zk_rpd : zk_Rl := zk_nr (zk_sq zk_xpa zk_xpb)
theorem zk_rpd_ok : zk_Rok zk_rpd := zk_nr_ok fun E n => zk_sq_gd (zk_add_gd (f := fun N => (zk_kd 90 N).flatMap (zk_pda N)) fun N hN hc hn x hx => by
    obtain ⟨y, hy1, hy2⟩ := List.mem_flatMap.mp hx
    rw [← hn]
    exact zk_pda_ok hN hc (zk_kd_m hy1) x hy2) (zk_add_gd (f := fun N => (zk_kd 90 N).flatMap fun p => (zk_kd 90 N).flatMap (zk_pdb N p)) fun N hN hc hn x hx => by
    obtain ⟨y, hy1, hy2⟩ := List.mem_flatMap.mp hx
    obtain ⟨w, hw1, hw2⟩ := List.mem_flatMap.mp hy2
    rw [← hn]
    exact zk_pdb_ok hN hc (zk_kd_m hy1) (zk_kd_m hw1) x hw2)
/-! how many bits -/
def zk_bc2 (p q : zk_G) (N : zk_N) : Option zk_N := match zk_as 90 p, zk_as 90 q with
  | some ([], [i, K, x, _, r]), some ([], [i2, K2, x2, d2, l2]) => match zk_eqi (zk_fci N i) 102 && zk_eqi (zk_fci N i2) 103 && zk_eqE N K (zk_c 0) && zk_eqE N x x2 && zk_eqE N d2 (zk_c 0) && zk_eqE N l2 (zk_c 0) && zk_n2 N x && zk_n2 N (zk_vsub (zk_c 255) x) with
    | true => zk_eqs N (zk_vsub r K2)
    | false => some N
  | _, _ => some N
theorem zk_bc2_gd {E : zk_E} {n : Nat} {p q : zk_G} (hp : zk_tru E n p) (hq : zk_tru E n q) : zk_gd E n (zk_bc2 p q) := by
  intro N hN hc hn
  unfold zk_bc2
  split
  · rename_i i K x d r i2 K2 x2 d2 l2 hu hu2
    have e := zk_as_of hu
    have e2 := zk_as_of hu2
    subst e e2
    obtain ⟨h1, h2, h3⟩ := hp
    obtain ⟨g1, g2, g3⟩ := hq
    split
    · rename_i c
      simp only [Bool.and_eq_true] at c
      obtain ⟨⟨⟨⟨⟨⟨⟨c1, c2⟩, c3⟩, c4⟩, c5⟩, c6⟩, c7⟩, c8⟩ := c
      have c1 := zk_fci_of (n := 102) hN c1
      have c2 := zk_fci_of (n := 103) hN c2
      have c3 := zk_eqE_of hN c3
      have c4 := zk_eqE_of hN c4
      have c5 := zk_eqE_of hN c5
      have c6 := zk_eqE_of hN c6
      have c7 := zk_n2_ok hN c7
      have c8 := zk_n2_ok hN c8
      rw [zk_c_i] at c3 c5 c6
      rw [zk_vsub_i, zk_c_i] at c8
      simp only [List.map_cons, List.map_nil, zq_6, zq_7, zq_8, zq_9, zq_20, zq_21, zq_22, zq_25, zq_26, zq_28, zq_30, zq_40, zq_51, zq_52, zq_53, zq_54, zq_55, zq_64, zq_65, zq_68, zq_72, zq_73, zq_85, zq_74, zq_75, zq_76, zq_71, zq_86, zq_87, zq_80, zq_41, zq_42, zq_43, zq_94, zq_95, zq_47, zq_48, zq_96, zq_97, zq_88, zq_89, zq_90, zq_93, zq_61, zq_62, zq_1, zq_2, zq_3, zq_4, zq_5, zx_90] at h1 g1
      rw [c1, c3] at h1
      rw [c2, c5, c6, ← c4] at g1
      obtain ⟨-, -, hF⟩ := h1
      obtain ⟨-, k0, hG⟩ := g1
      have hF : zx_F 102 [] [zk_i E x] 0 = ([zk_i E d, zk_i E r], []) := hF
      have hG : zx_F 103 [] [zk_i E x] (zk_i E K2).toNat = ([0, 0], []) := hG
      have key := zy_bits c7 (by omega) hG
      rw [hF] at key
      injection key with _ key
      injection key with key _
      refine zk_eqsg ?_ (zk_vsub_sv (h3 _ (by simp)) (g3 _ (by simp))) N hN hc hn
      rw [zk_vsub_i]
      omega
    · exact zk_id_gd N hN hc hn
  · exact zk_id_gd N hN hc hn
def zk_rbc : zk_Rl := zk_nr (zk_on zk_f90 fun p => zk_on zk_f90 (zk_bc2 p))
theorem zk_rbc_ok : zk_Rok zk_rbc := zk_nr_ok fun E n => zk_on_gd fun N h hc hn p hp => by
  have ht := zk_trs h hc hn p (List.mem_filter.mp hp).1
  exact zk_on_gd fun N' h' hc' hn' q hq => zk_bc2_gd ht (zk_trs h' hc' hn' q (List.mem_filter.mp hq).1)
/-- a told function worked out where it stands, its parameters locals -/
def zk_rloP (z : zk_Z) : List Nat → Option (List zk_V)
  | [] => some []
  | q :: l => match zk_locv z q, zk_rloP z l with
    | some v, some r => some (v :: r)
    | _, _ => none
def zk_rloG (z : zk_Z) (id : Nat) (K : Int) (ls : List Nat) : Option zk_G := match zk_rloP z ls with
  | some P => match zk_unr z.1 id [] P (match zk_le K 5 with
      | true => K.toNat
      | false => 5) with
    | some s => match zk_ok90 z.1 ([], zk_c (Int.ofNat id) :: zk_c K :: (P ++ s)) && ((P ++ s).all fun v => zk_svB z.1.1 v) with
      | true => some (90, [], zk_c (Int.ofNat id) :: zk_c K :: (P ++ s))
      | false => none
    | none => none
  | none => none
def zk_rlo (id : Nat) (K : Int) (ls : List Nat) : zk_Rl := fun z => match zk_rloG z id K ls with
  | some g => some [zk_addGs z.1 [g]]
  | none => some [z.1]
theorem zk_rloG_of {z : zk_Z} {E : zk_E} (h : zk_ok E z.1) {id : Nat} {K : Int} {ls : List Nat} {g : zk_G} (hg : zk_rloG z id K ls = some g) : zk_tru E z.1.1 g := by
  unfold zk_rloG at hg
  split at hg
  · rename_i P _
    split at hg
    · rename_i s _
      split at hg
      · rename_i c
        rw [Bool.and_eq_true] at c
        cases hg
        refine ⟨zk_ok90_of h c.1, fun a ha => absurd ha List.not_mem_nil, fun v hv => ?_⟩
        rcases List.mem_cons.mp hv with rfl | hv
        · exact zk_c_sv
        · rcases List.mem_cons.mp hv with rfl | hv
          · exact zk_c_sv
          · exact zk_svB_of (List.all_eq_true.mp c.2 v hv)
      · cases hg
    · cases hg
  · cases hg
theorem zk_rlo_ok (id : Nat) (K : Int) (ls : List Nat) : zk_Rok (zk_rlo id K ls) := by
  refine zk_Rs_ok fun z L hz E h hc hcs hl hs => ?_
  unfold zk_rlo at hz
  split at hz
  · rename_i g hg
    cases hz
    have ht := zk_rloG_of h hg
    obtain ⟨b1, b2⟩ := zk_addGs_ok h hc (L := [g]) (fun x hx => by rw [List.mem_singleton.mp hx]; exact ht)
    exact ⟨_, List.mem_cons_self, b1, b2, rfl⟩
  · cases hz
    exact ⟨_, List.mem_cons_self, h, hc, rfl⟩
/-! an image laid back -/
def zk_kb2 (N : zk_N) (p q : zk_G) : List zk_G := match zk_as 90 p, zk_as 90 q with
  | some ([kn, kb, nz, bz, n, b], [i, _, ba, kp, d]), some ([kn2, kb2, nz2, bz2, n2, b2], [i2, _, ba2, kp2, d2]) => match zk_eqi (zk_fci N i) 104 && zk_eqi (zk_fci N i2) 105 && zk_nz N d && zk_nz N d2 && zk_eqE N ba ba2 && zk_eqE N kp kp2 && zk_n2 N ba && zk_alk N nz nz2 && zk_alk N bz bz2 && zk_pp N kp 1 kn2 kn && zk_pp N kp 1 kb2 kb with
    | true => [(8, [n, n2], []), (8, [b, b2], [])]
    | false => []
  | _, _ => []
theorem zk_kb2_ok {E : zk_E} {N : zk_N} (hN : zk_ok E N) (hc : zk_cl N) {p q : zk_G} (hp : p ∈ N.2.2.2) (hq : q ∈ N.2.2.2) : ∀ x ∈ zk_kb2 N p q, zk_tru E N.1 x := by
  have ht := zk_tru_of hN hc p hp
  have ht2 := zk_tru_of hN hc q hq
  intro x hx
  unfold zk_kb2 at hx
  split at hx
  · rename_i kn kb nz bz n b i K ba kp d kn2 kb2 nz2 bz2 n2 b2 i2 K2 ba2 kp2 d2 hu hu2
    have e := zk_as_of hu
    have e2 := zk_as_of hu2
    subst e e2
    split at hx
    · rename_i c
      simp only [Bool.and_eq_true] at c
      obtain ⟨⟨⟨⟨⟨⟨⟨⟨⟨⟨c1, c2⟩, c3⟩, c4⟩, c5⟩, c6⟩, c7⟩, c8⟩, c9⟩, c10⟩, c11⟩ := c
      have c1 := zk_fci_of (n := 104) hN c1
      have c2 := zk_fci_of (n := 105) hN c2
      have c3 := zk_nz_ok hN c3
      have c4 := zk_nz_ok hN c4
      have c5 := zk_eqE_of hN c5
      have c6 := zk_eqE_of hN c6
      have c7 := zk_n2_ok hN c7
      have c8 := zk_alk_of hN hc c8
      have c9 := zk_alk_of hN hc c9
      have c10 := zk_pp_of hN hc c10
      have c11 := zk_pp_of hN hc c11
      obtain ⟨h1, h2, h3⟩ := ht
      obtain ⟨g1, g2, g3⟩ := ht2
      simp only [List.map_cons, List.map_nil, zq_6, zq_7, zq_8, zq_9, zq_20, zq_21, zq_22, zq_25, zq_26, zq_28, zq_30, zq_40, zq_51, zq_52, zq_53, zq_54, zq_55, zq_64, zq_65, zq_68, zq_72, zq_73, zq_85, zq_74, zq_75, zq_76, zq_71, zq_86, zq_87, zq_80, zq_41, zq_42, zq_43, zq_94, zq_95, zq_47, zq_48, zq_96, zq_97, zq_88, zq_89, zq_90, zq_93, zq_61, zq_62, zq_1, zq_2, zq_3, zq_4, zq_5, zx_90] at h1 g1
      rw [c1] at h1
      rw [c2] at g1
      obtain ⟨-, -, hF⟩ := h1
      obtain ⟨-, -, hG⟩ := g1
      have hF : zx_F 104 [E.2 kn, E.2 kb, E.2 nz, E.2 bz] [zk_i E ba, zk_i E kp] (zk_i E K).toNat = ([zk_i E d], [E.2 n, E.2 b]) := hF
      have hG : zx_F 105 [E.2 kn2, E.2 kb2, E.2 nz2, E.2 bz2] [zk_i E ba2, zk_i E kp2] (zk_i E K2).toNat = ([zk_i E d2], [E.2 n2, E.2 b2]) := hG
      rw [← c5, ← c6, ← c8, ← c9] at hG
      obtain ⟨d', n', b', k1, k2⟩ := zy_kc (kn := E.2 kn) (kb := E.2 kb) (nz := E.2 nz) (bz := E.2 bz) (kp := zk_i E kp) c7 (zk_i E K).toNat
      obtain ⟨d3, n3, b3, k3, k4⟩ := zy_kr (kn := E.2 kn2) (kb := E.2 kb2) (nz := E.2 nz) (bz := E.2 bz) (kp := zk_i E kp) c7 (zk_i E K2).toNat
      rw [hF] at k1
      rw [hG] at k3
      injection k1 with k1 k1'
      injection k1 with k1 _
      injection k1' with u1 u2
      injection u2 with u2 _
      injection k3 with k3 k3'
      injection k3 with k3 _
      injection k3' with w1 w2
      injection w2 with w2 _
      have k2 := k2.resolve_left fun h => c3 (k1.trans h.1)
      have k4 := k4.resolve_left fun h => c4 (k3.trans h.1)
      have en : E.2 n = E.2 n2 := by
        rw [u1, w1, k2.2.1, k4.2.1]
        funext j
        show (if j < (zk_i E ba).toNat then zy_kn (E.2 kn) (E.2 nz) (zk_i E kp) j else E.2 nz j) = if j < (zk_i E ba).toNat then zy_kn (E.2 kn2) (E.2 nz) (zk_i E kp) j else E.2 nz j
        unfold zy_kn
        by_cases hk : (j : Int) + 1 ≤ zk_i E kp
        · simp only [hk, if_true]
          rw [c10 j (by omega)]
        · simp only [hk, if_false]
      have eb : E.2 b = E.2 b2 := by
        rw [u2, w2, k2.2.2, k4.2.2]
        funext j
        show (if j < (zk_i E ba).toNat then zy_kb (E.2 kb) (zk_i E kp) j else E.2 bz j) = if j < (zk_i E ba).toNat then zy_kb (E.2 kb2) (zk_i E kp) j else E.2 bz j
        unfold zy_kb
        by_cases hk : (j : Int) + 1 ≤ zk_i E kp
        · simp only [hk, if_true]
          rw [c11 j (by omega)]
        · simp only [hk, if_false]
      simp only [List.mem_cons, List.not_mem_nil, or_false] at hx
      rcases hx with rfl | rfl
      · refine ⟨?_, fun a ha => ?_, fun v hv => absurd hv List.not_mem_nil⟩
        · simp only [List.map_cons, List.map_nil, zq_6, zq_7, zq_8, zq_9, zq_20, zq_21, zq_22, zq_25, zq_26, zq_28, zq_30, zq_40, zq_51, zq_52, zq_53, zq_54, zq_55, zq_64, zq_65, zq_68, zq_72, zq_73, zq_85, zq_74, zq_75, zq_76, zq_71, zq_86, zq_87, zq_80, zq_41, zq_42, zq_43, zq_94, zq_95, zq_47, zq_48, zq_96, zq_97, zq_88, zq_89, zq_90, zq_93, zq_61, zq_62, zq_1, zq_2, zq_3, zq_4, zq_5]
          exact en
        · simp only [List.mem_cons, List.not_mem_nil, or_false] at ha
          rcases ha with rfl | rfl
          · exact h2 _ (by simp)
          · exact g2 _ (by simp)
      · refine ⟨?_, fun a ha => ?_, fun v hv => absurd hv List.not_mem_nil⟩
        · simp only [List.map_cons, List.map_nil, zq_6, zq_7, zq_8, zq_9, zq_20, zq_21, zq_22, zq_25, zq_26, zq_28, zq_30, zq_40, zq_51, zq_52, zq_53, zq_54, zq_55, zq_64, zq_65, zq_68, zq_72, zq_73, zq_85, zq_74, zq_75, zq_76, zq_71, zq_86, zq_87, zq_80, zq_41, zq_42, zq_43, zq_94, zq_95, zq_47, zq_48, zq_96, zq_97, zq_88, zq_89, zq_90, zq_93, zq_61, zq_62, zq_1, zq_2, zq_3, zq_4, zq_5]
          exact eb
        · simp only [List.mem_cons, List.not_mem_nil, or_false] at ha
          rcases ha with rfl | rfl
          · exact h2 _ (by simp)
          · exact g2 _ (by simp)
    · cases hx
  · cases hx
def zk_rbk : zk_Rl := zk_nr fun N => some (zk_addGs N ((zk_kd 90 N).flatMap fun p => (zk_kd 90 N).flatMap (zk_kb2 N p)))
theorem zk_rbk_ok : zk_Rok zk_rbk := zk_nr_ok fun E n => zk_add_gd (f := fun N => (zk_kd 90 N).flatMap fun p => (zk_kd 90 N).flatMap (zk_kb2 N p)) fun N hN hc hn x hx => by
  obtain ⟨y, hy1, hy2⟩ := List.mem_flatMap.mp hx
  obtain ⟨w, hw1, hw2⟩ := List.mem_flatMap.mp hy2
  rw [← hn]
  exact zk_kb2_ok hN hc (zk_kd_m hy1) (zk_kd_m hw1) x hw2
/-! rows moved on by one -/
def zk_sh2 (N : zk_N) (f0 f1 : Nat) (h : zk_G) : List zk_G := match zk_as 9 h with
  | some ([x', x, x2], [s, d, n]) => match Nat.beq x x2 && zk_eqE N s (zk_c 1) && zk_eqE N d (zk_c 0) && zk_eqE N n (zk_c 39) && zk_alk N x f0 with
    | true => [(8, [x', f1], [])]
    | false => []
  | _ => []
def zk_sh1 (N : zk_N) (q : zk_G) : List zk_G := match zk_as 90 q with
  | some ([fa, fb, fc, fd, a, b, c, d], [i, _, k]) => match zk_eqi (zk_fci N i) 106 && zk_nz N k with
    | true => (zk_kd 9 N).flatMap (zk_sh2 N fa a) ++ ((zk_kd 9 N).flatMap (zk_sh2 N fb b) ++ ((zk_kd 9 N).flatMap (zk_sh2 N fc c) ++ (zk_kd 9 N).flatMap (zk_sh2 N fd d)))
    | false => []
  | _ => []
theorem zk_sh2_ok {E : zk_E} {N : zk_N} (hN : zk_ok E N) (hc : zk_cl N) {f0 f1 : Nat} (hf : E.2 f1 = zy_mv (E.2 f0) 39) (h1 : f1 < N.1) {h : zk_G} (hh : h ∈ N.2.2.2) : ∀ x ∈ zk_sh2 N f0 f1 h, zk_tru E N.1 x := by
  have ht := zk_tru_of hN hc h hh
  intro y hy
  unfold zk_sh2 at hy
  split at hy
  · rename_i x' x x2 s d n hu
    have e := zk_as_of hu
    subst e
    obtain ⟨k1, k2, k3⟩ := ht
    simp only [List.map_cons, List.map_nil, zq_6, zq_7, zq_8, zq_9, zq_20, zq_21, zq_22, zq_25, zq_26, zq_28, zq_30, zq_40, zq_51, zq_52, zq_53, zq_54, zq_55, zq_64, zq_65, zq_68, zq_72, zq_73, zq_85, zq_74, zq_75, zq_76, zq_71, zq_86, zq_87, zq_80, zq_41, zq_42, zq_43, zq_94, zq_95, zq_47, zq_48, zq_96, zq_97, zq_88, zq_89, zq_90, zq_93, zq_61, zq_62, zq_1, zq_2, zq_3, zq_4, zq_5] at k1
    split at hy
    · rename_i c
      simp only [Bool.and_eq_true] at c
      obtain ⟨⟨⟨⟨c1, c2⟩, c3⟩, c4⟩, c5⟩ := c
      have c1 := Nat.eq_of_beq_eq_true c1
      have c2 := zk_eqE_of hN c2
      have c3 := zk_eqE_of hN c3
      have c4 := zk_eqE_of hN c4
      have c5 := zk_alk_of hN hc c5
      rw [zk_c_i] at c2 c3 c4
      rw [List.mem_singleton.mp hy]
      refine ⟨?_, fun a ha => ?_, fun v hv => absurd hv List.not_mem_nil⟩
      · simp only [List.map_cons, List.map_nil, zq_6, zq_7, zq_8, zq_9, zq_20, zq_21, zq_22, zq_25, zq_26, zq_28, zq_30, zq_40, zq_51, zq_52, zq_53, zq_54, zq_55, zq_64, zq_65, zq_68, zq_72, zq_73, zq_85, zq_74, zq_75, zq_76, zq_71, zq_86, zq_87, zq_80, zq_41, zq_42, zq_43, zq_94, zq_95, zq_47, zq_48, zq_96, zq_97, zq_88, zq_89, zq_90, zq_93, zq_61, zq_62, zq_1, zq_2, zq_3, zq_4, zq_5]
        rw [k1, hf, c2, c3, c4, ← c1, ← c5]
        funext j
        show _ = if j < 39 then E.2 x (j + 1) else E.2 x j
        try simp only
        by_cases hj : j < 39
        · rw [if_pos hj, if_pos (by simp; omega)]
          have e : ∀ m : Nat, m = j + 1 → E.2 x m = E.2 x (j + 1) := fun m hm => by rw [hm]
          exact e _ (by simp <;> omega)
        · rw [if_neg hj, if_neg (by simp; omega)]
      · simp only [List.mem_cons, List.not_mem_nil, or_false] at ha
        rcases ha with rfl | rfl
        · exact k2 _ (by simp)
        · exact h1
    · cases hy
  · cases hy
theorem zk_sh1_ok {E : zk_E} {N : zk_N} (hN : zk_ok E N) (hc : zk_cl N) {q : zk_G} (hq : q ∈ N.2.2.2) : ∀ x ∈ zk_sh1 N q, zk_tru E N.1 x := by
  have ht := zk_tru_of hN hc q hq
  intro x hx
  unfold zk_sh1 at hx
  split at hx
  · rename_i fa fb fc fd a b c d i K k hu
    have e := zk_as_of hu
    subst e
    obtain ⟨h1, h2, h3⟩ := ht
    split at hx
    · rename_i cc
      rw [Bool.and_eq_true] at cc
      have c1 := zk_fci_of (n := 106) hN cc.1
      have c2 := zk_nz_ok hN cc.2
      simp only [List.map_cons, List.map_nil, zq_6, zq_7, zq_8, zq_9, zq_20, zq_21, zq_22, zq_25, zq_26, zq_28, zq_30, zq_40, zq_51, zq_52, zq_53, zq_54, zq_55, zq_64, zq_65, zq_68, zq_72, zq_73, zq_85, zq_74, zq_75, zq_76, zq_71, zq_86, zq_87, zq_80, zq_41, zq_42, zq_43, zq_94, zq_95, zq_47, zq_48, zq_96, zq_97, zq_88, zq_89, zq_90, zq_93, zq_61, zq_62, zq_1, zq_2, zq_3, zq_4, zq_5, zx_90] at h1
      rw [c1] at h1
      obtain ⟨-, -, hF⟩ := h1
      have hF : zx_F 106 [E.2 fa, E.2 fb, E.2 fc, E.2 fd] [] (zk_i E K).toNat = ([zk_i E k], [E.2 a, E.2 b, E.2 c, E.2 d]) := hF
      obtain ⟨q', a', b', c', d', g1, g2⟩ := zy_sh (fa := E.2 fa) (fb := E.2 fb) (fc := E.2 fc) (fd := E.2 fd) (zk_i E K).toNat
      rw [hF] at g1
      injection g1 with g1 k1
      injection g1 with g1 _
      injection k1 with u1 k1
      injection k1 with u2 k1
      injection k1 with u3 k1
      injection k1 with u4 _
      obtain ⟨-, w1, w2, w3, w4⟩ := g2.resolve_left fun h => c2 (g1.trans h.1)
      have go : ∀ f0 f1, E.2 f1 = zy_mv (E.2 f0) 39 → f1 < N.1 → x ∈ (zk_kd 9 N).flatMap (zk_sh2 N f0 f1) → zk_tru E N.1 x := fun f0 f1 e1 e2 hm => by
        obtain ⟨y, hy1, hy2⟩ := List.mem_flatMap.mp hm
        exact zk_sh2_ok hN hc e1 e2 (zk_kd_m hy1) x hy2
      rcases List.mem_append.mp hx with hx | hx
      · exact go _ _ (u1.trans w1) (h2 _ (by simp)) hx
      · rcases List.mem_append.mp hx with hx | hx
        · exact go _ _ (u2.trans w2) (h2 _ (by simp)) hx
        · rcases List.mem_append.mp hx with hx | hx
          · exact go _ _ (u3.trans w3) (h2 _ (by simp)) hx
          · exact go _ _ (u4.trans w4) (h2 _ (by simp)) hx
    · cases hx
  · cases hx
def zk_rsh : zk_Rl := zk_nr fun N => some (zk_addGs N ((zk_kd 90 N).flatMap (zk_sh1 N)))
theorem zk_rsh_ok : zk_Rok zk_rsh := zk_nr_ok fun E n => zk_add_gd (f := fun N => (zk_kd 90 N).flatMap (zk_sh1 N)) fun N hN hc hn x hx => by
  obtain ⟨y, hy1, hy2⟩ := List.mem_flatMap.mp hx
  rw [← hn]
  exact zk_sh1_ok hN hc (zk_kd_m hy1) x hy2
end
