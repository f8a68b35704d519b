noncomputable section
/-! SHARES (wip/p41/mk9za.py) -/
theorem zy_ni_0 {p : zx_Rw} {q : zx_Rw} {b : Int} {bo : Int} : zx_F 129 [p, q] [b, bo] 0 = ([(0 : Int), (0 : Int)], []) := rfl
set_option maxRecDepth 20000 in
theorem zy_ni_s {k : Nat} {p : zx_Rw} {q : zx_Rw} {b : Int} {bo : Int} {s : Int} (h : zx_F 129 [p, q] [b, bo] k = ([0, s], [])) : zx_F 129 [p, q] [b, bo] (k + 1) =
  (([(if (if ((k : Int) + (1 : Int)) ≤ bo then (1 : Int) else 0) = 0 then (1 : Int) else (0 : Int)), (if (if ((k : Int) + (1 : Int)) ≤ bo then (1 : Int) else 0) = 0 then s else (if (if (p ((k : Int)).toNat) = b then (1 : Int) else 0) = 0 then s else (s + (q ((k : Int)).toNat))))], [])) := by
  rw [zy_turn h]
  rfl
theorem zy_an_0 {p : zx_Rw} {q : zx_Rw} {ba : Int} {bo : Int} : zx_F 130 [p, q] [ba, bo] 0 = ([(0 : Int), (0 : Int)], []) := rfl
set_option maxRecDepth 20000 in
theorem zy_an_s {k : Nat} {p : zx_Rw} {q : zx_Rw} {ba : Int} {bo : Int} {s : Int} (h : zx_F 130 [p, q] [ba, bo] k = ([0, s], [])) : zx_F 130 [p, q] [ba, bo] (k + 1) =
  (([(if (if ((k : Int) + (1 : Int)) ≤ ba then (1 : Int) else 0) = 0 then (1 : Int) else (0 : Int)), (if (if ((k : Int) + (1 : Int)) ≤ ba then (1 : Int) else 0) = 0 then s else (s + ((zx_G 130 129 [p, q] [(k : Int), bo] 9).1.getD 1 0)))], [])) := by
  rw [zy_turn h]
  rfl
theorem zy_lf_0 {p : zx_Rw} {q : zx_Rw} {v : Int} {ba : Int} {bo : Int} {al : Int} : zx_F 131 [p, q] [v, ba, bo, al] 0 = ([(0 : Int), v], []) := rfl
set_option maxRecDepth 20000 in
theorem zy_lf_s {k : Nat} {p : zx_Rw} {q : zx_Rw} {v : Int} {ba : Int} {bo : Int} {al : Int} {s : Int} (h : zx_F 131 [p, q] [v, ba, bo, al] k = ([0, s], [])) : zx_F 131 [p, q] [v, ba, bo, al] (k + 1) =
  (([(if (if ((k : Int) + (1 : Int)) ≤ ba then (1 : Int) else 0) = 0 then (1 : Int) else (0 : Int)), (if (if ((k : Int) + (1 : Int)) ≤ ba then (1 : Int) else 0) = 0 then s else (zx_op 7 (s - (if (if (1 : Int) ≤ al then (1 : Int) else 0) = 0 then (zx_op 6 v ba) else (zx_op 6 (zx_op 81 v ((zx_G 131 129 [p, q] [(k : Int), bo] 9).1.getD 1 0)) al))) (0 : Int)))], [])) := by
  rw [zy_turn h]
  rfl
theorem zy_nib {p q : zx_Rw} {b bo : Int} (hn : ∀ j : Nat, 0 ≤ q j ∧ q j ≤ 30) : ∀ K : Nat, ∃ d s, zx_F 129 [p, q] [b, bo] K = ([d, s], []) ∧ 0 ≤ s ∧ s ≤ 30 * (K : Int)
  | 0 => ⟨0, 0, zy_ni_0, by decide, by decide⟩
  | K + 1 => by
    obtain ⟨d, s, e, h1, h2⟩ := zy_nib (p := p) (b := b) (bo := bo) hn K
    by_cases hd : d = 0
    · subst hd
      have e2 := zy_ni_s e
      simp only [zy_if, Int.toNat_natCast] at e2
      have hK := hn K
      by_cases hk : (K : Int) + 1 ≤ bo
      · by_cases hp : p K = b
        · simp only [if_pos hk, if_pos hp] at e2
          exact ⟨0, _, e2, by omega, by push_cast; omega⟩
        · simp only [if_pos hk, if_neg hp] at e2
          exact ⟨0, _, e2, by omega, by push_cast; omega⟩
      · simp only [if_neg hk] at e2
        exact ⟨1, _, e2, by omega, by push_cast; omega⟩
    · exact ⟨d, s, zy_stay e hd, h1, by push_cast; omega⟩
def zy_nq (p q : zx_Rw) (bo : Int) (k : Nat) : Int := (zx_F 129 [p, q] [(k : Int), bo] 9).1.getD 1 0
theorem zy_nq_b {p q : zx_Rw} {bo : Int} (hn : ∀ j : Nat, 0 ≤ q j ∧ q j ≤ 30) (k : Nat) : 0 ≤ zy_nq p q bo k ∧ zy_nq p q bo k ≤ 270 := by
  obtain ⟨d, s, e, h1, h2⟩ := zy_nib (p := p) (b := (k : Int)) (bo := bo) hn 9
  unfold zy_nq
  rw [e]
  exact ⟨h1, h2⟩
def zy_sm (N : Nat → Int) : Nat → Int
  | 0 => 0
  | k + 1 => zy_sm N k + N k
theorem zy_sm_m {N : Nat → Int} (hN : ∀ k, 0 ≤ N k) : ∀ {j k : Nat}, j ≤ k → zy_sm N j ≤ zy_sm N k
  | j, 0, h => by
    have : j = 0 := by omega
    rw [this]
    exact Int.le_refl _
  | j, k + 1, h => by
    by_cases hj : j = k + 1
    · rw [hj]
      exact Int.le_refl _
    · have h1 := zy_sm_m hN (j := j) (k := k) (by omega)
      have h2 := hN k
      show zy_sm N j ≤ zy_sm N k + N k
      omega
theorem zy_anr {p q : zx_Rw} {ba bo : Int} (hb : 0 ≤ ba) : ∀ K : Nat, ∃ d s, zx_F 130 [p, q] [ba, bo] K = ([d, s], []) ∧ ((d = 0 ∧ (K : Int) ≤ ba ∧ s = zy_sm (zy_nq p q bo) K) ∨ (d ≠ 0 ∧ s = zy_sm (zy_nq p q bo) ba.toNat))
  | 0 => ⟨0, 0, zy_an_0, Or.inl ⟨rfl, hb, rfl⟩⟩
  | K + 1 => by
    obtain ⟨d, s, e, h⟩ := zy_anr (p := p) (q := q) (bo := bo) hb K
    have eG : ∀ P K, zx_G 130 129 [p, q] P K = zx_F 129 [p, q] P K := fun P K => zx_G_F (by decide) _ _ _
    rcases h with ⟨h1, h2, h3⟩ | ⟨h1, h2⟩
    · subst h1
      have e2 := zy_an_s e
      simp only [eG, zy_if] at e2
      by_cases hk : (K : Int) + 1 ≤ ba
      · simp only [if_pos hk] at e2
        exact ⟨0, _, e2, Or.inl ⟨rfl, by push_cast; omega, by rw [h3]; rfl⟩⟩
      · simp only [if_neg hk] at e2
        have ek : K = ba.toNat := by omega
        exact ⟨1, _, e2, Or.inr ⟨by decide, by rw [h3, ek]⟩⟩
    · exact ⟨d, s, zy_stay e h1, Or.inr ⟨h1, h2⟩⟩
theorem zy_mu {v n : Int} (hv : 0 ≤ v ∧ v ≤ 999) (hn : 0 ≤ n ∧ n ≤ 270) : 0 ≤ v * n ∧ v * n ≤ 269730 ∧ zx_op 81 v n = v * n := by
  have h1 : 0 ≤ v * n := Int.mul_nonneg hv.1 hn.1
  have h2 : v * n ≤ 999 * 270 := Int.mul_le_mul hv.2 hn.2 hn.1 (by decide)
  refine ⟨h1, by omega, ?_⟩
  show (Int32.ofInt v * Int32.ofInt n).toInt = v * n
  rw [← Int32.ofInt_mul]
  exact Int32.toInt_ofInt_of_le (by omega) (by omega)
theorem zy_op7 {s : Int} (h1 : -1000000 ≤ s) (h2 : s ≤ 1000000) : zx_op 7 s 0 = s := by
  show (Int32.ofInt s).toInt = s
  exact Int32.toInt_ofInt_of_le (by omega) (by omega)
/-- what is left behind so many barns -/
def zy_lv1 (N : Nat → Int) (v ba al : Int) (K : Nat) (s : Int) : Prop := 0 ≤ s ∧ s ≤ v ∧ ((1 ≤ al ∧ ∃ Q : Int, s = v - Q ∧ al * Q ≤ v * zy_sm N K ∧ v * zy_sm N K + (K : Int) ≤ al * Q + (K : Int) * al) ∨ (al = 0 ∧ s = v - (K : Int) * (v / ba)))
theorem zy_lv1_s {N : Nat → Int} {v ba al s : Int} {K : Nat} (hv : 0 ≤ v ∧ v ≤ 999) (hb : 1 ≤ ba) (hN : ∀ k, 0 ≤ N k ∧ N k ≤ 270) (hal : al = zy_sm N ba.toNat) (hk : (K : Int) + 1 ≤ ba) (h : zy_lv1 N v ba al K s) : zy_lv1 N v ba al (K + 1) (zx_op 7 (s - (if 1 ≤ al then zx_op 6 (zx_op 81 v (N K)) al else zx_op 6 v ba)) 0) := by
  obtain ⟨h1, h2, h3⟩ := h
  obtain ⟨m1, m2, m3⟩ := zy_mu hv (hN K)
  rcases h3 with ⟨h3, Q, h4, h5, h6⟩ | ⟨h3, h4⟩
  · rw [if_pos h3, m3]
    show zy_lv1 N v ba al (K + 1) (zx_op 7 (s - v * N K / al) 0)
    have q0 : 0 ≤ v * N K / al := Int.ediv_nonneg m1 (by omega)
    have q1 : al * (v * N K / al) ≤ v * N K := Int.mul_ediv_self_le (by omega)
    have q2 : v * N K < al * (v * N K / al) + al := Int.lt_mul_ediv_self_add (by omega)
    generalize v * N K / al = w at q0 q1 q2 ⊢
    have hs : zy_sm N (K + 1) = zy_sm N K + N K := rfl
    have hle : zy_sm N (K + 1) ≤ al := by
      rw [hal]
      exact zy_sm_m (fun k => (hN k).1) (by omega)
    have r1 : al * (Q + w) ≤ v * zy_sm N (K + 1) := by
      rw [hs, Int.mul_add, Int.mul_add]
      omega
    have r2 : v * zy_sm N (K + 1) ≤ v * al := Int.mul_le_mul_of_nonneg_left hle hv.1
    have r3 : Q + w ≤ v := by
      have : al * (Q + w) ≤ al * v := by
        rw [Int.mul_comm al v]
        omega
      exact Int.le_of_mul_le_mul_left this (by omega)
    rw [zy_op7 (by omega) (by omega)]
    refine ⟨by omega, by omega, Or.inl ⟨h3, Q + w, by omega, r1, ?_⟩⟩
    rw [hs, Int.mul_add, Int.mul_add]
    push_cast
    rw [Int.add_mul, Int.one_mul]
    omega
  · rw [if_neg (by omega)]
    show zy_lv1 N v ba al (K + 1) (zx_op 7 (s - v / ba) 0)
    have q0 : 0 ≤ v / ba := Int.ediv_nonneg hv.1 (by omega)
    have q1 : ba * (v / ba) ≤ v := Int.mul_ediv_self_le (by omega)
    obtain ⟨w, hw⟩ : ∃ w, v / ba = w := ⟨_, rfl⟩
    rw [hw] at q0 q1 h4
    rw [hw]
    have q2 : ((K : Int) + 1) * w ≤ ba * w := Int.mul_le_mul_of_nonneg_right hk q0
    rw [Int.add_mul, Int.one_mul] at q2
    have q3 : 0 ≤ (K : Int) * w := Int.mul_nonneg (by omega) q0
    rw [zy_op7 (by omega) (by omega)]
    refine ⟨by omega, by omega, Or.inr ⟨h3, ?_⟩⟩
    push_cast
    rw [hw, Int.add_mul, Int.one_mul]
    omega
theorem zy_lfr {p q : zx_Rw} {v ba bo al : Int} (hv : 0 ≤ v ∧ v ≤ 999) (hb : 1 ≤ ba) (hn : ∀ j : Nat, 0 ≤ q j ∧ q j ≤ 30) (hal : al = zy_sm (zy_nq p q bo) ba.toNat) : ∀ K : Nat, ∃ d s, zx_F 131 [p, q] [v, ba, bo, al] K = ([d, s], []) ∧ ((d = 0 ∧ (K : Int) ≤ ba ∧ zy_lv1 (zy_nq p q bo) v ba al K s) ∨ (d ≠ 0 ∧ zy_lv1 (zy_nq p q bo) v ba al ba.toNat s))
  | 0 => ⟨0, v, zy_lf_0, Or.inl ⟨rfl, by omega, hv.1, Int.le_refl _, by
      have h0 : 0 ≤ al := by
        rw [hal]
        exact zy_sm_m (fun k => (zy_nq_b hn k).1) (Nat.zero_le _)
      by_cases ha : 1 ≤ al
      · exact Or.inl ⟨ha, 0, by omega, by rw [show zy_sm (zy_nq p q bo) 0 = 0 from rfl, Int.mul_zero, Int.mul_zero]; exact Int.le_refl _, by rw [show zy_sm (zy_nq p q bo) 0 = 0 from rfl]; simp⟩
      · exact Or.inr ⟨by omega, by simp⟩⟩⟩
  | K + 1 => by
    obtain ⟨d, s, e, h⟩ := zy_lfr (p := p) (q := q) (bo := bo) hv hb hn hal K
    have eG : ∀ P K, zx_G 131 129 [p, q] P K = zx_F 129 [p, q] P K := fun P K => zx_G_F (by decide) _ _ _
    rcases h with ⟨h1, h2, h3⟩ | ⟨h1, h2⟩
    · subst h1
      have e2 := zy_lf_s e
      simp only [eG, zy_if] at e2
      by_cases hk : (K : Int) + 1 ≤ ba
      · simp only [if_pos hk] at e2
        have h4 := zy_lv1_s hv hb (zy_nq_b hn) hal hk h3
        exact ⟨0, _, e2, Or.inl ⟨rfl, by push_cast; omega, h4⟩⟩
      · simp only [if_neg hk] at e2
        have ek : K = ba.toNat := by omega
        exact ⟨1, _, e2, Or.inr ⟨by decide, by rw [← ek]; exact h3⟩⟩
    · exact ⟨d, s, zy_stay e h1, Or.inr ⟨h1, h2⟩⟩
theorem zy_left {p q : zx_Rw} {v ba bo al lf d1 d2 : Int} {K1 K2 : Nat} (hv : 0 ≤ v ∧ v ≤ 999) (hb : 1 ≤ ba) (hn : ∀ j : Nat, 0 ≤ q j ∧ q j ≤ 30) (h1 : zx_F 130 [p, q] [ba, bo] K1 = ([d1, al], [])) (hd1 : d1 ≠ 0) (h2 : zx_F 131 [p, q] [v, ba, bo, al] K2 = ([d2, lf], [])) (hd2 : d2 ≠ 0) : 0 ≤ lf ∧ lf + 1 ≤ ba := by
  have hal : al = zy_sm (zy_nq p q bo) ba.toNat := by
    obtain ⟨d, s, e, h⟩ := zy_anr (p := p) (q := q) (ba := ba) (bo := bo) (by omega) K1
    rw [h1] at e
    have ed : d1 = d := congrArg (fun x => x.1.getD 0 0) e
    have es : al = s := congrArg (fun x => x.1.getD 1 0) e
    rcases h with ⟨h, -⟩ | ⟨-, h⟩
    · exact absurd (ed.trans h) hd1
    · exact es.trans h
  obtain ⟨d, s, e, h⟩ := zy_lfr (p := p) (q := q) (bo := bo) hv hb hn hal K2
  rw [h2] at e
  have ed : d2 = d := congrArg (fun x => x.1.getD 0 0) e
  have es : lf = s := congrArg (fun x => x.1.getD 1 0) e
  rcases h with ⟨h, -⟩ | ⟨-, h⟩
  · exact absurd (ed.trans h) hd2
  · rw [es]
    obtain ⟨g1, g2, g3⟩ := h
    have eb : ((ba.toNat : Nat) : Int) = ba := Int.toNat_of_nonneg (by omega)
    rw [eb] at g3
    refine ⟨g1, ?_⟩
    rcases g3 with ⟨g3, Q, g4, g5, g6⟩ | ⟨g3, g4⟩
    · rw [← hal] at g5 g6
      have r : al * s = al * v - al * Q := by rw [g4, Int.mul_sub]
      have r2 : al * s < al * ba := by
        rw [r, Int.mul_comm al v, Int.mul_comm al ba]
        omega
      have := Int.lt_of_mul_lt_mul_left r2 (by omega)
      omega
    · have := Int.lt_mul_ediv_self_add (x := v) (k := ba) (by omega)
      omega
/-! less than the divisor -/
theorem zy_d0 {x y : Int} (hx : 0 ≤ x) (hxy : x + 1 ≤ y) (hy : (Int32.ofInt y).toInt = y) : Int32.ofInt x / Int32.ofInt y = 0 := by
  have h := Int32.toInt_lt (Int32.ofInt y)
  rw [hy] at h
  have ex : (Int32.ofInt x).toInt = x := Int32.toInt_ofInt_of_le (by omega) (by omega)
  apply Int32.toInt_inj.mp
  rw [Int32.toInt_div, ex, hy, Int.tdiv_eq_ediv_of_nonneg hx, Int.ediv_eq_zero_of_lt hx (by omega)]
  decide
def zk_dm1 (q : zk_G) (N : zk_N) : Option zk_N := match zk_as 80 q with
  | some ([], [o, x, y, w]) => match zk_n2 N x && zk_n2 N (zk_vsub (zk_vsub y x) (zk_c 1)) && zk_in N y && zk_in N w with
    | true => match zk_eqE N o (zk_c 2) with
      | true => zk_eqs N w
      | false => match zk_eqE N o (zk_c 3) with
        | true => zk_eqs N (zk_vsub w x)
        | false => some N
    | false => some N
  | _ => some N
theorem zk_dm1_gd {E : zk_E} {n : Nat} {q : zk_G} (hq : zk_tru E n q) : zk_gd E n (zk_dm1 q) := by
  intro N hN hc hn
  unfold zk_dm1
  split
  · rename_i o x y w hu
    have e := zk_as_of hu
    subst e
    obtain ⟨h1, -, h3⟩ := hq
    simp only [List.map_cons, List.map_nil, zq_6, zq_7, zq_8, zq_9, zq_20, zq_21, zq_22, zq_25, zq_26, zq_28, zq_30, zq_40, zq_51, zq_52, zq_53, zq_54, zq_55, zq_64, zq_65, zq_68, zq_72, zq_73, zq_85, zq_74, zq_75, zq_76, zq_71, zq_86, zq_87, zq_80, zq_41, zq_42, zq_43, zq_94, zq_95, zq_47, zq_48, zq_96, zq_97, zq_88, zq_89, zq_90, zq_93, zq_61, zq_62, zq_1, zq_2, zq_3, zq_4, zq_5] at h1
    split
    · rename_i c
      simp only [Bool.and_eq_true] at c
      obtain ⟨⟨⟨c1, c2⟩, c3⟩, c4⟩ := c
      have c1 := zk_n2_ok hN c1
      have c2 := zk_n2_ok hN c2
      have c3 := zk_in_ok hN c3
      have c4 := zk_in_ok hN c4
      rw [zk_vsub_i, zk_vsub_i, zk_c_i] at c2
      have hd := zy_d0 c1 (by omega) c3
      split
      · rename_i d
        have d := zk_eqE_of hN d
        rw [zk_c_i] at d
        rw [d] at h1
        have h1 : Int32.ofInt (zk_i E w) = Int32.ofInt (zk_i E x) / Int32.ofInt (zk_i E y) := h1
        refine zk_eqsg ?_ (h3 _ (by simp)) N hN hc hn
        rw [← c4, h1, hd]
        exact Int32.toInt_zero
      · split
        · rename_i d
          have d := zk_eqE_of hN d
          rw [zk_c_i] at d
          rw [d] at h1
          have h1 : Int32.ofInt (zk_i E w) = Int32.ofInt (zk_i E x) - Int32.ofInt (zk_i E x) / Int32.ofInt (zk_i E y) * Int32.ofInt (zk_i E y) := h1
          rw [hd, Int32.zero_mul, Int32.sub_zero] at h1
          have hy := Int32.toInt_lt (Int32.ofInt (zk_i E y))
          rw [c3] at hy
          have ex : (Int32.ofInt (zk_i E x)).toInt = zk_i E x := Int32.toInt_ofInt_of_le (by omega) (by omega)
          refine zk_eqsg ?_ (zk_vsub_sv (h3 _ (by simp)) (h3 _ (by simp))) N hN hc hn
          rw [zk_vsub_i, ← c4, h1, ex]
          omega
        · exact zk_id_gd N hN hc hn
    · exact zk_id_gd N hN hc hn
  · exact zk_id_gd N hN hc hn
def zk_rdm : zk_Rl := zk_nr (zk_on (zk_kd 80) zk_dm1)
theorem zk_rdm_ok : zk_Rok zk_rdm := zk_nr_ok fun E n => zk_on_gd fun N h hc hn p hp => zk_dm1_gd (zk_trs h hc hn p (zk_kd_m hp))
/-! the same worked out twice -/
def zk_cq2 (o x y w : zk_V) (q : zk_G) (N : zk_N) : Option zk_N := match zk_as 80 q with
  | some ([], [o', x', y', w']) => match !(zk_eqv w w') && zk_eqE N o o' && zk_eqE N x x' && zk_eqE N y y' && zk_in N w && zk_in N w' with
    | true => zk_eqs N (zk_vsub w w')
    | false => some N
  | _ => some N
def zk_cq1 (q : zk_G) (N : zk_N) : Option zk_N := match zk_as 80 q with
  | some ([], [o, x, y, w]) => zk_on (zk_kd 80) (zk_cq2 o x y w) N
  | _ => some N
theorem zk_cq1_gd {E : zk_E} {n : Nat} {q : zk_G} (hq : zk_tru E n q) : zk_gd E n (zk_cq1 q) := by
  intro N hN hc hn
  unfold zk_cq1
  split
  · rename_i o x y w hu
    have e := zk_as_of hu
    subst e
    obtain ⟨h1, -, h3⟩ := hq
    simp only [List.map_cons, List.map_nil, zq_6, zq_7, zq_8, zq_9, zq_20, zq_21, zq_22, zq_25, zq_26, zq_28, zq_30, zq_40, zq_51, zq_52, zq_53, zq_54, zq_55, zq_64, zq_65, zq_68, zq_72, zq_73, zq_85, zq_74, zq_75, zq_76, zq_71, zq_86, zq_87, zq_80, zq_41, zq_42, zq_43, zq_94, zq_95, zq_47, zq_48, zq_96, zq_97, zq_88, zq_89, zq_90, zq_93, zq_61, zq_62, zq_1, zq_2, zq_3, zq_4, zq_5] at h1
    refine zk_on_gd (E := E) (n := n) (h := zk_kd 80) (f := zk_cq2 o x y w) (fun N0 hN0 hc0 hn0 r hr => ?_) N hN hc hn
    have hrt := zk_trs hN0 hc0 hn0 r (zk_kd_m hr)
    intro N1 hN1 hc1 hn1
    unfold zk_cq2
    split
    · rename_i o' x' y' w' hu2
      have e2 := zk_as_of hu2
      subst e2
      obtain ⟨g1, -, g3⟩ := hrt
      simp only [List.map_cons, List.map_nil, zq_6, zq_7, zq_8, zq_9, zq_20, zq_21, zq_22, zq_25, zq_26, zq_28, zq_30, zq_40, zq_51, zq_52, zq_53, zq_54, zq_55, zq_64, zq_65, zq_68, zq_72, zq_73, zq_85, zq_74, zq_75, zq_76, zq_71, zq_86, zq_87, zq_80, zq_41, zq_42, zq_43, zq_94, zq_95, zq_47, zq_48, zq_96, zq_97, zq_88, zq_89, zq_90, zq_93, zq_61, zq_62, zq_1, zq_2, zq_3, zq_4, zq_5] at g1
      split
      · rename_i c
        simp only [Bool.and_eq_true] at c
        obtain ⟨⟨⟨⟨⟨-, c1⟩, c2⟩, c3⟩, c4⟩, c5⟩ := c
        have c1 := zk_eqE_of hN1 c1
        have c2 := zk_eqE_of hN1 c2
        have c3 := zk_eqE_of hN1 c3
        have c4 := zk_in_ok hN1 c4
        have c5 := zk_in_ok hN1 c5
        refine zk_eqsg ?_ (zk_vsub_sv (h3 _ (by simp)) (g3 _ (by simp))) N1 hN1 hc1 hn1
        rw [zk_vsub_i, ← c4, ← c5, h1, g1, c1, c2, c3]
        omega
      · exact zk_id_gd N1 hN1 hc1 hn1
    · exact zk_id_gd N1 hN1 hc1 hn1
  · exact zk_id_gd N hN hc hn
def zk_cq4 (x y w : zk_V) (q : zk_G) (N : zk_N) : Option zk_N := match zk_as 6 q with
  | some ([], [x', y', w']) => match !(zk_eqv w w') && zk_eqE N x x' && zk_eqE N y y' && zk_n2 N x && zk_n2 N (zk_vsub y (zk_c 1)) with
    | true => zk_eqs N (zk_vsub w w')
    | false => some N
  | _ => some N
def zk_cq3 (q : zk_G) (N : zk_N) : Option zk_N := match zk_as 6 q with
  | some ([], [x, y, w]) => zk_on (zk_kd 6) (zk_cq4 x y w) N
  | _ => some N
theorem zk_cq3_gd {E : zk_E} {n : Nat} {q : zk_G} (hq : zk_tru E n q) : zk_gd E n (zk_cq3 q) := by
  intro N hN hc hn
  unfold zk_cq3
  split
  · rename_i x y w hu
    have e := zk_as_of hu
    subst e
    obtain ⟨h1, -, h3⟩ := hq
    simp only [List.map_cons, List.map_nil, zq_6, zq_7, zq_8, zq_9, zq_20, zq_21, zq_22, zq_25, zq_26, zq_28, zq_30, zq_40, zq_51, zq_52, zq_53, zq_54, zq_55, zq_64, zq_65, zq_68, zq_72, zq_73, zq_85, zq_74, zq_75, zq_76, zq_71, zq_86, zq_87, zq_80, zq_41, zq_42, zq_43, zq_94, zq_95, zq_47, zq_48, zq_96, zq_97, zq_88, zq_89, zq_90, zq_93, zq_61, zq_62, zq_1, zq_2, zq_3, zq_4, zq_5] at h1
    refine zk_on_gd (E := E) (n := n) (h := zk_kd 6) (f := zk_cq4 x y w) (fun N0 hN0 hc0 hn0 r hr => ?_) N hN hc hn
    have hrt := zk_trs hN0 hc0 hn0 r (zk_kd_m hr)
    intro N1 hN1 hc1 hn1
    unfold zk_cq4
    split
    · rename_i x' y' w' hu2
      have e2 := zk_as_of hu2
      subst e2
      obtain ⟨g1, -, g3⟩ := hrt
      simp only [List.map_cons, List.map_nil, zq_6, zq_7, zq_8, zq_9, zq_20, zq_21, zq_22, zq_25, zq_26, zq_28, zq_30, zq_40, zq_51, zq_52, zq_53, zq_54, zq_55, zq_64, zq_65, zq_68, zq_72, zq_73, zq_85, zq_74, zq_75, zq_76, zq_71, zq_86, zq_87, zq_80, zq_41, zq_42, zq_43, zq_94, zq_95, zq_47, zq_48, zq_96, zq_97, zq_88, zq_89, zq_90, zq_93, zq_61, zq_62, zq_1, zq_2, zq_3, zq_4, zq_5] at g1
      split
      · rename_i c
        simp only [Bool.and_eq_true] at c
        obtain ⟨⟨⟨⟨-, c1⟩, c2⟩, c3⟩, c4⟩ := c
        have c1 := zk_eqE_of hN1 c1
        have c2 := zk_eqE_of hN1 c2
        have c3 := zk_n2_ok hN1 c3
        have c4 := zk_n2_ok hN1 c4
        rw [zk_vsub_i, zk_c_i] at c4
        refine zk_eqsg ?_ (zk_vsub_sv (h3 _ (by simp)) (g3 _ (by simp))) N1 hN1 hc1 hn1
        rw [zk_vsub_i, h1 c3 (by omega), g1 (by omega) (by omega), c1, c2]
        omega
      · exact zk_id_gd N1 hN1 hc1 hn1
    · exact zk_id_gd N1 hN1 hc1 hn1
  · exact zk_id_gd N hN hc hn
def zk_rcq : zk_Rl := zk_nr (zk_sq (zk_on (zk_kd 80) zk_cq1) (zk_on (zk_kd 6) zk_cq3))
theorem zk_rcq_ok : zk_Rok zk_rcq := zk_nr_ok fun E n => zk_sq_gd (zk_on_gd fun N h hc hn p hp => zk_cq1_gd (zk_trs h hc hn p (zk_kd_m hp))) (zk_on_gd fun N h hc hn p hp => zk_cq3_gd (zk_trs h hc hn p (zk_kd_m hp)))
/-! what is left of so much, shared -/
def zk_lf2 (N : zk_N) (p r : Nat) (ba bo al : zk_V) (q : zk_G) : Bool := match zk_as 90 q with
  | some ([p', r'], [i, _, ba', bo', d, al']) => zk_eqi (zk_fci N i) 130 && Nat.beq p' p && Nat.beq r' r && zk_eqE N ba' ba && zk_eqE N bo' bo && zk_nz N d && zk_eqE N al' al
  | _ => false
def zk_lf1 (q : zk_G) (N : zk_N) : Option zk_N := match zk_as 90 q with
  | some ([p, r], [i, _, v, ba, bo, al, d, lf]) => match zk_eqi (zk_fci N i) 131 && zk_nz N d && zk_n2 N v && zk_n2 N (zk_vsub (zk_c 999) v) && zk_n2 N (zk_vsub ba (zk_c 1)) && (zk_kd 90 N).any (zk_lf2 N p r ba bo al), zk_eb r N.2.2.2 with
    | true, some b => match zk_le 0 b.1 && zk_le b.2 30 with
      | true => zk_sq (fun N => zk_asm N lf) (fun N => zk_asm N (zk_vsub (zk_vsub ba (zk_c 1)) lf)) N
      | false => some N
    | _, _ => some N
  | _ => some N
theorem zk_lf1_gd {E : zk_E} {n : Nat} {q : zk_G} (hq : zk_tru E n q) : zk_gd E n (zk_lf1 q) := by
  intro N hN hc hn
  unfold zk_lf1
  split
  · rename_i p r i K v ba bo al d lf hu
    have e := zk_as_of hu
    subst e
    obtain ⟨h1, -, h3⟩ := hq
    split
    · rename_i b c hb
      simp only [Bool.and_eq_true] at c
      obtain ⟨⟨⟨⟨⟨c1, c2⟩, c3⟩, c4⟩, c5⟩, c6⟩ := c
      have c1 := zk_fci_of (n := 131) hN c1
      have c2 := zk_nz_ok hN c2
      have c3 := zk_n2_ok hN c3
      have c4 := zk_n2_ok hN c4
      have c5 := zk_n2_ok hN c5
      rw [zk_vsub_i, zk_c_i] at c4 c5
      split
      · rename_i hb2
        rw [Bool.and_eq_true] at hb2
        have b1 := zk_le_of hb2.1
        have b2 := zk_le_of hb2.2
        obtain ⟨y, hy, c6⟩ := List.any_eq_true.mp c6
        obtain ⟨t1, -, -⟩ := zk_tru_of hN hc y (zk_kd_m hy)
        unfold zk_lf2 at c6
        split at c6
        · rename_i p' r' i' K' ba' bo' d' al' hu2
          have e2 := zk_as_of hu2
          subst e2
          simp only [Bool.and_eq_true] at c6
          obtain ⟨⟨⟨⟨⟨⟨k1, k2⟩, k3⟩, k4⟩, k5⟩, k6⟩, k7⟩ := c6
          have k1 := zk_fci_of (n := 130) hN k1
          have k2 := Nat.eq_of_beq_eq_true k2
          have k3 := Nat.eq_of_beq_eq_true k3
          have k4 := zk_eqE_of hN k4
          have k5 := zk_eqE_of hN k5
          have k6 := zk_nz_ok hN k6
          have k7 := zk_eqE_of hN k7
          simp only [List.map_cons, List.map_nil, zq_6, zq_7, zq_8, zq_9, zq_20, zq_21, zq_22, zq_25, zq_26, zq_28, zq_30, zq_40, zq_51, zq_52, zq_53, zq_54, zq_55, zq_64, zq_65, zq_68, zq_72, zq_73, zq_85, zq_74, zq_75, zq_76, zq_71, zq_86, zq_87, zq_80, zq_41, zq_42, zq_43, zq_94, zq_95, zq_47, zq_48, zq_96, zq_97, zq_88, zq_89, zq_90, zq_93, zq_61, zq_62, zq_1, zq_2, zq_3, zq_4, zq_5, zx_90] at h1 t1
          rw [c1] at h1
          rw [k1] at t1
          obtain ⟨-, -, hF⟩ := h1
          obtain ⟨-, -, tF⟩ := t1
          have hF : zx_F 131 [E.2 p, E.2 r] [zk_i E v, zk_i E ba, zk_i E bo, zk_i E al] (zk_i E K).toNat = ([zk_i E d, zk_i E lf], []) := hF
          have tF : zx_F 130 [E.2 p', E.2 r'] [zk_i E ba', zk_i E bo'] (zk_i E K').toNat = ([zk_i E d', zk_i E al'], []) := tF
          rw [k2, k3, k4, k5, k7] at tF
          have hn2 : ∀ j : Nat, 0 ≤ E.2 r j ∧ E.2 r j ≤ 30 := fun j => by
            have := zk_eb_ok hN hb j
            omega
          obtain ⟨r1, r2⟩ := zy_left ⟨c3, by omega⟩ (by omega) hn2 tF k6 hF c2
          refine zk_sq_gd (zk_asmg r1 (h3 _ (by simp))) (zk_asmg ?_ (zk_vsub_sv (zk_vsub_sv (h3 _ (by simp)) zk_c_sv) (h3 _ (by simp)))) N hN hc hn
          rw [zk_vsub_i, zk_vsub_i, zk_c_i]
          omega
        · cases c6
      · exact zk_id_gd N hN hc hn
    · exact zk_id_gd N hN hc hn
  · exact zk_id_gd N hN hc hn
def zk_rlf : zk_Rl := zk_nr (zk_on (zk_kd 90) zk_lf1)
theorem zk_rlf_ok : zk_Rok zk_rlf := zk_nr_ok fun E n => zk_on_gd fun N h hc hn p hp => zk_lf1_gd (zk_trs h hc hn p (zk_kd_m hp))

end
