noncomputable section
/-! WHAT IS LAID, held against rows written -/
/-- the row that a store of so much at a place made of a row -/
def zk_fst (N : zk_N) (g : Nat) (i v : zk_V) : List zk_G → Option Nat
  | [] => none
  | q :: l => match Nat.beq q.1 2 with
    | true => match q.2 with
      | ([f, g'], [i', v']) => match Nat.beq g g' && zk_eqE N i i' && zk_eqE N v v' with
        | true => some f
        | false => zk_fst N g i v l
      | _ => zk_fst N g i v l
    | false => zk_fst N g i v l
theorem zk_fst_m {N : zk_N} {g f : Nat} {i v : zk_V} : ∀ {l : List zk_G}, zk_fst N g i v l = some f → ∃ i' v', (2, [f, g], [i', v']) ∈ l ∧ zk_eqE N i i' = true ∧ zk_eqE N v v' = true
  | [], hw => by cases hw
  | q :: l, hw => by
    have up : zk_fst N g i v l = some f → ∃ i' v', (2, [f, g], [i', v']) ∈ q :: l ∧ zk_eqE N i i' = true ∧ zk_eqE N v v' = true := fun h => by
      obtain ⟨i', v', h1, h2⟩ := zk_fst_m h
      exact ⟨i', v', List.mem_cons_of_mem _ h1, h2⟩
    obtain ⟨k, q2⟩ := q
    unfold zk_fst at hw
    simp only at hw
    split at hw
    · rename_i hk
      have hk := Nat.eq_of_beq_eq_true hk
      subst hk
      split at hw
      · rename_i f' g' i' v'
        split at hw
        · rename_i c
          simp only [Bool.and_eq_true] at c
          have c1 := Nat.eq_of_beq_eq_true c.1.1
          subst c1
          cases hw
          exact ⟨i', v', List.mem_cons_self, c.1.2, c.2⟩
        · exact up hw
      · exact up hw
    · exact up hw
theorem zk_fst_of {E : zk_E} {N : zk_N} (h : zk_ok E N) {g f : Nat} {i v : zk_V} (hw : zk_fst N g i v N.2.2.2 = some f) : E.2 f = fun t => if t = (zk_i E i).toNat then zk_i E v else E.2 g t := by
  obtain ⟨i', v', h1, h2, h3⟩ := zk_fst_m hw
  have t := h.2.2 _ h1
  have h2 := zk_eqE_of h h2
  have h3 := zk_eqE_of h h3
  simp only [List.map_cons, List.map_nil, zk_S] at t
  rw [t, h2, h3]
theorem zk_fst_lt {N : zk_N} (hc : zk_cl N) {g f : Nat} {i v : zk_V} (hw : zk_fst N g i v N.2.2.2 = some f) : f < N.1 := by
  obtain ⟨i', v', h1, -⟩ := zk_fst_m hw
  exact (hc.2.2 _ h1).1 _ (by simp)
/-- what a told function laid, known: the row and the place behind it -/
def zk_f89 (N : zk_N) (g id : Nat) (rs : List Nat) (ps : List zk_V) (K : zk_V) (s : Nat) (p : zk_V) : List zk_G → Option (Nat × zk_V)
  | [] => none
  | q :: l => match Nat.beq q.1 89 with
    | true => match q.2 with
      | (s0 :: s1 :: rs', g' :: i' :: K' :: p0 :: p1 :: v') => match zk_eqi (zk_fci N g') (Int.ofNat g) && zk_eqi (zk_fci N i') (Int.ofNat id) && zk_eqNs rs rs' && zk_eqE N K K' && zk_eqEs N ps (v'.take (zx_dn id).1) && Nat.beq s s0 && zk_eqE N p p0 with
        | true => some (s1, p1)
        | false => zk_f89 N g id rs ps K s p l
      | _ => zk_f89 N g id rs ps K s p l
    | false => zk_f89 N g id rs ps K s p l
theorem zk_f89_m {N : zk_N} {g id : Nat} {rs : List Nat} {ps : List zk_V} {K p : zk_V} {s : Nat} {r : Nat × zk_V} : ∀ {l : List zk_G}, zk_f89 N g id rs ps K s p l = some r → ∃ g' i' K' p0 v', (89, s :: r.1 :: rs, g' :: i' :: K' :: p0 :: r.2 :: v') ∈ l ∧ zk_eqi (zk_fci N g') (Int.ofNat g) = true ∧ zk_eqi (zk_fci N i') (Int.ofNat id) = true ∧ zk_eqE N K K' = true ∧ zk_eqEs N ps (v'.take (zx_dn id).1) = true ∧ zk_eqE N p p0 = true
  | [], hw => by cases hw
  | q :: l, hw => by
    have up : zk_f89 N g id rs ps K s p l = some r → ∃ g' i' K' p0 v', (89, s :: r.1 :: rs, g' :: i' :: K' :: p0 :: r.2 :: v') ∈ q :: l ∧ zk_eqi (zk_fci N g') (Int.ofNat g) = true ∧ zk_eqi (zk_fci N i') (Int.ofNat id) = true ∧ zk_eqE N K K' = true ∧ zk_eqEs N ps (v'.take (zx_dn id).1) = true ∧ zk_eqE N p p0 = true := fun h => by
      obtain ⟨g', i', K', p0, v', h1, h2⟩ := zk_f89_m h
      exact ⟨g', i', K', p0, v', List.mem_cons_of_mem _ h1, h2⟩
    obtain ⟨k, q2⟩ := q
    unfold zk_f89 at hw
    simp only at hw
    split at hw
    · rename_i hk
      have hk := Nat.eq_of_beq_eq_true hk
      subst hk
      split at hw
      · rename_i s0 s1 rs' g' i' K' p0 p1 v'
        split at hw
        · rename_i c
          simp only [Bool.and_eq_true] at c
          obtain ⟨⟨⟨⟨⟨⟨c1, c2⟩, c3⟩, c4⟩, c5⟩, c6⟩, c7⟩ := c
          have c3 := zk_eqNs_of c3
          have c6 := Nat.eq_of_beq_eq_true c6
          subst c3 c6
          cases hw
          exact ⟨g', i', K', p0, v', List.mem_cons_self, c1, c2, c4, c5, c7⟩
        · exact up hw
      · exact up hw
    · exact up hw
theorem zk_f89_of {E : zk_E} {N : zk_N} (h : zk_ok E N) {g id : Nat} {rs : List Nat} {ps : List zk_V} {K p : zk_V} {s : Nat} {r : Nat × zk_V} (hw : zk_f89 N g id rs ps K s p N.2.2.2 = some r) : zx_ly (zx_L g id (rs.map E.2) (ps.map (zk_i E)) (zk_i E K).toNat) (E.2 s) (E.2 r.1) (zk_i E p) (zk_i E r.2) := by
  obtain ⟨g', i', K', p0, v', h1, h2, h3, h4, h5, h6⟩ := zk_f89_m hw
  have t := h.2.2 _ h1
  have h2 := zk_fci_of h h2
  have h3 := zk_fci_of h h3
  have h4 := zk_eqE_of h h4
  have h5 := zk_eqEs_of h h5
  have h6 := zk_eqE_of h h6
  simp only [List.map_cons, zq_6, zq_7, zq_8, zq_9, zq_20, zq_21, zq_22, zq_25, zq_26, zq_28, zq_30, zq_40, zq_51, zq_52, zq_53, zq_54, zq_55, zq_64, zq_65, zq_68, zq_72, zq_73, zq_85, zq_74, zq_75, zq_76, zq_71, zq_86, zq_87, zq_80, zq_41, zq_42, zq_43, zq_94, zq_95, zq_47, zq_48, zq_96, zq_97, zq_88, zq_89, zq_90, zq_93, zq_61, zq_62, zq_1, zq_2, zq_3, zq_4, zq_5, zx_89] at t
  rw [h2, h3, Int.toNat_natCast, Int.toNat_natCast, ← List.map_take] at t
  rw [h4, h5, h6]
  exact t.2.2.2.2
theorem zk_f89_lt {N : zk_N} (hc : zk_cl N) {g id : Nat} {rs : List Nat} {ps : List zk_V} {K p : zk_V} {s : Nat} {r : Nat × zk_V} (hw : zk_f89 N g id rs ps K s p N.2.2.2 = some r) : r.1 < N.1 ∧ zk_sv N.1 r.2 := by
  obtain ⟨g', i', K', p0, v', h1, -⟩ := zk_f89_m hw
  exact ⟨(hc.2.2 _ h1).1 _ (by simp), (hc.2.2 _ h1).2 _ (by simp)⟩
/-- one piece laid -/
def zk_tp1 (N : zk_N) (g id : Nat) (R : List Nat) (P : List zk_V) (k : zk_V) (S : List zk_V) (q : Nat × List (List zx_I) × List Nat) (s : Nat) (p : zk_V) : Option (Nat × zk_V) := match q with
  | (0, x :: _, _) => match zk_sev N id R [] P k S x with
    | some v => match zk_fst N s p v N.2.2.2 with
      | some s' => some (s', zk_vadd p (zk_c 1))
      | none => none
    | none => none
  | (1, e :: xs, i :: rs) => match Nat.blt i id, zk_gts R [] rs, zk_sevs N id R [] P k S xs, zk_sev N id R [] P k S e with
    | true, some rs', some ps, some K => zk_f89 N g i rs' ps K s p N.2.2.2
    | _, _, _, _ => none
  | _ => none
theorem zk_tp1_of {E : zk_E} {N : zk_N} (h : zk_ok E N) {g id : Nat} {R : List Nat} {P S : List zk_V} {k : zk_V} {q : Nat × List (List zx_I) × List Nat} {s : Nat} {p : zk_V} {r : Nat × zk_V} (hp : 0 ≤ zk_i E p) (hw : zk_tp1 N g id R P k S q s p = some r) : zx_ly (zx_p1 (zx_G id) (zx_LG g id) (R.map E.2) (P.map (zk_i E)) (zk_i E k) (S.map (zk_i E)) q) (E.2 s) (E.2 r.1) (zk_i E p) (zk_i E r.2) := by
  unfold zk_tp1 at hw
  split at hw
  · split at hw
    · rename_i v hv
      split at hw
      · rename_i s' hs
        cases hw
        have e := zk_sev_of h hv
        simp only [zx_p1, zk_vadd_i, zk_c_i]
        rw [List.map_nil] at e
        rw [← e]
        exact zx_ly_one hp (zk_fst_of h hs)
      · cases hw
    · cases hw
  · split at hw
    · rename_i rs' ps K hi h1 h2 h3
      have hi := Nat.blt_eq.mp hi
      have e1 := zk_gts_of (E := E) h1
      have e2 := zk_sevs_of h h2
      have e3 := zk_sev_of h h3
      have e4 := zk_f89_of h hw
      rw [List.map_nil] at e1 e2 e3
      simp only [zx_p1]
      rw [zx_LG_L hi, ← e1, ← e2, ← e3]
      exact e4
    · cases hw
  · cases hw
theorem zk_tp1_lt {N : zk_N} (hc : zk_cl N) {g id : Nat} {R : List Nat} {P S : List zk_V} {k : zk_V} {q : Nat × List (List zx_I) × List Nat} {s : Nat} {p : zk_V} {r : Nat × zk_V} (hp : zk_sv N.1 p) (hw : zk_tp1 N g id R P k S q s p = some r) : r.1 < N.1 ∧ zk_sv N.1 r.2 := by
  unfold zk_tp1 at hw
  split at hw
  · split at hw
    · split at hw
      · rename_i s' hs
        cases hw
        exact ⟨zk_fst_lt hc hs, zk_vadd_sv hp zk_c_sv⟩
      · cases hw
    · cases hw
  · split at hw
    · exact zk_f89_lt hc hw
    · cases hw
  · cases hw
/-- all pieces laid, one behind another -/
def zk_tps (N : zk_N) (g id : Nat) (R : List Nat) (P : List zk_V) (k : zk_V) (S : List zk_V) : List zx_Pc → Nat → zk_V → Option (Nat × zk_V)
  | [], s, p => some (s, p)
  | q :: l, s, p => match zk_b3 N (zk_sev N id R [] P k S q.1) with
    | 0 => zk_tps N g id R P k S l s p
    | 1 => match zk_tp1 N g id R P k S q.2 s p with
      | some r => zk_tps N g id R P k S l r.1 r.2
      | none => none
    | _ => none
theorem zk_tps_of {E : zk_E} {N : zk_N} (h : zk_ok E N) {g id : Nat} {R : List Nat} {P S : List zk_V} {k : zk_V} : ∀ {l : List zx_Pc} {s : Nat} {p : zk_V} {r : Nat × zk_V}, 0 ≤ zk_i E p → zk_tps N g id R P k S l s p = some r → zx_ly (zx_ps (zx_G id) (zx_LG g id) (R.map E.2) (P.map (zk_i E)) (zk_i E k) (S.map (zk_i E)) l) (E.2 s) (E.2 r.1) (zk_i E p) (zk_i E r.2)
  | [], s, p, r, hp, hw => by
    unfold zk_tps at hw
    cases hw
    exact zx_ly_nil hp
  | q :: l, s, p, r, hp, hw => by
    have hb := zk_b3_of h (o := zk_sev N id R [] P k S q.1) (z := zx_ev (zx_G id) (R.map E.2) [] (P.map (zk_i E)) (zk_i E k) (S.map (zk_i E)) q.1) (fun v hv => zk_sev_of h hv)
    unfold zk_tps at hw
    unfold zx_ps
    split at hw
    · rename_i h0
      rw [if_pos (hb.1 h0), List.nil_append]
      exact zk_tps_of h hp hw
    · rename_i h1
      rw [if_neg (hb.2 h1)]
      split at hw
      · rename_i r1 hr
        have e1 := zk_tp1_of h hp hr
        exact zx_ly_app e1 (zk_tps_of h (by have := e1.2.1; omega) hw)
      · cases hw
    · cases hw
theorem zk_tps_lt {N : zk_N} (hc : zk_cl N) {g id : Nat} {R : List Nat} {P S : List zk_V} {k : zk_V} : ∀ {l : List zx_Pc} {s : Nat} {p : zk_V} {r : Nat × zk_V}, s < N.1 → zk_sv N.1 p → zk_tps N g id R P k S l s p = some r → r.1 < N.1 ∧ zk_sv N.1 r.2
  | [], s, p, r, hs, hp, hw => by
    unfold zk_tps at hw
    cases hw
    exact ⟨hs, hp⟩
  | q :: l, s, p, r, hs, hp, hw => by
    unfold zk_tps at hw
    split at hw
    · exact zk_tps_lt hc hs hp hw
    · split at hw
      · rename_i r1 hr
        obtain ⟨k1, k2⟩ := zk_tp1_lt hc hp hr
        exact zk_tps_lt hc k1 k2 hw
      · cases hw
    · cases hw
theorem zx_F_M {id : Nat} {R : List zx_Rw} {P : List Int} (h1 : (zx_dn id).2.1 = 0) (h2 : (zx_dn id).2.2.2.2 = []) : ∀ K, (zx_F id R P K).2 = []
  | 0 => by
    show R.drop (R.length - (zx_dn id).2.1) = []
    rw [h1, Nat.sub_zero, List.drop_length]
  | K + 1 => by
    have ih := zx_F_M (R := R) (P := P) h1 h2 K
    show (if (zx_F id R P K).1.getD 0 0 = 0 then ((zx_dn id).2.2.2.1.map (zx_ev (zx_G id) R (zx_F id R P K).2 P K (zx_F id R P K).1), zx_sto (zx_G id) R (zx_F id R P K).2 P K (zx_F id R P K).1 (zx_dn id).2.2.2.2 (zx_F id R P K).2) else zx_F id R P K).2 = []
    split
    · show zx_sto (zx_G id) R (zx_F id R P K).2 P K (zx_F id R P K).1 (zx_dn id).2.2.2.2 (zx_F id R P K).2 = []
      rw [h2]
      exact ih
    · exact ih
theorem zx_lt_stay {ll : zx_Ll} {g id : Nat} {R : List zx_Rw} {P : List Int} {K : Nat} (h : (zx_F id R P K).1.getD 0 0 ≠ 0) : ∀ {n : Nat}, zx_lt ll g id R P (K + n) = zx_lt ll g id R P K
  | 0 => rfl
  | n + 1 => by
    have e := zx_F_st (K' := K + n) h (by omega)
    show (if (zx_F id R P (K + n)).1.getD 0 0 = 0 then _ else zx_lt ll g id R P (K + n)) = _
    rw [if_neg (by rw [e]; exact h), zx_lt_stay h]
def zk_nost (id : Nat) : Bool := Nat.beq (zx_dn id).2.1 0 && (zx_dn id).2.2.2.2.isEmpty
theorem zk_nost_of {id : Nat} (h : zk_nost id = true) : (zx_dn id).2.1 = 0 ∧ (zx_dn id).2.2.2.2 = [] := by
  unfold zk_nost at h
  rw [Bool.and_eq_true] at h
  exact ⟨Nat.eq_of_beq_eq_true h.1, List.isEmpty_iff.mp h.2⟩
/-- a few turns worked out, with what they lay -/
def zk_unl (N : zk_N) (g id : Nat) (R : List Nat) (P : List zk_V) (s : Nat) (p : zk_V) : Nat → Option (List zk_V × Nat × zk_V)
  | 0 => match zk_sevs N id R [] P (zk_c 0) [] (zx_dn id).2.2.1, zk_tps N g id R P (zk_c 0) [] (zx_pt g id).1 s p with
    | some S, some r => some (S, r)
    | _, _ => none
  | t + 1 => match zk_unl N g id R P s p t with
    | some (S, s', p') => match zk_b3 N (some (zk_hd0 S)) with
      | 0 => match zk_sevs N id R [] P (zk_c (Int.ofNat t)) S (zx_dn id).2.2.2.1, zk_tps N g id R P (zk_c (Int.ofNat t)) S (zx_pt g id).2 s' p' with
        | some S2, some r => some (S2, r)
        | _, _ => none
      | 1 => some (S, s', p')
      | _ => none
    | none => none
theorem zk_unl_of {E : zk_E} {N : zk_N} (h : zk_ok E N) {g id : Nat} (hn : zk_nost id = true) {R : List Nat} {P : List zk_V} {s : Nat} {p : zk_V} (hp : 0 ≤ zk_i E p) : ∀ {t : Nat} {S : List zk_V} {s' : Nat} {p' : zk_V}, zk_unl N g id R P s p t = some (S, s', p') → (zx_F id (R.map E.2) (P.map (zk_i E)) t).1 = S.map (zk_i E) ∧ zx_ly (zx_L g id (R.map E.2) (P.map (zk_i E)) t) (E.2 s) (E.2 s') (zk_i E p) (zk_i E p')
  | 0, S, s', p', hw => by
    unfold zk_unl at hw
    split at hw
    · rename_i S0 r h1 h2
      cases hw
      have e1 := zk_sevs_of h h1
      have e2 := zk_tps_of h hp h2
      rw [zk_c_i] at e1 e2
      refine ⟨?_, e2⟩
      rw [e1]
      rfl
    · cases hw
  | t + 1, S, s', p', hw => by
    obtain ⟨n1, n2⟩ := zk_nost_of hn
    unfold zk_unl at hw
    split at hw
    · rename_i S0 s0 p0 h0
      obtain ⟨i1, i2⟩ := zk_unl_of h hn hp h0
      have hb := zk_b3_of h (o := some (zk_hd0 S0)) (z := zk_i E (zk_hd0 S0)) (zk_sr_some rfl)
      have hd : (zx_F id (R.map E.2) (P.map (zk_i E)) t).1.getD 0 0 = zk_i E (zk_hd0 S0) := by rw [i1, zk_hd0_m]
      have eF : (zx_F id (R.map E.2) (P.map (zk_i E)) (t + 1)) = if (zx_F id (R.map E.2) (P.map (zk_i E)) t).1.getD 0 0 = 0 then ((zx_dn id).2.2.2.1.map (zx_ev (zx_G id) (R.map E.2) (zx_F id (R.map E.2) (P.map (zk_i E)) t).2 (P.map (zk_i E)) (t : Int) (zx_F id (R.map E.2) (P.map (zk_i E)) t).1), zx_sto (zx_G id) (R.map E.2) (zx_F id (R.map E.2) (P.map (zk_i E)) t).2 (P.map (zk_i E)) (t : Int) (zx_F id (R.map E.2) (P.map (zk_i E)) t).1 (zx_dn id).2.2.2.2 (zx_F id (R.map E.2) (P.map (zk_i E)) t).2) else zx_F id (R.map E.2) (P.map (zk_i E)) t := rfl
      have eL : zx_L g id (R.map E.2) (P.map (zk_i E)) (t + 1) = if (zx_F id (R.map E.2) (P.map (zk_i E)) t).1.getD 0 0 = 0 then zx_L g id (R.map E.2) (P.map (zk_i E)) t ++ zx_ps (zx_G id) (zx_LG g id) (R.map E.2) (P.map (zk_i E)) (t : Int) (zx_F id (R.map E.2) (P.map (zk_i E)) t).1 (zx_pt g id).2 else zx_L g id (R.map E.2) (P.map (zk_i E)) t := rfl
      rw [eF, eL, hd]
      split at hw
      · rename_i hz
        rw [if_pos (hb.1 hz), if_pos (hb.1 hz)]
        split at hw
        · rename_i S2 r h1 h2
          cases hw
          have e1 := zk_sevs_of h h1
          have hp0 : 0 ≤ zk_i E p0 := by have := i2.1; have := i2.2.1; omega
          have e2 := zk_tps_of h hp0 h2
          rw [zk_c_i] at e1 e2
          refine ⟨?_, zx_ly_app i2 ?_⟩
          · rw [e1, zx_F_M n1 n2, i1]
            rfl
          · rw [i1]
            exact e2
        · cases hw
      · rename_i hz
        rw [if_neg (hb.2 hz), if_neg (hb.2 hz)]
        cases hw
        exact ⟨i1, i2⟩
      · cases hw
    · cases hw
/-- the same, once it stays -/
def zk_s8 (N : zk_N) (kd : Nat) (rs : List Nat) (g id K p0 p1 : zk_V) (v : List zk_V) (S : List zk_V) (q : zk_G) : Bool := match Nat.beq q.1 kd with
  | true => match q.2 with
    | (rs', g' :: i' :: K' :: p0' :: p1' :: v') => zk_eqNs rs' rs && zk_eqE N g' g && zk_eqE N i' id && zk_n2 N (zk_vsub K K') && zk_eqE N p0' p0 && zk_eqE N p1' p1 && zk_eqEs N v' v && (Nat.beq kd 77 || zk_nz N (zk_hd0 S))
    | _ => false
  | false => false
def zk_ok89 (N : zk_N) : List Nat × List zk_V → Bool
  | (S0 :: S1 :: R, g :: i :: K :: p0 :: p1 :: v) => zk_le 0 (zk_fci N g) && zk_le 0 (zk_fci N i) && zk_nost (zk_fci N i).toNat && zk_n2 N p0 && (
      N.2.2.2.any (zk_s8 N 89 (S0 :: S1 :: R) g i K p0 p1 v (v.drop (zx_dn (zk_fci N i).toNat).1)) || N.2.2.2.any (zk_s8 N 88 (S0 :: S1 :: R) g i K p0 p1 v (v.drop (zx_dn (zk_fci N i).toNat).1))
      || (match zk_cst K with
        | some z => zk_le 0 z && (match zk_unl N (zk_fci N g).toNat (zk_fci N i).toNat R (v.take (zx_dn (zk_fci N i).toNat).1) S0 p0 (match zk_le z 5 with
            | true => z.toNat
            | false => 5) with
          | some (S, s, p) => zk_eqEs N S (v.drop (zx_dn (zk_fci N i).toNat).1) && Nat.beq s S1 && zk_eqE N p p1 && (zk_le z 5 || zk_nz N (zk_hd0 S))
          | none => false)
        | none => false))
  | _ => false
/-- where loops begin: nothing turned yet; or less often than so often -/
def zk_w88 (N : zk_N) (rs : List Nat) (g id b p0 p1 : zk_V) (v : List zk_V) (q : zk_G) : Bool := match Nat.beq q.1 88 with
  | true => match q.2 with
    | (rs', g' :: i' :: b' :: p0' :: p1' :: v') => zk_eqNs rs' rs && zk_eqE N g' g && zk_eqE N i' id && zk_n2 N (zk_vsub b b') && zk_eqE N p0' p0 && zk_eqE N p1' p1 && zk_eqEs N v' v
    | _ => false
  | false => false
def zk_ok88 (N : zk_N) : List Nat × List zk_V → Bool
  | (S0 :: S1 :: R, g :: i :: b :: p0 :: p1 :: v) => zk_le 0 (zk_fci N g) && zk_le 0 (zk_fci N i) && zk_nost (zk_fci N i).toNat && zk_n2 N p0 && (
      N.2.2.2.any (zk_w88 N (S0 :: S1 :: R) g i b p0 p1 v)
      || (zk_n2 N b && (match zk_unl N (zk_fci N g).toNat (zk_fci N i).toNat R (v.take (zx_dn (zk_fci N i).toNat).1) S0 p0 0 with
          | some (S, s, p) => zk_eqEs N S (v.drop (zx_dn (zk_fci N i).toNat).1) && Nat.beq s S1 && zk_eqE N p p1
          | none => false)))
  | _ => false
theorem zk_ok89_of {E : zk_E} {N : zk_N} (h : zk_ok E N) {x : List Nat × List zk_V} (hx : zk_ok89 N x = true) : zx_89 (x.1.map E.2) (x.2.map (zk_i E)) := by
  unfold zk_ok89 at hx
  split at hx
  · rename_i S0 S1 R g i K p0 p1 v
    simp only [Bool.and_eq_true, Bool.or_eq_true, List.any_eq_true] at hx
    obtain ⟨⟨⟨⟨a1, a2⟩, a3⟩, a4⟩, hx⟩ := hx
    have a1 := zk_le_of a1
    have a2 := zk_le_of a2
    have a4 := zk_n2_ok h a4
    have hg := zk_fci_i h a1
    have hi := zk_fci_i h a2
    simp only [List.map_cons, zx_89]
    rw [hg, hi, ← List.map_take, ← List.map_drop]
    refine ⟨a1, a2, ?_⟩
    rcases hx with (⟨q, hq, hx⟩ | ⟨q, hq, hx⟩) | hx
    · obtain ⟨k, q2⟩ := q
      have t := h.2.2 _ hq
      unfold zk_s8 at hx
      simp only at hx t
      split at hx
      · rename_i hk
        have hk := Nat.eq_of_beq_eq_true hk
        subst hk
        split at hx
        · rename_i rs' g' i' K' p0' p1' v'
          simp only [Bool.and_eq_true, Bool.or_eq_true] at hx
          obtain ⟨⟨⟨⟨⟨⟨⟨b1, b2⟩, b3⟩, b4⟩, b5⟩, b6⟩, b7⟩, b8⟩ := hx
          have b1 := zk_eqNs_of b1
          have b2 := zk_eqE_of h b2
          have b3 := zk_eqE_of h b3
          have b4 := zk_n2_ok h b4
          have b5 := zk_eqE_of h b5
          have b6 := zk_eqE_of h b6
          have b7 := zk_eqEs_of h b7
          have b8 := zk_nz_ok h (b8.resolve_left (by decide))
          subst b1
          rw [zk_vsub_i] at b4
          simp only [List.map_cons, zq_6, zq_7, zq_8, zq_9, zq_20, zq_21, zq_22, zq_25, zq_26, zq_28, zq_30, zq_40, zq_51, zq_52, zq_53, zq_54, zq_55, zq_64, zq_65, zq_68, zq_72, zq_73, zq_85, zq_74, zq_75, zq_76, zq_71, zq_86, zq_87, zq_80, zq_41, zq_42, zq_43, zq_94, zq_95, zq_47, zq_48, zq_96, zq_97, zq_88, zq_89, zq_90, zq_93, zq_61, zq_62, zq_1, zq_2, zq_3, zq_4, zq_5, zx_89] at t
          rw [b2, b3, b5, b6, b7, hg, hi, ← List.map_take, ← List.map_drop] at t
          obtain ⟨-, -, t3, t4, t5⟩ := t
          have hd : (zx_F (zk_fci N i).toNat (R.map E.2) ((v.take (zx_dn (zk_fci N i).toNat).1).map (zk_i E)) (zk_i E K').toNat).1.getD 0 0 ≠ 0 := by
            rw [t4, zk_hd0_m]
            exact b8
          refine ⟨by omega, ?_, ?_⟩
          · rw [zx_F_st hd (by omega)]
            exact t4
          · have e := zx_lt_stay (ll := zx_LG (zk_fci N g).toNat (zk_fci N i).toNat) (g := (zk_fci N g).toNat) hd (n := (zk_i E K).toNat - (zk_i E K').toNat)
            rw [Nat.add_sub_cancel' (by omega)] at e
            show zx_ly (zx_lt (zx_LG (zk_fci N g).toNat (zk_fci N i).toNat) (zk_fci N g).toNat (zk_fci N i).toNat (R.map E.2) ((v.take (zx_dn (zk_fci N i).toNat).1).map (zk_i E)) (zk_i E K).toNat) _ _ _ _
            rw [e]
            exact t5
        · cases hx
      · cases hx
    · obtain ⟨k, q2⟩ := q
      have t := h.2.2 _ hq
      unfold zk_s8 at hx
      simp only at hx t
      split at hx
      · rename_i hk
        have hk := Nat.eq_of_beq_eq_true hk
        subst hk
        split at hx
        · rename_i rs' g' i' K' p0' p1' v'
          simp only [Bool.and_eq_true, Bool.or_eq_true] at hx
          obtain ⟨⟨⟨⟨⟨⟨⟨b1, b2⟩, b3⟩, b4⟩, b5⟩, b6⟩, b7⟩, b8⟩ := hx
          have b1 := zk_eqNs_of b1
          have b2 := zk_eqE_of h b2
          have b3 := zk_eqE_of h b3
          have b4 := zk_n2_ok h b4
          have b5 := zk_eqE_of h b5
          have b6 := zk_eqE_of h b6
          have b7 := zk_eqEs_of h b7
          have b8 := zk_nz_ok h (b8.resolve_left (by decide))
          subst b1
          rw [zk_vsub_i] at b4
          simp only [List.map_cons, zq_6, zq_7, zq_8, zq_9, zq_20, zq_21, zq_22, zq_25, zq_26, zq_28, zq_30, zq_40, zq_51, zq_52, zq_53, zq_54, zq_55, zq_64, zq_65, zq_68, zq_72, zq_73, zq_85, zq_74, zq_75, zq_76, zq_71, zq_86, zq_87, zq_80, zq_41, zq_42, zq_43, zq_94, zq_95, zq_47, zq_48, zq_96, zq_97, zq_88, zq_89, zq_90, zq_93, zq_61, zq_62, zq_1, zq_2, zq_3, zq_4, zq_5, zx_88] at t
          rw [b2, b3, b5, b6, b7, hg, hi, ← List.map_take, ← List.map_drop] at t
          obtain ⟨-, -, K0, t3, t4, t5⟩ := t
          have hd : (zx_F (zk_fci N i).toNat (R.map E.2) ((v.take (zx_dn (zk_fci N i).toNat).1).map (zk_i E)) K0).1.getD 0 0 ≠ 0 := by
            rw [t4, zk_hd0_m]
            exact b8
          refine ⟨by omega, ?_, ?_⟩
          · rw [zx_F_st hd (by omega)]
            exact t4
          · have e := zx_lt_stay (ll := zx_LG (zk_fci N g).toNat (zk_fci N i).toNat) (g := (zk_fci N g).toNat) hd (n := (zk_i E K).toNat - K0)
            rw [Nat.add_sub_cancel' (by omega)] at e
            show zx_ly (zx_lt (zx_LG (zk_fci N g).toNat (zk_fci N i).toNat) (zk_fci N g).toNat (zk_fci N i).toNat (R.map E.2) ((v.take (zx_dn (zk_fci N i).toNat).1).map (zk_i E)) (zk_i E K).toNat) _ _ _ _
            rw [e]
            exact t5
        · cases hx
      · cases hx
    · split at hx
      · rename_i z hz
        have hz := zk_cst_of (E := E) hz
        rw [Bool.and_eq_true] at hx
        obtain ⟨c1, hx⟩ := hx
        have c1 := zk_le_of c1
        rw [hz]
        refine ⟨c1, ?_⟩
        split at hx
        · rename_i S s p hu
          simp only [Bool.and_eq_true, Bool.or_eq_true] at hx
          obtain ⟨⟨⟨d1, d2⟩, d3⟩, d4⟩ := hx
          have d1 := zk_eqEs_of h d1
          have d2 := Nat.eq_of_beq_eq_true d2
          have d3 := zk_eqE_of h d3
          subst d2
          obtain ⟨u1, u2⟩ := zk_unl_of h a3 a4 hu
          rw [d1] at u1
          rw [d3] at u2
          by_cases hz5 : z ≤ 5
          · rw [zk_le_true hz5] at u1 u2
            exact ⟨u1, u2⟩
          · rw [zk_le_false hz5] at u1 u2 d4
            have d4 := zk_nz_ok h (d4.resolve_left (by decide))
            have hd : (zx_F (zk_fci N i).toNat (R.map E.2) ((v.take (zx_dn (zk_fci N i).toNat).1).map (zk_i E)) 5).1.getD 0 0 ≠ 0 := by
              rw [u1, ← d1, zk_hd0_m]
              exact d4
            refine ⟨?_, ?_⟩
            · rw [zx_F_st hd (by omega)]
              exact u1
            · have e := zx_lt_stay (ll := zx_LG (zk_fci N g).toNat (zk_fci N i).toNat) (g := (zk_fci N g).toNat) hd (n := z.toNat - 5)
              rw [Nat.add_sub_cancel' (by omega)] at e
              show zx_ly (zx_lt (zx_LG (zk_fci N g).toNat (zk_fci N i).toNat) (zk_fci N g).toNat (zk_fci N i).toNat (R.map E.2) ((v.take (zx_dn (zk_fci N i).toNat).1).map (zk_i E)) z.toNat) _ _ _ _
              rw [e]
              exact u2
        · cases hx
      · cases hx
  · cases hx
theorem zk_ok88_of {E : zk_E} {N : zk_N} (h : zk_ok E N) {x : List Nat × List zk_V} (hx : zk_ok88 N x = true) : zx_88 (x.1.map E.2) (x.2.map (zk_i E)) := by
  unfold zk_ok88 at hx
  split at hx
  · rename_i S0 S1 R g i b p0 p1 v
    simp only [Bool.and_eq_true, Bool.or_eq_true, List.any_eq_true] at hx
    obtain ⟨⟨⟨⟨a1, a2⟩, a3⟩, a4⟩, hx⟩ := hx
    have a1 := zk_le_of a1
    have a2 := zk_le_of a2
    have a4 := zk_n2_ok h a4
    have hg := zk_fci_i h a1
    have hi := zk_fci_i h a2
    simp only [List.map_cons, zx_88]
    rw [hg, hi, ← List.map_take, ← List.map_drop]
    refine ⟨a1, a2, ?_⟩
    rcases hx with ⟨q, hq, hx⟩ | ⟨hb, hx⟩
    · obtain ⟨k, q2⟩ := q
      have t := h.2.2 _ hq
      unfold zk_w88 at hx
      simp only at hx t
      split at hx
      · rename_i hk
        have hk := Nat.eq_of_beq_eq_true hk
        subst hk
        split at hx
        · rename_i rs' g' i' K' p0' p1' v'
          simp only [Bool.and_eq_true] at hx
          obtain ⟨⟨⟨⟨⟨⟨b1, b2⟩, b3⟩, b4⟩, b5⟩, b6⟩, b7⟩ := hx
          have b1 := zk_eqNs_of b1
          have b2 := zk_eqE_of h b2
          have b3 := zk_eqE_of h b3
          have b4 := zk_n2_ok h b4
          have b5 := zk_eqE_of h b5
          have b6 := zk_eqE_of h b6
          have b7 := zk_eqEs_of h b7
          subst b1
          rw [zk_vsub_i] at b4
          simp only [List.map_cons, zq_6, zq_7, zq_8, zq_9, zq_20, zq_21, zq_22, zq_25, zq_26, zq_28, zq_30, zq_40, zq_51, zq_52, zq_53, zq_54, zq_55, zq_64, zq_65, zq_68, zq_72, zq_73, zq_85, zq_74, zq_75, zq_76, zq_71, zq_86, zq_87, zq_80, zq_41, zq_42, zq_43, zq_94, zq_95, zq_47, zq_48, zq_96, zq_97, zq_88, zq_89, zq_90, zq_93, zq_61, zq_62, zq_1, zq_2, zq_3, zq_4, zq_5, zx_88] at t
          rw [b2, b3, b5, b6, b7, hg, hi, ← List.map_take, ← List.map_drop] at t
          obtain ⟨-, -, K0, t3, t4⟩ := t
          exact ⟨K0, by omega, t4⟩
        · cases hx
      · cases hx
    · have hb := zk_n2_ok h hb
      split at hx
      · rename_i S s p hu
        simp only [Bool.and_eq_true] at hx
        obtain ⟨⟨d1, d2⟩, d3⟩ := hx
        have d1 := zk_eqEs_of h d1
        have d2 := Nat.eq_of_beq_eq_true d2
        have d3 := zk_eqE_of h d3
        subst d2
        obtain ⟨u1, u2⟩ := zk_unl_of h a3 a4 hu
        rw [d1] at u1
        rw [d3] at u2
        exact ⟨0, hb, u1, u2⟩
      · cases hx
  · cases hx
end
