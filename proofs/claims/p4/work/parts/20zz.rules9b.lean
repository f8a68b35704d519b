/-! TOLD FUNCTIONS: a turn more; told twice, told alike -/
def zk_as90 (q : zk_G) : Option (List Nat × Nat × zk_V × zk_V × List zk_V × List zk_V) := match zk_as 90 q with
  | some (rs, i :: K :: v) => match zk_le 0 (zk_fcl.zk_fci i) && Nat.ble (zx_dn (zk_fcl.zk_fci i).toNat).1 v.length with
    | true => some (rs, (zk_fcl.zk_fci i).toNat, i, K, v.take (zx_dn (zk_fcl.zk_fci i).toNat).1, v.drop (zx_dn (zk_fcl.zk_fci i).toNat).1)
    | false => none
  | _ => none
theorem zk_as90_of {E : zk_E} {n : Nat} {q : zk_G} (hq : zk_tru E n q) {rs : List Nat} {id : Nat} {i K : zk_V} {P S : List zk_V} (h : zk_as90 q = some (rs, id, i, K, P, S)) : zk_i E i = (id : Int) ∧ 0 ≤ zk_i E K ∧ zx_F id (rs.map E.2) (P.map (zk_i E)) (zk_i E K).toNat = S.map (zk_i E) ∧ P.length = (zx_dn id).1 ∧ (∀ a ∈ rs, a < n) ∧ zk_sv n i ∧ zk_sv n K ∧ (∀ v ∈ P, zk_sv n v) ∧ ∀ v ∈ S, zk_sv n v := by
  unfold zk_as90 at h
  split at h
  · rename_i rs' i' K' v' hu
    have e := zk_as_of hu
    subst e
    obtain ⟨h1, h2, h3⟩ := hq
    split at h
    · rename_i hk
      simp only [Bool.and_eq_true] at hk
      obtain ⟨k1, k2⟩ := hk
      have k1 := zk_le_of k1
      have k2 := Nat.le_of_ble_eq_true k2
      cases h
      have hi := zk_fci_i (E := E) k1
      simp only [List.map_cons, zk_S, zx_S, zx_90] at h1
      rw [hi] at h1
      obtain ⟨t1, t2, t3⟩ := h1
      refine ⟨by rw [hi]; omega, t2, by rw [List.map_take, List.map_drop]; exact t3, ?_, h2, h3 _ (by simp), h3 _ (by simp), fun v hv => h3 v (List.mem_cons_of_mem _ (List.mem_cons_of_mem _ (List.mem_of_mem_take hv))), fun v hv => h3 v (List.mem_cons_of_mem _ (List.mem_cons_of_mem _ (List.mem_of_mem_drop hv)))⟩
      rw [List.length_take]
      omega
    · cases h
  · cases h
/-- a turn more -/
def zk_s90 (N : zk_N) (q : zk_G) : List zk_G := match zk_as90 q with
  | some (rs, id, i, K, P, S) => match zk_eqE N (zk_hd0 S) (zk_c 0) with
    | true => match zk_sevs N id rs P K S (zx_dn id).2.2 with
      | some s => [(90, rs, i :: zk_vadd K (zk_c 1) :: (P ++ s))]
      | none => []
    | false => []
  | none => []
theorem zk_hd0_i {E : zk_E} {S : List zk_V} : (S.map (zk_i E)).getD 0 0 = zk_i E (zk_hd0 S) := by
  cases S with
  | nil => exact (zk_c_i E 0).symm
  | cons a l => rfl
theorem zk_s90_ok {E : zk_E} {N : zk_N} (hN : zk_ok E N) (hc : zk_cl N) {q : zk_G} (hq : q ∈ N.2.2.2) : ∀ x ∈ zk_s90 N q, zk_tru E N.1 x := by
  have ht := zk_tru_of hN hc q hq
  intro x hx
  unfold zk_s90 at hx
  split at hx
  · rename_i rs id i K P S he
    obtain ⟨t1, t2, t3, t4, t5, t6, t7, t8, t9⟩ := zk_as90_of ht he
    split at hx
    · rename_i h0
      have h0 := zk_eqE_of hN h0
      rw [zk_c_i] at h0
      split at hx
      · rename_i s hs
        have e1 := zk_sevs_of hN hs
        have e2 := zk_sevs_sv hc t8 t9 t7 hs
        rw [List.mem_singleton.mp hx]
        refine ⟨?_, t5, fun v hv => ?_⟩
        · simp only [List.map_cons, zk_S, zx_S, zx_90, zk_vadd_i, zk_c_i]
          rw [t1, Int.toNat_natCast, List.map_append]
          have el : (zx_dn id).1 = (P.map (zk_i E)).length := by rw [List.length_map, t4]
          rw [List.take_left' el.symm, List.drop_left' el.symm]
          refine ⟨by omega, by omega, ?_⟩
          rw [show (zk_i E K + 1).toNat = (zk_i E K).toNat + 1 by omega]
          show (if (zx_F id (rs.map E.2) (P.map (zk_i E)) (zk_i E K).toNat).getD 0 0 = 0 then (zx_dn id).2.2.map (zx_ev (zx_G id) (rs.map E.2) (P.map (zk_i E)) ((zk_i E K).toNat : Int) (zx_F id (rs.map E.2) (P.map (zk_i E)) (zk_i E K).toNat)) else _) = _
          rw [t3, if_pos (by rw [zk_hd0_i]; exact h0), show (((zk_i E K).toNat : Nat) : Int) = zk_i E K by omega, e1]
        · rcases List.mem_cons.mp hv with rfl | hv
          · exact t6
          · rcases List.mem_cons.mp hv with rfl | hv
            · exact zk_vadd_sv t7 zk_c_sv
            · rcases List.mem_append.mp hv with hv | hv
              · exact t8 v hv
              · exact e2 v hv
      · cases hx
    · cases hx
  · cases hx
def zk_r90 : zk_Rl := zk_nr fun N => some (zk_addGs N (N.2.2.2.flatMap (zk_s90 N)))
theorem zk_r90_ok : zk_Rok zk_r90 := zk_nr_ok fun E n => zk_add_gd (f := fun N => N.2.2.2.flatMap (zk_s90 N)) fun N hN hc hn x hx => by
  obtain ⟨y, hy1, hy2⟩ := List.mem_flatMap.mp hx
  rw [← hn]
  exact zk_s90_ok hN hc hy1 x hy2
/-- told twice, told alike -/
def zk_eq2 (p : zk_V × zk_V) (N : zk_N) : Option zk_N := zk_eqs N (zk_vsub p.1 p.2)
def zk_u90 (p q : zk_G) (N : zk_N) : Option zk_N := match zk_as90 p, zk_as90 q with
  | some (rs, id, _, K, P, S), some (rs', id', _, K', P', S') => match Nat.beq id id' && zk_eqNs rs rs' && (zk_eqE N K K' || (zk_nz N (zk_hd0 S) && zk_nz N (zk_hd0 S'))) && zk_eqEs N P P' with
    | true => zk_ea zk_eq2 (S.zip S') N
    | false => some N
  | _, _ => some N
theorem zk_zip_i {E : zk_E} : ∀ {S S' : List zk_V}, S.map (zk_i E) = S'.map (zk_i E) → ∀ p ∈ S.zip S', zk_i E p.1 = zk_i E p.2 ∧ p.1 ∈ S ∧ p.2 ∈ S'
  | [], _, _, p, hp => by simp at hp
  | _ :: _, [], _, p, hp => by simp at hp
  | a :: l, b :: r, h, p, hp => by
    simp only [List.map_cons, List.cons.injEq] at h
    rw [List.zip_cons_cons] at hp
    rcases List.mem_cons.mp hp with rfl | hp
    · exact ⟨h.1, List.mem_cons_self, List.mem_cons_self⟩
    · obtain ⟨k1, k2, k3⟩ := zk_zip_i h.2 p hp
      exact ⟨k1, List.mem_cons_of_mem _ k2, List.mem_cons_of_mem _ k3⟩
theorem zk_u90_gd {E : zk_E} {n : Nat} {p q : zk_G} (hp : zk_tru E n p) (hq : zk_tru E n q) : zk_gd E n (zk_u90 p q) := by
  intro N hN hc hn
  unfold zk_u90
  split
  · rename_i rs id i K P S rs' id' i' K' P' S' e1 e2
    obtain ⟨-, -, t3, -, -, -, -, -, t9⟩ := zk_as90_of hp e1
    obtain ⟨-, -, s3, -, -, -, -, -, s9⟩ := zk_as90_of hq e2
    split
    · rename_i c
      simp only [Bool.and_eq_true] at c
      obtain ⟨⟨⟨c1, c2⟩, c3⟩, c4⟩ := c
      have c1 := Nat.eq_of_beq_eq_true c1
      have c2 := zk_eqNs_of c2
      have c4 := zk_eqEs_of hN c4
      subst c1 c2
      have t3 : S'.map (zk_i E) = S.map (zk_i E) := by
        rw [Bool.or_eq_true, Bool.and_eq_true] at c3
        rcases c3 with c3 | ⟨c3, c5⟩
        · have c3 := zk_eqE_of hN c3
          rw [← s3, ← t3, c3, c4]
        · have c3 := zk_nz_ok hN c3
          have c5 := zk_nz_ok hN c5
          rw [← zk_hd0_i] at c3 c5
          rw [c4] at t3
          rw [← t3] at c3
          rw [← s3] at c5
          rw [← t3, ← s3]
          rcases Nat.le_total (zk_i E K).toNat (zk_i E K').toNat with hle | hle
          · have g := zx_it_stay c3 (n := (zk_i E K').toNat - (zk_i E K).toNat)
            rw [Nat.add_sub_cancel' hle] at g
            exact g
          · have g := zx_it_stay c5 (n := (zk_i E K).toNat - (zk_i E K').toNat)
            rw [Nat.add_sub_cancel' hle] at g
            exact g.symm
      refine zk_ea_gd (f := zk_eq2) (l := S.zip S') (fun a ha => ?_) N hN hc hn
      obtain ⟨g1, g2, g3⟩ := zk_zip_i t3.symm a ha
      intro N1 hN1 hc1 hn1
      obtain ⟨N2, a1, a2⟩ := zk_eqs_ok hN1 (d := zk_vsub a.1 a.2) (by rw [zk_vsub_i]; omega)
      obtain ⟨a3, a4⟩ := zk_eqs_cl hc1 (zk_vsub_sv (by rw [hn1]; exact t9 _ g2) (by rw [hn1]; exact s9 _ g3)) a1
      exact ⟨N2, a1, a2, a3, a4.trans hn1⟩
    · exact zk_id_gd N hN hc hn
  · exact zk_id_gd N hN hc hn
def zk_f90 (N : zk_N) : List zk_G := N.2.2.2.filter fun q => Nat.beq q.1 90
def zk_ru90 : zk_Rl := zk_nr (zk_on zk_f90 fun p => zk_on zk_f90 (zk_u90 p))
theorem zk_ru90_ok : zk_Rok zk_ru90 := zk_nr_ok fun E n => zk_on_gd fun N h hc hn p hp => by
  have ht := zk_trs h hc hn p (List.mem_filter.mp hp).1
  exact zk_on_gd fun N' h' hc' hn' q hq => zk_u90_gd ht (zk_trs h' hc' hn' q (List.mem_filter.mp hq).1)
/-- reads of a row that are reads of the row that it lies in, at a place that is a number -/
def zk_xcf (hp : List zk_C) (cX : Nat) (q : Nat × Int) (N : zk_N) : Option zk_N := match zk_row hp (3, cX, [], 0), zk_row hp (3, q.1, [], 0) with
  | some (_, _, _, X), some (_, _, _, e) => match zk_le 0 q.2 && zk_f68 N X e (zk_c q.2) with
    | true => some (zk_addGs N (zk_x1 N X e (zk_c q.2) N.2.2.2))
    | false => some N
  | _, _ => some N
theorem zk_xcf_gd {E : zk_E} {n : Nat} {hp : List zk_C} {cX : Nat} {q : Nat × Int} : zk_gd E n (zk_xcf hp cX q) := by
  intro N hN hc hn
  unfold zk_xcf
  split
  · split
    · rename_i h
      simp only [Bool.and_eq_true] at h
      have h0 := zk_le_of h.1
      obtain ⟨k1, k2, -⟩ := zk_f68_of hN hc h.2
      obtain ⟨b1, b2⟩ := zk_addGs_ok hN hc (fun g hg => zk_x1_tr hN hc zk_c_sv k2 (by rw [zk_c_i]; exact h0) k1 g hg)
      exact ⟨_, rfl, b1, b2, hn⟩
    · exact ⟨N, rfl, hN, hc, hn⟩
  · exact ⟨N, rfl, hN, hc, hn⟩
def zk_rxc (cX : Nat) (L : List (Nat × Int)) : zk_Rl := fun z => match zk_ea (zk_xcf z.2.1 cX) L z.1 with
  | some N => some [N]
  | none => some []
theorem zk_rxc_ok (cX : Nat) (L : List (Nat × Int)) : zk_Rok (zk_rxc cX L) := by
  refine zk_Rs_ok fun z L' hz E h hc hcs hl hs => ?_
  obtain ⟨N', a1, a2, a3, a4⟩ := zk_ea_gd (f := zk_xcf z.2.1 cX) (l := L) (E := E) (n := z.1.1) (fun q _ => zk_xcf_gd) z.1 h hc rfl
  unfold zk_rxc at hz
  rw [a1] at hz
  cases hz
  exact ⟨N', List.mem_cons_self, a2, a3, a4⟩
/-- boys from a row: told by class and by reference -/
theorem zx_cv0_x {cl cl' : zx_Cl} {X e sz : Nat → Int} {off i n s z B b k : Int} {S : List Int} (hs : sz s.toNat = z) (r1 : 0 ≤ i + 2 * k → i + 2 * k + 2 ≤ z → X (off + (i + 2 * k)).toNat = e (0 + (i + 2 * k)).toNat) (r2 : 0 ≤ i + 2 * k → i + 2 * k + 2 ≤ z → X (off + (i + 2 * k) + 1).toNat = e (0 + (i + 2 * k) + 1).toNat) : (zx_dn 1).2.2.map (zx_ev cl [X, sz] [off, i, n, s, B, b] k S) = (zx_dn 0).2.2.map (zx_ev cl' [e] [0, i, n, z, B, b] k S) := by
  by_cases h1 : 0 ≤ i + 2 * k
  · by_cases h2 : i + 2 * k + 2 ≤ z
    · simp [zx_dn, zx_D, zx_ev, zx_evs, zx_sst, zx_op, zx_R, hs, r1 h1 h2, r2 h1 h2]
    · simp [zx_dn, zx_D, zx_ev, zx_evs, zx_sst, zx_op, zx_R, hs, h2]
  · simp [zx_dn, zx_D, zx_ev, zx_evs, zx_sst, zx_op, zx_R, hs, h1]
theorem zx_cv0 {X e sz : Nat → Int} {off i n s z B b : Int} (hX : ∀ j : Nat, j < 60 → X (off.toNat + j) = e j) (ho : 0 ≤ off) (hz : z ≤ 60) (hs : sz s.toNat = z) : ∀ K : Nat, zx_F 1 [X, sz] [off, i, n, s, B, b] K = zx_F 0 [e] [0, i, n, z, B, b] K
  | 0 => rfl
  | K + 1 => by
    have ih := zx_cv0 (X := X) (e := e) (sz := sz) (off := off) (i := i) (n := n) (s := s) (z := z) (B := B) (b := b) hX ho hz hs K
    have r1 : 0 ≤ i + 2 * (K : Int) → i + 2 * (K : Int) + 2 ≤ z → X (off + (i + 2 * (K : Int))).toNat = e (0 + (i + 2 * (K : Int))).toNat := fun h1 h2 => by
      rw [← hX _ (by omega)]
      congr 1
      omega
    have r2 : 0 ≤ i + 2 * (K : Int) → i + 2 * (K : Int) + 2 ≤ z → X (off + (i + 2 * (K : Int)) + 1).toNat = e (0 + (i + 2 * (K : Int)) + 1).toNat := fun h1 h2 => by
      rw [← hX _ (by omega)]
      congr 1
      omega
    have st : ∀ S : List Int, (zx_dn 1).2.2.map (zx_ev (zx_G 1) [X, sz] [off, i, n, s, B, b] K S) = (zx_dn 0).2.2.map (zx_ev (zx_G 0) [e] [0, i, n, z, B, b] K S) := fun S => zx_cv0_x hs r1 r2
    show (if (zx_F 1 [X, sz] [off, i, n, s, B, b] K).getD 0 0 = 0 then (zx_dn 1).2.2.map (zx_ev (zx_G 1) [X, sz] [off, i, n, s, B, b] K (zx_F 1 [X, sz] [off, i, n, s, B, b] K)) else zx_F 1 [X, sz] [off, i, n, s, B, b] K) = (if (zx_F 0 [e] [0, i, n, z, B, b] K).getD 0 0 = 0 then (zx_dn 0).2.2.map (zx_ev (zx_G 0) [e] [0, i, n, z, B, b] K (zx_F 0 [e] [0, i, n, z, B, b] K)) else zx_F 0 [e] [0, i, n, z, B, b] K)
    rw [ih, st]
def zk_cv1 (N : zk_N) (X sz e : Nat) (k : Int) (q : zk_G) : List zk_G := match zk_as90 q with
  | some ([e'], id, _, K, [o, i, n, z, B, b], S) => match zk_frd N sz (zk_c k) N.2.2.2 with
    | some w => match Nat.beq id 0 && Nat.beq e e' && zk_eqE N o (zk_c 0) && zk_eqE N w z && zk_n2 N (zk_vsub (zk_c 60) z) && zk_le 0 k && zk_f68 N X e (zk_c (60 * k)) with
      | true => [(90, [X, sz], zk_c 1 :: K :: ([zk_c (60 * k), i, n, zk_c k, B, b] ++ S))]
      | false => []
    | none => []
  | _ => []
theorem zk_cv1_ok {E : zk_E} {N : zk_N} (hN : zk_ok E N) (hc : zk_cl N) {X sz e : Nat} {k : Int} (hs : sz < N.1) {q : zk_G} (hq : q ∈ N.2.2.2) : ∀ x ∈ zk_cv1 N X sz e k q, zk_tru E N.1 x := by
  have ht := zk_tru_of hN hc q hq
  intro x hx
  unfold zk_cv1 at hx
  split at hx
  · rename_i e' id i0 K o i n z B b S he
    obtain ⟨t1, t2, t3, t4, t5, t6, t7, t8, t9⟩ := zk_as90_of ht he
    split at hx
    · rename_i w hw
      split at hx
      · rename_i c
        simp only [Bool.and_eq_true] at c
        obtain ⟨⟨⟨⟨⟨⟨c1, c2⟩, c3⟩, c4⟩, c5⟩, c6⟩, c7⟩ := c
        have c1 := Nat.eq_of_beq_eq_true c1
        have c2 := Nat.eq_of_beq_eq_true c2
        subst c1 c2
        have c3 := zk_eqE_of hN c3
        have c4 := zk_eqE_of hN c4
        have c5 := zk_n2_ok hN c5
        have c6 := zk_le_of c6
        rw [zk_c_i] at c3
        rw [zk_vsub_i, zk_c_i] at c5
        obtain ⟨d1, d2, -⟩ := zk_f68_of hN hc c7
        have d3 := zk_frd_of hN (fun q hq => hq) hw
        rw [zk_c_i] at d1 d3
        rw [List.mem_singleton.mp hx]
        refine ⟨?_, fun a ha => ?_, fun v hv => ?_⟩
        · simp only [List.map_cons, List.map_nil, zk_S, zx_S, zx_90, List.cons_append, List.nil_append, zk_c_i]
          refine ⟨by decide, t2, ?_⟩
          show zx_F 1 [E.2 X, E.2 sz] [60 * k, zk_i E i, zk_i E n, k, zk_i E B, zk_i E b] (zk_i E K).toNat = S.map (zk_i E)
          rw [zx_cv0 (e := E.2 e) (z := zk_i E z) d1 (by omega) (by omega) (by rw [d3, c4])]
          simp only [List.map_cons, List.map_nil, c3] at t3
          exact t3
        · simp only [List.mem_cons, List.not_mem_nil, or_false] at ha
          rcases ha with rfl | rfl
          · exact d2
          · exact hs
        · simp only [List.mem_cons, List.cons_append, List.nil_append] at hv
          rcases hv with rfl | rfl | rfl | rfl | rfl | rfl | rfl | rfl | hv
          · exact zk_c_sv
          · exact t7
          · exact zk_c_sv
          · exact t8 _ (by simp)
          · exact t8 _ (by simp)
          · exact zk_c_sv
          · exact t8 _ (by simp)
          · exact t8 _ (by simp)
          · exact t9 v hv
      · cases hx
    · cases hx
  · cases hx
def zk_cvf (hp : List zk_C) (cX cS : Nat) (q : Nat × Int) (N : zk_N) : Option zk_N := match zk_row hp (3, cX, [], 0), zk_row hp (3, cS, [], 0), zk_row hp (3, q.1, [], 0) with
  | some (_, _, _, X), some (_, _, _, sz), some (_, _, _, e) => match Nat.blt sz N.1 with
    | true => some (zk_addGs N (N.2.2.2.flatMap (zk_cv1 N X sz e q.2)))
    | false => some N
  | _, _, _ => some N
theorem zk_cvf_gd {E : zk_E} {n : Nat} {hp : List zk_C} {cX cS : Nat} {q : Nat × Int} : zk_gd E n (zk_cvf hp cX cS q) := by
  intro N hN hc hn
  unfold zk_cvf
  split
  · rename_i k1 d1 l1 X k2 d2 l2 sz k3 d3 l3 e e1 e2 e3
    split
    · rename_i h
      obtain ⟨b1, b2⟩ := zk_addGs_ok hN hc (L := N.2.2.2.flatMap (zk_cv1 N X sz e q.2)) (fun g hg => by
        obtain ⟨y, hy1, hy2⟩ := List.mem_flatMap.mp hg
        exact zk_cv1_ok hN hc (Nat.blt_eq.mp h) hy1 g hy2)
      exact ⟨_, rfl, b1, b2, hn⟩
    · exact ⟨N, rfl, hN, hc, hn⟩
  · exact ⟨N, rfl, hN, hc, hn⟩
def zk_rcv (cX cS : Nat) (L : List (Nat × Int)) : zk_Rl := fun z => match zk_ea (zk_cvf z.2.1 cX cS) L z.1 with
  | some N => some [N]
  | none => some []
theorem zk_rcv_ok (cX cS : Nat) (L : List (Nat × Int)) : zk_Rok (zk_rcv cX cS L) := by
  refine zk_Rs_ok fun z L' hz E h hc hcs hl hs => ?_
  obtain ⟨N', a1, a2, a3, a4⟩ := zk_ea_gd (f := zk_cvf z.2.1 cX cS) (l := L) (E := E) (n := z.1.1) (fun q _ => zk_cvf_gd) z.1 h hc rfl
  unfold zk_rcv at hz
  rw [a1] at hz
  cases hz
  exact ⟨N', List.mem_cons_self, a2, a3, a4⟩
