noncomputable section
/-! A LAW'S CONTENT: rules at the law's way -/
def zk_la8 (N : zk_N) (g id tp : Nat) (q : zk_G) : List (Nat × zk_V × zk_V) := match zk_a88 q with
  | some (S0, S1, [t], g', i, _, p0, p1, n :: d :: u :: x :: _) => match Nat.beq S0 S1 && Nat.beq t tp && zk_eqi (zk_fci N g') (Int.ofNat g) && zk_eqi (zk_fci N i) (Int.ofNat id) && zk_eqE N p0 (zk_c 0) && zk_nz N d && zk_nz N u && zk_eqE N x n with
    | true => [(S1, p1, n)]
    | false => []
  | _ => []
theorem zk_la8_of {E : zk_E} {N : zk_N} (hN : zk_ok E N) {g id tp : Nat} (hid : (zx_dn id).1 = 1) {q : zk_G} (hq : zk_tru E N.1 q) {r : Nat × zk_V × zk_V} (hr : r ∈ zk_la8 N g id tp q) : zy_P g id (E.2 tp) (E.2 r.1) (zk_i E r.2.2) (zk_i E r.2.1) ∧ r.1 < N.1 ∧ zk_sv N.1 r.2.1 := by
  unfold zk_la8 at hr
  split at hr
  · rename_i S0 S1 t g' i K p0 p1 n d u x rest hu
    obtain ⟨⟨t1, t2, K', t3, t4, t5⟩, h2, h3⟩ := zk_a88_of hq hu
    split at hr
    · rename_i c
      simp only [Bool.and_eq_true] at c
      obtain ⟨⟨⟨⟨⟨⟨⟨c1, c2⟩, c3⟩, c4⟩, c5⟩, c6⟩, c7⟩, c8⟩ := c
      have c2 := Nat.eq_of_beq_eq_true c2
      have c3 := zk_fci_of hN c3
      have c4 := zk_fci_of hN c4
      have c5 := zk_eqE_of hN c5
      have c6 := zk_nz_ok hN c6
      have c7 := zk_nz_ok hN c7
      have c8 := zk_eqE_of hN c8
      rw [zk_c_i] at c5
      subst c2
      rw [List.mem_singleton.mp hr]
      rw [c4, Int.toNat_natCast, hid] at t4 t5
      rw [c3, Int.toNat_natCast, c5] at t5
      exact ⟨⟨K', zk_i E d, zk_i E u, zk_i E x, rest.map (zk_i E), t4, c6, c7, c8, zx_ly_self t5⟩, h2 _ (by simp), h3 _ (by simp)⟩
    · cases hr
  · cases hr
def zk_la4 (N : zk_N) (g tp : Nat) (q : zk_G) : List (Nat × Nat × zk_V) := match zk_as 48 q with
  | some ([S, lm, t], g' :: i :: p0 :: j :: n :: d :: u :: x :: _) => match Nat.beq t tp && zk_eqi (zk_fci N g') (Int.ofNat g) && zk_eqi (zk_fci N i) (Int.ofNat 92) && zk_eqE N p0 (zk_c 0) && zk_eqE N j (zk_c 0) && zk_nz N d && zk_nz N u && zk_eqE N x n with
    | true => [(S, lm, n)]
    | false => []
  | _ => []
theorem zk_la4_of {E : zk_E} {N : zk_N} (hN : zk_ok E N) {g tp : Nat} {q : zk_G} (hq : zk_tru E N.1 q) {r : Nat × Nat × zk_V} (hr : r ∈ zk_la4 N g tp q) : zy_P g 92 (E.2 tp) (E.2 r.1) (zk_i E r.2.2) (0 + E.2 r.2.1 0) ∧ r.1 < N.1 ∧ r.2.1 < N.1 := by
  unfold zk_la4 at hr
  split at hr
  · rename_i S lm t g' i p0 j n d u x rest hu
    have e := zk_as_of hu
    subst e
    obtain ⟨h1, h2, h3⟩ := hq
    have h1 : zx_48 (E.2 S) (E.2 lm) [E.2 t] (zk_i E g') (zk_i E i) (zk_i E p0) (zk_i E j) (zk_i E n) (zk_i E d :: zk_i E u :: zk_i E x :: rest.map (zk_i E)) := h1
    obtain ⟨t1, t2, K', t4, t5⟩ := h1
    split at hr
    · rename_i c
      simp only [Bool.and_eq_true] at c
      obtain ⟨⟨⟨⟨⟨⟨⟨c2, c3⟩, c4⟩, c5⟩, c9⟩, c6⟩, c7⟩, c8⟩ := c
      have c2 := Nat.eq_of_beq_eq_true c2
      have c3 := zk_fci_of hN c3
      have c4 := zk_fci_of hN c4
      have c5 := zk_eqE_of hN c5
      have c9 := zk_eqE_of hN c9
      have c6 := zk_nz_ok hN c6
      have c7 := zk_nz_ok hN c7
      have c8 := zk_eqE_of hN c8
      rw [zk_c_i] at c5 c9
      subst c2
      rw [List.mem_singleton.mp hr]
      rw [c4, Int.toNat_natCast] at t4 t5
      rw [c3, Int.toNat_natCast, c5, c9] at t5
      exact ⟨⟨K', zk_i E d, zk_i E u, zk_i E x, rest.map (zk_i E), t4, c6, c7, c8, t5⟩, h2 _ (by simp), h2 _ (by simp)⟩
    · cases hr
  · cases hr
def zk_la5 (N : zk_N) (n0 : zk_V) (s a w : Nat × zk_V × zk_V) (t l : Nat × Nat × zk_V) : List zk_G := match zk_eb t.2.1 N.2.2.2 with
  | some b => match Nat.beq t.2.1 l.2.1 && zk_n2 N (zk_vsub n0 s.2.2) && zk_eqE N s.2.2 a.2.2 && zk_eqE N s.2.2 w.2.2 && zk_eqE N s.2.2 t.2.2 && zk_eqE N s.2.2 l.2.2 && zk_n2 N (zk_vsub (zk_c 121) a.2.1) && zk_le b.2 61 with
    | true => [(95, [s.1, a.1, w.1, t.1, l.1, t.2.1], [s.2.1, zk_c 1]), (94, [s.1], [s.2.1])]
    | false => []
  | none => []
def zk_la (N : zk_N) (q : zk_G) : List zk_G := match zk_as 87 q with
  | some ([fC, gR], [n0]) => (N.2.2.2.flatMap (zk_la8 N 0 47 fC)).flatMap fun s => (N.2.2.2.flatMap (zk_la8 N 1 92 gR)).flatMap fun a => (N.2.2.2.flatMap (zk_la8 N 2 92 gR)).flatMap fun w => (N.2.2.2.flatMap (zk_la4 N 3 gR)).flatMap fun t => (N.2.2.2.flatMap (zk_la4 N 4 gR)).flatMap fun l => zk_la5 N n0 s a w t l
  | _ => []
theorem zk_la_ok {E : zk_E} {N : zk_N} (hN : zk_ok E N) (hc : zk_cl N) {q : zk_G} (hq : q ∈ N.2.2.2) : ∀ x ∈ zk_la N q, zk_tru E N.1 x := by
  have ht := zk_tru_of hN hc q hq
  intro y hx
  unfold zk_la at hx
  split at hx
  · rename_i fC gR n0 hu
    have e := zk_as_of hu
    subst e
    obtain ⟨h1, -, -⟩ := ht
    simp only [List.map_cons, List.map_nil, zq_6, zq_7, zq_8, zq_9, zq_20, zq_21, zq_22, zq_25, zq_26, zq_28, zq_30, zq_40, zq_51, zq_52, zq_53, zq_54, zq_55, zq_64, zq_65, zq_68, zq_72, zq_73, zq_85, zq_74, zq_75, zq_76, zq_71, zq_86, zq_87, zq_80, zq_41, zq_42, zq_43, zq_94, zq_95, zq_47, zq_48, zq_96, zq_97, zq_88, zq_89, zq_90, zq_93, zq_61, zq_62, zq_1, zq_2, zq_3, zq_4, zq_5] at h1
    obtain ⟨s, hs, hx1⟩ := List.mem_flatMap.mp hx
    obtain ⟨a, ha, hx2⟩ := List.mem_flatMap.mp hx1
    obtain ⟨w, hw, hx3⟩ := List.mem_flatMap.mp hx2
    obtain ⟨t, ht, hx4⟩ := List.mem_flatMap.mp hx3
    obtain ⟨l, hl, hx5⟩ := List.mem_flatMap.mp hx4
    obtain ⟨s', hs1, hs⟩ := List.mem_flatMap.mp hs
    obtain ⟨a', ha1, ha⟩ := List.mem_flatMap.mp ha
    obtain ⟨w', hw1, hw⟩ := List.mem_flatMap.mp hw
    obtain ⟨t', ht1, ht⟩ := List.mem_flatMap.mp ht
    obtain ⟨l', hl1, hl⟩ := List.mem_flatMap.mp hl
    obtain ⟨S1, S2, S3⟩ := zk_la8_of hN rfl (zk_tru_of hN hc s' hs1) hs
    obtain ⟨A1, A2, A3⟩ := zk_la8_of hN rfl (zk_tru_of hN hc a' ha1) ha
    obtain ⟨W1, W2, W3⟩ := zk_la8_of hN rfl (zk_tru_of hN hc w' hw1) hw
    obtain ⟨T1, T2, T3⟩ := zk_la4_of hN (zk_tru_of hN hc t' ht1) ht
    obtain ⟨L1, L2, L3⟩ := zk_la4_of hN (zk_tru_of hN hc l' hl1) hl
    unfold zk_la5 at hx5
    split at hx5
    · rename_i b hb
      split at hx5
      · rename_i c
        simp only [Bool.and_eq_true] at c
        obtain ⟨⟨⟨⟨⟨⟨⟨c1, c2⟩, c3⟩, c4⟩, c5⟩, c6⟩, c7⟩, c8⟩ := c
        have c1 := Nat.eq_of_beq_eq_true c1
        have c2 := zk_n2_ok hN c2
        have c3 := zk_eqE_of hN c3
        have c4 := zk_eqE_of hN c4
        have c5 := zk_eqE_of hN c5
        have c6 := zk_eqE_of hN c6
        have c7 := zk_n2_ok hN c7
        have c8 := zk_le_of c8
        rw [zk_vsub_i] at c2 c7
        rw [zk_c_i] at c7
        rw [← c3] at A1
        rw [← c4] at W1
        rw [← c5] at T1
        rw [← c6, ← c1] at L1
        have H : zy_H (E.2 fC) (E.2 gR) (zk_i E s.2.2) := fun x x0 x1 => h1 x.toNat (by omega)
        have hm := (zk_eb_ok hN hb 0).2
        have r := zy_fin2 H S1 A1 W1 T1 L1 (by omega) (by omega)
        simp only [List.mem_cons, List.not_mem_nil, or_false] at hx5
        rcases hx5 with rfl | rfl
        · refine ⟨?_, fun z hz => ?_, fun z hz => ?_⟩
          · show zy_law (E.2 s.1) (E.2 a.1) (E.2 w.1) (E.2 t.1) (E.2 l.1) (E.2 t.2.1) (zk_i E s.2.1) (zk_i E (zk_c 1))
            rw [zk_c_i]
            exact r
          · simp only [List.mem_cons, List.not_mem_nil, or_false] at hz
            rcases hz with rfl | rfl | rfl | rfl | rfl | rfl
            · exact S2
            · exact A2
            · exact W2
            · exact T2
            · exact L2
            · exact T3
          · simp only [List.mem_cons, List.not_mem_nil, or_false] at hz
            rcases hz with rfl | rfl
            · exact S3
            · exact zk_c_sv
        · refine ⟨?_, fun z hz => ?_, fun z hz => ?_⟩
          · show zx_wl (zx_sl (E.2 s.1) 0 (zk_i E s.2.1).toNat) 0
            exact zy_law_wl r
          · simp only [List.mem_cons, List.not_mem_nil, or_false] at hz
            rw [hz]
            exact S2
          · simp only [List.mem_cons, List.not_mem_nil, or_false] at hz
            rw [hz]
            exact S3
      · cases hx5
    · cases hx5
  · cases hx
def zk_rla : zk_Rl := zk_nr fun N => some (zk_addGs N ((zk_kd 87 N).flatMap (zk_la N)))
theorem zk_rla_ok : zk_Rok zk_rla := zk_nr_ok fun E n => zk_add_gd (f := fun N => (zk_kd 87 N).flatMap (zk_la N)) fun N hN hc hn x hx => by
  obtain ⟨y, hy1, hy2⟩ := List.mem_flatMap.mp hx
  rw [← hn]
  exact zk_la_ok hN hc (zk_kd_m hy1) x hy2
/-! a law told of rows that are alike so far -/
def zk_nx1 (N : zk_N) (f : Nat) (k : Int) (q : zk_G) : List Nat := match zk_as 26 q with
  | some ([g, f'], [m]) => match Nat.beq f' f && !Nat.beq g f && zk_n2 N (zk_vsub m (zk_c k)) with
    | true => [g]
    | false => []
  | _ => []
def zk_nx (N : zk_N) (f : Nat) (k : Int) : List Nat := f :: (zk_kd 26 N).flatMap (zk_nx1 N f k)
theorem zk_nx_of {E : zk_E} {N : zk_N} (hN : zk_ok E N) (hc : zk_cl N) {f x : Nat} {k : Int} (hf : f < N.1) (hx : x ∈ zk_nx N f k) : (∀ j : Nat, (j : Int) < k → E.2 x j = E.2 f j) ∧ x < N.1 := by
  unfold zk_nx at hx
  rcases List.mem_cons.mp hx with rfl | hx
  · exact ⟨fun _ _ => rfl, hf⟩
  · obtain ⟨q, hq, hx1⟩ := List.mem_flatMap.mp hx
    have ht := zk_tru_of hN hc q (zk_kd_m hq)
    unfold zk_nx1 at hx1
    split at hx1
    · rename_i g f' m hu
      have e := zk_as_of hu
      subst e
      obtain ⟨h1, h2, h3⟩ := ht
      simp only [List.map_cons, List.map_nil, zq_6, zq_7, zq_8, zq_9, zq_20, zq_21, zq_22, zq_25, zq_26, zq_28, zq_30, zq_40, zq_51, zq_52, zq_53, zq_54, zq_55, zq_64, zq_65, zq_68, zq_72, zq_73, zq_85, zq_74, zq_75, zq_76, zq_71, zq_86, zq_87, zq_80, zq_41, zq_42, zq_43, zq_94, zq_95, zq_47, zq_48, zq_96, zq_97, zq_88, zq_89, zq_90, zq_93, zq_61, zq_62, zq_1, zq_2, zq_3, zq_4, zq_5] at h1
      split at hx1
      · rename_i c
        simp only [Bool.and_eq_true] at c
        obtain ⟨⟨c1, -⟩, c3⟩ := c
        have c1 := Nat.eq_of_beq_eq_true c1
        have c3 := zk_n2_ok hN c3
        rw [zk_vsub_i, zk_c_i] at c3
        subst c1
        rw [List.mem_singleton.mp hx1]
        exact ⟨fun j hj => h1 j (by omega), h2 _ (by simp)⟩
      · cases hx1
    · cases hx1
def zk_95c (N : zk_N) (q : zk_G) : List zk_G := match zk_as 95 q with
  | some ([s, a, w, t, l, m], [len, h]) => (zk_nx N a 121).flatMap fun x1 => (zk_nx N w 121).flatMap fun x2 => (zk_nx N t 61).flatMap fun x3 => (zk_nx N l 61).flatMap fun x4 => (zk_nx N m 1).map fun x5 => (95, [s, x1, x2, x3, x4, x5], [len, h])
  | _ => []
theorem zk_95c_ok {E : zk_E} {N : zk_N} (hN : zk_ok E N) (hc : zk_cl N) {q : zk_G} (hq : q ∈ N.2.2.2) : ∀ x ∈ zk_95c N q, zk_tru E N.1 x := by
  have ht := zk_tru_of hN hc q hq
  intro y hx
  unfold zk_95c at hx
  split at hx
  · rename_i s a w t l m len h hu
    have e := zk_as_of hu
    subst e
    obtain ⟨h1, h2, h3⟩ := ht
    have h1 : zy_law (E.2 s) (E.2 a) (E.2 w) (E.2 t) (E.2 l) (E.2 m) (zk_i E len) (zk_i E h) := h1
    obtain ⟨x1, g1, hx1⟩ := List.mem_flatMap.mp hx
    obtain ⟨x2, g2, hx2⟩ := List.mem_flatMap.mp hx1
    obtain ⟨x3, g3, hx3⟩ := List.mem_flatMap.mp hx2
    obtain ⟨x4, g4, hx4⟩ := List.mem_flatMap.mp hx3
    obtain ⟨x5, g5, rfl⟩ := List.mem_map.mp hx4
    obtain ⟨r1, q1⟩ := zk_nx_of hN hc (h2 _ (by simp)) g1
    obtain ⟨r2, q2⟩ := zk_nx_of hN hc (h2 _ (by simp)) g2
    obtain ⟨r3, q3⟩ := zk_nx_of hN hc (h2 _ (by simp)) g3
    obtain ⟨r4, q4⟩ := zk_nx_of hN hc (h2 _ (by simp)) g4
    obtain ⟨r5, q5⟩ := zk_nx_of hN hc (h2 _ (by simp)) g5
    refine ⟨?_, fun z hz => ?_, h3⟩
    · show zy_law (E.2 s) (E.2 x1) (E.2 x2) (E.2 x3) (E.2 x4) (E.2 x5) (zk_i E len) (zk_i E h)
      exact zy_law_ext (m := 121) (many := 61) (Nat.le_refl _) (Nat.le_refl _) (fun _ _ => rfl) (fun j hj => r1 j (by omega)) (fun j hj => r2 j (by omega)) (fun j hj => r3 j (by omega)) (fun j hj => r4 j (by omega)) (r5 0 (by decide)) h1
    · simp only [List.mem_cons, List.not_mem_nil, or_false] at hz
      rcases hz with rfl | rfl | rfl | rfl | rfl | rfl
      · exact h2 _ (by simp)
      · exact q1
      · exact q2
      · exact q3
      · exact q4
      · exact q5
  · cases hx
def zk_r95c : zk_Rl := zk_nr fun N => some (zk_addGs N ((zk_kd 95 N).flatMap (zk_95c N)))
theorem zk_r95c_ok : zk_Rok zk_r95c := zk_nr_ok fun E n => zk_add_gd (f := fun N => (zk_kd 95 N).flatMap (zk_95c N)) fun N hN hc hn x hx => by
  obtain ⟨y, hy1, hy2⟩ := List.mem_flatMap.mp hx
  rw [← hn]
  exact zk_95c_ok hN hc (zk_kd_m hy1) x hy2
end
