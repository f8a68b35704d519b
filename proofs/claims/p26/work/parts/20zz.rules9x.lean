noncomputable section
/-! THE TAPES, and what both readers come to -/
def zk_as87 (q : zk_G) : Option (Nat × Nat × zk_V) := match zk_as 87 q with
  | some ([f, g], [n]) => some (f, g, n)
  | _ => none
theorem zk_as87_of {E : zk_E} {n : Nat} {q : zk_G} (hq : zk_tru E n q) {f g : Nat} {m : zk_V} (h : zk_as87 q = some (f, g, m)) : (∀ j : Nat, (j : Int) < zk_i E m → 0 ≤ E.2 f j ∧ E.2 f j ≤ 255 ∧ E.2 g j = if E.2 f j < 128 then E.2 f j else E.2 f j - 256) ∧ f < n ∧ g < n ∧ zk_sv n m := by
  unfold zk_as87 at h
  split at h
  · rename_i hu
    cases h
    have e := zk_as_of hu
    subst e
    obtain ⟨h1, h2, h3⟩ := hq
    simp only [List.map_cons, List.map_nil, zq_6, zq_7, zq_8, zq_9, zq_20, zq_21, zq_22, zq_25, zq_26, zq_28, zq_30, zq_40, zq_51, zq_52, zq_53, zq_54, zq_55, zq_64, zq_65, zq_68, zq_72, zq_73, zq_85, zq_74, zq_75, zq_76, zq_71, zq_86, zq_87, zq_80, zq_41, zq_42, zq_43, zq_94, zq_95, zq_47, zq_48, zq_96, zq_97, zq_88, zq_89, zq_90, zq_93, zq_61, zq_62, zq_1, zq_2, zq_3, zq_4, zq_5] at h1
    exact ⟨h1, h2 _ (by simp), h2 _ (by simp), h3 _ (by simp)⟩
  · cases h
/-- a byte's value known -/
def zk_f72 (N : zk_N) (v w : zk_V) : Bool := zk_n2 N (zk_vsub w (zk_c (-128))) && zk_n2 N (zk_vsub (zk_c 127) w) && N.2.2.2.any fun q => match zk_as 72 q with
  | some ([], [v', w']) => zk_eqE N v v' && zk_eqE N w w'
  | _ => false
theorem zk_byt {v w : Int} (h0 : 0 ≤ v) (h1 : v ≤ 255) (h2 : -128 ≤ w) (h3 : w ≤ 127) (h : Int32.ofInt w = (Int32.ofInt v).toInt8.toInt32) : w = if v < 128 then v else v - 256 := by
  have e := congrArg Int32.toInt h
  rw [Int8.toInt_toInt32, Int32.toInt_toInt8, Int32.toInt_ofInt_of_le (by omega) (by omega), Int32.toInt_ofInt_of_le (by omega) (by omega), Int.bmod_def] at e
  split <;> split at e <;> omega
theorem zk_f72_of {E : zk_E} {N : zk_N} (h : zk_ok E N) {v w : zk_V} (h0 : 0 ≤ zk_i E v) (h1 : zk_i E v ≤ 255) (hf : zk_f72 N v w = true) : zk_i E w = if zk_i E v < 128 then zk_i E v else zk_i E v - 256 := by
  unfold zk_f72 at hf
  simp only [Bool.and_eq_true, List.any_eq_true] at hf
  obtain ⟨⟨a1, a2⟩, q, hq, hf⟩ := hf
  have a1 := zk_n2_ok h a1
  have a2 := zk_n2_ok h a2
  rw [zk_vsub_i, zk_c_i] at a1 a2
  split at hf
  · rename_i v' w' hu
    have e := zk_as_of hu
    subst e
    have t := h.2.2 _ hq
    simp only [List.map_cons, List.map_nil, zq_6, zq_7, zq_8, zq_9, zq_20, zq_21, zq_22, zq_25, zq_26, zq_28, zq_30, zq_40, zq_51, zq_52, zq_53, zq_54, zq_55, zq_64, zq_65, zq_68, zq_72, zq_73, zq_85, zq_74, zq_75, zq_76, zq_71, zq_86, zq_87, zq_80, zq_41, zq_42, zq_43, zq_94, zq_95, zq_47, zq_48, zq_96, zq_97, zq_88, zq_89, zq_90, zq_93, zq_61, zq_62, zq_1, zq_2, zq_3, zq_4, zq_5] at t
    rw [Bool.and_eq_true] at hf
    have b1 := zk_eqE_of h hf.1
    have b2 := zk_eqE_of h hf.2
    rw [← b1, ← b2] at t
    exact zk_byt h0 h1 (by omega) (by omega) t
  · cases hf
def zk_t87 (N : zk_N) (g f' : Nat) (m v : zk_V) (b : zk_G) : List zk_G := match zk_as2 b with
  | some (g', g0, i, w) => match Nat.beq g0 g && zk_eqE N i m && zk_n2 N m && zk_n2 N v && zk_n2 N (zk_vsub (zk_c 255) v) && ((zk_eqE N v w && zk_n2 N (zk_vsub (zk_c 127) v)) || zk_f72 N v w) with
    | true => [(87, [f', g'], [zk_vadd m (zk_c 1)])]
    | false => []
  | none => []
def zk_u87 (N : zk_N) (f g : Nat) (m : zk_V) (a : zk_G) : List zk_G := match zk_as2 a with
  | some (f', f0, i, v) => match Nat.beq f0 f && zk_eqE N i m with
    | true => N.2.2.2.flatMap (zk_t87 N g f' m v)
    | false => []
  | none => []
def zk_v87 (N : zk_N) (p : zk_G) : List zk_G := match zk_as87 p with
  | some (f, g, m) => N.2.2.2.flatMap (zk_u87 N f g m)
  | none => []
theorem zk_v87_ok {E : zk_E} {N : zk_N} (hN : zk_ok E N) (hc : zk_cl N) {p : zk_G} (hp : p ∈ N.2.2.2) : ∀ x ∈ zk_v87 N p, zk_tru E N.1 x := by
  intro x hx
  unfold zk_v87 at hx
  split at hx
  · rename_i f g m he
    obtain ⟨t1, t2, t3, t4⟩ := zk_as87_of (zk_tru_of hN hc p hp) he
    obtain ⟨a, ha, hx1⟩ := List.mem_flatMap.mp hx
    clear hx
    unfold zk_u87 at hx1
    split at hx1
    · rename_i f' f0 i v hea
      obtain ⟨s1, s2, s3, s4, s5⟩ := zk_as2_of (zk_tru_of hN hc a ha) hea
      split at hx1
      · rename_i c
        rw [Bool.and_eq_true] at c
        have c1 := Nat.eq_of_beq_eq_true c.1
        have c2 := zk_eqE_of hN c.2
        subst c1
        obtain ⟨b, hb, hx2⟩ := List.mem_flatMap.mp hx1
        clear hx1
        unfold zk_t87 at hx2
        split at hx2
        · rename_i g' g0 i2 w heb
          obtain ⟨u1, u2, u3, u4, u5⟩ := zk_as2_of (zk_tru_of hN hc b hb) heb
          split at hx2
          · rename_i d
            simp only [Bool.and_eq_true, Bool.or_eq_true] at d
            obtain ⟨⟨⟨⟨⟨d1, d2⟩, d3⟩, d4⟩, d5⟩, d6⟩ := d
            have d1 := Nat.eq_of_beq_eq_true d1
            have d2 := zk_eqE_of hN d2
            have d3 := zk_n2_ok hN d3
            have d4 := zk_n2_ok hN d4
            have d5 := zk_n2_ok hN d5
            rw [zk_vsub_i, zk_c_i] at d5
            subst d1
            have hw : zk_i E w = if zk_i E v < 128 then zk_i E v else zk_i E v - 256 := by
              rcases d6 with ⟨d6, d7⟩ | d6
              · have d6 := zk_eqE_of hN d6
                have d7 := zk_n2_ok hN d7
                rw [zk_vsub_i, zk_c_i] at d7
                rw [if_pos (by omega), d6]
              · exact zk_f72_of hN d4 (by omega) d6
            rw [List.mem_singleton.mp hx2]
            refine ⟨?_, fun b hb => ?_, fun u hu => ?_⟩
            · simp only [List.map_cons, List.map_nil, zq_6, zq_7, zq_8, zq_9, zq_20, zq_21, zq_22, zq_25, zq_26, zq_28, zq_30, zq_40, zq_51, zq_52, zq_53, zq_54, zq_55, zq_64, zq_65, zq_68, zq_72, zq_73, zq_85, zq_74, zq_75, zq_76, zq_71, zq_86, zq_87, zq_80, zq_41, zq_42, zq_43, zq_94, zq_95, zq_47, zq_48, zq_96, zq_97, zq_88, zq_89, zq_90, zq_93, zq_61, zq_62, zq_1, zq_2, zq_3, zq_4, zq_5, zk_vadd_i, zk_c_i]
              intro j hj
              rw [s1, u1, c2, d2]
              simp only
              by_cases hjm : j = (zk_i E m).toNat
              · rw [if_pos hjm, if_pos hjm]
                exact ⟨d4, by omega, hw⟩
              · rw [if_neg hjm, if_neg hjm]
                exact t1 j (by omega)
            · simp only [List.mem_cons, List.not_mem_nil, or_false] at hb
              rcases hb with rfl | rfl
              · exact s2
              · exact u2
            · rw [List.mem_singleton.mp hu]
              exact zk_vadd_sv t4 zk_c_sv
          · cases hx2
        · cases hx2
      · cases hx1
    · cases hx1
  · cases hx
def zk_r87 : zk_Rl := zk_nr fun N => some (zk_addGs N (N.2.2.2.flatMap (zk_v87 N)))
theorem zk_r87_ok : zk_Rok zk_r87 := zk_nr_ok fun E n => zk_add_gd (f := fun N => N.2.2.2.flatMap (zk_v87 N)) fun N hN hc hn x hx => by
  obtain ⟨y, hy1, hy2⟩ := List.mem_flatMap.mp hx
  rw [← hn]
  exact zk_v87_ok hN hc hy1 x hy2
/-- both readers of a tape -/
def zk_lw (p q : zk_G) (N : zk_N) : Option zk_N := match zk_as90 N p, zk_as90 N q with
  | some (id, [f], _, _, K, [n], S), some (id', [g], _, _, K', [n'], S') => match Nat.beq id 48 && Nat.beq id' 93 && zk_eqE N K (zk_c 0) && zk_eqE N K' (zk_c 0) && zk_eqE N n n' && N.2.2.2.any (fun h => match zk_as87 h with
      | some (f', g', m) => Nat.beq f' f && Nat.beq g' g && zk_n2 N (zk_vsub m n)
      | none => false) with
    | true => zk_ea zk_eq2 (S.zip S') N
    | false => some N
  | _, _ => some N
theorem zk_lw_gd {E : zk_E} {n : Nat} {p q : zk_G} (hp : zk_tru E n p) (hq : zk_tru E n q) : zk_gd E n (zk_lw p q) := by
  intro N hN hc hn
  unfold zk_lw
  split
  · rename_i id f M i K m S id' g M' i' K' m' S' e1 e2
    obtain ⟨-, -, t3, -, -, -, -, -, -, -, t9⟩ := zk_as90_of hN hp e1
    obtain ⟨-, -, s3, -, -, -, -, -, -, -, s9⟩ := zk_as90_of hN hq e2
    split
    · rename_i c
      simp only [Bool.and_eq_true, List.any_eq_true] at c
      obtain ⟨⟨⟨⟨⟨c1, c2⟩, c3⟩, c4⟩, c5⟩, x, hx, c6⟩ := c
      have c1 := Nat.eq_of_beq_eq_true c1
      have c2 := Nat.eq_of_beq_eq_true c2
      have c3 := zk_eqE_of hN c3
      have c4 := zk_eqE_of hN c4
      have c5 := zk_eqE_of hN c5
      rw [zk_c_i] at c3 c4
      subst c1 c2
      have hH : zy_H (E.2 f) (E.2 g) (zk_i E m) := by
        split at c6
        · rename_i f' g' m2 he
          obtain ⟨u1, -, -, -⟩ := zk_as87_of (zk_tru_of hN hc x hx) he
          simp only [Bool.and_eq_true] at c6
          obtain ⟨⟨w1, w2⟩, w3⟩ := c6
          have w1 := Nat.eq_of_beq_eq_true w1
          have w2 := Nat.eq_of_beq_eq_true w2
          have w3 := zk_n2_ok hN w3
          rw [zk_vsub_i] at w3
          subst w1 w2
          intro y y0 y1
          exact u1 y.toNat (by omega)
        · cases c6
      have key : S.map (zk_i E) = S'.map (zk_i E) := by
        have := zy_fin hH
        rw [c3] at t3
        rw [c4] at s3
        simp only [List.map_cons, List.map_nil] at t3 s3
        rw [← c5] at s3
        rw [show ((0 : Int).toNat) = 0 from rfl] at t3 s3
        rw [t3, s3] at this
        exact this
      refine zk_ea_gd (f := zk_eq2) (l := S.zip S') (fun a ha => ?_) N hN hc hn
      obtain ⟨g1, g2, g3⟩ := zk_zip_i key a ha
      intro N1 hN1 hc1 hn1
      obtain ⟨N2, a1, a2⟩ := zk_eqs_ok hN1 (d := zk_vsub a.1 a.2) (by rw [zk_vsub_i]; omega)
      obtain ⟨a3, a4⟩ := zk_eqs_cl hc1 (zk_vsub_sv (by rw [hn1]; exact t9 _ g2) (by rw [hn1]; exact s9 _ g3)) a1
      exact ⟨N2, a1, a2, a3, a4.trans hn1⟩
    · exact zk_id_gd N hN hc hn
  · exact zk_id_gd N hN hc hn
def zk_rlw : zk_Rl := zk_nr (zk_on zk_f90 fun p => zk_on zk_f90 (zk_lw p))
theorem zk_rlw_ok : zk_Rok zk_rlw := zk_nr_ok fun E n => zk_on_gd fun N h hc hn p hp => by
  have ht := zk_trs h hc hn p (List.mem_filter.mp hp).1
  exact zk_on_gd fun N' h' hc' hn' q hq => zk_lw_gd ht (zk_trs h' hc' hn' q (List.mem_filter.mp hq).1)
end
