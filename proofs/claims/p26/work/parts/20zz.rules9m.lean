noncomputable section
/-! THE WORLD WITH ALL STATE ALIKE: a change read, how many lie, reads, ints that wrap -/
def zk_bw (v : zk_V) (lo : Int) (hi : zk_V) : List zk_V := [zk_vsub v (zk_c lo), zk_vsub hi v]
def zk_bo (o : Option zk_V) (lo : Int) (hi : zk_V) : List zk_V := match o with
  | some v => zk_bw v lo hi
  | none => []
/-- the sums of a case: which, of which, values -/
def zk_u42c (o a : zk_V) (v1 v2 : Option zk_V) (k al ah vl : Int) (vh : zk_V) : List zk_V := zk_vsub o (zk_c k) :: zk_vmul (-1) (zk_vsub o (zk_c k)) :: (zk_bw a al (zk_c ah) ++ (zk_bo v1 vl vh ++ zk_bo v2 vl vh))
def zk_u42l (o a : zk_V) (v1 v2 : Option zk_V) (ba : zk_V) : List (List zk_V) := [zk_u42c o a v1 v2 0 0 4 0 (zk_c 99), zk_u42c o a v1 v2 1 0 4 0 (zk_c 99), zk_u42c o a v1 v2 2 0 4 0 (zk_c 9), zk_u42c o a v1 v2 3 0 7 0 (zk_c 30), zk_u42c o a v1 v2 4 0 7 (-1) (zk_vsub ba (zk_c 1)), zk_u42c o a v1 v2 5 0 5 0 (zk_c 99), zk_u42c o a v1 v2 6 0 5 0 (zk_c 19), zk_u42c o a v1 v2 7 0 0 0 (zk_c 9), zk_u42c o a v1 v2 8 0 0 1 (zk_c 20)]
def zk_u42r (N : zk_N) (na wh wa be : Nat) (ba : zk_V) : List zk_G → Option (List (List zk_V))
  | [] => none
  | q :: l => match zk_as 1 q with
    | some ([f], [i, o]) => match Nat.beq f wh with
      | true => match zk_mem1 na i N.2.2.2 with
        | some a => some (zk_u42l o a (zk_mem1 wa i N.2.2.2) (zk_mem1 be i N.2.2.2) ba)
        | none => zk_u42r N na wh wa be ba l
      | false => zk_u42r N na wh wa be ba l
    | _ => zk_u42r N na wh wa be ba l
def zk_u42 (N : zk_N) : List zk_G → Option (List (List zk_V))
  | [] => none
  | q :: l => match zk_as 42 q with
    | some ([na, wh, wa, be], [ba]) => match zk_u42r N na wh wa be ba N.2.2.2 with
      | some r => some r
      | none => zk_u42 N l
    | _ => zk_u42 N l
theorem zk_bw_ok {E : zk_E} {n : Nat} {v hi : zk_V} {lo : Int} (hv : zk_sv n v) (hh : zk_sv n hi) (h1 : lo ≤ zk_i E v) (h2 : zk_i E v ≤ zk_i E hi) : ∀ d ∈ zk_bw v lo hi, 0 ≤ zk_i E d ∧ zk_sv n d := by
  intro d hd
  simp only [zk_bw, List.mem_cons, List.not_mem_nil, or_false] at hd
  rcases hd with rfl | rfl
  · rw [zk_vsub_i, zk_c_i]
    exact ⟨by omega, zk_vsub_sv hv zk_c_sv⟩
  · rw [zk_vsub_i]
    exact ⟨by omega, zk_vsub_sv hh hv⟩
theorem zk_u42c_ok {E : zk_E} {n : Nat} {o a vh : zk_V} {v1 v2 : Option zk_V} {k al ah vl : Int} (ho : zk_sv n o) (ha : zk_sv n a) (hvh : zk_sv n vh) (h1 : ∀ v, v1 = some v → zk_sv n v ∧ vl ≤ zk_i E v ∧ zk_i E v ≤ zk_i E vh) (h2 : ∀ v, v2 = some v → zk_sv n v ∧ vl ≤ zk_i E v ∧ zk_i E v ≤ zk_i E vh) (e : zk_i E o = k) (a1 : al ≤ zk_i E a) (a2 : zk_i E a ≤ ah) : ∀ d ∈ zk_u42c o a v1 v2 k al ah vl vh, 0 ≤ zk_i E d ∧ zk_sv n d := by
  have hb : ∀ w : Option zk_V, (∀ v, w = some v → zk_sv n v ∧ vl ≤ zk_i E v ∧ zk_i E v ≤ zk_i E vh) → ∀ d ∈ zk_bo w vl vh, 0 ≤ zk_i E d ∧ zk_sv n d := fun w hw d hd => by
    unfold zk_bo at hd
    split at hd
    · rename_i v
      obtain ⟨x1, x2, x3⟩ := hw v rfl
      exact zk_bw_ok x1 hvh x2 x3 d hd
    · exact absurd hd List.not_mem_nil
  intro d hd
  unfold zk_u42c at hd
  rcases List.mem_cons.mp hd with rfl | hd
  · rw [zk_vsub_i, zk_c_i]
    exact ⟨by omega, zk_vsub_sv ho zk_c_sv⟩
  · rcases List.mem_cons.mp hd with rfl | hd
    · rw [zk_vmul_i, zk_vsub_i, zk_c_i]
      exact ⟨by omega, zk_vmul_sv (zk_vsub_sv ho zk_c_sv)⟩
    · rcases List.mem_append.mp hd with hd | hd
      · exact zk_bw_ok ha zk_c_sv a1 (by rw [zk_c_i]; exact a2) d hd
      · rcases List.mem_append.mp hd with hd | hd
        · exact hb v1 h1 d hd
        · exact hb v2 h2 d hd
theorem zk_u42r_m {N : zk_N} {na wh wa be : Nat} {ba : zk_V} {r : List (List zk_V)} : ∀ {l : List zk_G}, zk_u42r N na wh wa be ba l = some r → ∃ i o a, (1, [wh], [i, o]) ∈ l ∧ zk_mem1 na i N.2.2.2 = some a ∧ r = zk_u42l o a (zk_mem1 wa i N.2.2.2) (zk_mem1 be i N.2.2.2) ba
  | [], h => by cases h
  | q :: l, h => by
    have up : zk_u42r N na wh wa be ba l = some r → ∃ i o a, (1, [wh], [i, o]) ∈ q :: l ∧ zk_mem1 na i N.2.2.2 = some a ∧ r = zk_u42l o a (zk_mem1 wa i N.2.2.2) (zk_mem1 be i N.2.2.2) ba := fun g => by
      obtain ⟨i, o, a, g1, g2, g3⟩ := zk_u42r_m g
      exact ⟨i, o, a, List.mem_cons_of_mem _ g1, g2, g3⟩
    unfold zk_u42r at h
    split at h
    · rename_i f i o hu
      have e := zk_as_of hu
      split at h
      · rename_i c
        have c := Nat.eq_of_beq_eq_true c
        subst c
        split at h
        · rename_i a ha
          cases h
          exact ⟨i, o, a, by rw [e]; exact List.mem_cons_self, ha, rfl⟩
        · exact up h
      · exact up h
    · exact up h
theorem zk_u42_m {N : zk_N} {r : List (List zk_V)} : ∀ {l : List zk_G}, zk_u42 N l = some r → ∃ na wh wa be ba, (42, [na, wh, wa, be], [ba]) ∈ l ∧ zk_u42r N na wh wa be ba N.2.2.2 = some r
  | [], h => by cases h
  | q :: l, h => by
    have up : zk_u42 N l = some r → ∃ na wh wa be ba, (42, [na, wh, wa, be], [ba]) ∈ q :: l ∧ zk_u42r N na wh wa be ba N.2.2.2 = some r := fun g => by
      obtain ⟨a, b, c, d, e, g1, g2⟩ := zk_u42_m g
      exact ⟨a, b, c, d, e, List.mem_cons_of_mem _ g1, g2⟩
    unfold zk_u42 at h
    split at h
    · rename_i na wh wa be ba hu
      have e := zk_as_of hu
      split at h
      · rename_i r' hr
        cases h
        exact ⟨na, wh, wa, be, ba, by rw [e]; exact List.mem_cons_self, hr⟩
      · exact up h
    · exact up h
def zk_r42u : zk_Rl := fun z => match zk_u42 z.1 z.1.2.2.2 with
  | some r => some (zk_css z.1 r)
  | none => some [z.1]
theorem zk_r42u_ok : zk_Rok zk_r42u := by
  refine zk_Rs_ok fun z L hz E h hc hcs hl hs => ?_
  unfold zk_r42u at hz
  split at hz
  · rename_i r hr
    cases hz
    obtain ⟨na, wh, wa, be, ba, g1, g2⟩ := zk_u42_m hr
    obtain ⟨i, o, a, k1, k2, rfl⟩ := zk_u42r_m g2
    have t1 := h.2.2 _ g1
    have s1 := (hc.2.2 _ g1).2 ba (by simp)
    have t2 := h.2.2 _ k1
    have s2 := (hc.2.2 _ k1).2 o (by simp)
    have t3 := zk_mem1_i h k2
    have s3 := zk_mem1_sv hc k2
    simp only [List.map_cons, List.map_nil, zq_6, zq_7, zq_8, zq_9, zq_20, zq_21, zq_22, zq_25, zq_26, zq_28, zq_30, zq_40, zq_51, zq_52, zq_53, zq_54, zq_55, zq_64, zq_65, zq_68, zq_72, zq_73, zq_85, zq_74, zq_75, zq_76, zq_71, zq_86, zq_87, zq_80, zq_41, zq_42, zq_43, zq_94, zq_95, zq_47, zq_48, zq_96, zq_97, zq_88, zq_89, zq_90, zq_93, zq_61, zq_62, zq_1, zq_2, zq_3, zq_4, zq_5] at t1
    simp only [List.map_cons, List.map_nil, zk_S] at t2
    have hv : ∀ (f : Nat) (vl : Int) (vh : zk_V), (vl ≤ E.2 f (zk_i E i).toNat ∧ E.2 f (zk_i E i).toNat ≤ zk_i E vh) → ∀ v, zk_mem1 f i z.1.2.2.2 = some v → zk_sv z.1.1 v ∧ vl ≤ zk_i E v ∧ zk_i E v ≤ zk_i E vh := fun f vl vh hh v hm => by
      have := zk_mem1_i h hm
      rw [this] at hh
      exact ⟨zk_mem1_sv hc hm, hh⟩
    obtain ⟨c1, c2⟩ := t1 (zk_i E i).toNat
    rw [t2, t3] at c1 c2
    have pick : ∀ l, l ∈ zk_u42l o a (zk_mem1 wa i z.1.2.2.2) (zk_mem1 be i z.1.2.2.2) ba → (∀ d ∈ l, 0 ≤ zk_i E d ∧ zk_sv z.1.1 d) → ∃ N ∈ zk_css z.1 (zk_u42l o a (zk_mem1 wa i z.1.2.2.2) (zk_mem1 be i z.1.2.2.2) ba), zk_ok E N ∧ zk_cl N ∧ N.1 = z.1.1 := fun l hl hd => by
      obtain ⟨N', a1, a2, a3, a4⟩ := zk_css_at h hc hd hl
      exact ⟨N', a1, a2, a3, a4⟩
    have sb : zk_sv z.1.1 (zk_vsub ba (zk_c 1)) := zk_vsub_sv s1 zk_c_sv
    have eb : zk_i E (zk_vsub ba (zk_c 1)) = zk_i E ba - 1 := by rw [zk_vsub_i, zk_c_i]
    have ec : ∀ x : Int, zk_i E (zk_c x) = x := fun x => zk_c_i E x
    unfold zx_ch at c1 c2
    rcases c1 with c1 | c1 | c1 | c1 | c1 | c1 | c1 | c1 | c1
    · exact pick (zk_u42c o a (zk_mem1 wa i z.1.2.2.2) (zk_mem1 be i z.1.2.2.2) 0 0 4 (0) (zk_c 99)) (by simp only [zk_u42l, List.mem_cons, true_or, or_true]) (zk_u42c_ok (k := 0) (al := 0) (ah := 4) (vl := 0) (vh := (zk_c 99)) s2 s3 zk_c_sv (hv wa (0) (zk_c 99) (by rw [ec]; omega)) (hv be (0) (zk_c 99) (by rw [ec]; omega)) c1.1 (by omega) (by omega))
    · exact pick (zk_u42c o a (zk_mem1 wa i z.1.2.2.2) (zk_mem1 be i z.1.2.2.2) 1 0 4 (0) (zk_c 99)) (by simp only [zk_u42l, List.mem_cons, true_or, or_true]) (zk_u42c_ok (k := 1) (al := 0) (ah := 4) (vl := 0) (vh := (zk_c 99)) s2 s3 zk_c_sv (hv wa (0) (zk_c 99) (by rw [ec]; omega)) (hv be (0) (zk_c 99) (by rw [ec]; omega)) c1.1 (by omega) (by omega))
    · exact pick (zk_u42c o a (zk_mem1 wa i z.1.2.2.2) (zk_mem1 be i z.1.2.2.2) 2 0 4 (0) (zk_c 9)) (by simp only [zk_u42l, List.mem_cons, true_or, or_true]) (zk_u42c_ok (k := 2) (al := 0) (ah := 4) (vl := 0) (vh := (zk_c 9)) s2 s3 zk_c_sv (hv wa (0) (zk_c 9) (by rw [ec]; omega)) (hv be (0) (zk_c 9) (by rw [ec]; omega)) c1.1 (by omega) (by omega))
    · exact pick (zk_u42c o a (zk_mem1 wa i z.1.2.2.2) (zk_mem1 be i z.1.2.2.2) 3 0 7 (0) (zk_c 30)) (by simp only [zk_u42l, List.mem_cons, true_or, or_true]) (zk_u42c_ok (k := 3) (al := 0) (ah := 7) (vl := 0) (vh := (zk_c 30)) s2 s3 zk_c_sv (hv wa (0) (zk_c 30) (by rw [ec]; omega)) (hv be (0) (zk_c 30) (by rw [ec]; omega)) c1.1 (by omega) (by omega))
    · exact pick (zk_u42c o a (zk_mem1 wa i z.1.2.2.2) (zk_mem1 be i z.1.2.2.2) 4 0 7 (-1) (zk_vsub ba (zk_c 1))) (by simp only [zk_u42l, List.mem_cons, true_or, or_true]) (zk_u42c_ok (k := 4) (al := 0) (ah := 7) (vl := -1) (vh := (zk_vsub ba (zk_c 1))) s2 s3 sb (hv wa (-1) (zk_vsub ba (zk_c 1)) (by rw [eb]; omega)) (hv be (-1) (zk_vsub ba (zk_c 1)) (by rw [eb]; omega)) c1.1 (by omega) (by omega))
    · exact pick (zk_u42c o a (zk_mem1 wa i z.1.2.2.2) (zk_mem1 be i z.1.2.2.2) 5 0 5 (0) (zk_c 99)) (by simp only [zk_u42l, List.mem_cons, true_or, or_true]) (zk_u42c_ok (k := 5) (al := 0) (ah := 5) (vl := 0) (vh := (zk_c 99)) s2 s3 zk_c_sv (hv wa (0) (zk_c 99) (by rw [ec]; omega)) (hv be (0) (zk_c 99) (by rw [ec]; omega)) c1.1 (by omega) (by omega))
    · exact pick (zk_u42c o a (zk_mem1 wa i z.1.2.2.2) (zk_mem1 be i z.1.2.2.2) 6 0 5 (0) (zk_c 19)) (by simp only [zk_u42l, List.mem_cons, true_or, or_true]) (zk_u42c_ok (k := 6) (al := 0) (ah := 5) (vl := 0) (vh := (zk_c 19)) s2 s3 zk_c_sv (hv wa (0) (zk_c 19) (by rw [ec]; omega)) (hv be (0) (zk_c 19) (by rw [ec]; omega)) c1.1 (by omega) (by omega))
    · exact pick (zk_u42c o a (zk_mem1 wa i z.1.2.2.2) (zk_mem1 be i z.1.2.2.2) 7 0 0 (0) (zk_c 9)) (by simp only [zk_u42l, List.mem_cons, true_or, or_true]) (zk_u42c_ok (k := 7) (al := 0) (ah := 0) (vl := 0) (vh := (zk_c 9)) s2 s3 zk_c_sv (hv wa (0) (zk_c 9) (by rw [ec]; omega)) (hv be (0) (zk_c 9) (by rw [ec]; omega)) c1.1 (by omega) (by omega))
    · exact pick (zk_u42c o a (zk_mem1 wa i z.1.2.2.2) (zk_mem1 be i z.1.2.2.2) 8 0 0 (1) (zk_c 20)) (by simp only [zk_u42l, List.mem_cons, true_or, or_true]) (zk_u42c_ok (k := 8) (al := 0) (ah := 0) (vl := 1) (vh := (zk_c 20)) s2 s3 zk_c_sv (hv wa (1) (zk_c 20) (by rw [ec]; omega)) (hv be (1) (zk_c 20) (by rw [ec]; omega)) c1.1 (by omega) (by omega))
  · cases hz
    exact ⟨_, List.mem_cons_self, h, hc, rfl⟩
/-! how many lie in each barn -/
def zk_i43 (pl : Nat) (ba : zk_V) (N : zk_N) (q : zk_G) : List zk_G := match zk_as 90 q with
  | some ([_, f], [i, _, v, len, d]) => match zk_eqi (zk_fci N i) 107 && zk_eqE N v (zk_c 0) && zk_n2 N (zk_vsub len (zk_c 5)) && zk_nz N d with
    | true => [(43, [f, pl], [zk_c 0, ba])]
    | false => []
  | _ => []
def zk_j43 (N : zk_N) (ly pl : Nat) (k ba p w : zk_V) (h : zk_G) : List zk_G := match zk_as2 h with
  | some (f, g, p', v) => match Nat.beq g ly && zk_eqE N p' p && zk_n2 N p && zk_n2 N (zk_vsub (zk_vsub ba (zk_c 1)) p) && zk_n2 N (zk_vsub (zk_c 100) k) && (zk_eqE N v (zk_vadd w (zk_c 1)) || (match zk_f7 N (zk_vadd w (zk_c 1)) N.2.2.2 with
      | some u => zk_eqE N v u
      | none => false)) with
    | true => [(43, [f, pl], [zk_vadd k (zk_c 1), ba])]
    | false => []
  | none => []
def zk_k43 (N : zk_N) (q : zk_G) : List zk_G := match zk_as 43 q with
  | some ([ly, pl], [k, ba]) => match zk_frd N pl k N.2.2.2 with
    | some p => match zk_n2 N k with
      | true => (match zk_n2 N (zk_vsub (zk_c (-1)) p) || zk_n2 N (zk_vsub p ba) with
          | true => [(43, [ly, pl], [zk_vadd k (zk_c 1), ba])]
          | false => []) ++ (match zk_frd N ly p N.2.2.2 with
          | some w => (zk_kd 2 N).flatMap (zk_j43 N ly pl k ba p w)
          | none => [])
      | false => []
    | none => []
  | _ => []
theorem zk_cn_s {f : Nat → Int} {b : Int} {k : Nat} : zx_cn f b (k + 1) = zx_cn f b k + if f k = b then 1 else 0 := rfl
theorem zk_cn_le {f : Nat → Int} {b : Int} : ∀ {k : Nat}, zx_cn f b k ≤ k
  | 0 => Nat.le_refl _
  | k + 1 => by
    rw [zk_cn_s]
    have := zk_cn_le (f := f) (b := b) (k := k)
    split <;> omega
theorem zk_k43_ok {E : zk_E} {N : zk_N} (hN : zk_ok E N) (hc : zk_cl N) {q : zk_G} (hq : q ∈ N.2.2.2) : ∀ x ∈ zk_k43 N q, zk_tru E N.1 x := by
  have ht := zk_tru_of hN hc q hq
  intro x hx
  unfold zk_k43 at hx
  split at hx
  · rename_i ly pl k ba hu
    have e := zk_as_of hu
    subst e
    obtain ⟨h1, h2, h3⟩ := ht
    simp only [List.map_cons, List.map_nil, zq_6, zq_7, zq_8, zq_9, zq_20, zq_21, zq_22, zq_25, zq_26, zq_28, zq_30, zq_40, zq_51, zq_52, zq_53, zq_54, zq_55, zq_64, zq_65, zq_68, zq_72, zq_73, zq_85, zq_74, zq_75, zq_76, zq_71, zq_86, zq_87, zq_80, zq_41, zq_42, zq_43, zq_94, zq_95, zq_47, zq_48, zq_96, zq_97, zq_88, zq_89, zq_90, zq_93, zq_61, zq_62, zq_1, zq_2, zq_3, zq_4, zq_5] at h1
    split at hx
    · rename_i p hp
      have ep := zk_frd_of hN (fun q hq => hq) hp
      split at hx
      · rename_i hk
        have hk := zk_n2_ok hN hk
        have ek : (zk_i E k + 1).toNat = (zk_i E k).toNat + 1 := by omega
        have sk : zk_sv N.1 (zk_vadd k (zk_c 1)) := zk_vadd_sv (h3 _ (by simp)) zk_c_sv
        have svs : ∀ u ∈ [zk_vadd k (zk_c 1), ba], zk_sv N.1 u := fun u hu => by
          simp only [List.mem_cons, List.not_mem_nil, or_false] at hu
          rcases hu with rfl | rfl
          · exact sk
          · exact h3 _ (by simp)
        rcases List.mem_append.mp hx with hx1 | hx1
        · split at hx1
          · rename_i c
            rw [Bool.or_eq_true] at c
            rw [List.mem_singleton.mp hx1]
            refine ⟨?_, fun a ha => h2 a ha, svs⟩
            simp only [List.map_cons, List.map_nil, zq_6, zq_7, zq_8, zq_9, zq_20, zq_21, zq_22, zq_25, zq_26, zq_28, zq_30, zq_40, zq_51, zq_52, zq_53, zq_54, zq_55, zq_64, zq_65, zq_68, zq_72, zq_73, zq_85, zq_74, zq_75, zq_76, zq_71, zq_86, zq_87, zq_80, zq_41, zq_42, zq_43, zq_94, zq_95, zq_47, zq_48, zq_96, zq_97, zq_88, zq_89, zq_90, zq_93, zq_61, zq_62, zq_1, zq_2, zq_3, zq_4, zq_5, zk_vadd_i, zk_c_i]
            intro b hb
            rw [h1 b hb, ek]
            split
            · rename_i hba
              rw [zk_cn_s, ep, if_neg, Nat.add_zero]
              rcases c with c | c
              · have c := zk_n2_ok hN c
                rw [zk_vsub_i, zk_c_i] at c
                omega
              · have c := zk_n2_ok hN c
                rw [zk_vsub_i] at c
                omega
            · rfl
          · cases hx1
        · split at hx1
          · rename_i w hw
            have ew := zk_frd_of hN (fun q hq => hq) hw
            obtain ⟨y, hy, hx2⟩ := List.mem_flatMap.mp hx1
            clear hx hx1
            unfold zk_j43 at hx2
            split at hx2
            · rename_i f g p' v e2
              obtain ⟨s1, s2, s3, s4, s5⟩ := zk_as2_of (zk_tru_of hN hc y (zk_kd_m hy)) e2
              split at hx2
              · rename_i c
                simp only [Bool.and_eq_true, Bool.or_eq_true] at c
                obtain ⟨⟨⟨⟨⟨c1, c2⟩, c3⟩, c4⟩, c5⟩, c6⟩ := c
                have c1 := Nat.eq_of_beq_eq_true c1
                have c2 := zk_eqE_of hN c2
                have c3 := zk_n2_ok hN c3
                have c4 := zk_n2_ok hN c4
                have c5 := zk_n2_ok hN c5
                rw [zk_vsub_i, zk_vsub_i, zk_c_i] at c4
                rw [zk_vsub_i, zk_c_i] at c5
                subst c1
                rw [List.mem_singleton.mp hx2]
                refine ⟨?_, fun a ha => ?_, svs⟩
                · simp only [List.map_cons, List.map_nil, zq_6, zq_7, zq_8, zq_9, zq_20, zq_21, zq_22, zq_25, zq_26, zq_28, zq_30, zq_40, zq_51, zq_52, zq_53, zq_54, zq_55, zq_64, zq_65, zq_68, zq_72, zq_73, zq_85, zq_74, zq_75, zq_76, zq_71, zq_86, zq_87, zq_80, zq_41, zq_42, zq_43, zq_94, zq_95, zq_47, zq_48, zq_96, zq_97, zq_88, zq_89, zq_90, zq_93, zq_61, zq_62, zq_1, zq_2, zq_3, zq_4, zq_5, zk_vadd_i, zk_c_i]
                  intro b hb
                  rw [s1, c2, ek]
                  simp only
                  by_cases hbp : b = (zk_i E p).toNat
                  · have hbb := h1 b hb
                    have hba : (b : Int) < zk_i E ba := by omega
                    rw [if_pos hba] at hbb
                    have hcl := zk_cn_le (f := E.2 pl) (b := (b : Int)) (k := (zk_i E k).toNat)
                    rw [hbp] at hbb
                    rw [ew] at hbb
                    rw [← hbp] at hbb
                    rw [if_pos hbp, if_pos hba, zk_cn_s, ep, if_pos (by omega)]
                    push_cast
                    rcases c6 with c6 | c6
                    · have c6 := zk_eqE_of hN c6
                      rw [zk_vadd_i, zk_c_i] at c6
                      omega
                    · split at c6
                      · rename_i u hu7
                        have c6 := zk_eqE_of hN c6
                        have e7 := zk_f7_of hN hu7
                        rw [zk_vadd_i, zk_c_i, Int32.toInt_ofInt_of_le (by omega) (by omega)] at e7
                        omega
                      · cases c6
                  · rw [if_neg hbp, h1 b hb]
                    split
                    · rw [zk_cn_s, ep, if_neg (by omega), Nat.add_zero]
                    · rfl
                · simp only [List.mem_cons, List.not_mem_nil, or_false] at ha
                  rcases ha with rfl | rfl
                  · exact s2
                  · exact h2 _ (by simp)
              · cases hx2
            · cases hx2
          · cases hx1
      · cases hx
    · cases hx
  · cases hx
theorem zk_i43_ok {E : zk_E} {N : zk_N} (hN : zk_ok E N) (hc : zk_cl N) {pl : Nat} {ba : zk_V} (hp : pl < N.1) (hb : zk_sv N.1 ba) {q : zk_G} (hq : q ∈ N.2.2.2) : ∀ x ∈ zk_i43 pl ba N q, zk_tru E N.1 x := by
  have ht := zk_tru_of hN hc q hq
  intro x hx
  unfold zk_i43 at hx
  split at hx
  · rename_i z f i K v len d hu
    have e := zk_as_of hu
    subst e
    obtain ⟨h1, h2, h3⟩ := ht
    split at hx
    · rename_i c
      simp only [Bool.and_eq_true] at c
      obtain ⟨⟨⟨c1, c2⟩, c3⟩, c4⟩ := c
      have c1 := zk_fci_of (n := 107) hN c1
      have c2 := zk_eqE_of hN c2
      have c3 := zk_n2_ok hN c3
      have c4 := zk_nz_ok hN c4
      rw [zk_c_i] at c2
      rw [zk_vsub_i, zk_c_i] at c3
      simp only [List.map_cons, List.map_nil, zq_6, zq_7, zq_8, zq_9, zq_20, zq_21, zq_22, zq_25, zq_26, zq_28, zq_30, zq_40, zq_51, zq_52, zq_53, zq_54, zq_55, zq_64, zq_65, zq_68, zq_72, zq_73, zq_85, zq_74, zq_75, zq_76, zq_71, zq_86, zq_87, zq_80, zq_41, zq_42, zq_43, zq_94, zq_95, zq_47, zq_48, zq_96, zq_97, zq_88, zq_89, zq_90, zq_93, zq_61, zq_62, zq_1, zq_2, zq_3, zq_4, zq_5, zx_90] at h1
      rw [c1] at h1
      obtain ⟨-, -, hF⟩ := h1
      have hF : zx_F 107 [E.2 z] [zk_i E v, zk_i E len] (zk_i E K).toNat = ([zk_i E d], [E.2 f]) := hF
      obtain ⟨d', f', g1, g2⟩ := zy_fi (z := E.2 z) (v := zk_i E v) (len := zk_i E len) (by omega) (zk_i E K).toNat
      rw [hF] at g1
      cases g1
      rcases g2 with ⟨g2, -⟩ | ⟨-, g2⟩
      · exact absurd g2 c4
      · rw [List.mem_singleton.mp hx]
        refine ⟨?_, fun a ha => ?_, fun u hu => ?_⟩
        · simp only [List.map_cons, List.map_nil, zq_6, zq_7, zq_8, zq_9, zq_20, zq_21, zq_22, zq_25, zq_26, zq_28, zq_30, zq_40, zq_51, zq_52, zq_53, zq_54, zq_55, zq_64, zq_65, zq_68, zq_72, zq_73, zq_85, zq_74, zq_75, zq_76, zq_71, zq_86, zq_87, zq_80, zq_41, zq_42, zq_43, zq_94, zq_95, zq_47, zq_48, zq_96, zq_97, zq_88, zq_89, zq_90, zq_93, zq_61, zq_62, zq_1, zq_2, zq_3, zq_4, zq_5, zk_c_i]
          intro b hb5
          rw [g2]
          show (if b < (zk_i E len).toNat then zk_i E v else E.2 z b) = _
          rw [if_pos (by omega), c2]
          split <;> rfl
        · simp only [List.mem_cons, List.not_mem_nil, or_false] at ha
          rcases ha with rfl | rfl
          · exact h2 _ (by simp)
          · exact hp
        · simp only [List.mem_cons, List.not_mem_nil, or_false] at hu
          rcases hu with rfl | rfl
          · exact zk_c_sv
          · exact hb
    · cases hx
  · cases hx
/-- the place row and the barns of the land in local 0 -/
def zk_l43 (z : zk_Z) : Option (Nat × zk_V) := match zk_loc 0 z.2.2.1 with
  | some t => match zk_get z.2.1 t.2.1 with
    | some c => match zk_get c.2.2 10, zk_get c.2.2 0 with
      | some r, some b => match zk_row z.2.1 r with
        | some (_, _, _, a) => match Nat.blt a z.1.1 && zk_svB z.1.1 b.2.2 with
          | true => some (a, b.2.2)
          | false => none
        | none => none
      | _, _ => none
    | none => none
  | none => none
def zk_f43 (z : zk_Z) (N : zk_N) : Option zk_N := match zk_l43 z with
  | some (pl, ba) => some (zk_addGs N ((zk_kd 90 N).flatMap (zk_i43 pl ba N)))
  | none => some N
def zk_g43 (N : zk_N) : Option zk_N := some (zk_addGs N ((zk_kd 43 N).flatMap (zk_k43 N)))
theorem zk_g43_gd {E : zk_E} {n : Nat} : zk_gd E n zk_g43 := zk_add_gd (f := fun N => (zk_kd 43 N).flatMap (zk_k43 N)) fun N hN hc hn x hx => by
  obtain ⟨y, hy1, hy2⟩ := List.mem_flatMap.mp hx
  rw [← hn]
  exact zk_k43_ok hN hc (zk_kd_m hy1) x hy2
theorem zk_f43_gd {z : zk_Z} {E : zk_E} : zk_gd E z.1.1 (zk_f43 z) := by
  intro N hN hc hn
  unfold zk_f43
  split
  · rename_i pl ba hl
    unfold zk_l43 at hl
    split at hl
    · split at hl
      · split at hl
        · split at hl
          · split at hl
            · rename_i c
              rw [Bool.and_eq_true] at c
              cases hl
              have b1 := Nat.blt_eq.mp c.1
              have b2 := zk_svB_of c.2
              refine zk_add_gd (f := fun N => (zk_kd 90 N).flatMap (zk_i43 _ _ N)) (fun N hN hc hn x hx => ?_) N hN hc hn
              obtain ⟨y, hy1, hy2⟩ := List.mem_flatMap.mp hx
              rw [← hn] at b1 b2 ⊢
              exact zk_i43_ok hN hc b1 b2 (zk_kd_m hy1) x hy2
            · cases hl
          · cases hl
        · cases hl
      · cases hl
    · cases hl
  · exact zk_id_gd N hN hc hn
def zk_r43 : zk_Rl := fun z => match zk_sq (zk_f43 z) zk_g43 z.1 with
  | some N => some [N]
  | none => some []
theorem zk_r43_ok : zk_Rok zk_r43 := by
  refine zk_Rs_ok fun z L hz E h hc hcs hl hs => ?_
  obtain ⟨N', a1, a2, a3, a4⟩ := zk_sq_gd (E := E) (n := z.1.1) zk_f43_gd zk_g43_gd z.1 h hc rfl
  unfold zk_r43 at hz
  rw [a1] at hz
  cases hz
  exact ⟨N', List.mem_cons_self, a2, a3, a4⟩
/-- a barn more: none lies there -/
def zk_w43 (N : zk_N) (q : zk_G) : List zk_G := match zk_as 43 q with
  | some ([ly, pl], [k, ba]) => match N.2.2.2.any fun h => match zk_as 41 h with
      | some ([pl'], [bo, ba']) => Nat.beq pl' pl && zk_n2 N (zk_vsub bo k) && zk_n2 N (zk_vsub ba ba') && zk_n2 N k
      | _ => false with
    | true => [(43, [ly, pl], [k, zk_vadd ba (zk_c 1)])]
    | false => []
  | _ => []
theorem zk_cn_0 {f : Nat → Int} {b : Int} : ∀ {k : Nat}, (∀ j, j < k → f j ≠ b) → zx_cn f b k = 0
  | 0, _ => rfl
  | k + 1, h => by
    rw [zk_cn_s, zk_cn_0 fun j hj => h j (by omega), if_neg (h k (by omega))]
theorem zk_w43_ok {E : zk_E} {N : zk_N} (hN : zk_ok E N) (hc : zk_cl N) {q : zk_G} (hq : q ∈ N.2.2.2) : ∀ x ∈ zk_w43 N q, zk_tru E N.1 x := by
  have ht := zk_tru_of hN hc q hq
  intro x hx
  unfold zk_w43 at hx
  split at hx
  · rename_i ly pl k ba hu
    have e := zk_as_of hu
    subst e
    obtain ⟨h1, h2, h3⟩ := ht
    simp only [List.map_cons, List.map_nil, zq_6, zq_7, zq_8, zq_9, zq_20, zq_21, zq_22, zq_25, zq_26, zq_28, zq_30, zq_40, zq_51, zq_52, zq_53, zq_54, zq_55, zq_64, zq_65, zq_68, zq_72, zq_73, zq_85, zq_74, zq_75, zq_76, zq_71, zq_86, zq_87, zq_80, zq_41, zq_42, zq_43, zq_94, zq_95, zq_47, zq_48, zq_96, zq_97, zq_88, zq_89, zq_90, zq_93, zq_61, zq_62, zq_1, zq_2, zq_3, zq_4, zq_5] at h1
    split at hx
    · rename_i c
      obtain ⟨h, hh, c⟩ := List.any_eq_true.mp c
      split at c
      · rename_i pl' bo ba' hu2
        have e2 := zk_as_of hu2
        subst e2
        have t := hN.2.2 _ hh
        simp only [Bool.and_eq_true] at c
        obtain ⟨⟨⟨c1, c2⟩, c3⟩, c4⟩ := c
        have c1 := Nat.eq_of_beq_eq_true c1
        have c2 := zk_n2_ok hN c2
        have c3 := zk_n2_ok hN c3
        have c4 := zk_n2_ok hN c4
        rw [zk_vsub_i] at c2 c3
        subst c1
        simp only [List.map_cons, List.map_nil, zq_6, zq_7, zq_8, zq_9, zq_20, zq_21, zq_22, zq_25, zq_26, zq_28, zq_30, zq_40, zq_51, zq_52, zq_53, zq_54, zq_55, zq_64, zq_65, zq_68, zq_72, zq_73, zq_85, zq_74, zq_75, zq_76, zq_71, zq_86, zq_87, zq_80, zq_41, zq_42, zq_43, zq_94, zq_95, zq_47, zq_48, zq_96, zq_97, zq_88, zq_89, zq_90, zq_93, zq_61, zq_62, zq_1, zq_2, zq_3, zq_4, zq_5] at t
        rw [List.mem_singleton.mp hx]
        refine ⟨?_, h2, fun u hu => ?_⟩
        · simp only [List.map_cons, List.map_nil, zq_6, zq_7, zq_8, zq_9, zq_20, zq_21, zq_22, zq_25, zq_26, zq_28, zq_30, zq_40, zq_51, zq_52, zq_53, zq_54, zq_55, zq_64, zq_65, zq_68, zq_72, zq_73, zq_85, zq_74, zq_75, zq_76, zq_71, zq_86, zq_87, zq_80, zq_41, zq_42, zq_43, zq_94, zq_95, zq_47, zq_48, zq_96, zq_97, zq_88, zq_89, zq_90, zq_93, zq_61, zq_62, zq_1, zq_2, zq_3, zq_4, zq_5, zk_vadd_i, zk_c_i]
          intro b hb
          rw [h1 b hb]
          by_cases hlt : (b : Int) < zk_i E ba
          · rw [if_pos hlt, if_pos (by omega)]
          · rw [if_neg hlt]
            split
            · rw [zk_cn_0 fun j hj hje => ?_]
              · rfl
              · have := t j (by omega)
                omega
            · rfl
        · simp only [List.mem_cons, List.not_mem_nil, or_false] at hu
          rcases hu with rfl | rfl
          · exact h3 _ (by simp)
          · exact zk_vadd_sv (h3 _ (by simp)) zk_c_sv
      · cases c
    · cases hx
  · cases hx
def zk_r43w : zk_Rl := zk_nr fun N => some (zk_addGs N ((zk_kd 43 N).flatMap (zk_w43 N)))
theorem zk_r43w_ok : zk_Rok zk_r43w := zk_nr_ok fun E n => zk_add_gd (f := fun N => (zk_kd 43 N).flatMap (zk_w43 N)) fun N hN hc hn x hx => by
  obtain ⟨y, hy1, hy2⟩ := List.mem_flatMap.mp hx
  rw [← hn]
  exact zk_w43_ok hN hc (zk_kd_m hy1) x hy2
end
