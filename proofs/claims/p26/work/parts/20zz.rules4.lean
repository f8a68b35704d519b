noncomputable section
/-! DEALS -/
theorem zx_SI_le {bed needs blue : Nat → Int} {boys limit b v : Int} (hb : boys ≤ 8) : (zx_SI bed needs blue boys limit b v : Int) ≤ 8 := by
  unfold zx_SI
  split
  · omega
  · have := zx_si_le (bed := bed) (needs := needs) (b := b) (n := zx_cn bed b boys.toNat) (v := v) (m := boys.toNat)
    omega
theorem zx_best_store {bed needs blue bd bd' : Nat → Int} {boys limit barns b0 l0 v : Int} (h : zx_best bed needs blue bd boys limit barns b0 l0) (h1 : 1 ≤ b0) (h2 : b0 ≤ barns) (h3 : 0 ≤ l0) (h4 : l0 ≤ 99) (h5 : boys ≤ 8) (hw : ∃ y : Int, 0 ≤ y ∧ y ≤ l0 ∧ (zx_SI bed needs blue boys limit (b0 - 1) y : Int) + bd (100 * b0 + l0 - y).toNat = v) (he : bd' = fun j => if j = (100 * (b0 - 1) + l0).toNat then v else bd j) : zx_best bed needs blue bd' boys limit barns b0 (l0 + 1) := by
  obtain ⟨ha, hb⟩ := h
  have far : ∀ i : Int, 0 ≤ i → i ≠ 100 * (b0 - 1) + l0 → bd' i.toNat = bd i.toNat := fun i hi hne => by
    rw [he]
    exact if_neg (by omega)
  have at_ : bd' (100 * (b0 - 1) + l0).toNat = v := by rw [he]; exact if_pos rfl
  obtain ⟨y0, y1, y2, y3⟩ := hw
  refine ⟨fun b left c1 c2 c3 c4 c5 => ?_, fun b left c1 c2 c3 c4 c5 => ?_⟩
  · by_cases hnew : b = b0 - 1 ∧ left = l0
    · obtain ⟨rfl, rfl⟩ := hnew
      refine ⟨y0, y1, y2, ?_⟩
      rw [at_, show b0 - 1 + 1 = b0 by omega, far _ (by omega) (by omega)]
      exact y3
    · have hold : b0 ≤ b ∨ (b = b0 - 1 ∧ left < l0) := by omega
      obtain ⟨y, z1, z2, z3⟩ := ha b left c1 c2 c3 c4 hold
      exact ⟨y, z1, z2, by rw [far _ (by omega) (by omega), far _ (by omega) (by omega)]; exact z3⟩
  · by_cases hnew : b = b0 - 1 ∧ left = l0
    · obtain ⟨rfl, rfl⟩ := hnew
      rw [at_, ← y3]
      have := zx_SI_le (bed := bed) (needs := needs) (blue := blue) (boys := boys) (limit := limit) (b := b0 - 1) (v := y0) h5
      have q := hb b0 (left - y0) (by omega) (by omega) (by omega) (by omega) (Or.inl (by omega))
      rw [show 100 * b0 + (left - y0) = 100 * b0 + left - y0 by omega] at q
      omega
    · have hold : b0 ≤ b ∨ (b = b0 - 1 ∧ left < l0) := by omega
      rw [far _ (by omega) (by omega)]
      exact hb b left c1 c2 c3 c4 hold
theorem zx_best_top {bed needs blue bd bd' : Nat → Int} {boys limit barns l0 : Int} (h : zx_best bed needs blue bd boys limit barns (barns + 1) l0) (h1 : 0 ≤ barns) (h3 : 0 ≤ l0) (he : bd' = fun j => if j = (100 * barns + l0).toNat then 0 else bd j) : zx_best bed needs blue bd' boys limit barns (barns + 1) (l0 + 1) := by
  obtain ⟨ha, hb⟩ := h
  refine ⟨fun b left c1 c2 c3 c4 c5 => by omega, fun b left c1 c2 c3 c4 c5 => ?_⟩
  by_cases hnew : left = l0
  · have : b = barns := by omega
    subst this
    rw [he, hnew]
    simp only [if_true]
    omega
  · rw [he]
    simp only
    rw [if_neg (by omega)]
    exact hb b left c1 c2 c3 c4 (by omega)
theorem zx_best_down {bed needs blue bd : Nat → Int} {boys limit barns b0 l0 : Int} (h : zx_best bed needs blue bd boys limit barns b0 l0) (hl : 100 ≤ l0) : zx_best bed needs blue bd boys limit barns (b0 - 1) 0 := by
  obtain ⟨ha, hb⟩ := h
  exact ⟨fun b left c1 c2 c3 c4 c5 => ha b left c1 c2 c3 c4 (by omega), fun b left c1 c2 c3 c4 c5 => hb b left c1 c2 c3 c4 (by omega)⟩
/-- rows bed, needs, blue1, bestDeal; boys, limit, barns -/
abbrev zk_DL : Type := Nat × Nat × Nat × Nat × zk_V × zk_V × zk_V
def zk_dl (z : zk_Z) : Option zk_DL := match zk_rowf z 8, zk_rowf z 7, zk_rowf z 35, zk_rowf z 40, zk_intf z 6, zk_intf z 13, zk_intf z 1 with
  | some a, some b, some c, some d, some e, some f, some g => some (a, b, c, d, e, f, g)
  | _, _, _, _, _, _, _ => none
theorem zk_dl_of {z : zk_Z} (hcs : ∀ c ∈ z.2.1, zk_cs z.1.1 c) {D : zk_DL} (h : zk_dl z = some D) : D.1 < z.1.1 ∧ D.2.1 < z.1.1 ∧ D.2.2.1 < z.1.1 ∧ D.2.2.2.1 < z.1.1 ∧ zk_sv z.1.1 D.2.2.2.2.1 ∧ zk_sv z.1.1 D.2.2.2.2.2.1 ∧ zk_sv z.1.1 D.2.2.2.2.2.2 := by
  unfold zk_dl at h
  split at h
  · rename_i a b c d e f g h1 h2 h3 h4 h5 h6 h7
    injection h with h
    subst h
    exact ⟨zk_rowf_lt hcs h1, zk_rowf_lt hcs h2, zk_rowf_lt hcs h3, zk_rowf_lt hcs h4, zk_intf_sv hcs h5, zk_intf_sv hcs h6, zk_intf_sv hcs h7⟩
  · cases h
/-- a fact added alone -/
theorem zk_add1 {E : zk_E} {N : zk_N} (h : zk_ok E N) (hc : zk_cl N) {g : zk_G} (hg : zk_good E N g) : ∃ N' ∈ [zk_addGs N [g]], zk_ok E N' ∧ zk_cl N' ∧ N'.1 = N.1 := by
  obtain ⟨k1, k2⟩ := zk_addGs_ok h hc (L := [g]) (fun g' hg' => by rw [List.mem_singleton.mp hg']; exact hg)
  exact ⟨_, List.mem_cons_self, k1, k2, rfl⟩
theorem zk_vs2 {n : Nat} {a b : zk_V} (h1 : zk_sv n a) (h2 : zk_sv n b) : ∀ v ∈ [a, b], zk_sv n v := fun v hv => by
  simp only [List.mem_cons, List.not_mem_nil, or_false] at hv
  rcases hv with rfl | rfl <;> assumption
theorem zk_vs5 {n : Nat} {a b c d e : zk_V} (h1 : zk_sv n a) (h2 : zk_sv n b) (h3 : zk_sv n c) (h4 : zk_sv n d) (h5 : zk_sv n e) : ∀ v ∈ [a, b, c, d, e], zk_sv n v := fun v hv => by
  simp only [List.mem_cons, List.not_mem_nil, or_false] at hv
  rcases hv with rfl | rfl | rfl | rfl | rfl <;> assumption
theorem zk_vs6 {n : Nat} {a b c d e f : zk_V} (h1 : zk_sv n a) (h2 : zk_sv n b) (h3 : zk_sv n c) (h4 : zk_sv n d) (h5 : zk_sv n e) (h6 : zk_sv n f) : ∀ v ∈ [a, b, c, d, e, f], zk_sv n v := fun v hv => by
  simp only [List.mem_cons, List.not_mem_nil, or_false] at hv
  rcases hv with rfl | rfl | rfl | rfl | rfl | rfl <;> assumption
theorem zk_rs2 {n a b : Nat} (h1 : a < n) (h2 : b < n) : ∀ v ∈ [a, b], v < n := fun v hv => by
  simp only [List.mem_cons, List.not_mem_nil, or_false] at hv
  rcases hv with rfl | rfl <;> assumption
theorem zk_rs3 {n a b c : Nat} (h1 : a < n) (h2 : b < n) (h3 : c < n) : ∀ v ∈ [a, b, c], v < n := fun v hv => by
  simp only [List.mem_cons, List.not_mem_nil, or_false] at hv
  rcases hv with rfl | rfl | rfl <;> assumption
theorem zk_rs4 {n a b c d : Nat} (h1 : a < n) (h2 : b < n) (h3 : c < n) (h4 : d < n) : ∀ v ∈ [a, b, c, d], v < n := fun v hv => by
  simp only [List.mem_cons, List.not_mem_nil, or_false] at hv
  rcases hv with rfl | rfl | rfl | rfl <;> assumption
/-- nobody sleeps where it is blue: locals b, v -/
def zk_r51a (lb lv : Nat) : zk_Rl := fun z => match zk_dl z, zk_locv z lb, zk_locv z lv with
  | some D, some b, some v => match zk_mem1 D.2.2.1 b z.1.2.2.2 with
    | some w => match zk_n2 z.1 (zk_vsub w D.2.2.2.2.2.1) with
      | true => some [zk_addGs z.1 [(51, [D.1, D.2.1, D.2.2.1], [D.2.2.2.2.1, D.2.2.2.2.2.1, b, v, zk_c 0])]]
      | false => none
    | none => none
  | _, _, _ => none
theorem zk_r51a_ok (lb lv : Nat) : zk_Rok (zk_r51a lb lv) := by
  refine zk_Rs_ok fun z L hz E h hc hcs hl hs => ?_
  unfold zk_r51a at hz
  split at hz
  · rename_i D b v hD hb hv
    obtain ⟨d1, d2, d3, d4, d5, d6, d7⟩ := zk_dl_of hcs hD
    split at hz
    · rename_i w hw
      split at hz
      · rename_i g
        cases hz
        have g := zk_n2_ok h g
        rw [zk_vsub_i] at g
        have hr := zk_mem1_i h hw
        refine zk_add1 h hc ⟨?_, zk_rs3 d1 d2 d3, zk_vs5 d5 d6 (zk_locv_sv hl hb) (zk_locv_sv hl hv) zk_c_sv⟩
        show zk_i E (zk_c 0) = (zx_SI (E.2 D.1) (E.2 D.2.1) (E.2 D.2.2.1) (zk_i E D.2.2.2.2.1) (zk_i E D.2.2.2.2.2.1) (zk_i E b) (zk_i E v) : Int)
        unfold zx_SI
        rw [zk_c_i, if_pos (by rw [hr]; omega)]
        rfl
      · cases hz
    · cases hz
  · cases hz
/-- who sleeps, counted from the first on: locals b, n, v -/
def zk_r52i (lb ln lv : Nat) : zk_Rl := fun z => match zk_dl z, zk_locv z lb, zk_locv z ln, zk_locv z lv with
  | some D, some b, some n, some v => some [zk_addGs z.1 [(52, [D.1, D.2.1], [b, n, v, zk_c 0, zk_c 0])]]
  | _, _, _, _ => none
theorem zk_r52i_ok (lb ln lv : Nat) : zk_Rok (zk_r52i lb ln lv) := by
  refine zk_Rs_ok fun z L hz E h hc hcs hl hs => ?_
  unfold zk_r52i at hz
  split at hz
  · rename_i D b n v hD hb hn hv
    obtain ⟨d1, d2, d3, d4, d5, d6, d7⟩ := zk_dl_of hcs hD
    cases hz
    refine zk_add1 h hc ⟨?_, zk_rs2 d1 d2, zk_vs5 (zk_locv_sv hl hb) (zk_locv_sv hl hn) (zk_locv_sv hl hv) zk_c_sv zk_c_sv⟩
    show zk_i E (zk_c 0) = (zx_si (E.2 D.1) (E.2 D.2.1) (zk_i E b) (zk_i E n) (zk_i E v) (zk_i E (zk_c 0)).toNat : Int)
    rw [zk_c_i]
    rfl
  · cases hz
/-- a quotient that is known -/
def zk_quo (N : zk_N) (x y : zk_V) : List zk_G → Option zk_V
  | [] => none
  | (6, [], [x', y', q]) :: l => match zk_eqv x' x && zk_eqv y' y with
    | true => some q
    | false => zk_quo N x y l
  | _ :: l => zk_quo N x y l
theorem zk_quo_of {N : zk_N} {x y q : zk_V} : ∀ {l : List zk_G}, zk_quo N x y l = some q → (6, [], [x, y, q]) ∈ l
  | [], h => by cases h
  | a :: l, h => by
    unfold zk_quo at h
    split at h
    · rename_i heq
      cases heq
    · rename_i x' y' q' l' heq
      cases heq
      split at h
      · rename_i e
        simp only [Bool.and_eq_true] at e
        injection h with h
        rw [← h, ← zk_eqv_of e.1, ← zk_eqv_of e.2]
        exact List.mem_cons_self
      · exact List.mem_cons_of_mem _ (zk_quo_of h)
    · rename_i heq
      cases heq
      exact List.mem_cons_of_mem _ (zk_quo_of h)
def zk_e52 (N : zk_N) : zk_G → List zk_G
  | (52, [f, g], [b, n, v, k, r]) => match zk_n2 N k, zk_mem1 f k N.2.2.2 with
    | true, some w => match zk_nz N (zk_vsub w b) || zk_nz N (zk_vsub b w) with
      | true => [(52, [f, g], [b, n, v, zk_vadd k (zk_c 1), r])]
      | false => match zk_eqE N w b && zk_n2 N v && zk_n2 N (zk_vsub n (zk_c 1)), zk_mem1 g k N.2.2.2, zk_quo N v n N.2.2.2 with
        | true, some u, some q => match zk_n2 N (zk_vsub q u) with
          | true => [(52, [f, g], [b, n, v, zk_vadd k (zk_c 1), zk_vadd r (zk_c 1)])]
          | false => match zk_n2 N (zk_vsub (zk_vsub u q) (zk_c 1)) with
            | true => [(52, [f, g], [b, n, v, zk_vadd k (zk_c 1), r])]
            | false => []
        | _, _, _ => []
    | _, _ => []
  | _ => []
def zk_r52s : zk_Rl := fun z => some [zk_addGs z.1 (zk_fm (zk_e52 z.1) z.1.2.2.2)]
theorem zk_e52_ok {E : zk_E} {N : zk_N} (h : zk_ok E N) (hc : zk_cl N) : ∀ g ∈ zk_fm (zk_e52 N) N.2.2.2, zk_good E N g := by
  intro g hg
  obtain ⟨g0, hg0, hd⟩ := zk_fm_mem hg
  unfold zk_e52 at hd
  split at hd
  · rename_i f g' b n v k r
    obtain ⟨s1, s2, s3⟩ := zk_old_good h hc hg0
    have s1 : zk_i E r = (zx_si (E.2 f) (E.2 g') (zk_i E b) (zk_i E n) (zk_i E v) (zk_i E k).toNat : Int) := s1
    have hb := s3 b (by simp)
    have hn := s3 n (by simp)
    have hv := s3 v (by simp)
    have hk := s3 k (by simp)
    have hr := s3 r (by simp)
    split at hd
    · rename_i w hk0 hm
      have e0 := zk_n2_ok h hk0
      have er := zk_mem1_i h hm
      have ek : (zk_i E k + 1).toNat = (zk_i E k).toNat + 1 := by omega
      have same : ¬ (E.2 f (zk_i E k).toNat = zk_i E b ∧ E.2 g' (zk_i E k).toNat ≤ zk_i E v / zk_i E n) → zk_good E N (52, [f, g'], [b, n, v, zk_vadd k (zk_c 1), r]) := by
        intro hne
        refine ⟨?_, s2, zk_vs5 hb hn hv (zk_vadd_sv hk zk_c_sv) hr⟩
        show zk_i E r = (zx_si (E.2 f) (E.2 g') (zk_i E b) (zk_i E n) (zk_i E v) (zk_i E (zk_vadd k (zk_c 1))).toNat : Int)
        rw [zk_vadd_i, zk_c_i, ek]
        unfold zx_si
        rw [if_neg hne]
        omega
      split at hd
      · rename_i e
        rw [List.mem_singleton.mp hd]
        refine same fun q => ?_
        simp only [Bool.or_eq_true] at e
        rcases e with e | e
        · have := zk_nz_ok h e
          rw [zk_vsub_i] at this
          omega
        · have := zk_nz_ok h e
          rw [zk_vsub_i] at this
          omega
      · split at hd
        · rename_i u q ec hu hq
          simp only [Bool.and_eq_true] at ec
          have e1 := zk_eqE_of h ec.1.1
          have e2 := zk_n2_ok h ec.1.2
          have e3 := zk_n2_ok h ec.2
          rw [zk_vsub_i, zk_c_i] at e3
          have eu := zk_mem1_i h hu
          have hqS : 0 ≤ zk_i E v → 1 ≤ zk_i E n → zk_i E q = zk_i E v / zk_i E n := h.2.2 _ (zk_quo_of hq)
          have hq' := hqS e2 (by omega)
          split at hd
          · rename_i e4
            have e4 := zk_n2_ok h e4
            rw [zk_vsub_i] at e4
            rw [List.mem_singleton.mp hd]
            refine ⟨?_, s2, zk_vs5 hb hn hv (zk_vadd_sv hk zk_c_sv) (zk_vadd_sv hr zk_c_sv)⟩
            show zk_i E (zk_vadd r (zk_c 1)) = (zx_si (E.2 f) (E.2 g') (zk_i E b) (zk_i E n) (zk_i E v) (zk_i E (zk_vadd k (zk_c 1))).toNat : Int)
            rw [zk_vadd_i, zk_vadd_i, zk_c_i, ek]
            unfold zx_si
            rw [if_pos ⟨by rw [er, e1], by rw [eu, ← hq']; omega⟩]
            omega
          · split at hd
            · rename_i e4
              have e4 := zk_n2_ok h e4
              rw [zk_vsub_i, zk_vsub_i, zk_c_i] at e4
              rw [List.mem_singleton.mp hd]
              exact same fun qq => by
                have := qq.2
                rw [eu, ← hq'] at this
                omega
            · cases hd
        · cases hd
    · cases hd
  · cases hd
theorem zk_r52s_ok : zk_Rok zk_r52s := by
  refine zk_Rs_ok fun z L hz E h hc hcs hl hs => ?_
  cases hz
  obtain ⟨k1, k2⟩ := zk_addGs_ok h hc (zk_e52_ok h hc)
  exact ⟨_, List.mem_cons_self, k1, k2, rfl⟩
/-- all are counted: locals b, n, v, r -/
def zk_r51b (lb ln lv lr : Nat) : zk_Rl := fun z => match zk_dl z, zk_locv z lb, zk_locv z ln, zk_locv z lv, zk_locv z lr with
  | some D, some b, some n, some v, some r => match zk_fnd 52 [D.1, D.2.1] (fun vs => zk_eqEs z.1 vs [b, n, v, D.2.2.2.2.1, r]) z.1.2.2.2, zk_fnd 40 [D.1] (fun vs => zk_eqEs z.1 vs [b, D.2.2.2.2.1, n]) z.1.2.2.2, zk_mem1 D.2.2.1 b z.1.2.2.2 with
    | some _, some _, some w => match zk_n2 z.1 (zk_vsub (zk_vsub D.2.2.2.2.2.1 w) (zk_c 1)) with
      | true => some [zk_addGs z.1 [(51, [D.1, D.2.1, D.2.2.1], [D.2.2.2.2.1, D.2.2.2.2.2.1, b, v, r])]]
      | false => none
    | _, _, _ => none
  | _, _, _, _, _ => none
theorem zk_r51b_ok (lb ln lv lr : Nat) : zk_Rok (zk_r51b lb ln lv lr) := by
  refine zk_Rs_ok fun z L hz E h hc hcs hl hs => ?_
  unfold zk_r51b at hz
  split at hz
  · rename_i D b n v r hD hb hn hv hr
    obtain ⟨d1, d2, d3, d4, d5, d6, d7⟩ := zk_dl_of hcs hD
    split at hz
    · rename_i g1 g2 w hg1 hg2 hw
      split at hz
      · rename_i g
        cases hz
        have g := zk_n2_ok h g
        rw [zk_vsub_i, zk_vsub_i, zk_c_i] at g
        have hrd := zk_mem1_i h hw
        obtain ⟨a1, a2, a3, a4⟩ := zk_fnd_of hg1
        obtain ⟨b1, b2, b3, b4⟩ := zk_fnd_of hg2
        have q1 := h.2.2 g1 a1
        rw [a2, a3, zk_eqEs_of h a4] at q1
        have q2 := h.2.2 g2 b1
        rw [b2, b3, zk_eqEs_of h b4] at q2
        have q1 : zk_i E r = (zx_si (E.2 D.1) (E.2 D.2.1) (zk_i E b) (zk_i E n) (zk_i E v) (zk_i E D.2.2.2.2.1).toNat : Int) := q1
        have q2 : zk_i E n = (zx_cn (E.2 D.1) (zk_i E b) (zk_i E D.2.2.2.2.1).toNat : Int) := q2
        refine zk_add1 h hc ⟨?_, zk_rs3 d1 d2 d3, zk_vs5 d5 d6 (zk_locv_sv hl hb) (zk_locv_sv hl hv) (zk_locv_sv hl hr)⟩
        show zk_i E r = (zx_SI (E.2 D.1) (E.2 D.2.1) (E.2 D.2.2.1) (zk_i E D.2.2.2.2.1) (zk_i E D.2.2.2.2.2.1) (zk_i E b) (zk_i E v) : Int)
        unfold zx_SI
        rw [if_neg (by rw [hrd]; omega), q1, q2]
      · cases hz
    · cases hz
  · cases hz
end
