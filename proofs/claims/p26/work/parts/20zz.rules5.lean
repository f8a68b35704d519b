noncomputable section
/-! DEALS FOUND -/
/-- nothing is found yet -/
def zk_r53i : zk_Rl := fun z => match zk_dl z with
  | some D => some [zk_addGs z.1 [(53, [D.1, D.2.1, D.2.2.1, D.2.2.2.1], [D.2.2.2.2.1, D.2.2.2.2.2.1, D.2.2.2.2.2.2, zk_vadd D.2.2.2.2.2.2 (zk_c 1), zk_c 0])]]
  | none => none
theorem zk_r53i_ok : zk_Rok zk_r53i := by
  refine zk_Rs_ok fun z L hz E h hc hcs hl hs => ?_
  unfold zk_r53i at hz
  split at hz
  · rename_i D hD
    obtain ⟨d1, d2, d3, d4, d5, d6, d7⟩ := zk_dl_of hcs hD
    cases hz
    refine zk_add1 h hc ⟨?_, zk_rs4 d1 d2 d3 d4, zk_vs5 d5 d6 d7 (zk_vadd_sv d7 zk_c_sv) zk_c_sv⟩
    show zx_best (E.2 D.1) (E.2 D.2.1) (E.2 D.2.2.1) (E.2 D.2.2.2.1) (zk_i E D.2.2.2.2.1) (zk_i E D.2.2.2.2.2.1) (zk_i E D.2.2.2.2.2.2) (zk_i E (zk_vadd D.2.2.2.2.2.2 (zk_c 1))) (zk_i E (zk_c 0))
    rw [zk_vadd_i, zk_c_i, zk_c_i]
    exact ⟨fun b left c1 c2 c3 c4 c5 => by omega, fun b left c1 c2 c3 c4 c5 => by omega⟩
  · cases hz
/-- a barn's deals all are found -/
def zk_e53 (N : zk_N) : zk_G → List zk_G
  | (53, rs, [m, li, k, b, l]) => match zk_n2 N (zk_vsub l (zk_c 100)) with
    | true => [(53, rs, [m, li, k, zk_vsub b (zk_c 1), zk_c 0])]
    | false => []
  | _ => []
def zk_r53b : zk_Rl := fun z => some [zk_addGs z.1 (zk_fm (zk_e53 z.1) z.1.2.2.2)]
theorem zk_r53b_ok : zk_Rok zk_r53b := by
  refine zk_Rs_ok fun z L hz E h hc hcs hl hs => ?_
  cases hz
  obtain ⟨k1, k2⟩ := zk_addGs_ok h hc (L := zk_fm (zk_e53 z.1) z.1.2.2.2) (fun g hg => by
    obtain ⟨g0, hg0, hd⟩ := zk_fm_mem hg
    unfold zk_e53 at hd
    split at hd
    · rename_i rs m li k b l
      split at hd
      · rename_i e
        have e := zk_n2_ok h e
        rw [zk_vsub_i, zk_c_i] at e
        obtain ⟨s1, s2, s3⟩ := zk_old_good h hc hg0
        rw [List.mem_singleton.mp hd]
        refine ⟨?_, s2, zk_vs5 (s3 m (by simp)) (s3 li (by simp)) (s3 k (by simp)) (zk_vsub_sv (s3 b (by simp)) zk_c_sv) zk_c_sv⟩
        match rs, s1 with
        | [r1, r2, r3, r4], s1 =>
          have s1 : zx_best (E.2 r1) (E.2 r2) (E.2 r3) (E.2 r4) (zk_i E m) (zk_i E li) (zk_i E k) (zk_i E b) (zk_i E l) := s1
          show zx_best (E.2 r1) (E.2 r2) (E.2 r3) (E.2 r4) (zk_i E m) (zk_i E li) (zk_i E k) (zk_i E (zk_vsub b (zk_c 1))) (zk_i E (zk_c 0))
          rw [zk_vsub_i, zk_c_i, zk_c_i]
          exact zx_best_down s1 (by omega)
        | [], _ => trivial
        | [_], _ => trivial
        | [_, _], _ => trivial
        | [_, _, _], _ => trivial
        | _ :: _ :: _ :: _ :: _ :: _, _ => trivial
      · cases hd
    · cases hd)
  exact ⟨_, List.mem_cons_self, k1, k2, rfl⟩
/-- of the topmost place: nothing -/
def zk_r53t (ll : Nat) : zk_Rl := fun z => match zk_dl z, zk_locv z ll with
  | some D, some l => match zk_sto D.2.2.2.1 z.1.2.2.2 with
    | some r => match zk_fnd 53 [D.1, D.2.1, D.2.2.1, r.1] (fun vs => zk_eqEs z.1 vs [D.2.2.2.2.1, D.2.2.2.2.2.1, D.2.2.2.2.2.2, zk_vadd D.2.2.2.2.2.2 (zk_c 1), l]) z.1.2.2.2 with
      | some _ => match zk_n2 z.1 l && zk_n2 z.1 D.2.2.2.2.2.2 && zk_eqE z.1 r.2.1 (zk_vadd (zk_vmul 100 D.2.2.2.2.2.2) l) && zk_eqE z.1 r.2.2 (zk_c 0) with
        | true => some [zk_addGs z.1 [(53, [D.1, D.2.1, D.2.2.1, D.2.2.2.1], [D.2.2.2.2.1, D.2.2.2.2.2.1, D.2.2.2.2.2.2, zk_vadd D.2.2.2.2.2.2 (zk_c 1), zk_vadd l (zk_c 1)])]]
        | false => none
      | none => none
    | none => none
  | _, _ => none
theorem zk_r53t_ok (ll : Nat) : zk_Rok (zk_r53t ll) := by
  refine zk_Rs_ok fun z L hz E h hc hcs hl hs => ?_
  unfold zk_r53t at hz
  split at hz
  · rename_i D l hD hll
    obtain ⟨d1, d2, d3, d4, d5, d6, d7⟩ := zk_dl_of hcs hD
    split at hz
    · rename_i r hr
      split at hz
      · rename_i g hg
        split at hz
        · rename_i e
          cases hz
          simp only [Bool.and_eq_true] at e
          obtain ⟨⟨⟨e1, e2⟩, e3⟩, e4⟩ := e
          have e1 := zk_n2_ok h e1
          have e2 := zk_n2_ok h e2
          have e3 := zk_eqE_of h e3
          have e4 := zk_eqE_of h e4
          rw [zk_vadd_i, zk_vmul_i] at e3
          rw [zk_c_i] at e4
          obtain ⟨a1, a2, a3, a4⟩ := zk_fnd_of hg
          have q1 := h.2.2 g a1
          rw [a2, a3, zk_eqEs_of h a4] at q1
          have q1 : zx_best (E.2 D.1) (E.2 D.2.1) (E.2 D.2.2.1) (E.2 r.1) (zk_i E D.2.2.2.2.1) (zk_i E D.2.2.2.2.2.1) (zk_i E D.2.2.2.2.2.2) (zk_i E (zk_vadd D.2.2.2.2.2.2 (zk_c 1))) (zk_i E l) := q1
          rw [zk_vadd_i, zk_c_i] at q1
          have hs := zk_sto_i h hr
          rw [e3, e4] at hs
          have sl := zk_locv_sv hl hll
          refine zk_add1 h hc ⟨?_, zk_rs4 d1 d2 d3 d4, zk_vs5 d5 d6 d7 (zk_vadd_sv d7 zk_c_sv) (zk_vadd_sv sl zk_c_sv)⟩
          show zx_best (E.2 D.1) (E.2 D.2.1) (E.2 D.2.2.1) (E.2 D.2.2.2.1) (zk_i E D.2.2.2.2.1) (zk_i E D.2.2.2.2.2.1) (zk_i E D.2.2.2.2.2.2) (zk_i E (zk_vadd D.2.2.2.2.2.2 (zk_c 1))) (zk_i E (zk_vadd l (zk_c 1)))
          rw [zk_vadd_i, zk_vadd_i, zk_c_i]
          exact zx_best_top q1 e2 e1 hs
        · cases hz
      · cases hz
    · cases hz
  · cases hz
/-- a deal is found: locals b, left -/
def zk_r53s (lb ll : Nat) : zk_Rl := fun z => match zk_dl z, zk_locv z lb, zk_locv z ll with
  | some D, some b, some l => match zk_sto D.2.2.2.1 z.1.2.2.2 with
    | some r => match zk_fnd 53 [D.1, D.2.1, D.2.2.1, r.1] (fun vs => zk_eqEs z.1 vs [D.2.2.2.2.1, D.2.2.2.2.2.1, D.2.2.2.2.2.2, zk_vadd b (zk_c 1), l]) z.1.2.2.2, zk_fnd 54 [D.1, D.2.1, D.2.2.1, r.1] (fun vs => zk_eqEs z.1 vs [D.2.2.2.2.1, D.2.2.2.2.2.1, b, l, zk_vadd l (zk_c 1), r.2.2]) z.1.2.2.2 with
      | some _, some _ => match zk_n2 z.1 l && zk_n2 z.1 (zk_vsub (zk_c 99) l) && zk_n2 z.1 b && zk_n2 z.1 (zk_vsub (zk_vsub D.2.2.2.2.2.2 b) (zk_c 1)) && zk_n2 z.1 (zk_vsub (zk_c 8) D.2.2.2.2.1) && zk_eqE z.1 r.2.1 (zk_vadd (zk_vmul 100 b) l) with
        | true => some [zk_addGs z.1 [(53, [D.1, D.2.1, D.2.2.1, D.2.2.2.1], [D.2.2.2.2.1, D.2.2.2.2.2.1, D.2.2.2.2.2.2, zk_vadd b (zk_c 1), zk_vadd l (zk_c 1)])]]
        | false => none
      | _, _ => none
    | none => none
  | _, _, _ => none
theorem zk_r53s_ok (lb ll : Nat) : zk_Rok (zk_r53s lb ll) := by
  refine zk_Rs_ok fun z L hz E h hc hcs hl hs => ?_
  unfold zk_r53s at hz
  split at hz
  · rename_i D b l hD hb hll
    obtain ⟨d1, d2, d3, d4, d5, d6, d7⟩ := zk_dl_of hcs hD
    split at hz
    · rename_i r hr
      split at hz
      · rename_i g g2 hg hg2
        split at hz
        · rename_i e
          cases hz
          simp only [Bool.and_eq_true] at e
          obtain ⟨⟨⟨⟨⟨e1, e2⟩, e3⟩, e4⟩, e5⟩, e6⟩ := e
          have e1 := zk_n2_ok h e1
          have e2 := zk_n2_ok h e2
          have e3 := zk_n2_ok h e3
          have e4 := zk_n2_ok h e4
          have e5 := zk_n2_ok h e5
          have e6 := zk_eqE_of h e6
          rw [zk_vsub_i, zk_c_i] at e2 e5
          rw [zk_vsub_i, zk_vsub_i, zk_c_i] at e4
          rw [zk_vadd_i, zk_vmul_i] at e6
          obtain ⟨a1, a2, a3, a4⟩ := zk_fnd_of hg
          have q1 := h.2.2 g a1
          rw [a2, a3, zk_eqEs_of h a4] at q1
          have q1 : zx_best (E.2 D.1) (E.2 D.2.1) (E.2 D.2.2.1) (E.2 r.1) (zk_i E D.2.2.2.2.1) (zk_i E D.2.2.2.2.2.1) (zk_i E D.2.2.2.2.2.2) (zk_i E (zk_vadd b (zk_c 1))) (zk_i E l) := q1
          obtain ⟨b1, b2, b3, b4⟩ := zk_fnd_of hg2
          have q2 := h.2.2 g2 b1
          rw [b2, b3, zk_eqEs_of h b4] at q2
          have q2 : 0 ≤ zk_i E r.2.2 ∧ ((zk_i E (zk_vadd l (zk_c 1)) ≤ 0 ∧ zk_i E r.2.2 = 0) ∨ ∃ y : Int, 0 ≤ y ∧ y < zk_i E (zk_vadd l (zk_c 1)) ∧ (zx_SI (E.2 D.1) (E.2 D.2.1) (E.2 D.2.2.1) (zk_i E D.2.2.2.2.1) (zk_i E D.2.2.2.2.2.1) (zk_i E b) y : Int) + E.2 r.1 (100 * (zk_i E b + 1) + zk_i E l - y).toNat = zk_i E r.2.2) := q2
          rw [zk_vadd_i, zk_c_i] at q1 q2
          have hs := zk_sto_i h hr
          rw [e6] at hs
          have sl := zk_locv_sv hl hll
          have sb := zk_locv_sv hl hb
          refine zk_add1 h hc ⟨?_, zk_rs4 d1 d2 d3 d4, zk_vs5 d5 d6 d7 (zk_vadd_sv sb zk_c_sv) (zk_vadd_sv sl zk_c_sv)⟩
          show zx_best (E.2 D.1) (E.2 D.2.1) (E.2 D.2.2.1) (E.2 D.2.2.2.1) (zk_i E D.2.2.2.2.1) (zk_i E D.2.2.2.2.2.1) (zk_i E D.2.2.2.2.2.2) (zk_i E (zk_vadd b (zk_c 1))) (zk_i E (zk_vadd l (zk_c 1)))
          rw [zk_vadd_i, zk_vadd_i, zk_c_i]
          refine zx_best_store q1 (by omega) (by omega) e1 (by omega) (by omega) ?_ (by rw [show zk_i E b + 1 - 1 = zk_i E b by omega]; exact hs)
          rw [show zk_i E b + 1 - 1 = zk_i E b by omega]
          rcases q2.2 with q | ⟨y, y1, y2, y3⟩
          · omega
          · exact ⟨y, y1, by omega, y3⟩
        · cases hz
      · cases hz
    · cases hz
  · cases hz
/-- a deal's number read: locals b, left, x; its place on the stack -/
def zk_r53r (lb ll lx : Nat) : zk_Rl := fun z => match zk_dl z, zk_locv z lb, zk_locv z ll, zk_locv z lx, z.2.2.2 with
  | some D, some b, some l, some x, t :: _ => match z.1.2.2.2.any (fun g => match g with
      | (53, rs, [m, li, k, b0, l0]) => zk_eqNs rs [D.1, D.2.1, D.2.2.1, D.2.2.2.1] && zk_eqE z.1 k D.2.2.2.2.2.2 && zk_n2 z.1 (zk_vsub (zk_vadd b (zk_c 1)) b0)
      | _ => false) && zk_n2 z.1 (zk_vsub (zk_c 5) D.2.2.2.2.2.2) && zk_n2 z.1 b && zk_n2 z.1 (zk_vsub (zk_vsub D.2.2.2.2.2.2 b) (zk_c 1)) && zk_n2 z.1 (zk_vsub l x) && zk_n2 z.1 (zk_vsub (zk_vadd (zk_c 99) x) l) && zk_eqE z.1 t.2.2 (zk_vsub (zk_vadd (zk_vmul 100 (zk_vadd b (zk_c 1))) l) x), zk_rd z.1 D.2.2.2.1 t.2.2 with
    | true, some r => match zk_asms r.2 [r.1, zk_vsub (zk_vmul 8 (zk_vsub (zk_vsub D.2.2.2.2.2.2 b) (zk_c 1))) r.1, zk_vsub (zk_c 40) r.1] with
      | some N' => some [N']
      | none => none
    | _, _ => none
  | _, _, _, _, _ => none
theorem zk_r53r_ok (lb ll lx : Nat) : zk_Rok (zk_r53r lb ll lx) := by
  intro z L hz E h hc hcs hl hs
  unfold zk_r53r at hz
  split at hz
  · rename_i D b l x t rest hD hb hll hx hsk
    obtain ⟨d1, d2, d3, d4, d5, d6, d7⟩ := zk_dl_of hcs hD
    split at hz
    · rename_i r e hr
      split at hz
      · rename_i N' hN
        cases hz
        simp only [Bool.and_eq_true] at e
        obtain ⟨⟨⟨⟨⟨⟨e0, e6⟩, e1⟩, e2⟩, e3⟩, e4⟩, e5⟩ := e
        have e6 := zk_n2_ok h e6
        have e1 := zk_n2_ok h e1
        have e2 := zk_n2_ok h e2
        have e3 := zk_n2_ok h e3
        have e4 := zk_n2_ok h e4
        have e5 := zk_eqE_of h e5
        rw [zk_vsub_i, zk_c_i] at e6
        rw [zk_vsub_i, zk_vsub_i, zk_c_i] at e2
        rw [zk_vsub_i] at e3
        rw [zk_vsub_i, zk_vadd_i, zk_c_i] at e4
        rw [zk_vsub_i, zk_vadd_i, zk_vmul_i, zk_vadd_i, zk_c_i] at e5
        obtain ⟨g, hg, hok⟩ := List.any_eq_true.mp e0
        have sb := zk_locv_sv hl hb
        have sl := zk_locv_sv hl hll
        have sx := zk_locv_sv hl hx
        have st : zk_sv z.1.1 t.2.2 := hs t (by rw [hsk]; exact List.mem_cons_self)
        have hbd : 0 ≤ E.2 D.2.2.2.1 (zk_i E t.2.2).toNat ∧ E.2 D.2.2.2.1 (zk_i E t.2.2).toNat ≤ 8 * (zk_i E D.2.2.2.2.2.2 - (zk_i E b + 1)) := by
          split at hok
          · rename_i rs m li k b0 l0
            simp only [Bool.and_eq_true] at hok
            have r1 := zk_eqNs_of hok.1.1
            subst r1
            have r2 := zk_eqE_of h hok.1.2
            have r3 := zk_n2_ok h hok.2
            rw [zk_vsub_i, zk_vadd_i, zk_c_i] at r3
            have q : zx_best (E.2 D.1) (E.2 D.2.1) (E.2 D.2.2.1) (E.2 D.2.2.2.1) (zk_i E m) (zk_i E li) (zk_i E k) (zk_i E b0) (zk_i E l0) := h.2.2 _ hg
            rw [r2] at q
            have := q.2 (zk_i E b + 1) (zk_i E l - zk_i E x) (by omega) (by omega) (by omega) (by omega) (Or.inl (by omega))
            rw [e5, show 100 * (zk_i E b + 1) + zk_i E l - zk_i E x = 100 * (zk_i E b + 1) + (zk_i E l - zk_i E x) by omega]
            exact this
          · cases hok
        refine zk_to_may (zk_rd_ok h hc d4 st hr) fun E1 a1 k1 c1 n1 s1 p1 => ?_
        refine zk_same_may ?_
        obtain ⟨N2, f1, f2, f3, f4⟩ := zk_asms_ok (l := [r.1, zk_vsub (zk_vmul 8 (zk_vsub (zk_vsub D.2.2.2.2.2.2 b) (zk_c 1))) r.1, zk_vsub (zk_c 40) r.1]) k1 c1 (fun d hd => by
          simp only [List.mem_cons, List.not_mem_nil, or_false] at hd
          rcases hd with rfl | rfl | rfl
          · exact ⟨by rw [p1]; omega, s1⟩
          · refine ⟨?_, zk_vsub_sv (zk_vmul_sv (zk_vsub_sv (zk_vsub_sv (zk_sv_le n1 d7) (zk_sv_le n1 sb)) zk_c_sv)) s1⟩
            rw [zk_vsub_i, zk_vmul_i, zk_vsub_i, zk_vsub_i, zk_c_i, zk_i_ag a1 d7, zk_i_ag a1 sb, p1]
            omega
          · refine ⟨?_, zk_vsub_sv zk_c_sv s1⟩
            rw [zk_vsub_i, zk_c_i, p1]
            omega)
        cases hN.symm.trans f1
        exact ⟨N', List.mem_cons_self, f2, f3, f4⟩
      · cases hz
    · cases hz
  · cases hz
/-- the best so far: nothing -/
def zk_r54i (lb ll : Nat) : zk_Rl := fun z => match zk_dl z, zk_locv z lb, zk_locv z ll with
  | some D, some b, some l => some [zk_addGs z.1 [(54, [D.1, D.2.1, D.2.2.1, D.2.2.2.1], [D.2.2.2.2.1, D.2.2.2.2.2.1, b, l, zk_c 0, zk_c 0])]]
  | _, _, _ => none
theorem zk_r54i_ok (lb ll : Nat) : zk_Rok (zk_r54i lb ll) := by
  refine zk_Rs_ok fun z L hz E h hc hcs hl hs => ?_
  unfold zk_r54i at hz
  split at hz
  · rename_i D b l hD hb hll
    obtain ⟨d1, d2, d3, d4, d5, d6, d7⟩ := zk_dl_of hcs hD
    cases hz
    refine zk_add1 h hc ⟨?_, zk_rs4 d1 d2 d3 d4, zk_vs6 d5 d6 (zk_locv_sv hl hb) (zk_locv_sv hl hll) zk_c_sv zk_c_sv⟩
    show 0 ≤ zk_i E (zk_c 0) ∧ ((zk_i E (zk_c 0) ≤ 0 ∧ zk_i E (zk_c 0) = 0) ∨ _)
    rw [zk_c_i]
    exact ⟨Int.le_refl _, Or.inl ⟨Int.le_refl _, rfl⟩⟩
  · cases hz
/-- who sleeps by so much, as it is known -/
def zk_f51 (N : zk_N) (rs : List Nat) (m li b x : zk_V) : List zk_G → Option zk_V
  | [] => none
  | (51, rs', [m', li', b', x', s]) :: l => match zk_eqNs rs' rs && zk_eqEs N [m', li', b', x'] [m, li, b, x] with
    | true => some s
    | false => zk_f51 N rs m li b x l
  | _ :: l => zk_f51 N rs m li b x l
theorem zk_f51_of {N : zk_N} {r1 r2 r3 : Nat} {m li b x s : zk_V} {E : zk_E} (hN : zk_ok E N) (hc : zk_cl N) : ∀ {l : List zk_G}, (∀ g ∈ l, g ∈ N.2.2.2) → zk_f51 N [r1, r2, r3] m li b x l = some s → zk_sv N.1 s ∧ zk_i E s = (zx_SI (E.2 r1) (E.2 r2) (E.2 r3) (zk_i E m) (zk_i E li) (zk_i E b) (zk_i E x) : Int)
  | [], _, h => by cases h
  | a :: l, hs, h => by
    unfold zk_f51 at h
    split at h
    · rename_i heq
      cases heq
    · rename_i rs' m' li' b' x' s' l' heq
      cases heq
      split at h
      · rename_i e
        simp only [Bool.and_eq_true] at e
        injection h with h
        subst h
        have e1 := zk_eqNs_of e.1
        subst e1
        have e2 := zk_eqEs_of hN e.2
        simp only [List.map_cons, List.map_nil, List.cons.injEq, and_true] at e2
        obtain ⟨q1, q2, q3, q4⟩ := e2
        have hm := hs _ List.mem_cons_self
        have := hN.2.2 _ hm
        have this : zk_i E s' = (zx_SI (E.2 r1) (E.2 r2) (E.2 r3) (zk_i E m') (zk_i E li') (zk_i E b') (zk_i E x') : Int) := this
        rw [q1, q2, q3, q4] at this
        exact ⟨(hc.2.2 _ hm).2 s' (by simp), this⟩
      · exact zk_f51_of hN hc (fun g hg => hs g (List.mem_cons_of_mem _ hg)) h
    · rename_i heq
      cases heq
      exact zk_f51_of hN hc (fun g hg => hs g (List.mem_cons_of_mem _ hg)) h
def zk_f54 (N : zk_N) (rs : List Nat) (m li b l x : zk_V) : List zk_G → Option zk_V
  | [] => none
  | (54, rs', [m', li', b', l', x', s]) :: r => match zk_eqNs rs' rs && zk_eqEs N [m', li', b', l', x'] [m, li, b, l, x] with
    | true => some s
    | false => zk_f54 N rs m li b l x r
  | _ :: r => zk_f54 N rs m li b l x r
theorem zk_f54_of {N : zk_N} {r1 r2 r3 r4 : Nat} {m li b l x s : zk_V} {E : zk_E} (hN : zk_ok E N) (hc : zk_cl N) : ∀ {L : List zk_G}, (∀ g ∈ L, g ∈ N.2.2.2) → zk_f54 N [r1, r2, r3, r4] m li b l x L = some s → zk_sv N.1 s ∧ 0 ≤ zk_i E s ∧ ((zk_i E x ≤ 0 ∧ zk_i E s = 0) ∨ ∃ y : Int, 0 ≤ y ∧ y < zk_i E x ∧ (zx_SI (E.2 r1) (E.2 r2) (E.2 r3) (zk_i E m) (zk_i E li) (zk_i E b) y : Int) + E.2 r4 (100 * (zk_i E b + 1) + zk_i E l - y).toNat = zk_i E s)
  | [], _, h => by cases h
  | a :: L, hs, h => by
    unfold zk_f54 at h
    split at h
    · rename_i heq
      cases heq
    · rename_i rs' m' li' b' l' x' s' L' heq
      cases heq
      split at h
      · rename_i e
        simp only [Bool.and_eq_true] at e
        injection h with h
        subst h
        have e1 := zk_eqNs_of e.1
        subst e1
        have e2 := zk_eqEs_of hN e.2
        simp only [List.map_cons, List.map_nil, List.cons.injEq, and_true] at e2
        obtain ⟨q1, q2, q3, q4, q5⟩ := e2
        have hm := hs _ List.mem_cons_self
        have := hN.2.2 _ hm
        have this : 0 ≤ zk_i E s' ∧ ((zk_i E x' ≤ 0 ∧ zk_i E s' = 0) ∨ ∃ y : Int, 0 ≤ y ∧ y < zk_i E x' ∧ (zx_SI (E.2 r1) (E.2 r2) (E.2 r3) (zk_i E m') (zk_i E li') (zk_i E b') y : Int) + E.2 r4 (100 * (zk_i E b' + 1) + zk_i E l' - y).toNat = zk_i E s') := this
        rw [q1, q2, q3, q4, q5] at this
        exact ⟨(hc.2.2 _ hm).2 s' (by simp), this⟩
      · exact zk_f54_of hN hc (fun g hg => hs g (List.mem_cons_of_mem _ hg)) h
    · rename_i heq
      cases heq
      exact zk_f54_of hN hc (fun g hg => hs g (List.mem_cons_of_mem _ hg)) h
/-- where the number behind a deal stands -/
def zk_dix (b l x : zk_V) : zk_V := zk_vsub (zk_vadd (zk_vmul 100 (zk_vadd b (zk_c 1))) l) x
theorem zk_dix_i {E : zk_E} {b l x : zk_V} : zk_i E (zk_dix b l x) = 100 * (zk_i E b + 1) + zk_i E l - zk_i E x := by
  unfold zk_dix
  rw [zk_vsub_i, zk_vadd_i, zk_vmul_i, zk_vadd_i, zk_c_i]
/-- the best so far, one more looked at: locals b, left, x, best -/
def zk_r54s (lb ll lx lr : Nat) : zk_Rl := fun z => match zk_dl z, zk_locv z lb, zk_locv z ll, zk_locv z lx, zk_locv z lr with
  | some D, some b, some l, some x, some r' => match zk_f54 z.1 [D.1, D.2.1, D.2.2.1, D.2.2.2.1] D.2.2.2.2.1 D.2.2.2.2.2.1 b l x z.1.2.2.2, zk_f51 z.1 [D.1, D.2.1, D.2.2.1] D.2.2.2.2.1 D.2.2.2.2.2.1 b x z.1.2.2.2, zk_mem1 D.2.2.2.1 (zk_dix b l x) z.1.2.2.2 with
    | some r, some s, some u => match zk_n2 z.1 s && zk_n2 z.1 u && zk_n2 z.1 x && (zk_eqE z.1 r' (zk_vadd s u) || (zk_eqE z.1 r' r && zk_n2 z.1 (zk_vsub r (zk_vadd s u)))) with
      | true => some [zk_addGs z.1 [(54, [D.1, D.2.1, D.2.2.1, D.2.2.2.1], [D.2.2.2.2.1, D.2.2.2.2.2.1, b, l, zk_vadd x (zk_c 1), r'])]]
      | false => none
    | _, _, _ => none
  | _, _, _, _, _ => none
theorem zk_r54s_ok (lb ll lx lr : Nat) : zk_Rok (zk_r54s lb ll lx lr) := by
  refine zk_Rs_ok fun z L hz E h hc hcs hl hs => ?_
  unfold zk_r54s at hz
  split at hz
  · rename_i D b l x r' hD hb hll hx hr'
    obtain ⟨d1, d2, d3, d4, d5, d6, d7⟩ := zk_dl_of hcs hD
    split at hz
    · rename_i r s u hr hs' hu
      split at hz
      · rename_i e
        cases hz
        simp only [Bool.and_eq_true, Bool.or_eq_true] at e
        obtain ⟨⟨⟨e1, e2⟩, e3⟩, e4⟩ := e
        have e1 := zk_n2_ok h e1
        have e2 := zk_n2_ok h e2
        have e3 := zk_n2_ok h e3
        obtain ⟨r1, r2, r3⟩ := zk_f54_of h hc (fun g hg => hg) hr
        obtain ⟨s1, s2⟩ := zk_f51_of h hc (fun g hg => hg) hs'
        have u1 := zk_mem1_i h hu
        rw [zk_dix_i] at u1
        refine zk_add1 h hc ⟨?_, zk_rs4 d1 d2 d3 d4, zk_vs6 d5 d6 (zk_locv_sv hl hb) (zk_locv_sv hl hll) (zk_vadd_sv (zk_locv_sv hl hx) zk_c_sv) (zk_locv_sv hl hr')⟩
        show 0 ≤ zk_i E r' ∧ ((zk_i E (zk_vadd x (zk_c 1)) ≤ 0 ∧ zk_i E r' = 0) ∨ ∃ y : Int, 0 ≤ y ∧ y < zk_i E (zk_vadd x (zk_c 1)) ∧ (zx_SI (E.2 D.1) (E.2 D.2.1) (E.2 D.2.2.1) (zk_i E D.2.2.2.2.1) (zk_i E D.2.2.2.2.2.1) (zk_i E b) y : Int) + E.2 D.2.2.2.1 (100 * (zk_i E b + 1) + zk_i E l - y).toNat = zk_i E r')
        rw [zk_vadd_i, zk_c_i]
        have at_x : (zx_SI (E.2 D.1) (E.2 D.2.1) (E.2 D.2.2.1) (zk_i E D.2.2.2.2.1) (zk_i E D.2.2.2.2.2.1) (zk_i E b) (zk_i E x) : Int) + E.2 D.2.2.2.1 (100 * (zk_i E b + 1) + zk_i E l - zk_i E x).toNat = zk_i E s + zk_i E u := by rw [← s2, u1]
        rcases e4 with e4 | ⟨e4, e5⟩
        · have e4 := zk_eqE_of h e4
          rw [zk_vadd_i] at e4
          exact ⟨by omega, Or.inr ⟨zk_i E x, e3, by omega, by rw [at_x, e4]⟩⟩
        · have e4 := zk_eqE_of h e4
          have e5 := zk_n2_ok h e5
          rw [zk_vsub_i, zk_vadd_i] at e5
          refine ⟨by omega, Or.inr ?_⟩
          rcases r3 with ⟨q1, q2⟩ | ⟨y, y1, y2, y3⟩
          · exact ⟨zk_i E x, e3, by omega, by rw [at_x, e4]; omega⟩
          · exact ⟨y, y1, by omega, by rw [y3, e4]⟩
      · cases hz
    · cases hz
  · cases hz
/-- a way is there: locals b, left -/
def zk_r55i (lb ll : Nat) : zk_Rl := fun z => match zk_dl z, zk_locv z lb, zk_locv z ll with
  | some D, some b, some l => match z.1.2.2.2.any (fun g => match g with
      | (53, rs, [m, li, k, b0, l0]) => zk_eqNs rs [D.1, D.2.1, D.2.2.1, D.2.2.2.1] && zk_eqEs z.1 [m, li, k] [D.2.2.2.2.1, D.2.2.2.2.2.1, D.2.2.2.2.2.2] && zk_n2 z.1 (zk_vsub b b0)
      | _ => false) && zk_n2 z.1 b && zk_n2 z.1 (zk_vsub (zk_vsub D.2.2.2.2.2.2 b) (zk_c 1)) && zk_n2 z.1 l && zk_n2 z.1 (zk_vsub (zk_c 99) l) with
    | true => some [zk_addGs z.1 [(55, [D.1, D.2.1, D.2.2.1, D.2.2.2.1], [D.2.2.2.2.1, D.2.2.2.2.2.1, b, l, zk_c 0])]]
    | false => none
  | _, _, _ => none
theorem zk_r55i_ok (lb ll : Nat) : zk_Rok (zk_r55i lb ll) := by
  refine zk_Rs_ok fun z L hz E h hc hcs hl hs => ?_
  unfold zk_r55i at hz
  split at hz
  · rename_i D b l hD hb hll
    obtain ⟨d1, d2, d3, d4, d5, d6, d7⟩ := zk_dl_of hcs hD
    split at hz
    · rename_i e
      cases hz
      simp only [Bool.and_eq_true] at e
      obtain ⟨⟨⟨⟨e0, e1⟩, e2⟩, e3⟩, e4⟩ := e
      have e1 := zk_n2_ok h e1
      have e2 := zk_n2_ok h e2
      have e3 := zk_n2_ok h e3
      have e4 := zk_n2_ok h e4
      rw [zk_vsub_i, zk_vsub_i, zk_c_i] at e2
      rw [zk_vsub_i, zk_c_i] at e4
      obtain ⟨g, hg, hok⟩ := List.any_eq_true.mp e0
      refine zk_add1 h hc ⟨?_, zk_rs4 d1 d2 d3 d4, zk_vs5 d5 d6 (zk_locv_sv hl hb) (zk_locv_sv hl hll) zk_c_sv⟩
      show zx_hit (E.2 D.1) (E.2 D.2.1) (E.2 D.2.2.1) (E.2 D.2.2.2.1) (zk_i E D.2.2.2.2.1) (zk_i E D.2.2.2.2.2.1) (zk_i E b) (zk_i E l) (zk_i E (zk_c 0))
      rw [zk_c_i]
      split at hok
      · rename_i rs m li k b0 l0
        simp only [Bool.and_eq_true] at hok
        have r1 := zk_eqNs_of hok.1.1
        subst r1
        have r2 := zk_eqEs_of h hok.1.2
        simp only [List.map_cons, List.map_nil, List.cons.injEq, and_true] at r2
        have r3 := zk_n2_ok h hok.2
        rw [zk_vsub_i] at r3
        have q : zx_best (E.2 D.1) (E.2 D.2.1) (E.2 D.2.2.1) (E.2 D.2.2.2.1) (zk_i E m) (zk_i E li) (zk_i E k) (zk_i E b0) (zk_i E l0) := h.2.2 _ hg
        rw [r2.1, r2.2.1, r2.2.2] at q
        exact q.1 (zk_i E b) (zk_i E l) e1 (by omega) e3 (by omega) (Or.inl (by omega))
      · cases hok
    · cases hz
  · cases hz
/-- so much is left: locals b, left, x -/
def zk_r55o (lb ll lx : Nat) : zk_Rl := fun z => match zk_dl z, zk_locv z lb, zk_locv z ll, zk_locv z lx with
  | some D, some b, some l, some x => match zk_fnd 55 [D.1, D.2.1, D.2.2.1, D.2.2.2.1] (fun vs => zk_eqEs z.1 vs [D.2.2.2.2.1, D.2.2.2.2.2.1, b, l, x]) z.1.2.2.2 with
    | some _ => match zk_asm z.1 (zk_vsub l x) with
      | some N' => some [N']
      | none => none
    | none => none
  | _, _, _, _ => none
theorem zk_r55_of {z : zk_Z} {E : zk_E} (h : zk_ok E z.1) {D : zk_DL} {b l x : zk_V} {g : zk_G} (hg : zk_fnd 55 [D.1, D.2.1, D.2.2.1, D.2.2.2.1] (fun vs => zk_eqEs z.1 vs [D.2.2.2.2.1, D.2.2.2.2.2.1, b, l, x]) z.1.2.2.2 = some g) : zx_hit (E.2 D.1) (E.2 D.2.1) (E.2 D.2.2.1) (E.2 D.2.2.2.1) (zk_i E D.2.2.2.2.1) (zk_i E D.2.2.2.2.2.1) (zk_i E b) (zk_i E l) (zk_i E x) := by
  obtain ⟨a1, a2, a3, a4⟩ := zk_fnd_of hg
  have q1 := h.2.2 g a1
  rw [a2, a3, zk_eqEs_of h a4] at q1
  exact q1
theorem zk_r55o_ok (lb ll lx : Nat) : zk_Rok (zk_r55o lb ll lx) := by
  refine zk_Rs_ok fun z L hz E h hc hcs hl hs => ?_
  unfold zk_r55o at hz
  split at hz
  · rename_i D b l x hD hb hll hx
    split at hz
    · rename_i g hg
      obtain ⟨y, y1, y2, y3⟩ := zk_r55_of h hg
      obtain ⟨N2, e1, k1⟩ := zk_asm_ok h (d := zk_vsub l x) (by rw [zk_vsub_i]; omega)
      obtain ⟨c1, n1⟩ := zk_asm_cl hc (zk_vsub_sv (zk_locv_sv hl hll) (zk_locv_sv hl hx)) e1
      rw [e1] at hz
      cases hz
      exact ⟨N2, List.mem_cons_self, k1, c1, n1⟩
    · cases hz
  · cases hz
/-- this is no way: locals b, left, x -/
def zk_r55s (lb ll lx : Nat) : zk_Rl := fun z => match zk_dl z, zk_locv z lb, zk_locv z ll, zk_locv z lx with
  | some D, some b, some l, some x => match zk_fnd 55 [D.1, D.2.1, D.2.2.1, D.2.2.2.1] (fun vs => zk_eqEs z.1 vs [D.2.2.2.2.1, D.2.2.2.2.2.1, b, l, x]) z.1.2.2.2, zk_f51 z.1 [D.1, D.2.1, D.2.2.1] D.2.2.2.2.1 D.2.2.2.2.2.1 b x z.1.2.2.2, zk_mem1 D.2.2.2.1 (zk_dix b l x) z.1.2.2.2, zk_mem1 D.2.2.2.1 (zk_vadd (zk_vmul 100 b) l) z.1.2.2.2 with
    | some _, some s, some u, some v => match zk_nz z.1 (zk_vsub (zk_vadd s u) v) || zk_nz z.1 (zk_vsub v (zk_vadd s u)) with
      | true => some (zk_csg z.1 [([zk_vsub (zk_vsub l x) (zk_c 1)], [(55, [D.1, D.2.1, D.2.2.1, D.2.2.2.1], [D.2.2.2.2.1, D.2.2.2.2.2.1, b, l, zk_vadd x (zk_c 1)])])])
      | false => none
    | _, _, _, _ => none
  | _, _, _, _ => none
theorem zk_r55s_ok (lb ll lx : Nat) : zk_Rok (zk_r55s lb ll lx) := by
  refine zk_Rs_ok fun z L hz E h hc hcs hl hs => ?_
  unfold zk_r55s at hz
  split at hz
  · rename_i D b l x hD hb hll hx
    obtain ⟨d1, d2, d3, d4, d5, d6, d7⟩ := zk_dl_of hcs hD
    split at hz
    · rename_i g s u v hg hs' hu hv
      split at hz
      · rename_i e
        cases hz
        obtain ⟨y, y1, y2, y3⟩ := zk_r55_of h hg
        obtain ⟨s1, s2⟩ := zk_f51_of h hc (fun g hg => hg) hs'
        have u1 := zk_mem1_i h hu
        rw [zk_dix_i] at u1
        have v1 := zk_mem1_i h hv
        rw [zk_vadd_i, zk_vmul_i] at v1
        have hne : zk_i E s + zk_i E u ≠ zk_i E v := by
          simp only [Bool.or_eq_true] at e
          rcases e with e | e
          · have := zk_nz_ok h e
            rw [zk_vsub_i, zk_vadd_i] at this
            omega
          · have := zk_nz_ok h e
            rw [zk_vsub_i, zk_vadd_i] at this
            omega
        have hy : zk_i E x < y := by
          rcases Int.lt_or_eq_of_le y1 with q | q
          · exact q
          · exfalso
            subst q
            rw [← s2, u1, v1] at y3
            exact hne y3
        have sx := zk_locv_sv hl hx
        have sl := zk_locv_sv hl hll
        have sb := zk_locv_sv hl hb
        refine zk_csg_at h hc (l := ([zk_vsub (zk_vsub l x) (zk_c 1)], _)) (zk_one_d (by rw [zk_vsub_i, zk_vsub_i, zk_c_i]; omega) (zk_vsub_sv (zk_vsub_sv sl sx) zk_c_sv)) (fun g' hg' => ?_) List.mem_cons_self
        rw [List.mem_singleton.mp hg']
        refine ⟨?_, zk_rs4 d1 d2 d3 d4, zk_vs5 d5 d6 sb sl (zk_vadd_sv sx zk_c_sv)⟩
        show zx_hit (E.2 D.1) (E.2 D.2.1) (E.2 D.2.2.1) (E.2 D.2.2.2.1) (zk_i E D.2.2.2.2.1) (zk_i E D.2.2.2.2.2.1) (zk_i E b) (zk_i E l) (zk_i E (zk_vadd x (zk_c 1)))
        rw [zk_vadd_i, zk_c_i]
        exact ⟨y, by omega, y2, y3⟩
      · cases hz
    · cases hz
  · cases hz
end
