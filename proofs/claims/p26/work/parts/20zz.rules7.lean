noncomputable section
/-! LINES READ -/
theorem zx_lin_le {a w t e : Nat → Int} {A B : Nat} : ∀ {n l : Nat} {first last : Int}, zx_lin a w t e A B n l first last → first ≤ 121 → last ≤ 121
  | 0, l, first, last, h, h1 => by
    have h : first = last := h
    omega
  | n + 1, l, first, last, h, h1 => by
    obtain ⟨k1, k2, k3, k4, k5, k6, k7⟩ := h
    exact zx_lin_le k7 k4
abbrev zk_R5 : Type := Nat × Nat × Nat × Nat × Nat
def zk_r5 (z : zk_Z) : Option zk_R5 := match zk_rowf z 26, zk_rowf z 27, zk_rowf z 29, zk_rowf z 30, zk_rowf z 28 with
  | some a, some w, some t, some e, some lm => some (a, w, t, e, lm)
  | _, _, _, _, _ => none
theorem zk_r5_of {z : zk_Z} (hcs : ∀ c ∈ z.2.1, zk_cs z.1.1 c) {R : zk_R5} (h : zk_r5 z = some R) : ∀ x ∈ [R.1, R.2.1, R.2.2.1, R.2.2.2.1, R.2.2.2.2], x < z.1.1 := by
  unfold zk_r5 at h
  split at h
  · rename_i a w t e lm h1 h2 h3 h4 h5
    injection h with h
    subst h
    intro x hx
    simp only [List.mem_cons, List.not_mem_nil, or_false] at hx
    rcases hx with rfl | rfl | rfl | rfl | rfl
    · exact zk_rowf_lt hcs h1
    · exact zk_rowf_lt hcs h2
    · exact zk_rowf_lt hcs h3
    · exact zk_rowf_lt hcs h4
    · exact zk_rowf_lt hcs h5
  · cases h
/-- the same below c -/
def zk_anc (N : zk_N) (c : zk_V) (g f : Nat) : Bool := Nat.beq g f || (zk_chn N c 6 g).any (fun x => Nat.beq x f)
theorem zk_anc_of {E : zk_E} {N : zk_N} (h : zk_ok E N) (hc : zk_cl N) {c : zk_V} {g f : Nat} (he : zk_anc N c g f = true) : ∀ j : Nat, (j : Int) < zk_i E c → E.2 g j = E.2 f j := by
  unfold zk_anc at he
  simp only [Bool.or_eq_true] at he
  rcases he with he | he
  · rw [Nat.eq_of_beq_eq_true he]
    exact fun _ _ => rfl
  · obtain ⟨x, hx, e⟩ := List.any_eq_true.mp he
    rw [← Nat.eq_of_beq_eq_true e]
    exact (zk_chn_of h hc x hx).1
/-- no lines yet -/
def zk_r28i : zk_Rl := fun z => match zk_r5 z with
  | some R => match zk_sto R.2.2.2.2 z.1.2.2.2 with
    | some r => match zk_eqE z.1 r.2.1 (zk_c 1) && zk_eqE z.1 r.2.2 (zk_c 0) with
      | true => some [zk_addGs z.1 [(28, [R.1, R.2.1, R.2.2.1, R.2.2.2.1, R.2.2.2.2], [zk_c 0, zk_c 0])]]
      | false => none
    | none => none
  | none => none
theorem zk_r28i_ok : zk_Rok zk_r28i := by
  refine zk_Rs_ok fun z L hz E h hc hcs hl hs => ?_
  unfold zk_r28i at hz
  split at hz
  · rename_i R hR
    split at hz
    · rename_i r hr
      split at hz
      · rename_i e
        cases hz
        simp only [Bool.and_eq_true] at e
        have e1 := zk_eqE_of h e.1
        have e2 := zk_eqE_of h e.2
        rw [zk_c_i] at e1 e2
        have hst := zk_sto_i h hr
        rw [e1, e2] at hst
        have h1 : E.2 R.2.2.2.2 1 = 0 := by rw [hst]; rfl
        refine zk_add1 h hc ⟨?_, zk_r5_of hcs hR, zk_vs2 zk_c_sv zk_c_sv⟩
        show zx_lin (E.2 R.1) (E.2 R.2.1) (E.2 R.2.2.1) (E.2 R.2.2.2.1) 130 61 (E.2 R.2.2.2.2 1).toNat 0 0 (zk_i E (zk_c 0)) ∧ 0 ≤ E.2 R.2.2.2.2 1 ∧ 2 * E.2 R.2.2.2.2 1 ≤ zk_i E (zk_c 0)
        rw [h1, zk_c_i]
        exact ⟨rfl, Int.le_refl _, Int.le_refl _⟩
      · cases hz
    · cases hz
  · cases hz
/-- lines so far, of these rows -/
def zk_f28 (rs : List Nat) : List zk_G → Option (zk_V × zk_V)
  | [] => none
  | (28, rs', [l, h]) :: r => match zk_eqNs rs' rs with
    | true => some (l, h)
    | false => zk_f28 rs r
  | _ :: r => zk_f28 rs r
theorem zk_f28_of {rs : List Nat} {q : zk_V × zk_V} : ∀ {L : List zk_G}, zk_f28 rs L = some q → (28, rs, [q.1, q.2]) ∈ L
  | [], h => by cases h
  | a :: L, h => by
    unfold zk_f28 at h
    split at h
    · rename_i heq
      cases heq
    · rename_i rs' l hh r heq
      cases heq
      split at h
      · rename_i e
        injection h with h
        rw [← h, zk_eqNs_of e]
        exact List.mem_cons_self
      · exact List.mem_cons_of_mem _ (zk_f28_of h)
    · rename_i heq
      cases heq
      exact List.mem_cons_of_mem _ (zk_f28_of h)
/-- how many lines there can be -/
def zk_r28o : zk_Rl := fun z => match zk_r5 z with
  | some R => match zk_f28 [R.1, R.2.1, R.2.2.1, R.2.2.2.1, R.2.2.2.2] z.1.2.2.2, zk_mem1 R.2.2.2.2 (zk_c 1) z.1.2.2.2 with
    | some q, some m => match zk_asms z.1 [m, zk_vsub q.2 (zk_vmul 2 m)] with
      | some N' => some [N']
      | none => none
    | _, _ => none
  | none => none
theorem zk_r28o_ok : zk_Rok zk_r28o := by
  refine zk_Rs_ok fun z L hz E h hc hcs hl hs => ?_
  unfold zk_r28o at hz
  split at hz
  · rename_i R hR
    split at hz
    · rename_i q m hq hm
      have hg := zk_f28_of hq
      have hS : zx_lin (E.2 R.1) (E.2 R.2.1) (E.2 R.2.2.1) (E.2 R.2.2.2.1) 130 61 (E.2 R.2.2.2.2 1).toNat 0 0 (zk_i E q.1) ∧ 0 ≤ E.2 R.2.2.2.2 1 ∧ 2 * E.2 R.2.2.2.2 1 ≤ zk_i E q.2 := h.2.2 _ hg
      have hm1 := zk_mem1_i h hm
      rw [zk_c_i] at hm1
      have hm1 : E.2 R.2.2.2.2 1 = zk_i E m := hm1
      rw [hm1] at hS
      have sm := zk_mem1_sv hc hm
      have sq := (hc.2.2 _ hg).2 q.2 (by simp)
      obtain ⟨N2, f1, f2, f3, f4⟩ := zk_asms_ok (l := [m, zk_vsub q.2 (zk_vmul 2 m)]) h hc (fun d hd => by
        simp only [List.mem_cons, List.not_mem_nil, or_false] at hd
        rcases hd with rfl | rfl
        · exact ⟨hS.2.1, sm⟩
        · exact ⟨by rw [zk_vsub_i, zk_vmul_i]; omega, zk_vsub_sv sq (zk_vmul_sv sm)⟩)
      rw [f1] at hz
      cases hz
      exact ⟨N2, List.mem_cons_self, f2, f3, f4⟩
    · cases hz
  · cases hz
/-- the lines in force stand where newer rows are the same -/
def zk_e22 (N : zk_N) (R : zk_R5) : zk_G → List zk_G
  | (22, [a, w, t, e, lm], [l, f]) => match zk_eqE N l (zk_c 0) && zk_eqE N f (zk_c 0) && zk_anc N (zk_c 121) R.1 a && zk_anc N (zk_c 121) R.2.1 w && zk_anc N (zk_c 61) R.2.2.1 t && zk_anc N (zk_c 61) R.2.2.2.1 e && zk_anc N (zk_c 1) R.2.2.2.2 lm && (match zk_eb lm N.2.2.2 with
      | some b => zk_le b.2 61
      | none => false) with
    | true => [(22, [R.1, R.2.1, R.2.2.1, R.2.2.2.1, R.2.2.2.2], [zk_c 0, zk_c 0])]
    | false => []
  | _ => []
def zk_r22t : zk_Rl := fun z => match zk_r5 z with
  | some R => some [zk_addGs z.1 (zk_fm (zk_e22 z.1 R) z.1.2.2.2)]
  | none => none
theorem zk_r22t_ok : zk_Rok zk_r22t := by
  refine zk_Rs_ok fun z L hz E h hc hcs hl hs => ?_
  unfold zk_r22t at hz
  split at hz
  · rename_i R hR
    cases hz
    refine ⟨_, List.mem_cons_self, ?_⟩
    rw [← and_assoc]
    refine ⟨zk_addGs_ok h hc fun g hg => ?_, rfl⟩
    obtain ⟨g0, hg0, hd⟩ := zk_fm_mem hg
    unfold zk_e22 at hd
    split at hd
    · rename_i a w t e lm l f
      split at hd
      · rename_i ee
        simp only [Bool.and_eq_true] at ee
        obtain ⟨⟨⟨⟨⟨⟨⟨e1, e2⟩, e3⟩, e4⟩, e5⟩, e6⟩, e7⟩, e8⟩ := ee
        have e1 := zk_eqE_of h e1
        have e2 := zk_eqE_of h e2
        have e3 := zk_anc_of h hc e3
        have e4 := zk_anc_of h hc e4
        have e5 := zk_anc_of h hc e5
        have e6 := zk_anc_of h hc e6
        have e7 := zk_anc_of h hc e7
        rw [zk_c_i] at e1 e2 e3 e4 e5 e6 e7
        have hb : E.2 lm 0 ≤ 61 := by
          split at e8
          · rename_i b hb
            have := zk_eb_ok h hb 0
            have e8 := zk_le_of e8
            omega
          · cases e8
        have hS : 0 ≤ zk_i E l ∧ 0 ≤ zk_i E f ∧ ∃ last, zx_lin (E.2 a) (E.2 w) (E.2 t) (E.2 e) 0 0 ((E.2 lm 0).toNat - (zk_i E l).toNat) (zk_i E l).toNat (zk_i E f) last := h.2.2 _ hg0
        rw [e1, e2] at hS
        obtain ⟨-, -, last, hlin⟩ := hS
        rw [List.mem_singleton.mp hd]
        refine ⟨?_, zk_r5_of hcs hR, zk_vs2 zk_c_sv zk_c_sv⟩
        show 0 ≤ zk_i E (zk_c 0) ∧ 0 ≤ zk_i E (zk_c 0) ∧ ∃ last, zx_lin (E.2 R.1) (E.2 R.2.1) (E.2 R.2.2.1) (E.2 R.2.2.2.1) 0 0 ((E.2 R.2.2.2.2 0).toNat - (zk_i E (zk_c 0)).toNat) (zk_i E (zk_c 0)).toNat (zk_i E (zk_c 0)) last
        rw [zk_c_i, e7 0 (by omega)]
        have hlast := zx_lin_le hlin (by omega)
        refine ⟨Int.le_refl _, Int.le_refl _, last, zx_lin_mv (many := (E.2 lm 0).toNat) (fun j hj => ?_) (fun j hj => ?_) hlin (Int.le_refl _) (by omega)⟩
        · exact ⟨e3 (0 + j) (by omega), e4 (0 + j) (by omega)⟩
        · exact ⟨e5 (0 + j) (by omega), e6 (0 + j) (by omega)⟩
      · cases hd
    · cases hd
  · cases hz
/-- one line more: local k -/
def zk_eln (N : zk_N) (R : zk_R5) (k ll hh : zk_V) : zk_G → List zk_G
  | (28, [a, w, t, e, lm], [l, _]) => match zk_mem1 lm (zk_c 1) N.2.2.2, zk_mem1 R.2.2.1 k N.2.2.2, zk_mem1 R.2.2.2.1 k N.2.2.2, zk_mem1 R.2.2.2.2 (zk_c 1) N.2.2.2 with
    | some m, some tv, some ev, some m' => match zk_eqE N k (zk_vadd m (zk_c 61)) && zk_n2 N m && zk_eqE N ev ll && zk_eqE N m' (zk_vadd m (zk_c 1)) && zk_n2 N l && zk_n2 N (zk_vsub tv l) && zk_n2 N (zk_vsub ll tv) && zk_n2 N (zk_vsub (zk_c 121) ll) && zk_n2 N (zk_vsub (zk_vadd hh (zk_c 1)) (zk_vmul 2 (zk_vadd m (zk_c 1)))) &&
        zk_anc N (zk_vadd l (zk_c 130)) R.1 a && zk_anc N (zk_vadd l (zk_c 130)) R.2.1 w && zk_anc N k R.2.2.1 t && zk_anc N k R.2.2.2.1 e && (zk_eqE N tv l || (zk_fnd 20 [R.1, R.2.1] (fun vs => zk_eqEs N vs [zk_vadd l (zk_c 130), zk_vadd tv (zk_c 130)]) N.2.2.2).isSome) && (zk_fnd 20 [R.1, R.2.1] (fun vs => zk_eqEs N vs [zk_vadd tv (zk_c 130), zk_vadd ll (zk_c 130)]) N.2.2.2).isSome with
      | true => [(28, [R.1, R.2.1, R.2.2.1, R.2.2.2.1, R.2.2.2.2], [ll, zk_vadd hh (zk_c 1)])]
      | false => []
    | _, _, _, _ => []
  | _ => []
def zk_rln (lk : Nat) : zk_Rl := fun z => match zk_r5 z, zk_locv z lk, zk_intf z 25, zk_intf z 22 with
  | some R, some k, some ll, some hh => some [zk_addGs z.1 (zk_fm (zk_eln z.1 R k ll hh) z.1.2.2.2)]
  | _, _, _, _ => none
theorem zk_fseg {E : zk_E} {N : zk_N} (h : zk_ok E N) {a w : Nat} {x y : zk_V} (hf : (zk_fnd 20 [a, w] (fun vs => zk_eqEs N vs [x, y]) N.2.2.2).isSome = true) : zx_seg (E.2 a) (E.2 w) (zk_i E x) (zk_i E y) := by
  obtain ⟨g, hg⟩ := Option.isSome_iff_exists.mp hf
  obtain ⟨a1, a2, a3, a4⟩ := zk_fnd_of hg
  have q1 := h.2.2 g a1
  rw [a2, a3, zk_eqEs_of h a4] at q1
  exact q1
set_option maxHeartbeats 1000000 in
theorem zk_rln_ok (lk : Nat) : zk_Rok (zk_rln lk) := by
  refine zk_Rs_ok fun z L hz E h hc hcs hl hs => ?_
  unfold zk_rln at hz
  split at hz
  · rename_i R k ll hh hR hk hll hhh
    cases hz
    refine ⟨_, List.mem_cons_self, ?_⟩
    rw [← and_assoc]
    refine ⟨zk_addGs_ok h hc fun g hg => ?_, rfl⟩
    obtain ⟨g0, hg0, hd⟩ := zk_fm_mem hg
    unfold zk_eln at hd
    split at hd
    · rename_i a w t e lm l h0
      split at hd
      · rename_i m tv ev m' hm htv hev hm'
        split at hd
        · rename_i ee
          simp only [Bool.and_eq_true] at ee
          obtain ⟨⟨⟨⟨⟨⟨⟨⟨⟨⟨⟨⟨⟨⟨e1, e2⟩, e3⟩, e4⟩, e5⟩, e6⟩, e7⟩, e8⟩, e9⟩, a1⟩, a2⟩, a3⟩, a4⟩, s1⟩, s2⟩ := ee
          have e1 := zk_eqE_of h e1
          have e2 := zk_n2_ok h e2
          have e3 := zk_eqE_of h e3
          have e4 := zk_eqE_of h e4
          have e5 := zk_n2_ok h e5
          have e6 := zk_n2_ok h e6
          have e7 := zk_n2_ok h e7
          have e8 := zk_n2_ok h e8
          have e9 := zk_n2_ok h e9
          rw [zk_vadd_i, zk_c_i] at e1 e4
          rw [zk_vsub_i] at e6 e7
          rw [zk_vsub_i, zk_c_i] at e8
          rw [zk_vsub_i, zk_vmul_i, zk_vadd_i, zk_vadd_i, zk_c_i] at e9
          have a1 := zk_anc_of h hc a1
          have a2 := zk_anc_of h hc a2
          have a3 := zk_anc_of h hc a3
          have a4 := zk_anc_of h hc a4
          rw [zk_vadd_i, zk_c_i] at a1 a2
          have rm := zk_mem1_i h hm
          have rtv := zk_mem1_i h htv
          have rev := zk_mem1_i h hev
          have rm' := zk_mem1_i h hm'
          rw [zk_c_i] at rm rm'
          have rm : E.2 lm 1 = zk_i E m := rm
          have rm' : E.2 R.2.2.2.2 1 = zk_i E m' := rm'
          have s2 := zk_fseg h s2
          rw [zk_vadd_i, zk_vadd_i, zk_c_i] at s2
          have s1 : zk_i E tv = zk_i E l ∨ zx_seg (E.2 R.1) (E.2 R.2.1) (zk_i E l + 130) (zk_i E tv + 130) := by
            simp only [Bool.or_eq_true] at s1
            rcases s1 with s1 | s1
            · exact Or.inl (zk_eqE_of h s1)
            · have := zk_fseg h s1
              rw [zk_vadd_i, zk_vadd_i, zk_c_i] at this
              exact Or.inr this
          have hS : zx_lin (E.2 a) (E.2 w) (E.2 t) (E.2 e) 130 61 (E.2 lm 1).toNat 0 0 (zk_i E l) ∧ 0 ≤ E.2 lm 1 ∧ 2 * E.2 lm 1 ≤ zk_i E h0 := h.2.2 _ hg0
          rw [rm] at hS
          have hlin := zx_lin_mv (a' := E.2 R.1) (w' := E.2 R.2.1) (t' := E.2 R.2.2.1) (e' := E.2 R.2.2.2.1) (A' := 130) (B' := 61) (many := (zk_i E m).toNat) (fun j hj => ⟨a1 (130 + j) (by omega), a2 (130 + j) (by omega)⟩) (fun j hj => ⟨a3 (61 + j) (by omega), a4 (61 + j) (by omega)⟩) hS.1 (Int.le_refl _) (by omega)
          have ek : (zk_i E k).toNat = 61 + (0 + (zk_i E m).toNat) := by omega
          rw [ek] at rtv rev
          rw [List.mem_singleton.mp hd]
          refine ⟨?_, zk_r5_of hcs hR, zk_vs2 (zk_intf_sv hcs hll) (zk_vadd_sv (zk_intf_sv hcs hhh) zk_c_sv)⟩
          show zx_lin (E.2 R.1) (E.2 R.2.1) (E.2 R.2.2.1) (E.2 R.2.2.2.1) 130 61 (E.2 R.2.2.2.2 1).toNat 0 0 (zk_i E ll) ∧ 0 ≤ E.2 R.2.2.2.2 1 ∧ 2 * E.2 R.2.2.2.2 1 ≤ zk_i E (zk_vadd hh (zk_c 1))
          rw [zk_vadd_i, zk_c_i, rm', e4]
          refine ⟨?_, by omega, by omega⟩
          rw [show (zk_i E m + 1).toNat = (zk_i E m).toNat + 1 by omega]
          have c130 : ((130 : Nat) : Int) = 130 := rfl
          refine zx_lin_snoc hlin e5 (by rw [rtv]; omega) (by rw [rtv, rev]; omega) (by rw [rev]; omega) ?_ ?_ (by rw [rev]; exact e3)
          · rw [rtv, c130]
            rcases s1 with s1 | s1
            · exact Or.inl s1
            · refine Or.inr ?_
              rw [Int.add_comm 130, Int.add_comm 130]
              exact s1
          · rw [rtv, rev, c130, e3, Int.add_comm 130, Int.add_comm 130]
            exact s2
        · cases hd
      · cases hd
    · cases hd
  · cases hz
/-- a row copied out of itself: nothing yet -/
def zk_r25i (j : Nat) (off : Int) : zk_Rl := fun z => match zk_rowf z j, zk_le 0 off with
  | some g, true => some [zk_addGs z.1 [(25, [g], [zk_c 0, zk_c off])]]
  | _, _ => none
theorem zk_r25i_ok (j : Nat) (off : Int) : zk_Rok (zk_r25i j off) := by
  refine zk_Rs_ok fun z L hz E h hc hcs hl hs => ?_
  unfold zk_r25i at hz
  split at hz
  · rename_i g hg e
    cases hz
    have e := zk_le_of e
    refine zk_add1 h hc ⟨?_, fun a ha => by rw [List.mem_singleton.mp ha]; exact zk_rowf_lt hcs hg, zk_vs2 zk_c_sv zk_c_sv⟩
    show 0 ≤ zk_i E (zk_c 0) ∧ 0 ≤ zk_i E (zk_c off) ∧ zk_i E (zk_c 0) ≤ zk_i E (zk_c off) ∧ ∀ j : Nat, (j : Int) < zk_i E (zk_c 0) → E.2 g j = E.2 g ((zk_i E (zk_c off)).toNat + j)
    rw [zk_c_i, zk_c_i]
    exact ⟨Int.le_refl _, e, e, fun j hj => by omega⟩
  · cases hz
/-- one more copied -/
def zk_e25 (N : zk_N) (g : Nat) (r : Nat × zk_V × zk_V) : zk_G → List zk_G
  | (25, [f], [k, off]) => match Nat.beq f r.1 && zk_eqE N r.2.1 k && zk_n2 N (zk_vsub (zk_vsub off k) (zk_c 1)) && zk_isR1 N f (zk_vadd k off) r.2.2 with
    | true => [(25, [g], [zk_vadd k (zk_c 1), off])]
    | false => []
  | _ => []
def zk_r25s (j : Nat) : zk_Rl := fun z => match zk_rowf z j with
  | some g => match zk_sto g z.1.2.2.2 with
    | some r => some [zk_addGs z.1 (zk_fm (zk_e25 z.1 g r) z.1.2.2.2)]
    | none => none
  | none => none
theorem zk_r25s_ok (j : Nat) : zk_Rok (zk_r25s j) := by
  refine zk_Rs_ok fun z L hz E h hc hcs hl hs => ?_
  unfold zk_r25s at hz
  split at hz
  · rename_i g hg
    split at hz
    · rename_i r hr
      cases hz
      refine ⟨_, List.mem_cons_self, ?_⟩
      rw [← and_assoc]
      refine ⟨zk_addGs_ok h hc fun x hx => ?_, rfl⟩
      obtain ⟨g0, hg0, hd⟩ := zk_fm_mem hx
      unfold zk_e25 at hd
      split at hd
      · rename_i f k off
        split at hd
        · rename_i e
          simp only [Bool.and_eq_true] at e
          obtain ⟨⟨⟨e1, e2⟩, e3⟩, e4⟩ := e
          have e1 := Nat.eq_of_beq_eq_true e1
          subst e1
          have e2 := zk_eqE_of h e2
          have e3 := zk_n2_ok h e3
          rw [zk_vsub_i, zk_vsub_i, zk_c_i] at e3
          have e4 := zk_isR1_of h e4
          rw [zk_vadd_i] at e4
          have hst := zk_sto_i h hr
          rw [e2] at hst
          obtain ⟨q1, q2, q3⟩ := zk_old_good h hc hg0
          have q1 : 0 ≤ zk_i E k ∧ 0 ≤ zk_i E off ∧ zk_i E k ≤ zk_i E off ∧ ∀ j : Nat, (j : Int) < zk_i E k → E.2 r.1 j = E.2 r.1 ((zk_i E off).toNat + j) := q1
          obtain ⟨p1, p2, p3, p4⟩ := q1
          rw [List.mem_singleton.mp hd]
          refine ⟨?_, fun a ha => by rw [List.mem_singleton.mp ha]; exact zk_rowf_lt hcs hg, zk_vs2 (zk_vadd_sv (q3 k (by simp)) zk_c_sv) (q3 off (by simp))⟩
          show 0 ≤ zk_i E (zk_vadd k (zk_c 1)) ∧ 0 ≤ zk_i E off ∧ zk_i E (zk_vadd k (zk_c 1)) ≤ zk_i E off ∧ ∀ j : Nat, (j : Int) < zk_i E (zk_vadd k (zk_c 1)) → E.2 g j = E.2 g ((zk_i E off).toNat + j)
          rw [zk_vadd_i, zk_c_i]
          refine ⟨by omega, p2, by omega, fun j hj => ?_⟩
          rw [hst]
          simp only
          rw [if_neg (show ¬ (zk_i E off).toNat + j = (zk_i E k).toNat by omega)]
          by_cases hjk : j = (zk_i E k).toNat
          · rw [if_pos hjk, ← e4, hjk, show (zk_i E off).toNat + (zk_i E k).toNat = (zk_i E k + zk_i E off).toNat by omega]
          · rw [if_neg hjk]
            exact p4 j (by omega)
        · cases hd
      · cases hd
    · cases hz
  · cases hz
/-- the same from c on -/
def zk_up (N : zk_N) (c : Int) (g f : Nat) : Bool := Nat.beq g f || (match zk_sto g N.2.2.2 with
  | some r => Nat.beq r.1 f && zk_n2 N r.2.1 && zk_n2 N (zk_vsub (zk_c (c - 1)) r.2.1)
  | none => false)
theorem zk_up_of {E : zk_E} {N : zk_N} (h : zk_ok E N) {c : Int} {g f : Nat} (hu : zk_up N c g f = true) : ∀ j : Nat, c ≤ (j : Int) → E.2 g j = E.2 f j := by
  unfold zk_up at hu
  simp only [Bool.or_eq_true] at hu
  rcases hu with hu | hu
  · rw [Nat.eq_of_beq_eq_true hu]
    exact fun _ _ => rfl
  · split at hu
    · rename_i r hr
      simp only [Bool.and_eq_true] at hu
      have e1 := Nat.eq_of_beq_eq_true hu.1.1
      have e2 := zk_n2_ok h hu.1.2
      have e3 := zk_n2_ok h hu.2
      rw [zk_vsub_i, zk_c_i] at e3
      intro j hj
      rw [zk_sto_i h hr, ← e1]
      exact if_neg (by omega)
    · cases hu
/-- the lines read stay while what lies below is laid anew -/
def zk_e28 (N : zk_N) (R : zk_R5) : zk_G → List zk_G
  | (28, [a, w, t, e, lm], [l, h]) => match zk_up N 130 R.1 a && zk_up N 130 R.2.1 w && zk_up N 61 R.2.2.1 t && zk_up N 61 R.2.2.2.1 e && zk_up N 1 R.2.2.2.2 lm with
    | true => [(28, [R.1, R.2.1, R.2.2.1, R.2.2.2.1, R.2.2.2.2], [l, h])]
    | false => []
  | _ => []
def zk_r28c : zk_Rl := fun z => match zk_r5 z with
  | some R => some [zk_addGs z.1 (zk_fm (zk_e28 z.1 R) z.1.2.2.2)]
  | none => none
theorem zk_r28c_ok : zk_Rok zk_r28c := by
  refine zk_Rs_ok fun z L hz E h hc hcs hl hs => ?_
  unfold zk_r28c at hz
  split at hz
  · rename_i R hR
    cases hz
    refine ⟨_, List.mem_cons_self, ?_⟩
    rw [← and_assoc]
    refine ⟨zk_addGs_ok h hc fun g hg => ?_, rfl⟩
    obtain ⟨g0, hg0, hd⟩ := zk_fm_mem hg
    unfold zk_e28 at hd
    split at hd
    · rename_i a w t e lm l h0
      split at hd
      · rename_i ee
        simp only [Bool.and_eq_true] at ee
        obtain ⟨⟨⟨⟨e1, e2⟩, e3⟩, e4⟩, e5⟩ := ee
        have e1 := zk_up_of h e1
        have e2 := zk_up_of h e2
        have e3 := zk_up_of h e3
        have e4 := zk_up_of h e4
        have e5 := zk_up_of h e5
        obtain ⟨q1, q2, q3⟩ := zk_old_good h hc hg0
        have hS : zx_lin (E.2 a) (E.2 w) (E.2 t) (E.2 e) 130 61 (E.2 lm 1).toNat 0 0 (zk_i E l) ∧ 0 ≤ E.2 lm 1 ∧ 2 * E.2 lm 1 ≤ zk_i E h0 := q1
        rw [List.mem_singleton.mp hd]
        refine ⟨?_, zk_r5_of hcs hR, zk_vs2 (q3 l (by simp)) (q3 h0 (by simp))⟩
        show zx_lin (E.2 R.1) (E.2 R.2.1) (E.2 R.2.2.1) (E.2 R.2.2.2.1) 130 61 (E.2 R.2.2.2.2 1).toNat 0 0 (zk_i E l) ∧ 0 ≤ E.2 R.2.2.2.2 1 ∧ 2 * E.2 R.2.2.2.2 1 ≤ zk_i E h0
        rw [e5 1 (by omega)]
        exact ⟨zx_lin_mv (many := (E.2 lm 1).toNat) (fun j hj => ⟨e1 (130 + j) (by omega), e2 (130 + j) (by omega)⟩) (fun j hj => ⟨e3 (61 + j) (by omega), e4 (61 + j) (by omega)⟩) hS.1 (Int.le_refl _) (by omega), hS.2⟩
      · cases hd
    · cases hd
  · cases hz
/-- so many are copied -/
def zk_f25 (N : zk_N) (g : Nat) (off : Int) (lim : zk_V) : Bool := N.2.2.2.any fun x => match x with
  | (25, [f], [k, o]) => Nat.beq f g && zk_eqE N o (zk_c off) && zk_n2 N (zk_vsub k lim)
  | _ => false
theorem zk_f25_of {E : zk_E} {N : zk_N} (h : zk_ok E N) {g : Nat} {off : Int} {lim : zk_V} (hf : zk_f25 N g off lim = true) : ∀ j : Nat, (j : Int) < zk_i E lim → E.2 g j = E.2 g (off.toNat + j) := by
  obtain ⟨x, hx, hk⟩ := List.any_eq_true.mp hf
  split at hk
  · rename_i f k o
    simp only [Bool.and_eq_true] at hk
    have e1 := Nat.eq_of_beq_eq_true hk.1.1
    subst e1
    have e2 := zk_eqE_of h hk.1.2
    have e3 := zk_n2_ok h hk.2
    rw [zk_vsub_i] at e3
    rw [zk_c_i] at e2
    have q : 0 ≤ zk_i E k ∧ 0 ≤ zk_i E o ∧ zk_i E k ≤ zk_i E o ∧ ∀ j : Nat, (j : Int) < zk_i E k → E.2 f j = E.2 f ((zk_i E o).toNat + j) := h.2.2 _ hx
    rw [e2] at q
    exact fun j hj => q.2.2.2 j (by omega)
  · cases hk
/-- the text read is the law -/
def zk_rfin : zk_Rl := fun z => match zk_r5 z with
  | some R => match zk_f28 [R.1, R.2.1, R.2.2.1, R.2.2.2.1, R.2.2.2.2] z.1.2.2.2, zk_mem1 R.2.2.2.2 (zk_c 0) z.1.2.2.2, zk_mem1 R.2.2.2.2 (zk_c 1) z.1.2.2.2 with
    | some q, some m0, some m1 => match zk_eqE z.1 m0 m1 && zk_f25 z.1 R.1 130 q.1 && zk_f25 z.1 R.2.1 130 q.1 && zk_f25 z.1 R.2.2.1 61 m0 && zk_f25 z.1 R.2.2.2.1 61 m0 with
      | true => some [zk_addGs z.1 [(22, [R.1, R.2.1, R.2.2.1, R.2.2.2.1, R.2.2.2.2], [zk_c 0, zk_c 0])]]
      | false => none
    | _, _, _ => none
  | none => none
theorem zk_rfin_ok : zk_Rok zk_rfin := by
  refine zk_Rs_ok fun z L hz E h hc hcs hl hs => ?_
  unfold zk_rfin at hz
  split at hz
  · rename_i R hR
    split at hz
    · rename_i q m0 m1 hq hm0 hm1
      split at hz
      · rename_i ee
        cases hz
        simp only [Bool.and_eq_true] at ee
        obtain ⟨⟨⟨⟨e1, e2⟩, e3⟩, e4⟩, e5⟩ := ee
        have e1 := zk_eqE_of h e1
        have e2 := zk_f25_of h e2
        have e3 := zk_f25_of h e3
        have e4 := zk_f25_of h e4
        have e5 := zk_f25_of h e5
        have r0 := zk_mem1_i h hm0
        have r1 := zk_mem1_i h hm1
        rw [zk_c_i] at r0 r1
        have r0 : E.2 R.2.2.2.2 0 = zk_i E m0 := r0
        have r1 : E.2 R.2.2.2.2 1 = zk_i E m1 := r1
        have hS : zx_lin (E.2 R.1) (E.2 R.2.1) (E.2 R.2.2.1) (E.2 R.2.2.2.1) 130 61 (E.2 R.2.2.2.2 1).toNat 0 0 (zk_i E q.1) ∧ 0 ≤ E.2 R.2.2.2.2 1 ∧ 2 * E.2 R.2.2.2.2 1 ≤ zk_i E q.2 := h.2.2 _ (zk_f28_of hq)
        rw [r1, ← e1] at hS
        refine zk_add1 h hc ⟨?_, zk_r5_of hcs hR, zk_vs2 zk_c_sv zk_c_sv⟩
        show 0 ≤ zk_i E (zk_c 0) ∧ 0 ≤ zk_i E (zk_c 0) ∧ ∃ last, zx_lin (E.2 R.1) (E.2 R.2.1) (E.2 R.2.2.1) (E.2 R.2.2.2.1) 0 0 ((E.2 R.2.2.2.2 0).toNat - (zk_i E (zk_c 0)).toNat) (zk_i E (zk_c 0)).toNat (zk_i E (zk_c 0)) last
        rw [zk_c_i, r0]
        refine ⟨Int.le_refl _, Int.le_refl _, zk_i E q.1, zx_lin_mv (A := 130) (B := 61) (many := (zk_i E m0).toNat) (fun j hj => ?_) (fun j hj => ?_) hS.1 (Int.le_refl _) (by omega)⟩
        · rw [Nat.zero_add]
          exact ⟨e2 j hj, e3 j hj⟩
        · rw [Nat.zero_add]
          exact ⟨e4 j (by omega), e5 j (by omega)⟩
      · cases hz
    · cases hz
  · cases hz
end
