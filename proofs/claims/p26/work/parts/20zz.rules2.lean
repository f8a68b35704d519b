noncomputable section
/-! CHANGES: what can be undone -/
def zk_sto (g : Nat) : List zk_G → Option (Nat × zk_V × zk_V)
  | [] => none
  | (2, [g', f], [i, v]) :: l => match Nat.beq g' g with
    | true => some (f, i, v)
    | false => zk_sto g l
  | _ :: l => zk_sto g l
theorem zk_sto_of {g : Nat} {r : Nat × zk_V × zk_V} : ∀ {l : List zk_G}, zk_sto g l = some r → (2, [g, r.1], [r.2.1, r.2.2]) ∈ l
  | [], h => by cases h
  | a :: l, h => by
    unfold zk_sto at h
    split at h
    · rename_i heq
      cases heq
    · rename_i g' f i v l' heq
      cases heq
      split at h
      · rename_i e
        have e := Nat.eq_of_beq_eq_true e
        injection h with h
        rw [← h, ← e]
        exact List.mem_cons_self
      · exact List.mem_cons_of_mem _ (zk_sto_of h)
    · rename_i heq
      cases heq
      exact List.mem_cons_of_mem _ (zk_sto_of h)
theorem zk_sto_i {E : zk_E} {N : zk_N} (h : zk_ok E N) {g : Nat} {r : Nat × zk_V × zk_V} (hs : zk_sto g N.2.2.2 = some r) : E.2 g = fun j => if j = (zk_i E r.2.1).toNat then zk_i E r.2.2 else E.2 r.1 j := h.2.2 _ (zk_sto_of hs)
def zk_bt (N : zk_N) (v : zk_V) (lo hi : Int) : Bool := zk_n2 N (zk_vsub v (zk_c lo)) && zk_n2 N (zk_vsub (zk_c hi) v)
theorem zk_bt_of {E : zk_E} {N : zk_N} (h : zk_ok E N) {v : zk_V} {lo hi : Int} (hb : zk_bt N v lo hi = true) : lo ≤ zk_i E v ∧ zk_i E v ≤ hi := by
  unfold zk_bt at hb
  simp only [Bool.and_eq_true] at hb
  have h1 := zk_n2_ok h hb.1
  have h2 := zk_n2_ok h hb.2
  rw [zk_vsub_i, zk_c_i] at h1 h2
  omega
def zk_boxB (N : zk_N) (o a b c : zk_V) : Bool := (zk_bt N o 0 2 && zk_bt N a 0 4) || (zk_bt N o 3 3 && zk_bt N a 0 7) || (zk_bt N o 4 4 && zk_bt N a 0 7 && zk_bt N b (-1) 4 && zk_bt N c (-1) 4) || (zk_bt N o 5 6 && zk_bt N a 0 6) || zk_bt N o 7 8
theorem zk_boxB_of {E : zk_E} {N : zk_N} (h : zk_ok E N) {o a b c : zk_V} (hb : zk_boxB N o a b c = true) : zx_box (zk_i E o) (zk_i E a) (zk_i E b) (zk_i E c) := by
  unfold zk_boxB at hb
  simp only [Bool.or_eq_true, Bool.and_eq_true] at hb
  unfold zx_box
  rcases hb with (((hb | hb) | hb) | hb) | hb
  · have h1 := zk_bt_of h hb.1
    have h2 := zk_bt_of h hb.2
    omega
  · have h1 := zk_bt_of h hb.1
    have h2 := zk_bt_of h hb.2
    omega
  · have h1 := zk_bt_of h hb.1.1.1
    have h2 := zk_bt_of h hb.1.1.2
    have h3 := zk_bt_of h hb.1.2
    have h4 := zk_bt_of h hb.2
    omega
  · have h1 := zk_bt_of h hb.1
    have h2 := zk_bt_of h hb.2
    omega
  · have h1 := zk_bt_of h hb
    omega
def zk_isR1 (N : zk_N) (f : Nat) (k x : zk_V) : Bool := match zk_mem1 f k N.2.2.2 with
  | some w => zk_eqE N w x
  | none => false
theorem zk_isR1_of {E : zk_E} {N : zk_N} (h : zk_ok E N) {f : Nat} {k x : zk_V} (hr : zk_isR1 N f k x = true) : E.2 f (zk_i E k).toNat = zk_i E x := by
  unfold zk_isR1 at hr
  split at hr
  · rename_i w hw
    rw [zk_mem1_i h hw, zk_eqE_of h hr]
  · cases hr
/-- four numbers read at one place -/
def zk_boxR (N : zk_N) (f1 f2 f3 f4 : Nat) (o a b c : zk_V) : zk_G → Bool
  | (1, [f], [k, w]) => Nat.beq f f1 && zk_eqE N w o && zk_isR1 N f2 k a && zk_isR1 N f3 k b && zk_isR1 N f4 k c
  | _ => false
theorem zk_boxR_of {E : zk_E} {N : zk_N} (h : zk_ok E N) {f1 f2 f3 f4 : Nat} {o a b c : zk_V} {g : zk_G} (hg : g ∈ N.2.2.2) (hr : zk_boxR N f1 f2 f3 f4 o a b c g = true) : ∃ j : Nat, E.2 f1 j = zk_i E o ∧ E.2 f2 j = zk_i E a ∧ E.2 f3 j = zk_i E b ∧ E.2 f4 j = zk_i E c := by
  unfold zk_boxR at hr
  split at hr
  · rename_i f k w
    simp only [Bool.and_eq_true] at hr
    obtain ⟨⟨⟨⟨h1, h2⟩, h3⟩, h4⟩, h5⟩ := hr
    have h1 := Nat.eq_of_beq_eq_true h1
    subst h1
    have hw : E.2 f (zk_i E k).toNat = zk_i E w := h.2.2 _ hg
    exact ⟨(zk_i E k).toNat, by rw [hw, zk_eqE_of h h2], zk_isR1_of h h3, zk_isR1_of h h4, zk_isR1_of h h5⟩
  · cases hr
def zk_rtup : zk_Rl := fun z => match zk_rowf z 16, zk_rowf z 17, zk_rowf z 18, zk_rowf z 19 with
  | some g1, some g2, some g3, some g4 => match zk_sto g1 z.1.2.2.2, zk_sto g2 z.1.2.2.2, zk_sto g3 z.1.2.2.2, zk_sto g4 z.1.2.2.2 with
    | some r1, some r2, some r3, some r4 => match zk_eqE z.1 r1.2.1 r2.2.1 && zk_eqE z.1 r1.2.1 r3.2.1 && zk_eqE z.1 r1.2.1 r4.2.1 && z.1.2.2.2.any (zk_eqG (30, [r1.1, r2.1, r3.1, r4.1], [])) && (zk_boxB z.1 r1.2.2 r2.2.2 r3.2.2 r4.2.2 || z.1.2.2.2.any (zk_boxR z.1 r1.1 r2.1 r3.1 r4.1 r1.2.2 r2.2.2 r3.2.2 r4.2.2)) with
      | true => some [zk_addGs z.1 [(30, [g1, g2, g3, g4], [])]]
      | false => none
    | _, _, _, _ => none
  | _, _, _, _ => none
theorem zk_rtup_ok : zk_Rok zk_rtup := by
  refine zk_Rs_ok fun z L hz E h hc hcs hl hs => ?_
  unfold zk_rtup at hz
  split at hz
  · rename_i g1 g2 g3 g4 hg1 hg2 hg3 hg4
    split at hz
    · rename_i r1 r2 r3 r4 hr1 hr2 hr3 hr4
      split at hz
      · rename_i hb
        cases hz
        simp only [Bool.and_eq_true, Bool.or_eq_true] at hb
        obtain ⟨⟨⟨⟨b1, b2⟩, b3⟩, b4⟩, b5⟩ := hb
        have e1 := zk_eqE_of h b1
        have e2 := zk_eqE_of h b2
        have e3 := zk_eqE_of h b3
        obtain ⟨g, hg, he⟩ := List.any_eq_true.mp b4
        have he := zk_eqG_of he
        subst he
        have hT : ∀ j : Nat, zx_box (E.2 r1.1 j) (E.2 r2.1 j) (E.2 r3.1 j) (E.2 r4.1 j) := h.2.2 _ hg
        have hbox : zx_box (zk_i E r1.2.2) (zk_i E r2.2.2) (zk_i E r3.2.2) (zk_i E r4.2.2) := by
          rcases b5 with b5 | b5
          · exact zk_boxB_of h b5
          · obtain ⟨g', hg', hr'⟩ := List.any_eq_true.mp b5
            obtain ⟨j, j1, j2, j3, j4⟩ := zk_boxR_of h hg' hr'
            rw [← j1, ← j2, ← j3, ← j4]
            exact hT j
        have s1 := zk_sto_i h hr1
        have s2 := zk_sto_i h hr2
        have s3 := zk_sto_i h hr3
        have s4 := zk_sto_i h hr4
        rw [← e1] at s2
        rw [← e2] at s3
        rw [← e3] at s4
        obtain ⟨k1, k2⟩ := zk_addGs_ok h hc (L := [(30, [g1, g2, g3, g4], [])]) (fun g hg => by
          rw [List.mem_singleton.mp hg]
          refine ⟨?_, fun a ha => ?_, fun v hv => (List.not_mem_nil hv).elim⟩
          · show ∀ j : Nat, zx_box (E.2 g1 j) (E.2 g2 j) (E.2 g3 j) (E.2 g4 j)
            intro j
            rw [s1, s2, s3, s4]
            simp only
            by_cases hj : j = (zk_i E r1.2.1).toNat
            · rw [if_pos hj, if_pos hj, if_pos hj, if_pos hj]
              exact hbox
            · rw [if_neg hj, if_neg hj, if_neg hj, if_neg hj]
              exact hT j
          · simp only [List.mem_cons, List.not_mem_nil, or_false] at ha
            rcases ha with rfl | rfl | rfl | rfl
            · exact zk_rowf_lt hcs hg1
            · exact zk_rowf_lt hcs hg2
            · exact zk_rowf_lt hcs hg3
            · exact zk_rowf_lt hcs hg4)
        exact ⟨_, List.mem_cons_self, k1, k2, rfl⟩
      · cases hz
    · cases hz
  · cases hz
/-- several sums assumed -/
def zk_asms : zk_N → List zk_V → Option zk_N
  | N, [] => some N
  | N, d :: l => match zk_asm N d with
    | some N' => zk_asms N' l
    | none => none
theorem zk_asms_ok {E : zk_E} : ∀ {l : List zk_V} {N : zk_N}, zk_ok E N → zk_cl N → (∀ d ∈ l, 0 ≤ zk_i E d ∧ zk_sv N.1 d) → ∃ N', zk_asms N l = some N' ∧ zk_ok E N' ∧ zk_cl N' ∧ N'.1 = N.1
  | [], N, h, hc, _ => ⟨N, rfl, h, hc, rfl⟩
  | d :: l, N, h, hc, hd => by
    obtain ⟨N1, e1, k1⟩ := zk_asm_ok h (hd d List.mem_cons_self).1
    obtain ⟨c1, n1⟩ := zk_asm_cl hc (hd d List.mem_cons_self).2 e1
    obtain ⟨N2, e2, k2, c2, n2⟩ := zk_asms_ok (l := l) k1 c1 (fun d' hd' => ⟨(hd d' (List.mem_cons_of_mem _ hd')).1, by rw [n1]; exact (hd d' (List.mem_cons_of_mem _ hd')).2⟩)
    exact ⟨N2, by unfold zk_asms; rw [e1]; exact e2, k2, c2, n2.trans n1⟩
/-- cases, each with its sums -/
def zk_css (N : zk_N) : List (List zk_V) → List zk_N
  | [] => []
  | l :: r => match zk_asms N l with
    | some N' => N' :: zk_css N r
    | none => zk_css N r
theorem zk_css_at {E : zk_E} {N : zk_N} (h : zk_ok E N) (hc : zk_cl N) {l : List zk_V} (hd : ∀ d ∈ l, 0 ≤ zk_i E d ∧ zk_sv N.1 d) : ∀ {r : List (List zk_V)}, l ∈ r → ∃ N' ∈ zk_css N r, zk_ok E N' ∧ zk_cl N' ∧ N'.1 = N.1
  | a :: r, hl => by
    unfold zk_css
    rcases List.mem_cons.mp hl with rfl | hl
    · obtain ⟨N2, e2, k2, c2, n2⟩ := zk_asms_ok h hc hd
      rw [e2]
      exact ⟨N2, List.mem_cons_self, k2, c2, n2⟩
    · obtain ⟨N2, e2, k2⟩ := zk_css_at h hc hd hl
      split
      · exact ⟨N2, List.mem_cons_of_mem _ e2, k2⟩
      · exact ⟨N2, e2, k2⟩
def zk_btw (v : zk_V) (lo hi : Int) : List zk_V := [zk_vsub v (zk_c lo), zk_vsub (zk_c hi) v]
theorem zk_btw_ok {E : zk_E} {n : Nat} {v : zk_V} (hv : zk_sv n v) {lo hi : Int} (h1 : lo ≤ zk_i E v) (h2 : zk_i E v ≤ hi) : ∀ d ∈ zk_btw v lo hi, 0 ≤ zk_i E d ∧ zk_sv n d := by
  intro d hd
  simp only [zk_btw, List.mem_cons, List.not_mem_nil, or_false] at hd
  rcases hd with rfl | rfl
  · exact ⟨by rw [zk_vsub_i, zk_c_i]; omega, zk_vsub_sv hv zk_c_sv⟩
  · exact ⟨by rw [zk_vsub_i, zk_c_i]; omega, zk_vsub_sv zk_c_sv hv⟩
def zk_obt (o : Option zk_V) (lo hi : Int) : List zk_V := match o with
  | some v => zk_btw v lo hi
  | none => []
theorem zk_app_ok {E : zk_E} {n : Nat} {l r : List zk_V} (h1 : ∀ d ∈ l, 0 ≤ zk_i E d ∧ zk_sv n d) (h2 : ∀ d ∈ r, 0 ≤ zk_i E d ∧ zk_sv n d) : ∀ d ∈ l ++ r, 0 ≤ zk_i E d ∧ zk_sv n d := fun d hd => (List.mem_append.mp hd).elim (h1 d) (h2 d)
/-- a change read back, told by what it changes -/
def zk_rund : zk_Rl := fun z => match zk_rowf z 16, zk_rowf z 17, zk_rowf z 18, zk_rowf z 19, zk_intf z 14 with
  | some f1, some f2, some f3, some f4, some d => match z.1.2.2.2.any (zk_eqG (30, [f1, f2, f3, f4], [])), zk_mem1 f1 d z.1.2.2.2, zk_mem1 f2 d z.1.2.2.2 with
    | true, some o, some a => some (zk_css z.1 [zk_btw o 0 2 ++ zk_btw a 0 4, zk_btw o 3 3 ++ zk_btw a 0 7, zk_btw o 4 4 ++ zk_btw a 0 7 ++ zk_obt (zk_mem1 f3 d z.1.2.2.2) (-1) 4 ++ zk_obt (zk_mem1 f4 d z.1.2.2.2) (-1) 4, zk_btw o 5 6 ++ zk_btw a 0 6, zk_btw o 7 8])
    | _, _, _ => none
  | _, _, _, _, _ => none
theorem zk_obt_ok {E : zk_E} {N : zk_N} (h : zk_ok E N) (hc : zk_cl N) {f : Nat} {d : zk_V} {lo hi : Int} (h1 : lo ≤ E.2 f (zk_i E d).toNat) (h2 : E.2 f (zk_i E d).toNat ≤ hi) : ∀ x ∈ zk_obt (zk_mem1 f d N.2.2.2) lo hi, 0 ≤ zk_i E x ∧ zk_sv N.1 x := by
  unfold zk_obt
  split
  · rename_i v hv
    have := zk_mem1_i h hv
    exact zk_btw_ok (zk_mem1_sv hc hv) (by omega) (by omega)
  · exact fun x hx => (List.not_mem_nil hx).elim
theorem zk_rund_ok : zk_Rok zk_rund := by
  refine zk_Rs_ok fun z L hz E h hc hcs hl hs => ?_
  unfold zk_rund at hz
  split at hz
  · rename_i f1 f2 f3 f4 d hf1 hf2 hf3 hf4 hd
    split at hz
    · rename_i o a hg ho ha
      cases hz
      obtain ⟨g, hg, he⟩ := List.any_eq_true.mp hg
      have he := zk_eqG_of he
      subst he
      have hT : ∀ j : Nat, zx_box (E.2 f1 j) (E.2 f2 j) (E.2 f3 j) (E.2 f4 j) := h.2.2 _ hg
      have hb := hT (zk_i E d).toNat
      have so := zk_mem1_sv hc ho
      have sa := zk_mem1_sv hc ha
      have e1 := zk_mem1_i h ho
      have e2 := zk_mem1_i h ha
      unfold zx_box at hb
      rw [e1, e2] at hb
      rcases hb with hb | hb | hb | hb | hb
      · exact zk_css_at h hc (zk_app_ok (zk_btw_ok so hb.1 hb.2.1) (zk_btw_ok sa hb.2.2.1 hb.2.2.2)) (by simp)
      · exact zk_css_at h hc (zk_app_ok (zk_btw_ok so (by omega) (by omega)) (zk_btw_ok sa hb.2.1 hb.2.2)) (List.mem_cons_of_mem _ List.mem_cons_self)
      · exact zk_css_at h hc (zk_app_ok (zk_app_ok (zk_app_ok (zk_btw_ok so (by omega) (by omega)) (zk_btw_ok sa hb.2.1 hb.2.2.1)) (zk_obt_ok h hc hb.2.2.2.1 hb.2.2.2.2.1)) (zk_obt_ok h hc hb.2.2.2.2.2.1 hb.2.2.2.2.2.2)) (List.mem_cons_of_mem _ (List.mem_cons_of_mem _ List.mem_cons_self))
      · exact zk_css_at h hc (zk_app_ok (zk_btw_ok so hb.1 hb.2.1) (zk_btw_ok sa hb.2.2.1 hb.2.2.2)) (List.mem_cons_of_mem _ (List.mem_cons_of_mem _ (List.mem_cons_of_mem _ List.mem_cons_self)))
      · exact zk_css_at h hc (zk_btw_ok so hb.1 hb.2) (List.mem_cons_of_mem _ (List.mem_cons_of_mem _ (List.mem_cons_of_mem _ (List.mem_cons_of_mem _ List.mem_cons_self))))
    · cases hz
  · cases hz
end
