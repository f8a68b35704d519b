noncomputable section
/-! RULES TOLD BY FACTS: what is to be found (rows and numbers that it names), sums that hold, what follows -/
abbrev zi_T : Type := Nat × List zk_Pa × List zk_Ln
/-- what is to be found: a kind, rows and numbers that are told; how many rows and numbers more it names (5000 on; 4500 on: the stack) -/
abbrev zi_Q : Type := zi_T × Nat × Nat
/-- what is to be found, sums that are not below 0, sums that are not 0, facts that follow, sums that follow -/
abbrev zi_A : Type := List zi_Q × List zk_Ln × List zk_Ln × List zi_T × List zk_Ln
def zi_cel (z : zk_Z) (k : Nat) : Option Nat := match zk_get z.2.1 k with
  | some c => some (zk_hd c.2.2)
  | none => none
def zi_row (z : zk_Z) (BR : List Nat) (p : zk_Pa) : Option Nat := match Nat.ble 5000 p.1 with
  | true => zk_get BR (p.1 - 5000)
  | false => match Nat.ble 3000 p.1 with
    | true => zi_cel z (p.1 - 3000)
    | false => zk_rwr z p
def zi_stk (z : zk_Z) (i : Nat) : Option zk_V := match zk_get z.2.2.2 i with
  | some t => some t.2.2
  | none => none
def zi_num (z : zk_Z) (BV : List zk_V) (p : zk_Pa) : Option zk_V := match Nat.ble 5000 p.1 with
  | true => zk_get BV (p.1 - 5000)
  | false => match Nat.ble 4500 p.1 with
    | true => zi_stk z (p.1 - 4500)
    | false => match Nat.ble 4000 p.1 with
      | true => zk_rcf z (p.1 - 4000) p.2
      | false => zk_rsw z p
def zi_rows (z : zk_Z) (BR : List Nat) : List zk_Pa → Option (List Nat)
  | [] => some []
  | p :: l => match zi_row z BR p, zi_rows z BR l with
    | some a, some r => some (a :: r)
    | _, _ => none
def zi_lin (z : zk_Z) (BV : List zk_V) (c : Int) : List (zk_Pa × Int) → Option zk_V
  | [] => some (zk_c c)
  | q :: l => match zi_num z BV q.1, zi_lin z BV c l with
    | some v, some w => some (zk_vadd (zk_vmul q.2 v) w)
    | _, _ => none
def zi_lins (z : zk_Z) (BV : List zk_V) : List zk_Ln → Option (List zk_V)
  | [] => some []
  | q :: l => match zi_lin z BV q.2 q.1, zi_lins z BV l with
    | some v, some w => some (v :: w)
    | _, _ => none
def zi_tms (z : zk_Z) (BR : List Nat) (BV : List zk_V) : List zi_T → Option (List zk_G)
  | [] => some []
  | t :: l => match zi_rows z BR t.2.1, zi_lins z BV t.2.2, zi_tms z BR BV l with
    | some a, some v, some r => some ((t.1, a, v) :: r)
    | _, _, _ => none
def zi_mt (N : zk_N) (k : Nat) (rs : List Nat) (vs : List zk_V) (mr mn : Nat) (g : zk_G) : Bool := Nat.beq g.1 k && (zk_eqNs (g.2.1.take rs.length) rs && (zk_eqEs N (g.2.2.take vs.length) vs && (Nat.beq (g.2.1.drop rs.length).length mr && Nat.beq (g.2.2.drop vs.length).length mn)))
noncomputable def zi_fd (p : zk_G → Bool) (l : List zk_G) : Option zk_G := List.rec (motive := fun _ => Option zk_G) none (fun g _ ih => Bool.rec (motive := fun _ => Option zk_G) ih (some g) (p g)) l
theorem zi_fd_of {p : zk_G → Bool} {g : zk_G} : ∀ {l : List zk_G}, zi_fd p l = some g → g ∈ l ∧ p g = true
  | [], h => by cases h
  | a :: l, h => by
    have h2 : (Bool.rec (motive := fun _ => Option zk_G) (zi_fd p l) (some a) (p a)) = some g := h
    cases hb : p a with
    | false =>
      rw [hb] at h2
      obtain ⟨h3, h4⟩ := zi_fd_of (l := l) h2
      exact ⟨List.mem_cons_of_mem _ h3, h4⟩
    | true =>
      rw [hb] at h2
      injection h2 with h2
      subst h2
      exact ⟨List.mem_cons_self, hb⟩
def zi_find (z : zk_Z) : List zi_Q → List Nat → List zk_V → Option (List Nat × List zk_V)
  | [], BR, BV => some (BR, BV)
  | q :: l, BR, BV => match zi_rows z BR q.1.2.1, zi_lins z BV q.1.2.2 with
    | some rs, some vs => match zi_fd (zi_mt z.1 q.1.1 rs vs q.2.1 q.2.2) z.1.2.2.2 with
      | some g => zi_find z l (BR ++ g.2.1.drop rs.length) (BV ++ g.2.2.drop vs.length)
      | none => none
    | _, _ => none
/-! what that says -/
def zi_L (ν : zk_Pa → Int) (c : Int) : List (zk_Pa × Int) → Int
  | [] => c
  | q :: l => q.2 * ν q.1 + zi_L ν c l
def zi_Ls (ν : zk_Pa → Int) : List zk_Ln → List Int
  | [] => []
  | q :: l => zi_L ν q.2 q.1 :: zi_Ls ν l
def zi_br (ρ : zk_Pa → Nat → Int) : Nat → Nat → List (Nat → Int)
  | _, 0 => []
  | i, m + 1 => ρ (5000 + i, []) :: zi_br ρ (i + 1) m
def zi_bn (ν : zk_Pa → Int) : Nat → Nat → List Int
  | _, 0 => []
  | i, m + 1 => ν (5000 + i, []) :: zi_bn ν (i + 1) m
def zi_P (ρ : zk_Pa → Nat → Int) (ν : zk_Pa → Int) (C : Prop) : List zi_Q → Nat → Nat → Prop
  | [], _, _ => C
  | q :: l, i, j => zk_S q.1.1 (q.1.2.1.map ρ ++ zi_br ρ i q.2.1) (zi_Ls ν q.1.2.2 ++ zi_bn ν j q.2.2) → zi_P ρ ν C l (i + q.2.1) (j + q.2.2)
def zi_N (ν : zk_Pa → Int) (C : Prop) : List zk_Ln → Prop
  | [] => C
  | l :: r => 0 ≤ zi_L ν l.2 l.1 → zi_N ν C r
def zi_Z (ν : zk_Pa → Int) (C : Prop) : List zk_Ln → Prop
  | [] => C
  | l :: r => zi_L ν l.2 l.1 ≠ 0 → zi_Z ν C r
def zi_C (ρ : zk_Pa → Nat → Int) (ν : zk_Pa → Int) : List zi_T → Prop
  | [] => True
  | t :: l => zk_S t.1 (t.2.1.map ρ) (zi_Ls ν t.2.2) ∧ zi_C ρ ν l
def zi_D (ν : zk_Pa → Int) : List zk_Ln → Prop
  | [] => True
  | l :: r => 0 ≤ zi_L ν l.2 l.1 ∧ zi_D ν r
def zi_ok (A : zi_A) : Prop := ∀ (ρ : zk_Pa → Nat → Int) (ν : zk_Pa → Int), zi_P ρ ν (zi_N ν (zi_Z ν (zi_C ρ ν A.2.2.2.1 ∧ zi_D ν A.2.2.2.2) A.2.2.1) A.2.1) A.1 0 0
/-! it is so -/
def zi_aR (E : zk_E) (z : zk_Z) (BR : List Nat) (ρ : zk_Pa → Nat → Int) : Prop := ∀ p a, zi_row z BR p = some a → ρ p = E.2 a
def zi_aV (E : zk_E) (z : zk_Z) (BV : List zk_V) (ν : zk_Pa → Int) : Prop := ∀ p v, zi_num z BV p = some v → ν p = zk_i E v
theorem zi_get_l {α : Type} {l r : List α} {i : Nat} {a : α} (h : zk_get l i = some a) : zk_get (l ++ r) i = some a := by
  rw [zk_get_eq] at h ⊢
  rw [List.getElem?_append_left (List.getElem?_eq_some_iff.mp h).1]
  exact h
theorem zi_get_m {α : Type} {l r : List α} {a : α} : zk_get (l ++ a :: r) l.length = some a := by
  rw [zk_get_eq, List.getElem?_append_right (Nat.le_refl _)]
  simp
theorem zi_aR_l {E : zk_E} {z : zk_Z} {BR X : List Nat} {ρ : zk_Pa → Nat → Int} (h : zi_aR E z (BR ++ X) ρ) : zi_aR E z BR ρ := fun p a ha => h p a (by
  unfold zi_row at ha ⊢
  split at ha
  · exact zi_get_l ha
  · exact ha)
theorem zi_aV_l {E : zk_E} {z : zk_Z} {BV X : List zk_V} {ν : zk_Pa → Int} (h : zi_aV E z (BV ++ X) ν) : zi_aV E z BV ν := fun p a ha => h p a (by
  unfold zi_num at ha ⊢
  split at ha
  · exact zi_get_l ha
  · exact ha)
theorem zi_rows_i {E : zk_E} {z : zk_Z} {BR : List Nat} {ρ : zk_Pa → Nat → Int} (h : zi_aR E z BR ρ) : ∀ {ps : List zk_Pa} {rs : List Nat}, zi_rows z BR ps = some rs → ps.map ρ = rs.map E.2
  | [], rs, e => by
    unfold zi_rows at e
    cases e
    rfl
  | p :: l, rs, e => by
    unfold zi_rows at e
    split at e
    · rename_i a r e1 e2
      cases e
      rw [List.map_cons, List.map_cons, h p a e1, zi_rows_i h e2]
    · cases e
theorem zi_lin_i {E : zk_E} {z : zk_Z} {BV : List zk_V} {ν : zk_Pa → Int} (h : zi_aV E z BV ν) {c : Int} : ∀ {l : List (zk_Pa × Int)} {v : zk_V}, zi_lin z BV c l = some v → zi_L ν c l = zk_i E v
  | [], v, e => by
    unfold zi_lin at e
    cases e
    exact (zk_c_i E c).symm
  | q :: l, v, e => by
    unfold zi_lin at e
    split at e
    · rename_i v1 w e1 e2
      cases e
      rw [zk_vadd_i, zk_vmul_i, ← zi_lin_i h e2, ← h _ _ e1]
      rfl
    · cases e
theorem zi_lins_i {E : zk_E} {z : zk_Z} {BV : List zk_V} {ν : zk_Pa → Int} (h : zi_aV E z BV ν) : ∀ {ls : List zk_Ln} {vs : List zk_V}, zi_lins z BV ls = some vs → zi_Ls ν ls = vs.map (zk_i E)
  | [], vs, e => by
    unfold zi_lins at e
    cases e
    rfl
  | q :: l, vs, e => by
    unfold zi_lins at e
    split at e
    · rename_i v w e1 e2
      cases e
      show zi_L ν q.2 q.1 :: zi_Ls ν l = zk_i E v :: w.map (zk_i E)
      rw [zi_lin_i h e1, zi_lins_i h e2]
    · cases e
theorem zi_br_i {E : zk_E} {z : zk_Z} {ρ : zk_Pa → Nat → Int} {X : List Nat} : ∀ {D B : List Nat}, zi_aR E z ((B ++ D) ++ X) ρ → zi_br ρ B.length D.length = D.map E.2
  | [], _, _ => rfl
  | a :: D, B, h => by
    show ρ (5000 + B.length, []) :: zi_br ρ (B.length + 1) D.length = E.2 a :: D.map E.2
    have e1 : ρ (5000 + B.length, []) = E.2 a := h _ _ (by
      unfold zi_row
      have hb : Nat.ble 5000 (5000 + B.length) = true := Nat.ble_eq.mpr (Nat.le_add_right _ _)
      simp only [hb]
      rw [show 5000 + B.length - 5000 = B.length by omega, List.append_assoc, List.cons_append]
      exact zi_get_m)
    have e2 := zi_br_i (E := E) (z := z) (ρ := ρ) (X := X) (D := D) (B := B ++ [a]) (by simpa using h)
    rw [List.length_append] at e2
    rw [e1]
    exact congrArg (fun t => E.2 a :: t) e2
theorem zi_bn_i {E : zk_E} {z : zk_Z} {ν : zk_Pa → Int} {X : List zk_V} : ∀ {D B : List zk_V}, zi_aV E z ((B ++ D) ++ X) ν → zi_bn ν B.length D.length = D.map (zk_i E)
  | [], _, _ => rfl
  | a :: D, B, h => by
    show ν (5000 + B.length, []) :: zi_bn ν (B.length + 1) D.length = zk_i E a :: D.map (zk_i E)
    have e1 : ν (5000 + B.length, []) = zk_i E a := h _ _ (by
      unfold zi_num
      have hb : Nat.ble 5000 (5000 + B.length) = true := Nat.ble_eq.mpr (Nat.le_add_right _ _)
      simp only [hb]
      rw [show 5000 + B.length - 5000 = B.length by omega, List.append_assoc, List.cons_append]
      exact zi_get_m)
    have e2 := zi_bn_i (E := E) (z := z) (ν := ν) (X := X) (D := D) (B := B ++ [a]) (by simpa using h)
    rw [List.length_append] at e2
    rw [e1]
    exact congrArg (fun t => zk_i E a :: t) e2
theorem zi_find_x {z : zk_Z} : ∀ {l : List zi_Q} {BR BR' : List Nat} {BV BV' : List zk_V}, zi_find z l BR BV = some (BR', BV') → ∃ X Y, BR' = BR ++ X ∧ BV' = BV ++ Y
  | [], BR, BR', BV, BV', h => by
    unfold zi_find at h
    cases h
    exact ⟨[], [], by simp, by simp⟩
  | q :: l, BR, BR', BV, BV', h => by
    unfold zi_find at h
    split at h
    · rename_i rs vs e1 e2
      split at h
      · rename_i g hg
        obtain ⟨X, Y, h1, h2⟩ := zi_find_x h
        exact ⟨g.2.1.drop rs.length ++ X, g.2.2.drop vs.length ++ Y, by rw [h1, List.append_assoc], by rw [h2, List.append_assoc]⟩
      · cases h
    · cases h
theorem zi_find_i {E : zk_E} {z : zk_Z} (hok : zk_ok E z.1) {ρ : zk_Pa → Nat → Int} {ν : zk_Pa → Int} {C : Prop} : ∀ {l : List zi_Q} {BR BR' : List Nat} {BV BV' : List zk_V}, zi_find z l BR BV = some (BR', BV') → zi_aR E z BR' ρ → zi_aV E z BV' ν → zi_P ρ ν C l BR.length BV.length → C
  | [], BR, BR', BV, BV', h, hR, hV, hC => hC
  | q :: l, BR, BR', BV, BV', h, hR, hV, hC => by
    unfold zi_find at h
    split at h
    · rename_i rs vs e1 e2
      split at h
      · rename_i g hg
        obtain ⟨g1, g2⟩ := zi_fd_of hg
        obtain ⟨X, Y, x1, x2⟩ := zi_find_x h
        subst x1
        subst x2
        unfold zi_mt at g2
        simp only [Bool.and_eq_true] at g2
        obtain ⟨m1, m2, m3, m4, m5⟩ := g2
        have m1 := Nat.eq_of_beq_eq_true m1
        have m2 := zk_eqNs_of m2
        have m3 := zk_eqEs_of hok m3
        have m4 := Nat.eq_of_beq_eq_true m4
        have m5 := Nat.eq_of_beq_eq_true m5
        have hq := hok.2.2 g g1
        have r1 : q.1.2.1.map ρ ++ zi_br ρ BR.length q.2.1 = g.2.1.map E.2 := by
          rw [zi_rows_i (zi_aR_l (zi_aR_l hR)) e1, ← m4, zi_br_i hR, ← List.map_append]
          conv => rhs; rw [← List.take_append_drop rs.length g.2.1]
          rw [m2]
        have r2 : zi_Ls ν q.1.2.2 ++ zi_bn ν BV.length q.2.2 = g.2.2.map (zk_i E) := by
          rw [zi_lins_i (zi_aV_l (zi_aV_l hV)) e2, ← m5, zi_bn_i hV, ← m3, ← List.map_append]
          rw [List.take_append_drop]
        have hC' : zk_S q.1.1 (q.1.2.1.map ρ ++ zi_br ρ BR.length q.2.1) (zi_Ls ν q.1.2.2 ++ zi_bn ν BV.length q.2.2) → zi_P ρ ν C l (BR.length + q.2.1) (BV.length + q.2.2) := hC
        rw [r1, r2, ← m1] at hC'
        have hC2 := hC' hq
        rw [← m4, ← m5, ← List.length_append, ← List.length_append] at hC2
        exact zi_find_i hok h hR hV hC2
      · cases h
    · cases h
theorem zi_tms_i {E : zk_E} {z : zk_Z} {BR : List Nat} {BV : List zk_V} {ρ : zk_Pa → Nat → Int} {ν : zk_Pa → Int} (hR : zi_aR E z BR ρ) (hV : zi_aV E z BV ν) : ∀ {ts : List zi_T} {Q : List zk_G}, zi_tms z BR BV ts = some Q → zi_C ρ ν ts → ∀ g ∈ Q, zk_S g.1 (g.2.1.map E.2) (g.2.2.map (zk_i E))
  | [], Q, e, _, g, hg => by
    unfold zi_tms at e
    cases e
    cases hg
  | t :: l, Q, e, hC, g, hg => by
    unfold zi_tms at e
    split at e
    · rename_i a v r e1 e2 e3
      cases e
      rcases List.mem_cons.mp hg with rfl | hg
      · have h1 := hC.1
        rw [zi_rows_i hR e1, zi_lins_i hV e2] at h1
        exact h1
      · exact zi_tms_i hR hV e3 hC.2 g hg
    · cases e
theorem zi_D_i {E : zk_E} {z : zk_Z} {BV : List zk_V} {ν : zk_Pa → Int} (hV : zi_aV E z BV ν) : ∀ {ls : List zk_Ln} {F : List zk_V}, zi_lins z BV ls = some F → zi_D ν ls → ∀ v ∈ F, 0 ≤ zk_i E v
  | [], F, e, _, v, hv => by
    unfold zi_lins at e
    cases e
    cases hv
  | q :: l, F, e, hD, v, hv => by
    unfold zi_lins at e
    split at e
    · rename_i u w e1 e2
      cases e
      rcases List.mem_cons.mp hv with rfl | hv
      · have h1 := hD.1
        rw [zi_lin_i hV e1] at h1
        exact h1
      · exact zi_D_i hV e2 hD.2 v hv
    · cases e
theorem zi_N_i {E : zk_E} {z : zk_Z} (hok : zk_ok E z.1) {BV : List zk_V} {ν : zk_Pa → Int} (hV : zi_aV E z BV ν) {C : Prop} : ∀ {ls : List zk_Ln} {F : List zk_V}, zi_lins z BV ls = some F → (F.all (zk_n2 z.1)) = true → zi_N ν C ls → C
  | [], _, _, _, h => h
  | q :: l, F, e, ha, h => by
    unfold zi_lins at e
    split at e
    · rename_i u w e1 e2
      cases e
      rw [List.all_cons, Bool.and_eq_true] at ha
      have h1 := zk_n2_ok hok ha.1
      rw [← zi_lin_i hV e1] at h1
      exact zi_N_i hok hV e2 ha.2 (h h1)
    · cases e
def zi_nz (N : zk_N) (v : zk_V) : Bool := zk_nz N v || zk_nz N (zk_vmul (-1) v)
theorem zi_Z_i {E : zk_E} {z : zk_Z} (hok : zk_ok E z.1) {BV : List zk_V} {ν : zk_Pa → Int} (hV : zi_aV E z BV ν) {C : Prop} : ∀ {ls : List zk_Ln} {F : List zk_V}, zi_lins z BV ls = some F → (F.all (zi_nz z.1)) = true → zi_Z ν C ls → C
  | [], _, _, _, h => h
  | q :: l, F, e, ha, h => by
    unfold zi_lins at e
    split at e
    · rename_i u w e1 e2
      cases e
      rw [List.all_cons, Bool.and_eq_true] at ha
      have h1 : zk_i E u ≠ 0 := by
        have h0 := ha.1
        unfold zi_nz at h0
        rw [Bool.or_eq_true] at h0
        rcases h0 with h0 | h0
        · exact zk_nz_ok hok h0
        · have := zk_nz_ok hok h0
          rw [zk_vmul_i] at this
          omega
      rw [← zi_lin_i hV e1] at h1
      exact zi_Z_i hok hV e2 ha.2 (h h1)
    · cases e
def zi_clG (n : Nat) (Q : List zk_G) : Bool := Q.all fun g => (g.2.1.all fun a => Nat.blt a n) && (g.2.2.all (zk_svB n))
def zi_asm (F : List zk_V) (N : zk_N) : Option zk_N := zk_ea (fun v N => zk_asm N v) F N
def zi_r (A : zi_A) (z : zk_Z) : Option (Option zk_N) := match zi_find z A.1 [] [] with
  | some (BR, BV) => match zi_lins z BV A.2.1, zi_lins z BV A.2.2.1, zi_tms z BR BV A.2.2.2.1, zi_lins z BV A.2.2.2.2 with
    | some cs, some zs, some Q, some F => match (cs.all (zk_n2 z.1)) && ((zs.all (zi_nz z.1)) && (zi_clG z.1.1 Q && (F.all (zk_svB z.1.1)))) with
      | true => some (zi_asm F (zk_addGs z.1 Q))
      | false => none
    | _, _, _, _ => none
  | none => none
def zi_rl : List zi_A → zk_Rl
  | [], z => some [z.1]
  | A :: l, z => match zi_r A z with
    | some (some N) => some [N]
    | some none => some []
    | none => zi_rl l z
theorem zi_r_ok {A : zi_A} (hA : zi_ok A) {z : zk_Z} {o : Option zk_N} (hz : zi_r A z = some o) {E : zk_E} (h : zk_ok E z.1) (hc : zk_cl z.1) : ∃ N', o = some N' ∧ zk_ok E N' ∧ zk_cl N' ∧ N'.1 = z.1.1 := by
  unfold zi_r at hz
  split at hz
  · rename_i BR BV hf
    split at hz
    · rename_i cs zs Q F e1 e0 e2 e3
      split at hz
      · rename_i hb
        simp only [Bool.and_eq_true] at hb
        obtain ⟨b1, b0, b2, b3⟩ := hb
        injection hz with hz
        subst hz
        have hR : zi_aR E z BR (fun p => match zi_row z BR p with | some a => E.2 a | none => fun _ => 0) := fun p a ha => by
          simp only [ha]
        have hV : zi_aV E z BV (fun p => match zi_num z BV p with | some v => zk_i E v | none => 0) := fun p v hv => by
          simp only [hv]
        have k1 := zi_find_i (C := zi_N _ _ A.2.1) h hf hR hV (hA _ _)
        obtain ⟨k2, k3⟩ := zi_Z_i h hV e0 b0 (zi_N_i h hV e1 b1 k1)
        have q1 := zi_tms_i hR hV e2 k2
        have q2 := zi_D_i hV e3 k3
        obtain ⟨c1, c2⟩ := zk_addGs_ok h hc (L := Q) (fun g hg => ⟨q1 g hg, by
          have := List.all_eq_true.mp b2 g hg
          rw [Bool.and_eq_true] at this
          exact ⟨fun a ha => Nat.blt_eq.mp (List.all_eq_true.mp this.1 a ha), fun v hv => zk_svB_of (List.all_eq_true.mp this.2 v hv)⟩⟩)
        obtain ⟨N', d1, d2, d3, d4⟩ := zk_ea_gd (f := fun v N => zk_asm N v) (l := F) (E := E) (n := z.1.1) (fun v hv N hN hNc hn => by
          obtain ⟨N1, f1, f2⟩ := zk_asm_ok hN (q2 v hv)
          obtain ⟨f3, f4⟩ := zk_asm_cl hNc (by rw [hn]; exact zk_svB_of (List.all_eq_true.mp b3 v hv)) f1
          exact ⟨N1, f1, f2, f3, f4.trans hn⟩) (zk_addGs z.1 Q) c1 c2 rfl
        exact ⟨N', d1, d2, d3, d4⟩
      · cases hz
    · cases hz
  · cases hz
theorem zi_rl_ok : ∀ {l : List zi_A}, (∀ A ∈ l, zi_ok A) → zk_Rok (zi_rl l)
  | [], _ => by
    refine zk_Rs_ok fun z L hz E h hc hcs hl hs => ?_
    unfold zi_rl at hz
    cases hz
    exact ⟨z.1, List.mem_cons_self, h, hc, rfl⟩
  | A :: l, hA => by
    intro z L hz E h hc hcs hl hs
    unfold zi_rl at hz
    split at hz
    · rename_i N hN
      obtain ⟨N', k1, k2, k3, k4⟩ := zi_r_ok (hA A List.mem_cons_self) hN h hc
      injection k1 with k1
      subst k1
      cases hz
      exact ⟨N, List.mem_cons_self, E, zk_ag_rf, k2, k3, Nat.le_of_eq k4.symm⟩
    · rename_i hN
      obtain ⟨N', k1, -⟩ := zi_r_ok (hA A List.mem_cons_self) hN h hc
      cases k1
    · exact zi_rl_ok (fun B hB => hA B (List.mem_cons_of_mem _ hB)) z L hz E h hc hcs hl hs
end
