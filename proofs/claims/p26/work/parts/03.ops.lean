noncomputable section
/-! what is known once a sum is not below 0 -/
def zk_rf (d : zk_V) (N : zk_N) (q : Nat × Int) : zk_N := match zk_rng N (zk_vsub d ([q], 0)), zk_find N.2.1 q.1 with
  | some r, some b => match zk_le 1 q.2 with
    | true => match zk_le (-(r.2 / q.2)) b.1 with
      | true => N
      | false => zk_addB N (q.1, -(r.2 / q.2), b.2)
    | false => match zk_le q.2 (-1) with
      | true => match zk_le b.2 (r.2 / (-q.2)) with
        | true => N
        | false => zk_addB N (q.1, b.1, r.2 / (-q.2))
      | false => N
  | _, _ => N
theorem zk_rf_ok {E : zk_E} {N : zk_N} (h : zk_ok E N) {d : zk_V} (hd : 0 ≤ zk_i E d) (q : Nat × Int) : zk_ok E (zk_rf d N q) := by
  unfold zk_rf
  split
  · rename_i r b hr hb
    have h1 := zk_rng_ok h hr
    have h2 := h.1 _ (zk_find_mem hb)
    simp only at h2
    rw [zk_vsub_i] at h1
    have e : zk_i E ([q], 0) = q.2 * E.1 q.1 := by simp [zk_i, zk_s]
    rw [e] at h1
    split
    · rename_i g
      have g := zk_le_of g
      split
      · exact h
      · refine zk_addB_ok h ⟨?_, h2.2⟩
        have k : -E.1 q.1 ≤ r.2 / q.2 := by
          rw [Int.le_ediv_iff_mul_le (by omega), Int.neg_mul, Int.mul_comm]
          omega
        simp only
        omega
    · split
      · rename_i g
        have g := zk_le_of g
        split
        · exact h
        · refine zk_addB_ok h ⟨h2.1, ?_⟩
          show E.1 q.1 ≤ r.2 / (-q.2)
          rw [Int.le_ediv_iff_mul_le (by omega), Int.mul_neg, Int.mul_comm]
          omega
      · exact h
  · exact h
theorem zk_rf_cl {N : zk_N} (h : zk_cl N) {d : zk_V} {q : Nat × Int} (hq : q.1 < N.1) : zk_cl (zk_rf d N q) ∧ (zk_rf d N q).1 = N.1 := by
  unfold zk_rf
  split
  · split
    · split
      · exact ⟨h, rfl⟩
      · exact ⟨zk_addB_cl h hq, rfl⟩
    · split
      · split
        · exact ⟨h, rfl⟩
        · exact ⟨zk_addB_cl h hq, rfl⟩
      · exact ⟨h, rfl⟩
  · exact ⟨h, rfl⟩
theorem zk_rfs_ok {E : zk_E} {d : zk_V} (hd : 0 ≤ zk_i E d) : ∀ (l : List (Nat × Int)) {N : zk_N}, zk_ok E N → zk_ok E (l.foldl (zk_rf d) N)
  | [], _, h => h
  | q :: l, _, h => zk_rfs_ok hd l (zk_rf_ok h hd q)
theorem zk_rfs_cl {d : zk_V} : ∀ (l : List (Nat × Int)) {N : zk_N}, zk_cl N → (∀ q ∈ l, q.1 < N.1) → zk_cl (l.foldl (zk_rf d) N) ∧ (l.foldl (zk_rf d) N).1 = N.1
  | [], _, h, _ => ⟨h, rfl⟩
  | q :: l, N, h, hl => by
    obtain ⟨k1, k2⟩ := zk_rf_cl (d := d) h (hl q List.mem_cons_self)
    obtain ⟨k3, k4⟩ := zk_rfs_cl l k1 (fun r hr => by rw [k2]; exact hl r (List.mem_cons_of_mem _ hr))
    exact ⟨k3, k4.trans k2⟩
/-- d is not below 0; none: that cannot be -/
def zk_asm (N : zk_N) (d : zk_V) : Option zk_N := match zk_rng N d with
  | none => some (zk_addF N d)
  | some r => match zk_le 0 r.2 with
    | false => none
    | true => match zk_le 0 r.1 with
      | true => some N
      | false => some (match d.1 with
        | _ :: _ :: _ => (match zk_any (zk_eqv d) N.2.2.1 with
          | true => d.1.foldl (zk_rf d) N
          | false => zk_addF (d.1.foldl (zk_rf d) N) d)
        | _ => d.1.foldl (zk_rf d) N)
theorem zk_asm_ok {E : zk_E} {N : zk_N} (h : zk_ok E N) {d : zk_V} (hd : 0 ≤ zk_i E d) : ∃ N', zk_asm N d = some N' ∧ zk_ok E N' := by
  unfold zk_asm
  split
  · exact ⟨_, rfl, zk_addF_ok h hd⟩
  · rename_i r hr
    have h1 := zk_rng_ok h hr
    split
    · rename_i g
      have := zk_le_no g
      omega
    · split
      · exact ⟨_, rfl, h⟩
      · refine ⟨_, rfl, ?_⟩
        split
        · split
          · exact zk_rfs_ok hd _ h
          · exact zk_addF_ok (zk_rfs_ok hd _ h) hd
        · exact zk_rfs_ok hd _ h
theorem zk_asm_cl {N N' : zk_N} (h : zk_cl N) {d : zk_V} (hd : zk_sv N.1 d) (he : zk_asm N d = some N') : zk_cl N' ∧ N'.1 = N.1 := by
  obtain ⟨k1, k2⟩ := zk_rfs_cl (d := d) d.1 h hd
  unfold zk_asm at he
  split at he
  · cases he; exact ⟨zk_addF_cl h hd, rfl⟩
  · split at he
    · cases he
    · split at he
      · cases he; exact ⟨h, rfl⟩
      · injection he with he
        subst he
        split
        · split
          · exact ⟨k1, k2⟩
          · exact ⟨zk_addF_cl k1 (by rw [k2]; exact hd), k2⟩
        · exact ⟨k1, k2⟩
def zk_eqs (N : zk_N) (d : zk_V) : Option zk_N := match zk_asm N d with
  | some N1 => zk_asm N1 (zk_vmul (-1) d)
  | none => none
theorem zk_eqs_ok {E : zk_E} {N : zk_N} (h : zk_ok E N) {d : zk_V} (hd : zk_i E d = 0) : ∃ N', zk_eqs N d = some N' ∧ zk_ok E N' := by
  obtain ⟨N1, e1, k1⟩ := zk_asm_ok h (d := d) (by omega)
  obtain ⟨N2, e2, k2⟩ := zk_asm_ok k1 (d := zk_vmul (-1) d) (by rw [zk_vmul_i]; omega)
  exact ⟨N2, by unfold zk_eqs; rw [e1]; exact e2, k2⟩
theorem zk_eqs_cl {N N' : zk_N} (h : zk_cl N) {d : zk_V} (hd : zk_sv N.1 d) (he : zk_eqs N d = some N') : zk_cl N' ∧ N'.1 = N.1 := by
  unfold zk_eqs at he
  split at he
  · rename_i N1 e1
    obtain ⟨k1, g1⟩ := zk_asm_cl h hd e1
    obtain ⟨k2, g2⟩ := zk_asm_cl k1 (by rw [g1]; exact zk_vmul_sv hd) he
    exact ⟨k2, g2.trans g1⟩
  · cases he
def zk_many (l : List (Nat × Int)) : Bool := match l with
  | _ :: _ :: _ => true
  | _ => false
def zk_nes (N : zk_N) (d : zk_V) : Option zk_N := match zk_rng N d with
  | none => some N
  | some r => match zk_eqi r.1 0 with
    | true => zk_asm N (d.1, d.2 - 1)
    | false => match zk_eqi r.2 0 with
      | true => zk_asm N ((zk_vmul (-1) d).1, (zk_vmul (-1) d).2 - 1)
      | false => match zk_many d.1 && zk_n1 N d with
        | true => zk_asm N (d.1, d.2 - 1)
        | false => match zk_many d.1 && zk_n1 N (zk_vmul (-1) d) with
          | true => zk_asm N ((zk_vmul (-1) d).1, (zk_vmul (-1) d).2 - 1)
          | false => some (zk_addG N (5, [], [d]))
theorem zk_nes_ok {E : zk_E} {N : zk_N} (h : zk_ok E N) {d : zk_V} (hd : zk_i E d ≠ 0) : ∃ N', zk_nes N d = some N' ∧ zk_ok E N' := by
  have e1 : ∀ v : zk_V, zk_i E (v.1, v.2 - 1) = zk_i E v - 1 := fun v => by unfold zk_i; simp only; omega
  unfold zk_nes
  split
  · exact ⟨N, rfl, h⟩
  · rename_i r hr
    have h1 := zk_rng_ok h hr
    split
    · rename_i g
      have := zk_eqi_of g
      exact zk_asm_ok h (by rw [e1]; omega)
    · split
      · rename_i g
        have := zk_eqi_of g
        exact zk_asm_ok h (by rw [e1, zk_vmul_i]; omega)
      · split
        · rename_i g
          simp only [Bool.and_eq_true] at g
          have := zk_n1_ok h g.2
          exact zk_asm_ok h (by rw [e1]; omega)
        · split
          · rename_i g
            simp only [Bool.and_eq_true] at g
            have := zk_n1_ok h g.2
            rw [zk_vmul_i] at this
            exact zk_asm_ok h (by rw [e1, zk_vmul_i]; omega)
          · exact ⟨_, rfl, zk_addG_ok h (g := (5, [], [d])) hd⟩
theorem zk_nes_cl {N N' : zk_N} (h : zk_cl N) {d : zk_V} (hd : zk_sv N.1 d) (he : zk_nes N d = some N') : zk_cl N' ∧ N'.1 = N.1 := by
  unfold zk_nes at he
  split at he
  · cases he; exact ⟨h, rfl⟩
  · split at he
    · exact zk_asm_cl h (d := (d.1, d.2 - 1)) hd he
    · split at he
      · exact zk_asm_cl h (d := ((zk_vmul (-1) d).1, (zk_vmul (-1) d).2 - 1)) (zk_vmul_sv (c := -1) hd) he
      · split at he
        · exact zk_asm_cl h (d := (d.1, d.2 - 1)) hd he
        · split at he
          · exact zk_asm_cl h (d := ((zk_vmul (-1) d).1, (zk_vmul (-1) d).2 - 1)) (zk_vmul_sv (c := -1) hd) he
          · cases he
            exact ⟨zk_addG_cl h (g := (5, [], [d])) ⟨fun a ha => by (cases ha), fun v hv => by rw [List.mem_singleton.mp hv]; exact hd⟩, rfl⟩
/-- surely an int -/
def zk_in (N : zk_N) (x : zk_V) : Bool := match zk_rng N x with
  | some a => zk_le (-2147483648) a.1 && zk_le a.2 2147483647
  | none => false
theorem zk_in_b {E : zk_E} {N : zk_N} (h : zk_ok E N) {x : zk_V} (hx : zk_in N x = true) : -2147483648 ≤ zk_i E x ∧ zk_i E x ≤ 2147483647 := by
  unfold zk_in at hx
  split at hx
  · rename_i a ha
    have hr := zk_rng_ok h ha
    simp only [Bool.and_eq_true] at hx
    have := zk_le_of hx.1
    have := zk_le_of hx.2
    omega
  · cases hx
theorem zk_in_ok {E : zk_E} {N : zk_N} (h : zk_ok E N) {x : zk_V} (hx : zk_in N x = true) : (Int32.ofInt (zk_i E x)).toInt = zk_i E x := by
  have := zk_in_b h hx
  exact Int32.toInt_ofInt_of_le (by omega) (by omega)
/-- a branch: c of x and y is so (t), or not; none: cannot be -/
def zk_cmp (N : zk_N) (c : ClassFile.Cond) (t : Bool) (x y : zk_V) : Option zk_N := match zk_in N x && zk_in N y with
  | false => some N
  | true => match c, t with
    | .eq, true => zk_eqs N (zk_vsub x y)
    | .eq, false => zk_nes N (zk_vsub x y)
    | .ne, true => zk_nes N (zk_vsub x y)
    | .ne, false => zk_eqs N (zk_vsub x y)
    | .lt, true => zk_asm N (zk_vsub (zk_vsub y x) (zk_c 1))
    | .lt, false => zk_asm N (zk_vsub x y)
    | .ge, true => zk_asm N (zk_vsub x y)
    | .ge, false => zk_asm N (zk_vsub (zk_vsub y x) (zk_c 1))
    | .gt, true => zk_asm N (zk_vsub (zk_vsub x y) (zk_c 1))
    | .gt, false => zk_asm N (zk_vsub y x)
    | .le, true => zk_asm N (zk_vsub y x)
    | .le, false => zk_asm N (zk_vsub (zk_vsub x y) (zk_c 1))
def zk_holds (c : ClassFile.Cond) (x y : Int32) : Prop := match c with
  | .eq => x = y
  | .ne => ¬ x = y
  | .lt => x < y
  | .ge => y ≤ x
  | .gt => y < x
  | .le => x ≤ y
theorem zk_cmp_ok {E : zk_E} {N : zk_N} (h : zk_ok E N) {c : ClassFile.Cond} {t : Bool} {x y : zk_V} (hc : t = true ↔ zk_holds c (Int32.ofInt (zk_i E x)) (Int32.ofInt (zk_i E y))) : ∃ N', zk_cmp N c t x y = some N' ∧ zk_ok E N' := by
  unfold zk_cmp
  split
  · exact ⟨N, rfl, h⟩
  · rename_i g
    simp only [Bool.and_eq_true] at g
    have ix := zk_in_ok h g.1
    have iy := zk_in_ok h g.2
    have e1 : (Int32.ofInt (zk_i E x) = Int32.ofInt (zk_i E y)) ↔ zk_i E x = zk_i E y := by rw [← Int32.toInt_inj, ix, iy]
    have e2 : (Int32.ofInt (zk_i E x) < Int32.ofInt (zk_i E y)) ↔ zk_i E x < zk_i E y := by rw [Int32.lt_iff_toInt_lt, ix, iy]
    have e3 : (Int32.ofInt (zk_i E y) ≤ Int32.ofInt (zk_i E x)) ↔ zk_i E y ≤ zk_i E x := by rw [Int32.le_iff_toInt_le, ix, iy]
    have e4 : (Int32.ofInt (zk_i E y) < Int32.ofInt (zk_i E x)) ↔ zk_i E y < zk_i E x := by rw [Int32.lt_iff_toInt_lt, ix, iy]
    have e5 : (Int32.ofInt (zk_i E x) ≤ Int32.ofInt (zk_i E y)) ↔ zk_i E x ≤ zk_i E y := by rw [Int32.le_iff_toInt_le, ix, iy]
    cases c <;> cases t <;> simp only [zk_holds, e1, e2, e3, e4, e5, Bool.false_eq_true, false_iff, true_iff, Decidable.not_not] at hc ⊢
    · exact zk_nes_ok h (by rw [zk_vsub_i]; omega)
    · exact zk_eqs_ok h (by rw [zk_vsub_i]; omega)
    · exact zk_eqs_ok h (by rw [zk_vsub_i]; omega)
    · exact zk_nes_ok h (by rw [zk_vsub_i]; omega)
    · exact zk_asm_ok h (by rw [zk_vsub_i]; omega)
    · exact zk_asm_ok h (by rw [zk_vsub_i, zk_vsub_i, zk_c_i]; omega)
    · exact zk_asm_ok h (by rw [zk_vsub_i, zk_vsub_i, zk_c_i]; omega)
    · exact zk_asm_ok h (by rw [zk_vsub_i]; omega)
    · exact zk_asm_ok h (by rw [zk_vsub_i]; omega)
    · exact zk_asm_ok h (by rw [zk_vsub_i, zk_vsub_i, zk_c_i]; omega)
    · exact zk_asm_ok h (by rw [zk_vsub_i, zk_vsub_i, zk_c_i]; omega)
    · exact zk_asm_ok h (by rw [zk_vsub_i]; omega)
theorem zk_cmp_cl {N N' : zk_N} (h : zk_cl N) {c : ClassFile.Cond} {t : Bool} {x y : zk_V} (hx : zk_sv N.1 x) (hy : zk_sv N.1 y) (he : zk_cmp N c t x y = some N') : zk_cl N' ∧ N'.1 = N.1 := by
  unfold zk_cmp at he
  split at he
  · cases he; exact ⟨h, rfl⟩
  · have a1 := zk_vsub_sv hx hy
    have a2 := zk_vsub_sv hy hx
    have a3 := zk_vsub_sv a1 (zk_c_sv (z := 1))
    have a4 := zk_vsub_sv a2 (zk_c_sv (z := 1))
    cases c <;> cases t <;> simp only at he <;> first
      | exact zk_nes_cl h a1 he
      | exact zk_eqs_cl h a1 he
      | exact zk_asm_cl h a1 he
      | exact zk_asm_cl h a2 he
      | exact zk_asm_cl h a3 he
      | exact zk_asm_cl h a4 he

/-! WHAT OPERATIONS GIVE -/
def zk_new (N : zk_N) (lo hi : Int) : zk_V × zk_N := (zk_y N.1, zk_addB (zk_next N) (N.1, lo, hi))
/-- r (a value and what is known then) stands for the whole number w -/
def zk_to (E : zk_E) (N : zk_N) (r : zk_V × zk_N) (P : Int → Prop) : Prop := ∃ E', zk_ag N.1 E E' ∧ zk_ok E' r.2 ∧ zk_cl r.2 ∧ N.1 ≤ r.2.1 ∧ zk_sv r.2.1 r.1 ∧ P (zk_i E' r.1)
/-- for the int z -/
abbrev zk_is (E : zk_E) (N : zk_N) (r : zk_V × zk_N) (z : Int32) : Prop := zk_to E N r fun w => Int32.ofInt w = z
theorem zk_to.imp {E : zk_E} {N : zk_N} {r : zk_V × zk_N} {P Q : Int → Prop} (h : zk_to E N r P) (hq : ∀ w, P w → Q w) : zk_to E N r Q := by
  obtain ⟨E', a, b, c, d, e, f⟩ := h
  exact ⟨E', a, b, c, d, e, hq _ f⟩
theorem zk_new_to {E : zk_E} {N : zk_N} (h : zk_ok E N) (hs : zk_cl N) {lo hi w : Int} (h1 : lo ≤ w) (h2 : w ≤ hi) : zk_to E N (zk_new N lo hi) fun x => x = w := by
  have ha := zk_setI_ag (E := E) (n := N.1) (x := w)
  refine ⟨zk_setI E N.1 w, ha, zk_addB_ok (zk_next_ok (zk_ok_ag h hs ha)) ?_, zk_addB_cl (zk_next_cl hs) (Nat.lt_succ_self _), Nat.le_succ _, zk_y_sv (Nat.lt_succ_self _), ?_⟩
  · rw [zk_setI_at]
    exact ⟨h1, h2⟩
  · show zk_i _ (zk_y N.1) = w
    rw [zk_y_i, zk_setI_at]
theorem zk_new_ok {E : zk_E} {N : zk_N} (h : zk_ok E N) (hs : zk_cl N) {lo hi : Int} {z : Int32} (h1 : lo ≤ z.toInt) (h2 : z.toInt ≤ hi) : zk_is E N (zk_new N lo hi) z :=
  (zk_new_to h hs h1 h2).imp fun w e => by rw [e, Int32.ofInt_toInt]
def zk_full (N : zk_N) : zk_V × zk_N := zk_new N (-2147483648) 2147483647
theorem zk_full_ok {E : zk_E} {N : zk_N} (h : zk_ok E N) (hs : zk_cl N) (z : Int32) : zk_is E N (zk_full N) z :=
  zk_new_ok h hs (by have := Int32.le_toInt z; omega) (by have := Int32.toInt_lt z; omega)
/-- bounds if they are an int's -/
def zk_newf (N : zk_N) (lo hi : Int) : zk_V × zk_N := match zk_le (-2147483648) lo && zk_le hi 2147483647 with
  | true => zk_new N lo hi
  | false => zk_full N
theorem zk_newf_ok {E : zk_E} {N : zk_N} (h : zk_ok E N) (hs : zk_cl N) {lo hi w : Int} {z : Int32} (hz : z = Int32.ofInt w) (h1 : lo ≤ w) (h2 : w ≤ hi) : zk_is E N (zk_newf N lo hi) z := by
  unfold zk_newf
  split
  · exact (zk_new_to h hs h1 h2).imp fun x e => by rw [e, hz]
  · exact zk_full_ok h hs z
theorem zk_old_to {E : zk_E} {N : zk_N} (h : zk_ok E N) (hs : zk_cl N) {v : zk_V} {P : Int → Prop} (hv : zk_sv N.1 v) (hz : P (zk_i E v)) : zk_to E N (v, N) P := ⟨E, zk_ag_rf, h, hs, Nat.le_refl _, hv, hz⟩
theorem zk_old_ok {E : zk_E} {N : zk_N} (h : zk_ok E N) (hs : zk_cl N) {v : zk_V} {z : Int32} (hv : zk_sv N.1 v) (hz : Int32.ofInt (zk_i E v) = z) : zk_is E N (v, N) z := zk_old_to h hs hv hz
/-- one more known sum behind a result -/
theorem zk_to_F {E : zk_E} {N : zk_N} {r : zk_V × zk_N} {P : Int → Prop} {x : zk_V} (h : zk_to E N r fun w => P w ∧ w ≤ zk_i E x) (hx : zk_sv N.1 x) : zk_to E N (r.1, zk_addF r.2 (zk_vsub x r.1)) P := by
  obtain ⟨E', a, b, c, d1, d2, e, f⟩ := h
  exact ⟨E', a, zk_addF_ok b (by rw [zk_vsub_i, zk_i_ag a hx]; omega), zk_addF_cl c (zk_vsub_sv (zk_sv_le d1 hx) d2), d1, d2, e⟩
/-- a number told before -/
def zk_findk (k : Nat) (v : zk_V) : List zk_G → Option zk_V
  | [] => none
  | g :: l => match Nat.beq g.1 k with
    | true => match g.2 with
      | ([], [x, w]) => match zk_eqv x v with
        | true => some w
        | false => zk_findk k v l
      | _ => zk_findk k v l
    | false => zk_findk k v l
theorem zk_findk_of {k : Nat} {v w : zk_V} : ∀ {l : List zk_G}, zk_findk k v l = some w → (k, [], [v, w]) ∈ l
  | [], h => by cases h
  | g :: l, h => by
    obtain ⟨k', rs, vs⟩ := g
    unfold zk_findk at h
    simp only at h
    split at h
    · rename_i hk
      have hk := Nat.eq_of_beq_eq_true hk
      subst hk
      split at h
      · rename_i x w' heq
        cases heq
        split at h
        · rename_i hx
          have hx := zk_eqv_of hx
          subst hx
          cases h
          exact List.mem_cons_self
        · exact List.mem_cons_of_mem _ (zk_findk_of h)
      · exact List.mem_cons_of_mem _ (zk_findk_of h)
    · exact List.mem_cons_of_mem _ (zk_findk_of h)
def zk_norm (N : zk_N) (v : zk_V) : zk_V × zk_N := match zk_in N v with
  | true => (v, N)
  | false => match zk_findk 7 v N.2.2.2 with
    | some w => (w, N)
    | none => ((zk_full N).1, zk_addG (zk_full N).2 (7, [], [v, (zk_full N).1]))
theorem zk_norm_ok {E : zk_E} {N : zk_N} (h : zk_ok E N) (hs : zk_cl N) {v : zk_V} (hv : zk_sv N.1 v) : zk_is E N (zk_norm N v) (Int32.ofInt (zk_i E v)) := by
  unfold zk_norm
  split
  · exact zk_old_ok h hs hv rfl
  · split
    · rename_i w hw
      have hm := zk_findk_of hw
      refine zk_old_ok h hs ((hs.2.2 _ hm).2 w (by simp)) ?_
      have := h.2.2 _ hm
      simp only [List.map_cons, List.map_nil, zq_6, zq_7, zq_8, zq_9, zq_20, zq_21, zq_22, zq_25, zq_26, zq_28, zq_30, zq_40, zq_51, zq_52, zq_53, zq_54, zq_55, zq_64, zq_65, zq_68, zq_72, zq_73, zq_85, zq_74, zq_75, zq_76, zq_71, zq_86, zq_87, zq_80, zq_41, zq_42, zq_43, zq_94, zq_95, zq_47, zq_48, zq_96, zq_97, zq_88, zq_89, zq_90, zq_93, zq_61, zq_62, zq_1, zq_2, zq_3, zq_4, zq_5] at this
      exact this.symm
    · obtain ⟨E', a1, a2, a3, a4, a5, a6⟩ := zk_full_ok h hs (Int32.ofInt (zk_i E v))
      refine ⟨E', a1, zk_addG_ok a2 ?_, zk_addG_cl a3 ⟨fun b hb => absurd hb List.not_mem_nil, fun u hu => ?_⟩, a4, a5, a6⟩
      · simp only [List.map_cons, List.map_nil, zq_6, zq_7, zq_8, zq_9, zq_20, zq_21, zq_22, zq_25, zq_26, zq_28, zq_30, zq_40, zq_51, zq_52, zq_53, zq_54, zq_55, zq_64, zq_65, zq_68, zq_72, zq_73, zq_85, zq_74, zq_75, zq_76, zq_71, zq_86, zq_87, zq_80, zq_41, zq_42, zq_43, zq_94, zq_95, zq_47, zq_48, zq_96, zq_97, zq_88, zq_89, zq_90, zq_93, zq_61, zq_62, zq_1, zq_2, zq_3, zq_4, zq_5]
        rw [zk_i_ag a1 hv]
        exact a6.symm
      · simp only [List.mem_cons, List.not_mem_nil, or_false] at hu
        rcases hu with rfl | rfl
        · exact zk_sv_le a4 hv
        · exact a5
def zk_mul (N : zk_N) (x y : zk_V) : zk_V × zk_N := match x.1, y.1 with
  | [], _ => zk_norm N (zk_vmul x.2 y)
  | _ :: _, [] => zk_norm N (zk_vmul y.2 x)
  | _ :: _, _ :: _ => match zk_rng N x, zk_rng N y with
    | some a, some b => match zk_le 0 a.1 && zk_le 0 b.1 with
      | true => zk_newf N (a.1 * b.1) (a.2 * b.2)
      | false => zk_full N
    | _, _ => zk_full N
theorem zk_i_nil {E : zk_E} {x : zk_V} (h : x.1 = []) : zk_i E x = x.2 := by unfold zk_i; rw [h]; simp [zk_s]
theorem zk_mul_ok {E : zk_E} {N : zk_N} (h : zk_ok E N) (hs : zk_cl N) {x y : zk_V} (hx : zk_sv N.1 x) (hy : zk_sv N.1 y) : zk_is E N (zk_mul N x y) (Int32.ofInt (zk_i E x) * Int32.ofInt (zk_i E y)) := by
  unfold zk_mul
  split
  · rename_i g
    have k := zk_norm_ok h hs (v := zk_vmul x.2 y) (zk_vmul_sv hy)
    rw [zk_vmul_i, Int32.ofInt_mul] at k
    rwa [zk_i_nil (x := x) g]
  · rename_i g
    have k := zk_norm_ok h hs (v := zk_vmul y.2 x) (zk_vmul_sv hx)
    rw [zk_vmul_i, Int32.ofInt_mul, Int32.mul_comm] at k
    rwa [zk_i_nil (x := y) g]
  · split
    · rename_i a b ha hb
      have h1 := zk_rng_ok h ha
      have h2 := zk_rng_ok h hb
      split
      · rename_i g
        simp only [Bool.and_eq_true] at g
        have g1 := zk_le_of g.1
        have g2 := zk_le_of g.2
        refine zk_newf_ok h hs (w := zk_i E x * zk_i E y) (Int32.ofInt_mul _ _).symm ?_ ?_
        · exact Int.mul_le_mul h1.1 h2.1 g2 (by omega)
        · exact Int.mul_le_mul h1.2 h2.2 (by omega) (by omega)
      · exact zk_full_ok h hs _
    · exact zk_full_ok h hs _
def zk_div (N : zk_N) (x y : zk_V) : zk_V × zk_N := match zk_rng N x, zk_rng N y with
  | some a, some b => match zk_le 0 a.1 && zk_le 1 b.1 && zk_in N x && zk_in N y with
    | true => match zk_le b.2 b.1 with
      | true => zk_newf N (a.1 / b.1) (a.2 / b.1)
      | false => ((zk_new N 0 a.2).1, zk_addG (zk_new N 0 a.2).2 (6, [], [x, y, (zk_new N 0 a.2).1]))
    | false => zk_full N
  | _, _ => zk_full N
theorem zk_div_v {E : zk_E} {N : zk_N} (h : zk_ok E N) {x y : zk_V} (g1 : 0 ≤ zk_i E x) (g2 : 1 ≤ zk_i E y) (gx : zk_in N x = true) (gy : zk_in N y = true) : Int32.ofInt (zk_i E x) / Int32.ofInt (zk_i E y) = Int32.ofInt (zk_i E x / zk_i E y) ∧ 0 ≤ zk_i E x / zk_i E y ∧ zk_i E x / zk_i E y ≤ zk_i E x := by
  have ix := zk_in_ok h gx
  have iy := zk_in_ok h gy
  have p0 : 0 ≤ zk_i E x / zk_i E y := Int.ediv_nonneg (by omega) (by omega)
  have p1 : zk_i E x / zk_i E y ≤ zk_i E x := Int.ediv_le_self _ (by omega)
  refine ⟨?_, p0, p1⟩
  apply Int32.toInt_inj.mp
  have hne : Int32.ofInt (zk_i E y) ≠ -1 := fun q => by
    have := congrArg Int32.toInt q
    rw [iy] at this
    have e : (-1 : Int32).toInt = -1 := by decide
    omega
  rw [Int32.toInt_div_of_ne_right _ _ hne, ix, iy, Int.tdiv_eq_ediv_of_nonneg (by omega)]
  have l1 := Int32.le_toInt (Int32.ofInt (zk_i E x))
  have l2 := Int32.toInt_lt (Int32.ofInt (zk_i E x))
  rw [ix] at l1 l2
  exact (Int32.toInt_ofInt_of_le (by omega) (by omega)).symm
/-- one more fact behind a result -/
theorem zk_to_G {E : zk_E} {N : zk_N} {r : zk_V × zk_N} {P : Int → Prop} {x y : zk_V} (h : zk_to E N r fun w => P w ∧ w = zk_i E x / zk_i E y) (hx : zk_sv N.1 x) (hy : zk_sv N.1 y) : zk_to E N (r.1, zk_addG r.2 (6, [], [x, y, r.1])) P := by
  obtain ⟨E', a, b, c, d1, d2, e, f⟩ := h
  refine ⟨E', a, zk_addG_ok b ?_, zk_addG_cl c ⟨fun _ h => (List.not_mem_nil h).elim, fun v hv => ?_⟩, d1, d2, e⟩
  · show 0 ≤ zk_i E' x → 1 ≤ zk_i E' y → zk_i E' r.1 = zk_i E' x / zk_i E' y
    intro _ _
    rw [zk_i_ag a hx, zk_i_ag a hy]
    exact f
  · simp only [List.mem_cons, List.not_mem_nil, or_false] at hv
    rcases hv with rfl | rfl | rfl
    · exact zk_sv_le d1 hx
    · exact zk_sv_le d1 hy
    · exact d2
theorem zk_div_ok {E : zk_E} {N : zk_N} (h : zk_ok E N) (hs : zk_cl N) {x y : zk_V} (hx : zk_sv N.1 x) (hy : zk_sv N.1 y) : zk_is E N (zk_div N x y) (Int32.ofInt (zk_i E x) / Int32.ofInt (zk_i E y)) := by
  unfold zk_div
  split
  · rename_i a b ha hb
    have h1 := zk_rng_ok h ha
    have h2 := zk_rng_ok h hb
    split
    · rename_i g
      simp only [Bool.and_eq_true] at g
      have g1 := zk_le_of g.1.1.1
      have g2 := zk_le_of g.1.1.2
      obtain ⟨e1, e2, e3⟩ := zk_div_v h (x := x) (y := y) (by omega) (by omega) g.1.2 g.2
      split
      · rename_i g3
        have := zk_le_of g3
        have ey : zk_i E y = b.1 := by omega
        refine zk_newf_ok h hs e1 ?_ ?_
        · rw [ey]; exact Int.ediv_le_ediv (by omega) h1.1
        · rw [ey]; exact Int.ediv_le_ediv (by omega) h1.2
      · exact zk_to_G ((zk_new_to h hs (w := zk_i E x / zk_i E y) (by omega) (by omega)).imp fun w e => ⟨by rw [e, e1], e⟩) hx hy
    · exact zk_full_ok h hs _
  · exact zk_full_ok h hs _
/-- the rest of a division -/
def zk_rem (N : zk_N) (x y : zk_V) : zk_V × zk_N := match zk_rng N x, zk_rng N y with
  | some a, some b => match zk_le 0 a.1 && zk_le 1 b.1 && zk_in N x && zk_in N y with
    | true => zk_newf N 0 (zk_min a.2 (b.2 - 1))
    | false => zk_full N
  | _, _ => zk_full N
theorem zk_rem_ok {E : zk_E} {N : zk_N} (h : zk_ok E N) (hs : zk_cl N) {x y : zk_V} : zk_is E N (zk_rem N x y) (Int32.ofInt (zk_i E x) - Int32.ofInt (zk_i E x) / Int32.ofInt (zk_i E y) * Int32.ofInt (zk_i E y)) := by
  unfold zk_rem
  split
  · rename_i a b ha hb
    have h1 := zk_rng_ok h ha
    have h2 := zk_rng_ok h hb
    split
    · rename_i g
      simp only [Bool.and_eq_true] at g
      have g1 := zk_le_of g.1.1.1
      have g2 := zk_le_of g.1.1.2
      obtain ⟨e1, e2, e3⟩ := zk_div_v h (x := x) (y := y) (by omega) (by omega) g.1.2 g.2
      have em : zk_i E x - zk_i E x / zk_i E y * zk_i E y = zk_i E x % zk_i E y := by rw [Int.emod_def, Int.mul_comm]
      refine zk_newf_ok h hs (w := zk_i E x % zk_i E y) ?_ (Int.emod_nonneg _ (by omega)) ?_
      · rw [e1, ← Int32.ofInt_mul, ← Int32.ofInt_sub, em]
      · have := Int.emod_lt_of_pos (zk_i E x) (b := zk_i E y) (by omega)
        rcases zk_min_or a.2 (b.2 - 1) with e | e <;> rw [e]
        · have : 0 ≤ zk_i E y * (zk_i E x / zk_i E y) := Int.mul_nonneg (by omega) e2
          rw [Int.emod_def]
          omega
        · omega
    · exact zk_full_ok h hs _
  · exact zk_full_ok h hs _
theorem zk_nat {X : Int32} (h : 0 ≤ X.toInt) : X.toInt = (X.toBitVec.toNat : Int) := by
  have e : X.toInt = X.toBitVec.toInt := rfl
  have hl := X.toBitVec.isLt
  rw [e] at h ⊢
  rw [BitVec.toInt_eq_toNat_cond] at h ⊢
  split at h
  · rename_i g; rw [if_pos g]
  · omega
theorem zk_ofnat {X : Int32} {k : Nat} (h : X.toBitVec.toNat < 2 ^ k) (hk : k ≤ 31) : 0 ≤ X.toInt ∧ X.toInt < 2 ^ k := by
  have h2 : X.toBitVec.toNat < 2 ^ 31 := Nat.lt_of_lt_of_le h (Nat.pow_le_pow_right (by decide) hk)
  have e : X.toInt = (X.toBitVec.toNat : Int) := by
    show X.toBitVec.toInt = _
    rw [BitVec.toInt_eq_toNat_cond, if_pos (by omega)]
  rw [e]
  exact ⟨Int.natCast_nonneg _, by exact_mod_cast h⟩
theorem zk_and_le {X Y : Int32} (h : 0 ≤ Y.toInt) : 0 ≤ (X &&& Y).toInt ∧ (X &&& Y).toInt ≤ Y.toInt := by
  have hy := zk_nat h
  have hl := Int32.toInt_lt Y
  have e : (X &&& Y).toBitVec.toNat = X.toBitVec.toNat &&& Y.toBitVec.toNat := by rw [Int32.toBitVec_and, BitVec.toNat_and]
  have h1 : (X &&& Y).toBitVec.toNat ≤ Y.toBitVec.toNat := by rw [e]; exact Nat.and_le_right
  have h2 : (X &&& Y).toBitVec.toNat < 2 ^ 31 := by omega
  have h3 := zk_ofnat h2 (Nat.le_refl _)
  exact ⟨h3.1, by rw [zk_nat h3.1]; omega⟩
def zk_and (N : zk_N) (x y : zk_V) : zk_V × zk_N := match zk_rng N x, zk_rng N y with
  | some a, some b => match zk_le 0 b.1 && zk_in N y with
    | true => match zk_le 0 a.1 && zk_in N x with
      | true => ((zk_new N 0 (zk_min a.2 b.2)).1, zk_addF (zk_addF (zk_new N 0 (zk_min a.2 b.2)).2 (zk_vsub x (zk_new N 0 (zk_min a.2 b.2)).1)) (zk_vsub y (zk_new N 0 (zk_min a.2 b.2)).1))
      | false => zk_new N 0 b.2
    | false => match zk_le 0 a.1 && zk_in N x with
      | true => zk_new N 0 a.2
      | false => zk_full N
  | _, _ => zk_full N
theorem zk_and_ok {E : zk_E} {N : zk_N} (h : zk_ok E N) (hs : zk_cl N) {x y : zk_V} (hx : zk_sv N.1 x) (hy : zk_sv N.1 y) : zk_is E N (zk_and N x y) (Int32.ofInt (zk_i E x) &&& Int32.ofInt (zk_i E y)) := by
  unfold zk_and
  split
  · rename_i a b ha hb
    have h1 := zk_rng_ok h ha
    have h2 := zk_rng_ok h hb
    split
    · rename_i g
      simp only [Bool.and_eq_true] at g
      have g1 := zk_le_of g.1
      have iy := zk_in_ok h g.2
      have k1 := zk_and_le (X := Int32.ofInt (zk_i E x)) (Y := Int32.ofInt (zk_i E y)) (by rw [iy]; omega)
      rw [iy] at k1
      split
      · rename_i g
        simp only [Bool.and_eq_true] at g
        have g3 := zk_le_of g.1
        have ix := zk_in_ok h g.2
        have k2 := zk_and_le (X := Int32.ofInt (zk_i E y)) (Y := Int32.ofInt (zk_i E x)) (by rw [ix]; omega)
        rw [ix, Int32.and_comm] at k2
        refine zk_to_F (zk_to_F ((zk_new_to h hs (w := (Int32.ofInt (zk_i E x) &&& Int32.ofInt (zk_i E y)).toInt) k1.1 ?_).imp fun w e => ⟨⟨by rw [e, Int32.ofInt_toInt], by rw [e]; exact k1.2⟩, by rw [e]; exact k2.2⟩) hx) hy
        rcases zk_min_or a.2 b.2 with e | e <;> rw [e] <;> omega
      · exact zk_new_ok h hs k1.1 (by omega)
    · split
      · rename_i g
        simp only [Bool.and_eq_true] at g
        have g3 := zk_le_of g.1
        have ix := zk_in_ok h g.2
        have k2 := zk_and_le (X := Int32.ofInt (zk_i E y)) (Y := Int32.ofInt (zk_i E x)) (by rw [ix]; omega)
        rw [ix, Int32.and_comm] at k2
        exact zk_new_ok h hs k2.1 (by omega)
      · exact zk_full_ok h hs _
  · exact zk_full_ok h hs _
def zk_pow : Nat → Nat → Int → Int
  | 0, p, _ => p
  | k + 1, p, h => match zk_le h (p - 1 : Int) with
    | true => p
    | false => zk_pow k (2 * p) h
theorem zk_pow_is : ∀ (k : Nat) (j : Nat) (h : Int), ∃ i, i ≤ j + k ∧ zk_pow k (2 ^ j) h = (2 : Int) ^ i ∧ (i < j + k → h < 2 ^ i)
  | 0, j, h => ⟨j, by omega, by simp [zk_pow], fun z => by omega⟩
  | k + 1, j, h => by
    unfold zk_pow
    split
    · rename_i g
      have := zk_le_of g
      refine ⟨j, by omega, by simp, fun _ => ?_⟩
      have e : (2 : Int) ^ j = ((2 ^ j : Nat) : Int) := by simp
      rw [e]
      omega
    · obtain ⟨i, h1, h2, h3⟩ := zk_pow_is k (j + 1) h
      refine ⟨i, by omega, ?_, fun z => h3 (by omega)⟩
      rw [← h2, Nat.pow_succ, Nat.mul_comm]
def zk_xor (N : zk_N) (x y : zk_V) : zk_V × zk_N := match zk_rng N x, zk_rng N y with
  | some a, some b => match zk_le 0 a.1 && zk_le 0 b.1 && zk_le a.2 65535 && zk_le b.2 65535 with
    | true => zk_new N 0 (zk_pow 16 1 (zk_max a.2 b.2) - 1)
    | false => zk_full N
  | _, _ => zk_full N
theorem zk_xor_b {x y : Int} {M : Int} (hx : 0 ≤ x) (hy : 0 ≤ y) (h1 : x ≤ M) (h2 : y ≤ M) (hM : M ≤ 65535) : (0 ≤ (Int32.ofInt x ^^^ Int32.ofInt y).toInt ∧ (Int32.ofInt x ^^^ Int32.ofInt y).toInt ≤ zk_pow 16 1 M - 1) ∧ (0 ≤ (Int32.ofInt x ||| Int32.ofInt y).toInt ∧ (Int32.ofInt x ||| Int32.ofInt y).toInt ≤ zk_pow 16 1 M - 1) := by
  obtain ⟨i, j1, j2, j3⟩ := zk_pow_is 16 0 M
  have hi : M < 2 ^ i := by
    rcases Nat.lt_or_ge i 16 with q | q
    · exact j3 (by omega)
    · have : i = 16 := by omega
      subst this
      omega
  have ex : (Int32.ofInt x).toInt = x := Int32.toInt_ofInt_of_le (by omega) (by omega)
  have ey : (Int32.ofInt y).toInt = y := Int32.toInt_ofInt_of_le (by omega) (by omega)
  have nx := zk_nat (X := Int32.ofInt x) (by omega)
  have ny := zk_nat (X := Int32.ofInt y) (by omega)
  rw [ex] at nx
  rw [ey] at ny
  have ep : (2 : Int) ^ i = ((2 ^ i : Nat) : Int) := by simp
  rw [ep] at hi
  have kx : (Int32.ofInt x).toBitVec.toNat < 2 ^ i := by omega
  have ky : (Int32.ofInt y).toBitVec.toNat < 2 ^ i := by omega
  have z1 := zk_ofnat (X := Int32.ofInt x ^^^ Int32.ofInt y) (k := i) (by rw [Int32.toBitVec_xor, BitVec.toNat_xor]; exact Nat.xor_lt_two_pow kx ky) (by omega)
  have z2 := zk_ofnat (X := Int32.ofInt x ||| Int32.ofInt y) (k := i) (by rw [Int32.toBitVec_or, BitVec.toNat_or]; exact Nat.or_lt_two_pow kx ky) (by omega)
  have e1 : zk_pow 16 1 M = 2 ^ i := j2
  rw [e1]
  omega
theorem zk_xor_ok {E : zk_E} {N : zk_N} (h : zk_ok E N) (hs : zk_cl N) {x y : zk_V} : zk_is E N (zk_xor N x y) (Int32.ofInt (zk_i E x) ^^^ Int32.ofInt (zk_i E y)) ∧ zk_is E N (zk_xor N x y) (Int32.ofInt (zk_i E x) ||| Int32.ofInt (zk_i E y)) := by
  unfold zk_xor
  split
  · rename_i a b ha hb
    have h1 := zk_rng_ok h ha
    have h2 := zk_rng_ok h hb
    split
    · rename_i g
      simp only [Bool.and_eq_true] at g
      have g1 := zk_le_of g.1.1.1
      have g2 := zk_le_of g.1.1.2
      have g3 := zk_le_of g.1.2
      have g4 := zk_le_of g.2
      have := zk_le_max a.2 b.2
      obtain ⟨k1, k2⟩ := zk_xor_b (x := zk_i E x) (y := zk_i E y) (M := zk_max a.2 b.2) (by omega) (by omega) (by omega) (by omega) (by rcases zk_max_or a.2 b.2 with e | e <;> rw [e] <;> omega)
      exact ⟨zk_new_ok h hs k1.1 k1.2, zk_new_ok h hs k2.1 k2.2⟩
    · exact ⟨zk_full_ok h hs _, zk_full_ok h hs _⟩
  · exact ⟨zk_full_ok h hs _, zk_full_ok h hs _⟩
/-- a number of two told before -/
def zk_find3 (k : Nat) (x y : zk_V) : List zk_G → Option zk_V
  | [] => none
  | g :: l => match Nat.beq g.1 k with
    | true => match g.2 with
      | ([], [a, b, w]) => match zk_eqv a x && zk_eqv b y with
        | true => some w
        | false => zk_find3 k x y l
      | _ => zk_find3 k x y l
    | false => zk_find3 k x y l
theorem zk_find3_of {k : Nat} {x y w : zk_V} : ∀ {l : List zk_G}, zk_find3 k x y l = some w → (k, [], [x, y, w]) ∈ l
  | [], h => by cases h
  | g :: l, h => by
    obtain ⟨k', rs, vs⟩ := g
    unfold zk_find3 at h
    simp only at h
    split at h
    · rename_i hk
      have hk := Nat.eq_of_beq_eq_true hk
      subst hk
      split at h
      · rename_i a b w' heq
        cases heq
        split at h
        · rename_i hx
          simp only [Bool.and_eq_true] at hx
          have hx1 := zk_eqv_of hx.1
          have hx2 := zk_eqv_of hx.2
          subst hx1 hx2
          cases h
          exact List.mem_cons_self
        · exact List.mem_cons_of_mem _ (zk_find3_of h)
      · exact List.mem_cons_of_mem _ (zk_find3_of h)
    · exact List.mem_cons_of_mem _ (zk_find3_of h)
def zk_xorm (N : zk_N) (x y : zk_V) : zk_V × zk_N := match zk_find3 71 x y N.2.2.2 with
  | some w => (w, N)
  | none => ((zk_xor N x y).1, zk_addG (zk_xor N x y).2 (71, [], [x, y, (zk_xor N x y).1]))
theorem zk_xorm_ok {E : zk_E} {N : zk_N} (h : zk_ok E N) (hs : zk_cl N) {x y : zk_V} (hx : zk_sv N.1 x) (hy : zk_sv N.1 y) : zk_is E N (zk_xorm N x y) (Int32.ofInt (zk_i E x) ^^^ Int32.ofInt (zk_i E y)) := by
  unfold zk_xorm
  split
  · rename_i w hw
    have hm := zk_find3_of hw
    refine zk_old_ok h hs ((hs.2.2 _ hm).2 w (by simp)) ?_
    have := h.2.2 _ hm
    simp only [List.map_cons, List.map_nil, zq_6, zq_7, zq_8, zq_9, zq_20, zq_21, zq_22, zq_25, zq_26, zq_28, zq_30, zq_40, zq_51, zq_52, zq_53, zq_54, zq_55, zq_64, zq_65, zq_68, zq_72, zq_73, zq_85, zq_74, zq_75, zq_76, zq_71, zq_86, zq_87, zq_80, zq_41, zq_42, zq_43, zq_94, zq_95, zq_47, zq_48, zq_96, zq_97, zq_88, zq_89, zq_90, zq_93, zq_61, zq_62, zq_1, zq_2, zq_3, zq_4, zq_5] at this
    exact this
  · obtain ⟨E', a1, a2, a3, a4, a5, a6⟩ := (zk_xor_ok h hs (x := x) (y := y)).1
    refine ⟨E', a1, zk_addG_ok a2 ?_, zk_addG_cl a3 ⟨fun b hb => absurd hb List.not_mem_nil, fun u hu => ?_⟩, a4, a5, a6⟩
    · simp only [List.map_cons, List.map_nil, zq_6, zq_7, zq_8, zq_9, zq_20, zq_21, zq_22, zq_25, zq_26, zq_28, zq_30, zq_40, zq_51, zq_52, zq_53, zq_54, zq_55, zq_64, zq_65, zq_68, zq_72, zq_73, zq_85, zq_74, zq_75, zq_76, zq_71, zq_86, zq_87, zq_80, zq_41, zq_42, zq_43, zq_94, zq_95, zq_47, zq_48, zq_96, zq_97, zq_88, zq_89, zq_90, zq_93, zq_61, zq_62, zq_1, zq_2, zq_3, zq_4, zq_5]
      rw [zk_i_ag a1 hx, zk_i_ag a1 hy]
      exact a6
    · simp only [List.mem_cons, List.not_mem_nil, or_false] at hu
      rcases hu with rfl | rfl | rfl
      · exact zk_sv_le a4 hx
      · exact zk_sv_le a4 hy
      · exact a5
theorem zk_shl_1 : ∀ j : Nat, j < 31 → ((1 : Int32) <<< (Int32.ofInt j &&& 31)).toInt = 2 ^ j := by decide +kernel
def zk_shl (N : zk_N) (x y : zk_V) : zk_V × zk_N := match x.1 with
  | [] => match zk_eqi x.2 1, zk_rng N y with
    | true, some b => match zk_le 0 b.1 && zk_le b.2 30 with
      | true => zk_new N (2 ^ b.1.toNat) (2 ^ b.2.toNat)
      | false => zk_full N
    | _, _ => zk_full N
  | _ :: _ => zk_full N
theorem zk_shl_ok {E : zk_E} {N : zk_N} (h : zk_ok E N) (hs : zk_cl N) {x y : zk_V} : zk_is E N (zk_shl N x y) (Int32.ofInt (zk_i E x) <<< (Int32.ofInt (zk_i E y) &&& 31)) := by
  unfold zk_shl
  split
  · rename_i g0
    split
    · rename_i b g hb
      have g := zk_eqi_of g
      have h2 := zk_rng_ok h hb
      split
      · rename_i g
        simp only [Bool.and_eq_true] at g
        have g3 := zk_le_of g.1
        have g4 := zk_le_of g.2
        have ex : zk_i E x = 1 := by rw [zk_i_nil g0]; omega
        obtain ⟨j, ej⟩ : ∃ j : Nat, zk_i E y = (j : Int) := ⟨(zk_i E y).toNat, by omega⟩
        have e1 : Int32.ofInt 1 = (1 : Int32) := rfl
        rw [ex, e1, ej]
        have e2 := zk_shl_1 j (by omega)
        refine zk_new_ok h hs ?_ ?_
        · rw [e2]
          exact_mod_cast Nat.pow_le_pow_right (n := 2) (by decide) (show b.1.toNat ≤ j by omega)
        · rw [e2]
          exact_mod_cast Nat.pow_le_pow_right (n := 2) (by decide) (show j ≤ b.2.toNat by omega)
      · exact zk_full_ok h hs _
    · exact zk_full_ok h hs _
  · exact zk_full_ok h hs _
def zk_ushr (N : zk_N) (_ y : zk_V) : zk_V × zk_N := match y.1 with
  | [] => match zk_eqi y.2 8 with
    | true => zk_new N 0 16777215
    | false => zk_full N
  | _ :: _ => zk_full N
theorem zk_ushr_ok {E : zk_E} {N : zk_N} (h : zk_ok E N) (hs : zk_cl N) {x y : zk_V} : zk_is E N (zk_ushr N x y) ((Int32.ofInt (zk_i E x)).toUInt32 >>> ((Int32.ofInt (zk_i E y)).toUInt32 &&& Int32.toUInt32 31)).toInt32 := by
  unfold zk_ushr
  split
  · rename_i g1
    split
    · rename_i g2
      have g2 := zk_eqi_of g2
      have ey : zk_i E y = 8 := by rw [zk_i_nil g1, g2]
      rw [ey]
      have k := pk_ushr (Int32.ofInt (zk_i E x)) (Int32.ofInt 8) 8 (by decide +kernel)
      have hl := (Int32.ofInt (zk_i E x)).toBitVec.isLt
      have z := zk_ofnat (X := ((Int32.ofInt (zk_i E x)).toUInt32 >>> ((Int32.ofInt 8).toUInt32 &&& Int32.toUInt32 31)).toInt32) (k := 24) (by rw [k]; omega) (by decide)
      exact zk_new_ok h hs z.1 (by omega)
    · exact zk_full_ok h hs _
  · exact zk_full_ok h hs _
/-- the greater, the less -/
def zk_mx (N : zk_N) (x y : zk_V) : zk_V × zk_N := match zk_rng N x, zk_rng N y with
  | some a, some b => match zk_in N x && zk_in N y with
    | true => zk_new N (zk_max a.1 b.1) (zk_max a.2 b.2)
    | false => zk_full N
  | _, _ => zk_full N
def zk_mn (N : zk_N) (x y : zk_V) : zk_V × zk_N := match zk_rng N x, zk_rng N y with
  | some a, some b => match zk_in N x && zk_in N y with
    | true => zk_new N (zk_min a.1 b.1) (zk_min a.2 b.2)
    | false => zk_full N
  | _, _ => zk_full N
theorem zk_mx_ok {E : zk_E} {N : zk_N} (h : zk_ok E N) (hs : zk_cl N) {x y : zk_V} : zk_is E N (zk_mx N x y) (if Int32.ofInt (zk_i E x) < Int32.ofInt (zk_i E y) then Int32.ofInt (zk_i E y) else Int32.ofInt (zk_i E x)) := by
  unfold zk_mx
  split
  · rename_i a b ha hb
    have h1 := zk_rng_ok h ha
    have h2 := zk_rng_ok h hb
    split
    · rename_i g
      simp only [Bool.and_eq_true] at g
      have ix := zk_in_ok h g.1
      have iy := zk_in_ok h g.2
      have m1 := zk_le_max a.2 b.2
      have m2 := zk_max_or a.1 b.1
      refine zk_new_ok h hs ?_ ?_ <;> simp only [Int32.lt_iff_toInt_lt, ix, iy] <;> split <;> simp only [ix, iy] <;> omega
    · exact zk_full_ok h hs _
  · exact zk_full_ok h hs _
theorem zk_mn_ok {E : zk_E} {N : zk_N} (h : zk_ok E N) (hs : zk_cl N) {x y : zk_V} : zk_is E N (zk_mn N x y) (if Int32.ofInt (zk_i E y) < Int32.ofInt (zk_i E x) then Int32.ofInt (zk_i E y) else Int32.ofInt (zk_i E x)) := by
  unfold zk_mn
  split
  · rename_i a b ha hb
    have h1 := zk_rng_ok h ha
    have h2 := zk_rng_ok h hb
    split
    · rename_i g
      simp only [Bool.and_eq_true] at g
      have ix := zk_in_ok h g.1
      have iy := zk_in_ok h g.2
      have m1 := zk_min_le a.1 b.1
      have m2 := zk_min_or a.2 b.2
      have m3 := zk_min_le a.2 b.2
      refine zk_new_ok h hs ?_ ?_ <;> simp only [Int32.lt_iff_toInt_lt, ix, iy] <;> split <;> simp only [ix, iy] <;> omega
    · exact zk_full_ok h hs _
  · exact zk_full_ok h hs _
def zk_abs (N : zk_N) (x : zk_V) : zk_V × zk_N := match zk_rng N x with
  | some a => match zk_le (-2147483647) a.1 && zk_in N x with
    | true => zk_new N 0 (zk_max a.2 (-a.1))
    | false => zk_full N
  | _ => zk_full N
theorem zk_abs_ok {E : zk_E} {N : zk_N} (h : zk_ok E N) (hs : zk_cl N) {x : zk_V} : zk_is E N (zk_abs N x) (if 0 ≤ Int32.ofInt (zk_i E x) then Int32.ofInt (zk_i E x) else 0 - Int32.ofInt (zk_i E x)) := by
  unfold zk_abs
  split
  · rename_i a ha
    have h1 := zk_rng_ok h ha
    split
    · rename_i g
      simp only [Bool.and_eq_true] at g
      have g1 := zk_le_of g.1
      have ix := zk_in_ok h g.2
      have m1 := zk_le_max a.2 (-a.1)
      have l2 := Int32.toInt_lt (Int32.ofInt (zk_i E x))
      rw [ix] at l2
      have e0 : (0 : Int32).toInt = 0 := by decide
      have e1 : (0 : Int32) - Int32.ofInt (zk_i E x) = Int32.ofInt (0 - zk_i E x) := by rw [Int32.ofInt_sub]; rfl
      have e2 : (Int32.ofInt (0 - zk_i E x)).toInt = 0 - zk_i E x := Int32.toInt_ofInt_of_le (by omega) (by omega)
      refine zk_new_ok h hs ?_ ?_ <;> simp only [Int32.le_iff_toInt_le, ix, e0] <;> split <;> simp only [ix, e1, e2] <;> omega
    · exact zk_full_ok h hs _
  · exact zk_full_ok h hs _
/-- surely not 0 -/
def zk_nz (N : zk_N) (d : zk_V) : Bool := (match zk_rng N d with
  | some r => zk_le 1 r.1 || zk_le r.2 (-1)
  | none => false) || N.2.2.2.any fun g => match g with
    | (5, [], [x]) => zk_eqv x d
    | _ => false
theorem zk_nz_ok {E : zk_E} {N : zk_N} (h : zk_ok E N) {d : zk_V} (hd : zk_nz N d = true) : zk_i E d ≠ 0 := by
  unfold zk_nz at hd
  simp only [Bool.or_eq_true, List.any_eq_true] at hd
  rcases hd with hd | ⟨g, hg, hd⟩
  · split at hd
    · rename_i r hr
      have := zk_rng_ok h hr
      simp only [Bool.or_eq_true] at hd
      rcases hd with hd | hd
      · have := zk_le_of hd; omega
      · have := zk_le_of hd; omega
    · cases hd
  · split at hd
    · rename_i x
      have e := zk_eqv_of hd
      have := h.2.2 _ hg
      subst e
      exact this
    · cases hd
end
