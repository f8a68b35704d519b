/-! NUMBERS: an int is a sum of symbols and a number; what is known: bounds of symbols, sums that are not below 0, and facts of kinds -/
abbrev zk_V : Type := List (Nat × Int) × Int
abbrev zk_B : Type := List (Nat × Int × Int)
/-- a fact: its kind, rows, numbers -/
abbrev zk_G : Type := Nat × List Nat × List zk_V
/-- next symbol, bounds, sums not below 0, facts -/
abbrev zk_N : Type := Nat × zk_B × List zk_V × List zk_G
/-- what symbols stand for: numbers, rows -/
abbrev zk_E : Type := (Nat → Int) × (Nat → Nat → Int)

def zk_le (a b : Int) : Bool := match b - a with
  | .ofNat _ => true
  | .negSucc _ => false
theorem zk_le_of {a b : Int} (h : zk_le a b = true) : a ≤ b := by
  unfold zk_le at h
  split at h
  · rename_i n hn
    have : (0 : Int) ≤ b - a := by rw [hn]; exact Int.natCast_nonneg n
    omega
  · cases h
theorem zk_le_no {a b : Int} (h : zk_le a b = false) : b < a := by
  unfold zk_le at h
  split at h
  · cases h
  · rename_i n hn
    have : b - a < 0 := by rw [hn]; exact Int.negSucc_lt_zero n
    omega
def zk_min (a b : Int) : Int := match zk_le a b with
  | true => a
  | false => b
def zk_max (a b : Int) : Int := match zk_le a b with
  | true => b
  | false => a
theorem zk_min_le (a b : Int) : zk_min a b ≤ a ∧ zk_min a b ≤ b := by
  unfold zk_min
  split
  · rename_i h; have := zk_le_of h; omega
  · rename_i h; have := zk_le_no h; omega
theorem zk_le_max (a b : Int) : a ≤ zk_max a b ∧ b ≤ zk_max a b := by
  unfold zk_max
  split
  · rename_i h; have := zk_le_of h; omega
  · rename_i h; have := zk_le_no h; omega
theorem zk_min_or (a b : Int) : zk_min a b = a ∨ zk_min a b = b := by
  unfold zk_min; split <;> simp
theorem zk_max_or (a b : Int) : zk_max a b = a ∨ zk_max a b = b := by
  unfold zk_max; split <;> simp
def zk_eqi (a b : Int) : Bool := zk_le a b && zk_le b a
theorem zk_eqi_of {a b : Int} (h : zk_eqi a b = true) : a = b := by
  unfold zk_eqi at h
  simp only [Bool.and_eq_true] at h
  have := zk_le_of h.1
  have := zk_le_of h.2
  omega

/-! sums -/
def zk_s (E : zk_E) : List (Nat × Int) → Int
  | [] => 0
  | q :: l => q.2 * E.1 q.1 + zk_s E l
def zk_i (E : zk_E) (v : zk_V) : Int := zk_s E v.1 + v.2
def zk_ins (q : Nat × Int) : List (Nat × Int) → List (Nat × Int)
  | [] => [q]
  | r :: l => match Nat.beq q.1 r.1 with
    | true => match zk_eqi (q.2 + r.2) 0 with
      | true => l
      | false => (r.1, q.2 + r.2) :: l
    | false => match Nat.ble q.1 r.1 with
      | true => q :: r :: l
      | false => r :: zk_ins q l
theorem zk_ins_s (E : zk_E) (q : Nat × Int) : ∀ l : List (Nat × Int), zk_s E (zk_ins q l) = q.2 * E.1 q.1 + zk_s E l
  | [] => rfl
  | r :: l => by
    unfold zk_ins
    split
    · rename_i h
      have h := Nat.eq_of_beq_eq_true h
      split
      · rename_i h2
        have h2 := zk_eqi_of h2
        simp only [zk_s]
        rw [← Int.add_assoc, h, ← Int.add_mul, h2]
        simp
      · simp only [zk_s]
        rw [h, Int.add_mul]
        omega
    · split
      · rfl
      · simp only [zk_s]
        rw [zk_ins_s E q l]
        omega
def zk_mg (a b : List (Nat × Int)) : List (Nat × Int) := a.foldr zk_ins b
theorem zk_mg_s (E : zk_E) (b : List (Nat × Int)) : ∀ a : List (Nat × Int), zk_s E (zk_mg a b) = zk_s E a + zk_s E b
  | [] => by simp [zk_mg, zk_s]
  | q :: a => by
    have ih := zk_mg_s E b a
    unfold zk_mg at ih ⊢
    rw [List.foldr_cons, zk_ins_s, ih]
    simp only [zk_s]
    omega
def zk_sc (c : Int) (a : List (Nat × Int)) : List (Nat × Int) := a.map fun q => (q.1, c * q.2)
theorem zk_sc_s (E : zk_E) (c : Int) : ∀ a : List (Nat × Int), zk_s E (zk_sc c a) = c * zk_s E a
  | [] => by simp [zk_sc, zk_s]
  | q :: a => by
    have ih := zk_sc_s E c a
    unfold zk_sc at ih ⊢
    rw [List.map_cons]
    simp only [zk_s]
    rw [ih, Int.mul_add, Int.mul_assoc]
def zk_vadd (x y : zk_V) : zk_V := (zk_mg x.1 y.1, x.2 + y.2)
def zk_vmul (c : Int) (x : zk_V) : zk_V := (zk_sc c x.1, c * x.2)
def zk_vsub (x y : zk_V) : zk_V := (zk_mg (zk_sc (-1) y.1) x.1, x.2 - y.2)
theorem zk_vadd_i (E : zk_E) (x y : zk_V) : zk_i E (zk_vadd x y) = zk_i E x + zk_i E y := by
  unfold zk_i zk_vadd
  simp only [zk_mg_s]
  omega
theorem zk_vmul_i (E : zk_E) (c : Int) (x : zk_V) : zk_i E (zk_vmul c x) = c * zk_i E x := by
  unfold zk_i zk_vmul
  simp only [zk_sc_s, Int.mul_add]
theorem zk_vsub_i (E : zk_E) (x y : zk_V) : zk_i E (zk_vsub x y) = zk_i E x - zk_i E y := by
  unfold zk_i zk_vsub
  simp only [zk_mg_s, zk_sc_s]
  omega
def zk_c (z : Int) : zk_V := ([], z)
theorem zk_c_i (E : zk_E) (z : Int) : zk_i E (zk_c z) = z := by simp [zk_i, zk_c, zk_s]
def zk_y (s : Nat) : zk_V := ([(s, 1)], 0)
theorem zk_y_i (E : zk_E) (s : Nat) : zk_i E (zk_y s) = E.1 s := by simp [zk_i, zk_y, zk_s]
def zk_eqv (x y : zk_V) : Bool := zk_eql x.1 y.1 && zk_eqi x.2 y.2
where zk_eql : List (Nat × Int) → List (Nat × Int) → Bool
  | [], [] => true
  | q :: a, r :: b => Nat.beq q.1 r.1 && (zk_eqi q.2 r.2 && zk_eql a b)
  | _, _ => false
theorem zk_eql_of : ∀ {a b : List (Nat × Int)}, zk_eqv.zk_eql a b = true → a = b
  | [], [], _ => rfl
  | q :: a, r :: b, h => by
    unfold zk_eqv.zk_eql at h
    simp only [Bool.and_eq_true] at h
    rw [zk_eql_of h.2.2, Prod.ext (Nat.eq_of_beq_eq_true h.1) (zk_eqi_of h.2.1)]
  | [], _ :: _, h => by cases h
  | _ :: _, [], h => by cases h
theorem zk_eqv_of {x y : zk_V} (h : zk_eqv x y = true) : x = y := by
  unfold zk_eqv at h
  simp only [Bool.and_eq_true] at h
  exact Prod.ext (zk_eql_of h.1) (zk_eqi_of h.2)

/-! bounds -/
def zk_find : zk_B → Nat → Option (Int × Int)
  | [], _ => none
  | q :: l, s => match Nat.beq q.1 s with
    | true => some q.2
    | false => zk_find l s
theorem zk_find_mem {b : zk_B} {s : Nat} {r : Int × Int} (h : zk_find b s = some r) : (s, r) ∈ b := by
  induction b with
  | nil => cases h
  | cons q l ih =>
    unfold zk_find at h
    split at h
    · rename_i hq
      have hq := Nat.eq_of_beq_eq_true hq
      cases h
      obtain ⟨a, c⟩ := q
      cases hq
      exact List.mem_cons_self
    · exact List.mem_cons_of_mem _ (ih h)
def zk_rs (B : zk_B) : List (Nat × Int) → Option (Int × Int)
  | [] => some (0, 0)
  | q :: l => match zk_find B q.1, zk_rs B l with
    | some b, some r => match zk_le 0 q.2 with
      | true => some (q.2 * b.1 + r.1, q.2 * b.2 + r.2)
      | false => some (q.2 * b.2 + r.1, q.2 * b.1 + r.2)
    | _, _ => none
def zk_rng (N : zk_N) (v : zk_V) : Option (Int × Int) := match zk_rs N.2.1 v.1 with
  | some r => some (r.1 + v.2, r.2 + v.2)
  | none => none
/-- what facts of a kind say. 1: a read; 2: a row changed at a place; 3: bounds of a row's elements; 4: a long's int; 5: not 0 -/
def zk_S : Nat → List (Nat → Int) → List Int → Prop
  | 1, [f], [i, v] => f i.toNat = v
  | 2, [f, g], [i, v] => f = fun j => if j = i.toNat then v else g j
  | 3, [f], [a, b] => ∀ j : Nat, a ≤ f j ∧ f j ≤ b
  | 4, [], [x, v] => ((Int64.ofInt x).toInt32).toInt = v
  | 5, [], [x] => x ≠ 0
  | k, rs, vs => zx_S k rs vs
/-- what is said of the symbols is so -/
def zk_ok (E : zk_E) (N : zk_N) : Prop := (∀ q ∈ N.2.1, q.2.1 ≤ E.1 q.1 ∧ E.1 q.1 ≤ q.2.2) ∧ (∀ f ∈ N.2.2.1, 0 ≤ zk_i E f) ∧ (∀ g ∈ N.2.2.2, zk_S g.1 (g.2.1.map E.2) (g.2.2.map (zk_i E)))
def zk_sv (n : Nat) (v : zk_V) : Prop := ∀ q ∈ v.1, q.1 < n
/-- all symbols named are below the next one -/
def zk_cl (N : zk_N) : Prop := (∀ q ∈ N.2.1, q.1 < N.1) ∧ (∀ f ∈ N.2.2.1, zk_sv N.1 f) ∧ (∀ g ∈ N.2.2.2, (∀ a ∈ g.2.1, a < N.1) ∧ ∀ v ∈ g.2.2, zk_sv N.1 v)
theorem zk_rs_ok {E : zk_E} {B : zk_B} (h : ∀ q ∈ B, q.2.1 ≤ E.1 q.1 ∧ E.1 q.1 ≤ q.2.2) : ∀ {l : List (Nat × Int)} {r : Int × Int}, zk_rs B l = some r → r.1 ≤ zk_s E l ∧ zk_s E l ≤ r.2
  | [], r, hr => by
    unfold zk_rs at hr
    cases hr
    simp [zk_s]
  | q :: l, r, hr => by
    unfold zk_rs at hr
    split at hr
    · rename_i b r' hb hr'
      have h1 := h _ (zk_find_mem hb)
      have h2 := zk_rs_ok h hr'
      simp only at h1
      split at hr
      · rename_i g
        have g := zk_le_of g
        cases hr
        have k1 := Int.mul_le_mul_of_nonneg_left h1.1 g
        have k2 := Int.mul_le_mul_of_nonneg_left h1.2 g
        simp only [zk_s]
        omega
      · rename_i g
        have g := zk_le_no g
        cases hr
        have k1 := Int.mul_le_mul_of_nonpos_left (Int.le_of_lt g) h1.1
        have k2 := Int.mul_le_mul_of_nonpos_left (Int.le_of_lt g) h1.2
        simp only [zk_s]
        omega
    · cases hr
theorem zk_rng_ok {E : zk_E} {N : zk_N} (h : zk_ok E N) {v : zk_V} {r : Int × Int} (hr : zk_rng N v = some r) : r.1 ≤ zk_i E v ∧ zk_i E v ≤ r.2 := by
  unfold zk_rng at hr
  split at hr
  · rename_i q hq
    have := zk_rs_ok h.1 hq
    cases hr
    unfold zk_i
    simp only
    omega
  · cases hr
/-- not below 0, by bounds -/
def zk_n0 (N : zk_N) (d : zk_V) : Bool := match zk_rng N d with
  | some r => zk_le 0 r.1
  | none => false
/-- not below 0, by bounds and one known sum -/
def zk_shr (d f : zk_V) : Bool := d.1.any fun q => f.1.any fun r => Nat.beq q.1 r.1
def zk_n1 (N : zk_N) (d : zk_V) : Bool := zk_n0 N d || N.2.2.1.any fun f => zk_shr d f && zk_n0 N (zk_vsub d f)
/-- not below 0, by bounds and two known sums -/
def zk_n2 (N : zk_N) (d : zk_V) : Bool := zk_n1 N d || N.2.2.1.any fun f => zk_shr d f && zk_n1 N (zk_vsub d f)
theorem zk_n0_ok {E : zk_E} {N : zk_N} (h : zk_ok E N) {d : zk_V} (hd : zk_n0 N d = true) : 0 ≤ zk_i E d := by
  unfold zk_n0 at hd
  split at hd
  · rename_i r hr
    have := zk_rng_ok h hr
    have := zk_le_of hd
    omega
  · cases hd
theorem zk_n1_ok {E : zk_E} {N : zk_N} (h : zk_ok E N) {d : zk_V} (hd : zk_n1 N d = true) : 0 ≤ zk_i E d := by
  unfold zk_n1 at hd
  simp only [Bool.or_eq_true, List.any_eq_true, Bool.and_eq_true] at hd
  rcases hd with hd | ⟨f, hf, -, hd⟩
  · exact zk_n0_ok h hd
  · have h1 := zk_n0_ok h hd
    have h2 := h.2.1 f hf
    rw [zk_vsub_i] at h1
    omega
theorem zk_n2_ok {E : zk_E} {N : zk_N} (h : zk_ok E N) {d : zk_V} (hd : zk_n2 N d = true) : 0 ≤ zk_i E d := by
  unfold zk_n2 at hd
  simp only [Bool.or_eq_true, List.any_eq_true, Bool.and_eq_true] at hd
  rcases hd with hd | ⟨f, hf, -, hd⟩
  · exact zk_n1_ok h hd
  · have h1 := zk_n1_ok h hd
    have h2 := h.2.1 f hf
    rw [zk_vsub_i] at h1
    omega
def zk_addB (N : zk_N) (q : Nat × Int × Int) : zk_N := (N.1, q :: N.2.1, N.2.2)
def zk_addF (N : zk_N) (f : zk_V) : zk_N := (N.1, N.2.1, f :: N.2.2.1, N.2.2.2)
def zk_addG (N : zk_N) (g : zk_G) : zk_N := (N.1, N.2.1, N.2.2.1, g :: N.2.2.2)
def zk_next (N : zk_N) : zk_N := (N.1 + 1, N.2)
theorem zk_addB_ok {E : zk_E} {N : zk_N} (h : zk_ok E N) {q : Nat × Int × Int} (hq : q.2.1 ≤ E.1 q.1 ∧ E.1 q.1 ≤ q.2.2) : zk_ok E (zk_addB N q) :=
  ⟨fun r hr => (List.mem_cons.mp hr).elim (fun e => e ▸ hq) (h.1 r), h.2⟩
theorem zk_addF_ok {E : zk_E} {N : zk_N} (h : zk_ok E N) {f : zk_V} (hf : 0 ≤ zk_i E f) : zk_ok E (zk_addF N f) :=
  ⟨h.1, fun r hr => (List.mem_cons.mp hr).elim (fun e => e ▸ hf) (h.2.1 r), h.2.2⟩
theorem zk_addG_ok {E : zk_E} {N : zk_N} (h : zk_ok E N) {g : zk_G} (hg : zk_S g.1 (g.2.1.map E.2) (g.2.2.map (zk_i E))) : zk_ok E (zk_addG N g) :=
  ⟨h.1, h.2.1, fun r hr => (List.mem_cons.mp hr).elim (fun e => e ▸ hg) (h.2.2 r)⟩
theorem zk_next_ok {E : zk_E} {N : zk_N} (h : zk_ok E N) : zk_ok E (zk_next N) := h
theorem zk_addB_cl {N : zk_N} (h : zk_cl N) {q : Nat × Int × Int} (hq : q.1 < N.1) : zk_cl (zk_addB N q) :=
  ⟨fun r hr => (List.mem_cons.mp hr).elim (fun e => e ▸ hq) (h.1 r), h.2⟩
theorem zk_addF_cl {N : zk_N} (h : zk_cl N) {f : zk_V} (hf : zk_sv N.1 f) : zk_cl (zk_addF N f) :=
  ⟨h.1, fun r hr => (List.mem_cons.mp hr).elim (fun e => e ▸ hf) (h.2.1 r), h.2.2⟩
theorem zk_addG_cl {N : zk_N} (h : zk_cl N) {g : zk_G} (hg : (∀ a ∈ g.2.1, a < N.1) ∧ ∀ v ∈ g.2.2, zk_sv N.1 v) : zk_cl (zk_addG N g) :=
  ⟨h.1, h.2.1, fun r hr => (List.mem_cons.mp hr).elim (fun e => e ▸ hg) (h.2.2 r)⟩
theorem zk_sv_le {n m : Nat} (h : n ≤ m) {v : zk_V} (hv : zk_sv n v) : zk_sv m v := fun q hq => Nat.lt_of_lt_of_le (hv q hq) h
theorem zk_next_cl {N : zk_N} (h : zk_cl N) : zk_cl (zk_next N) :=
  ⟨fun q hq => Nat.lt_succ_of_lt (h.1 q hq), fun f hf => zk_sv_le (Nat.le_succ _) (h.2.1 f hf), fun g hg => ⟨fun a ha => Nat.lt_succ_of_lt ((h.2.2 g hg).1 a ha), fun v hv => zk_sv_le (Nat.le_succ _) ((h.2.2 g hg).2 v hv)⟩⟩
theorem zk_ins_sv {n : Nat} {q : Nat × Int} (hq : q.1 < n) : ∀ {l : List (Nat × Int)}, (∀ r ∈ l, r.1 < n) → ∀ r ∈ zk_ins q l, r.1 < n
  | [], _, r, hr => by
    unfold zk_ins at hr
    rw [List.mem_singleton.mp hr]; exact hq
  | p :: l, hl, r, hr => by
    have hl2 : ∀ r ∈ l, r.1 < n := fun r h => hl r (List.mem_cons_of_mem _ h)
    unfold zk_ins at hr
    split at hr
    · split at hr
      · exact hl2 r hr
      · rcases List.mem_cons.mp hr with rfl | hr
        · exact hl p List.mem_cons_self
        · exact hl2 r hr
    · split at hr
      · rcases List.mem_cons.mp hr with rfl | hr
        · exact hq
        · exact hl r hr
      · rcases List.mem_cons.mp hr with rfl | hr
        · exact hl _ List.mem_cons_self
        · exact zk_ins_sv hq hl2 r hr
theorem zk_mg_sv {n : Nat} {b : List (Nat × Int)} (hb : ∀ r ∈ b, r.1 < n) : ∀ {a : List (Nat × Int)}, (∀ r ∈ a, r.1 < n) → ∀ r ∈ zk_mg a b, r.1 < n
  | [], _ => hb
  | q :: a, ha => by
    unfold zk_mg
    rw [List.foldr_cons]
    exact zk_ins_sv (ha q List.mem_cons_self) (zk_mg_sv hb fun r h => ha r (List.mem_cons_of_mem _ h))
theorem zk_sc_sv {n : Nat} {c : Int} {a : List (Nat × Int)} (ha : ∀ r ∈ a, r.1 < n) : ∀ r ∈ zk_sc c a, r.1 < n := fun r hr => by
  obtain ⟨q, hq, rfl⟩ := List.mem_map.mp hr
  exact ha q hq
theorem zk_vadd_sv {n : Nat} {x y : zk_V} (hx : zk_sv n x) (hy : zk_sv n y) : zk_sv n (zk_vadd x y) := zk_mg_sv hy hx
theorem zk_vsub_sv {n : Nat} {x y : zk_V} (hx : zk_sv n x) (hy : zk_sv n y) : zk_sv n (zk_vsub x y) := zk_mg_sv hx (zk_sc_sv hy)
theorem zk_vmul_sv {n : Nat} {c : Int} {x : zk_V} (hx : zk_sv n x) : zk_sv n (zk_vmul c x) := zk_sc_sv hx
theorem zk_c_sv {n : Nat} {z : Int} : zk_sv n (zk_c z) := fun _ h => by cases h
theorem zk_y_sv {n s : Nat} (h : s < n) : zk_sv n (zk_y s) := fun q hq => by rw [List.mem_singleton.mp hq]; exact h
/-- two valuations that say the same below n -/
def zk_ag (n : Nat) (E E' : zk_E) : Prop := ∀ k, k < n → E'.1 k = E.1 k ∧ E'.2 k = E.2 k
theorem zk_ag_rf {n : Nat} {E : zk_E} : zk_ag n E E := fun _ _ => ⟨rfl, rfl⟩
theorem zk_ag_tr {n m : Nat} {E E' E'' : zk_E} (h : zk_ag n E E') (h2 : zk_ag m E' E'') (hnm : n ≤ m) : zk_ag n E E'' := fun k hk => by
  obtain ⟨a1, a2⟩ := h k hk
  obtain ⟨b1, b2⟩ := h2 k (Nat.lt_of_lt_of_le hk hnm)
  exact ⟨b1.trans a1, b2.trans a2⟩
theorem zk_ag_le {n m : Nat} {E E' : zk_E} (h : zk_ag m E E') (hnm : n ≤ m) : zk_ag n E E' := fun k hk => h k (Nat.lt_of_lt_of_le hk hnm)
theorem zk_s_ag {n : Nat} {E E' : zk_E} (h : zk_ag n E E') : ∀ {l : List (Nat × Int)}, (∀ q ∈ l, q.1 < n) → zk_s E' l = zk_s E l
  | [], _ => rfl
  | q :: l, hl => by
    simp only [zk_s]
    rw [(h _ (hl q List.mem_cons_self)).1, zk_s_ag h fun r hr => hl r (List.mem_cons_of_mem _ hr)]
theorem zk_i_ag {n : Nat} {E E' : zk_E} (h : zk_ag n E E') {v : zk_V} (hv : zk_sv n v) : zk_i E' v = zk_i E v := by
  unfold zk_i; rw [zk_s_ag h hv]
theorem zk_ok_ag {E E' : zk_E} {N : zk_N} (h : zk_ok E N) (hs : zk_cl N) (ha : zk_ag N.1 E E') : zk_ok E' N := by
  refine ⟨fun q hq => ?_, fun f hf => ?_, fun g hg => ?_⟩
  · rw [(ha _ (hs.1 q hq)).1]; exact h.1 q hq
  · rw [zk_i_ag ha (hs.2.1 f hf)]; exact h.2.1 f hf
  · obtain ⟨s1, s2⟩ := hs.2.2 g hg
    have e1 : g.2.1.map E'.2 = g.2.1.map E.2 := List.map_congr_left fun a h => (ha a (s1 a h)).2
    have e2 : g.2.2.map (zk_i E') = g.2.2.map (zk_i E) := List.map_congr_left fun v h => zk_i_ag ha (s2 v h)
    rw [e1, e2]
    exact h.2.2 g hg
def zk_setI (E : zk_E) (n : Nat) (x : Int) : zk_E := (fun k => if k = n then x else E.1 k, E.2)
def zk_setA (E : zk_E) (n : Nat) (x : Nat → Int) : zk_E := (E.1, fun k => if k = n then x else E.2 k)
theorem zk_setI_ag {E : zk_E} {n : Nat} {x : Int} : zk_ag n E (zk_setI E n x) := fun k hk => ⟨by simp [zk_setI, Nat.ne_of_lt hk], rfl⟩
theorem zk_setA_ag {E : zk_E} {n : Nat} {x : Nat → Int} : zk_ag n E (zk_setA E n x) := fun k hk => ⟨rfl, by simp [zk_setA, Nat.ne_of_lt hk]⟩
theorem zk_setI_at {E : zk_E} {n : Nat} {x : Int} : (zk_setI E n x).1 n = x := by simp [zk_setI]
theorem zk_setA_at {E : zk_E} {n : Nat} {x : Nat → Int} : (zk_setA E n x).2 n = x := by simp [zk_setA]
