noncomputable section
/-! fields, rows, tables -/
abbrev zk_Tab : Type := List (String × String × List Int)
def zk_ix (N : zk_N) (v : zk_V) (n : Nat) : Bool := zk_n2 N v && zk_n2 N (zk_vsub (zk_c (Int.ofNat n - 1)) v)
theorem zk_ix_ok {E : zk_E} {N : zk_N} (h : zk_ok E N) {v : zk_V} {n : Nat} (hv : zk_ix N v n = true) : 0 ≤ zk_i E v ∧ zk_i E v < n := by
  unfold zk_ix at hv
  simp only [Bool.and_eq_true] at hv
  have h1 := zk_n2_ok h hv.1
  have h2 := zk_n2_ok h hv.2
  rw [zk_vsub_i, zk_c_i] at h2
  have e : (Int.ofNat n : Int) = (n : Int) := rfl
  omega
def zk_mem1 (a : Nat) (v : zk_V) : List zk_G → Option zk_V
  | [] => none
  | (1, [b], [u, w]) :: l => match Nat.beq b a && zk_eqv u v with
    | true => some w
    | false => zk_mem1 a v l
  | _ :: l => zk_mem1 a v l
theorem zk_mem1_of {a : Nat} {v w : zk_V} : ∀ {l : List zk_G}, zk_mem1 a v l = some w → (1, [a], [v, w]) ∈ l
  | [], h => by cases h
  | g :: l, h => by
    unfold zk_mem1 at h
    split at h
    · rename_i heq
      cases heq
    · rename_i b u w' l' heq
      cases heq
      split at h
      · rename_i e
        simp only [Bool.and_eq_true] at e
        have e1 := Nat.eq_of_beq_eq_true e.1
        have e2 := zk_eqv_of e.2
        cases h
        rw [e1, e2]
        exact List.mem_cons_self
      · exact List.mem_cons_of_mem _ (zk_mem1_of h)
    · rename_i g' l' _ heq
      cases heq
      exact List.mem_cons_of_mem _ (zk_mem1_of h)
def zk_eb (a : Nat) : List zk_G → Option (Int × Int)
  | [] => none
  | (3, [b], [([], lo), ([], hi)]) :: l => match Nat.beq b a with
    | true => some (lo, hi)
    | false => zk_eb a l
  | _ :: l => zk_eb a l
theorem zk_eb_of {a : Nat} {lo hi : Int} : ∀ {l : List zk_G}, zk_eb a l = some (lo, hi) → (3, [a], [zk_c lo, zk_c hi]) ∈ l
  | [], h => by cases h
  | g :: l, h => by
    unfold zk_eb at h
    split at h
    · rename_i heq
      cases heq
    · rename_i b lo' hi' l' heq
      cases heq
      split at h
      · rename_i e
        have e1 := Nat.eq_of_beq_eq_true e
        cases h
        rw [e1]
        exact List.mem_cons_self
      · exact List.mem_cons_of_mem _ (zk_eb_of h)
    · rename_i g' l' _ heq
      cases heq
      exact List.mem_cons_of_mem _ (zk_eb_of h)
theorem zk_eb_ok {E : zk_E} {N : zk_N} (h : zk_ok E N) {a : Nat} {b : Int × Int} (hb : zk_eb a N.2.2.2 = some b) (j : Nat) : b.1 ≤ E.2 a j ∧ E.2 a j ≤ b.2 := by
  have := h.2.2 _ (zk_eb_of (lo := b.1) (hi := b.2) hb)
  simp only [List.map_cons, List.map_nil, zk_S, zk_c_i] at this
  exact this j
def zk_rd (N : zk_N) (a : Nat) (v : zk_V) : Option (zk_V × zk_N) := match zk_mem1 a v N.2.2.2 with
  | some w => some (w, N)
  | none => match zk_eb a N.2.2.2 with
    | some b => some ((zk_new N b.1 b.2).1, zk_addG (zk_new N b.1 b.2).2 (1, [a], [v, (zk_new N b.1 b.2).1]))
    | none => none
theorem zk_rd_ok {E : zk_E} {N : zk_N} (h : zk_ok E N) (hs : zk_cl N) {a : Nat} {v : zk_V} (ha : a < N.1) (hv : zk_sv N.1 v) {r : zk_V × zk_N} (hr : zk_rd N a v = some r) : zk_to E N r fun w => w = E.2 a (zk_i E v).toNat := by
  unfold zk_rd at hr
  split at hr
  · rename_i w hw
    cases hr
    have hm := zk_mem1_of hw
    refine zk_old_to h hs ((hs.2.2 _ hm).2 w (by simp)) ?_
    have := h.2.2 _ hm
    simp only [List.map_cons, List.map_nil, zk_S] at this
    exact this.symm
  · split at hr
    · rename_i b hb
      cases hr
      have k := zk_eb_ok h hb (zk_i E v).toNat
      obtain ⟨E', a1, a2, a3, a4, a5, a6⟩ := zk_new_to h hs k.1 k.2
      refine ⟨E', a1, zk_addG_ok a2 ?_, zk_addG_cl a3 ⟨fun x hx => ?_, fun x hx => ?_⟩, a4, a5, a6⟩
      · show E'.2 a (zk_i E' v).toNat = zk_i E' (zk_new N b.1 b.2).1
        rw [a6, zk_i_ag a1 hv, (a1 a ha).2]
      · rw [List.mem_singleton.mp hx]
        exact Nat.lt_of_lt_of_le ha a4
      · simp only [List.mem_cons, List.not_mem_nil, or_false] at hx
        rcases hx with rfl | rfl
        · exact zk_sv_le a4 hv
        · exact a5
    · cases hr
/-- a row's bounds with one more element: as they were, if that can be told -/
def zk_blo (N : zk_N) (b r : Int) (x : zk_V) : Int := match zk_le b r with
  | true => b
  | false => match zk_n2 N (zk_vsub x (zk_c b)) with
    | true => b
    | false => r
def zk_bhi (N : zk_N) (b r : Int) (x : zk_V) : Int := match zk_le r b with
  | true => b
  | false => match zk_n2 N (zk_vsub (zk_c b) x) with
    | true => b
    | false => r
theorem zk_blo_ok {E : zk_E} {N : zk_N} (h : zk_ok E N) {b r : Int} {x : zk_V} (hr : r ≤ zk_i E x) : zk_blo N b r x ≤ b ∧ zk_blo N b r x ≤ zk_i E x := by
  unfold zk_blo
  split
  · rename_i c
    have := zk_le_of c
    omega
  · rename_i c
    have := zk_le_no c
    split
    · rename_i c2
      have c2 := zk_n2_ok h c2
      rw [zk_vsub_i, zk_c_i] at c2
      omega
    · omega
theorem zk_bhi_ok {E : zk_E} {N : zk_N} (h : zk_ok E N) {b r : Int} {x : zk_V} (hr : zk_i E x ≤ r) : b ≤ zk_bhi N b r x ∧ zk_i E x ≤ zk_bhi N b r x := by
  unfold zk_bhi
  split
  · rename_i c
    have := zk_le_of c
    omega
  · rename_i c
    have := zk_le_no c
    split
    · rename_i c2
      have c2 := zk_n2_ok h c2
      rw [zk_vsub_i, zk_c_i] at c2
      omega
    · omega
def zk_wr (N : zk_N) (a : Nat) (v x : zk_V) : Option zk_N := match zk_eb a N.2.2.2, zk_rng N x with
  | some b, some r => some (zk_addG (zk_addG (zk_addG (zk_next N) (3, [N.1], [zk_c (zk_blo N b.1 r.1 x), zk_c (zk_bhi N b.2 r.2 x)])) (2, [N.1, a], [v, x])) (1, [N.1], [v, x]))
  | _, _ => none
theorem zk_wr_ok {E : zk_E} {N : zk_N} (h : zk_ok E N) (hs : zk_cl N) {a : Nat} {v x : zk_V} (ha : a < N.1) (hv : zk_sv N.1 v) (hx : zk_sv N.1 x) {N' : zk_N} (hr : zk_wr N a v x = some N') :
    ∃ E', zk_ag N.1 E E' ∧ zk_ok E' N' ∧ zk_cl N' ∧ N'.1 = N.1 + 1 ∧ E'.2 N.1 = fun j => if j = (zk_i E v).toNat then zk_i E x else E.2 a j := by
  unfold zk_wr at hr
  split at hr
  · rename_i b r hb hrr
    cases hr
    have hag := zk_setA_ag (E := E) (n := N.1) (x := fun j => if j = (zk_i E v).toNat then zk_i E x else E.2 a j)
    have k0 := zk_next_ok (zk_ok_ag h hs hag)
    have e1 : (zk_setA E N.1 fun j => if j = (zk_i E v).toNat then zk_i E x else E.2 a j).2 N.1 = fun j => if j = (zk_i E v).toNat then zk_i E x else E.2 a j := zk_setA_at
    have e2 : (zk_setA E N.1 fun j => if j = (zk_i E v).toNat then zk_i E x else E.2 a j).2 a = E.2 a := (hag a ha).2
    have e3 := zk_i_ag hag hv
    have e4 := zk_i_ag hag hx
    generalize (zk_setA E N.1 fun j => if j = (zk_i E v).toNat then zk_i E x else E.2 a j) = E' at hag k0 e1 e2 e3 e4
    refine ⟨E', hag, zk_addG_ok (zk_addG_ok (zk_addG_ok k0 ?_) ?_) ?_, zk_addG_cl (zk_addG_cl (zk_addG_cl (zk_next_cl hs) ?_) ?_) ?_, rfl, e1⟩
    · simp only [List.map_cons, List.map_nil, zk_S, zk_c_i]
      intro j
      rw [e1]
      have hr1 := zk_rng_ok h hrr
      have hb1 := zk_eb_ok h hb j
      have m1 := zk_blo_ok h (b := b.1) hr1.1
      have m2 := zk_bhi_ok h (b := b.2) hr1.2
      simp only
      split <;> omega
    · simp only [List.map_cons, List.map_nil, zk_S]
      rw [e1, e2, e3, e4]
    · simp only [List.map_cons, List.map_nil, zk_S]
      rw [e1, e3, e4]
      simp
    · exact ⟨fun y hy => by rw [List.mem_singleton.mp hy]; exact Nat.lt_succ_self _, fun y hy => by
        simp only [List.mem_cons, List.not_mem_nil, or_false] at hy
        rcases hy with rfl | rfl <;> exact zk_c_sv⟩
    · exact ⟨fun y hy => by
        simp only [List.mem_cons, List.not_mem_nil, or_false] at hy
        rcases hy with rfl | rfl
        · exact Nat.lt_succ_self _
        · exact Nat.lt_succ_of_lt ha, fun y hy => by
        simp only [List.mem_cons, List.not_mem_nil, or_false] at hy
        rcases hy with rfl | rfl
        · exact zk_sv_le (Nat.le_succ _) hv
        · exact zk_sv_le (Nat.le_succ _) hx⟩
    · exact ⟨fun y hy => by rw [List.mem_singleton.mp hy]; exact Nat.lt_succ_self _, fun y hy => by
        simp only [List.mem_cons, List.not_mem_nil, or_false] at hy
        rcases hy with rfl | rfl
        · exact zk_sv_le (Nat.le_succ _) hv
        · exact zk_sv_le (Nat.le_succ _) hx⟩
  · cases hr
/-- the bounds of a list of numbers -/
def zk_hull : List Int → Option (Int × Int)
  | [] => none
  | [a] => some (a, a)
  | a :: l => match zk_hull l with
    | some b => some (zk_min a b.1, zk_max a b.2)
    | none => none
theorem zk_hull_ok : ∀ {l : List Int} {b : Int × Int}, zk_hull l = some b → ∀ x ∈ l, b.1 ≤ x ∧ x ≤ b.2
  | [], b, h, x, hx => by cases hx
  | [a], b, h, x, hx => by cases h; rw [List.mem_singleton.mp hx]; simp
  | a :: c :: l, b, h, x, hx => by
    unfold zk_hull at h
    split at h
    · rename_i b' hb'
      cases h
      have ih := zk_hull_ok hb'
      have m1 := zk_min_le a b'.1
      have m2 := zk_le_max a b'.2
      rcases List.mem_cons.mp hx with rfl | hx
      · exact ⟨m1.1, m2.1⟩
      · have := ih x hx
        omega
    · cases h
/-- a table read at a place -/
def zk_tr (N : zk_N) (vs : List Int) (v : zk_V) : Option (zk_V × zk_N) := match zk_ix N v vs.length with
  | false => none
  | true => match zk_rng N v with
    | some r => match zk_eqi r.1 r.2 with
      | true => match zk_get vs r.1.toNat with
        | some x => some (zk_c x, N)
        | none => none
      | false => match zk_hull vs with
        | some b => some (zk_new N b.1 b.2)
        | none => none
    | none => none
theorem zk_tr_ok {E : zk_E} {N : zk_N} (h : zk_ok E N) (hs : zk_cl N) {vs : List Int} {v : zk_V} {r : zk_V × zk_N} (hr : zk_tr N vs v = some r) : (0 ≤ zk_i E v ∧ zk_i E v < vs.length) ∧ zk_to E N r fun w => w = vs.getD (zk_i E v).toNat 0 := by
  unfold zk_tr at hr
  split at hr
  · cases hr
  · rename_i g
    have hix := zk_ix_ok h g
    refine ⟨hix, ?_⟩
    split at hr
    · rename_i b hb
      have hbb := zk_rng_ok h hb
      split at hr
      · rename_i g2
        have g2 := zk_eqi_of g2
        split at hr
        · rename_i x hx
          cases hr
          rw [zk_get_eq] at hx
          refine zk_old_to h hs zk_c_sv ?_
          rw [zk_c_i, show (zk_i E v).toNat = b.1.toNat by omega, List.getD_eq_getElem?_getD, hx]
          rfl
        · cases hr
      · split at hr
        · rename_i b2 hb2
          cases hr
          have hlt : (zk_i E v).toNat < vs.length := by omega
          have hm : vs.getD (zk_i E v).toNat 0 ∈ vs := by
            rw [List.getD_eq_getElem?_getD, List.getElem?_eq_getElem hlt]
            exact List.getElem_mem hlt
          have := zk_hull_ok hb2 _ hm
          exact zk_new_to h hs this.1 this.2
        · cases hr
    · cases hr
end
