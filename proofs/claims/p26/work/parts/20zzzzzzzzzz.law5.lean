noncomputable section
/-! A CASE OF A WAY TOLD APART AT ITS CALL: the ends of the call, each by itself -/
section ZL5
variable {PT : List zk_M} {CT : List zk_K} {RT : List zk_Rl} {tab : zk_Tab} {d : Nat} {M : zk_M} {cx : List zk_Cx}
def zl_back (lc : List (Nat × zk_T)) (sk : List zk_T) (X : zk_Ex) : zk_Z := (X.1, X.2.1, lc, match X.2.2 with
  | some t => t :: sk
  | none => sk)
/-- a called method's ends, as states of the caller -/
def zl_cl (PT : List zk_M) (CT : List zk_K) (rec : zk_Rec) (d : Nat) (q : zk_I) (z : zk_Z) : Option (List zk_Z) := match zk_get PT q.2.2.2.2.1, d with
  | some M', d' + 1 => match zk_take M'.2.2.2.2.1 [] z.2.2.2 with
    | some (as, sk) => match sk with
        | [] => none
        | t :: sk' => match Nat.ble (zk_slots (t :: as)) M'.2.2.1 && Nat.ble M'.2.2.1 45 && Nat.ble (zk_csum sk') 8 && Nat.beq t.1 3, zk_get z.2.1 t.2.1, M'.2.2.2.2.2.1 with
          | true, some c, q0 :: _ => match Nat.beq q0.1 0 && Nat.beq c.1 0 && zk_eqi (Int.ofNat c.2.1) q.2.2.2.2.2.2, zk_inl CT rec q.2.2.2.2.2.1 d' q.2.2.2.2.1 M' z (t :: as) with
            | true, some L => some (L.map (zl_back z.2.2.1 sk'))
            | _, _ => none
          | _, _, _ => none
    | none => none
  | _, _ => none
theorem zl_all_map {α β : Type} {f : β → Option (List zk_Ex)} {g : α → β} : ∀ l : List α, zk_all f (l.map g) = zk_all (fun a => f (g a)) l
  | [] => rfl
  | a :: l => by
    simp only [List.map_cons]
    unfold zk_all
    rw [zl_all_map l]
theorem zl_cl_ok {rec : zk_Rec} {q : zk_I} {r : List zk_I} {z : zk_Z} {L : List zk_Z} (h : zl_cl PT CT rec d q z = some L) : zk_call PT CT rec d M cx q r z true = zk_all (fun z' => zk_next2 rec d M cx q r (none, z')) L := by
  unfold zl_cl at h
  unfold zk_call
  split at h
  · rename_i M' d' hM
    rw [hM]
    simp only
    split at h
    · rename_i as sk hT
      rw [hT]
      simp only
      split at h
      · cases h
      · rename_i t sk'
        simp only
        split at h
        · rename_i c q0 r0 g1 g2 g3
          rw [g1, g2, g3]
          simp only
          split at h
          · rename_i L0 g4 g5
            rw [g4, g5]
            simp only
            cases h
            rw [zl_all_map]
            rfl
          · cases h
        · cases h
    · cases h
  · cases h
abbrev zl_T : Type := Nat × List zk_I × zk_Z
def zl_Gs (PT : List zk_M) (CT : List zk_K) (RT : List zk_Rl) (tab : zk_Tab) (d : Nat) (M : zk_M) (cx : List zk_Cx) (s : zl_T) : Prop := zl_G PT CT tab d M cx (zk_run PT CT RT tab s.1) s.2.1 s.2.2
/-- the states with which the row behind the call begins -/
def zl_kd (RT : List zk_Rl) (M : zk_M) (k : Nat) (q : zk_I) (r : List zk_I) (z : zk_Z) : Option (List zl_T) := match r with
  | q' :: r' => match Nat.beq q'.1 (q.1 + q.2.2.1) with
    | true => match Nat.beq q'.2.2.2.1 0 with
      | true => some [(k, q' :: r', z)]
      | false => match zl_rl RT M q' z with
        | some L => some (L.map fun N => (k, q' :: r', (N, z.2)))
        | none => none
    | false => none
  | [] => none
theorem zl_kd_ok {k : Nat} {q : zk_I} {r : List zk_I} {z : zk_Z} {L : List zl_T} (h : zl_kd RT M k q r z = some L) (g : ∀ s ∈ L, zl_Gs PT CT RT tab d M cx s) : ∃ L', zk_next2 (zk_run PT CT RT tab (k + 1)) d M cx q r (none, z) = some L' ∧ ∀ X ∈ L', zl_one X = true := by
  unfold zl_kd at h
  unfold zk_next2
  simp only
  split at h
  · rename_i q' r'
    simp only
    split at h
    · rename_i g1
      rw [g1]
      simp only
      split at h
      · rename_i g2
        cases h
        rw [zl_run0 g2]
        obtain ⟨q1, r1, L1, e1, e2, e3⟩ := g _ List.mem_cons_self
        cases e1
        exact ⟨L1, e2, e3⟩
      · split at h
        · rename_i L0 g3
          cases h
          rw [zl_rl_run g3]
          refine zl_all fun N hN => ?_
          obtain ⟨q1, r1, L1, e1, e2, e3⟩ := g _ (List.mem_map.mpr ⟨N, hN, rfl⟩)
          cases e1
          exact ⟨L1, e2, e3⟩
        · cases h
    · cases h
  · cases h
def zl_cat {α : Type} : List (Option (List α)) → Option (List α)
  | [] => some []
  | some x :: l => match zl_cat l with
    | some y => some (x ++ y)
    | none => none
  | none :: _ => none
theorem zl_cat_ok {α β : Type} {f : β → Option (List α)} : ∀ {l : List β} {L : List α}, zl_cat (l.map f) = some L → ∀ b ∈ l, ∃ x, f b = some x ∧ ∀ a ∈ x, a ∈ L
  | [], _, _, b, hb => absurd hb List.not_mem_nil
  | c :: l, L, h, b, hb => by
    simp only [List.map_cons] at h
    cases hc : f c with
    | none =>
      rw [hc] at h
      cases h
    | some x =>
      rw [hc] at h
      unfold zl_cat at h
      split at h
      · rename_i y hy
        cases h
        rcases List.mem_cons.mp hb with e | e
        · subst e
          exact ⟨x, hc, fun a ha => List.mem_append_left _ ha⟩
        · obtain ⟨x', e1, e2⟩ := zl_cat_ok hy b e
          exact ⟨x', e1, fun a ha => List.mem_append_right _ (e2 a ha)⟩
      · cases h
/-- so many rows on, a call; what comes behind it -/
def zl_nxt (PT : List zk_M) (CT : List zk_K) (RT : List zk_Rl) (tab : zk_Tab) (d : Nat) (M : zk_M) (n k : Nat) (s : zl_T) : Option (List zl_T) := match Nat.beq s.1 (k + 1 + n) with
  | true => match zl_str M.2.2.1 tab n s.2.1 s.2.2 with
    | some (q :: r, z, []) => match q.2.1 with
      | .invokevirtual _ => match Nat.beq (zk_fc q.2.1).1 20, Nat.beq q.2.2.2.2.2.1 78 with
        | true, false => match zl_cl PT CT (zk_run PT CT RT tab (k + 1)) d q z with
          | some L => zl_cat (L.map (zl_kd RT M k q r))
          | none => none
        | _, _ => none
      | _ => none
    | _ => none
  | false => none
theorem zl_nxt_ok {n k : Nat} {s : zl_T} {L : List zl_T} (h : zl_nxt PT CT RT tab d M n k s = some L) (g : ∀ s' ∈ L, zl_Gs PT CT RT tab d M cx s') : zl_Gs PT CT RT tab d M cx s := by
  unfold zl_nxt at h
  split at h
  · rename_i hk
    have hk := Nat.eq_of_beq_eq_true hk
    split at h
    · rename_i q r z hs
      split at h
      · rename_i ix hi
        split at h
        · rename_i h20 h78
          split at h
          · rename_i Lz hz
            unfold zl_Gs
            rw [hk]
            refine zl_str_ok hs (fun u hu => absurd hu List.not_mem_nil) ?_
            have e : zk_ex1F PT CT tab (zk_run PT CT RT tab (k + 1)) d M cx q r z = zk_all (fun z' => zk_next2 (zk_run PT CT RT tab (k + 1)) d M cx q r (none, z')) Lz := by
              rw [← zl_cl_ok hz]
              unfold zk_ex1F
              rw [h20, Bool.true_or]
              simp only
              unfold zk_ex1
              rw [hi]
              simp only
              rw [h78]
            obtain ⟨L', a, b⟩ := zl_all (f := fun z' => zk_next2 (zk_run PT CT RT tab (k + 1)) d M cx q r (none, z')) (l := Lz) fun z' hz' => by
              obtain ⟨x, e1, e2⟩ := zl_cat_ok h z' hz'
              exact zl_kd_ok e1 fun s' hs' => g s' (e2 s' hs')
            exact ⟨q, r, L', rfl, by rw [e]; exact a, b⟩
          · cases h
        · cases h
      · cases h
    · cases h
  · cases h
def zl_ob (PT : List zk_M) (CT : List zk_K) (RT : List zk_Rl) (tab : zk_Tab) (d : Nat) (M : zk_M) (cx : List zk_Cx) (s : Option zl_T) : Bool := match s with
  | some s => match s.2.1 with
    | q :: r => match zk_ex1F PT CT tab (zk_run PT CT RT tab s.1) d M cx q r s.2.2 with
      | some L => L.all zl_one
      | none => false
    | [] => false
  | none => false
def zl_kid (PT : List zk_M) (CT : List zk_K) (RT : List zk_Rl) (tab : zk_Tab) (d : Nat) (M : zk_M) (n k t : Nat) (s : Option zl_T) : Option zl_T := match s with
  | some s => match zl_nxt PT CT RT tab d M n k s with
    | some L => zk_get L t
    | none => none
  | none => none
def zl_kidn (PT : List zk_M) (CT : List zk_K) (RT : List zk_Rl) (tab : zk_Tab) (d : Nat) (M : zk_M) (n k m : Nat) (s : Option zl_T) : Bool := match s with
  | some s => match zl_nxt PT CT RT tab d M n k s with
    | some L => Nat.beq L.length m
    | none => false
  | none => false
theorem zl_obG {s : zl_T} (h : zl_ob PT CT RT tab d M cx (some s) = true) : zl_Gs PT CT RT tab d M cx s := by
  unfold zl_ob at h
  obtain ⟨K, rest, z⟩ := s
  simp only at h
  split at h
  · rename_i q r
    split at h
    · rename_i L hL
      exact ⟨q, r, L, rfl, hL, fun X hX => List.all_eq_true.mp h X hX⟩
    · cases h
  · cases h
theorem zl_Gob {s : zl_T} (h : zl_Gs PT CT RT tab d M cx s) : zl_ob PT CT RT tab d M cx (some s) = true := by
  obtain ⟨K, rest, z⟩ := s
  obtain ⟨q, r, L, e1, e2, e3⟩ := h
  simp only at e1 e2
  subst e1
  unfold zl_ob
  simp only
  rw [e2]
  exact List.all_eq_true.mpr e3
theorem zl_bk {n k m : Nat} {s : Option zl_T} (h0 : zl_kidn PT CT RT tab d M n k m s = true) (h : ∀ t, t < m → zl_ob PT CT RT tab d M cx (zl_kid PT CT RT tab d M n k t s) = true) : zl_ob PT CT RT tab d M cx s = true := by
  unfold zl_kidn at h0
  unfold zl_kid at h
  split at h0
  · rename_i s
    simp only at h
    split at h0
    · rename_i L hL
      rw [hL] at h
      simp only at h
      have h0 := Nat.eq_of_beq_eq_true h0
      refine zl_Gob (zl_nxt_ok hL fun s' hs' => ?_)
      obtain ⟨t, ht⟩ := List.mem_iff_getElem?.mp hs'
      have g := h t (by rw [← h0]; exact (List.getElem?_eq_some_iff.mp ht).1)
      rw [zk_get_eq, ht] at g
      exact zl_obG g
    · cases h0
  · cases h0
/-- a case of a way, as it begins -/
def zl_cas (RT : List zk_Rl) (tab : zk_Tab) (M : zk_M) (so : zl_S) (k j i : Nat) : Option zl_T := match zl_head tab M so j with
  | some y => match zl_rl RT M y.1 y.2.2 with
    | some L => match zk_get L i with
      | some N => some (k, y.1 :: y.2.1, (N, y.2.2.2))
      | none => none
    | none => none
  | none => none
theorem zl_bs {so : zl_S} {k j i : Nat} (h : zl_ob PT CT RT tab d M cx (zl_cas RT tab M so k j i) = true) : zl_case PT CT RT tab k d M cx so j i = true := by
  unfold zl_cas at h
  unfold zl_case
  cases hy : zl_head tab M so j with
  | none =>
    rw [hy] at h
    have h : false = true := h
    cases h
  | some y =>
    rw [hy] at h
    simp only at h ⊢
    cases hL : zl_rl RT M y.1 y.2.2 with
    | none =>
      rw [hL] at h
      have h : false = true := h
      cases h
    | some L =>
      rw [hL] at h
      simp only at h ⊢
      cases hN : zk_get L i with
      | none =>
        rw [hN] at h
        have h : false = true := h
        cases h
      | some N =>
        rw [hN] at h
        exact h
end ZL5
end
