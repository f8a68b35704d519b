noncomputable section
/-! ONE INSTRUCTION. A row of a method: place, instruction, length, mark, three numbers that its words give -/
abbrev zk_I : Type := Nat × Instr × Nat × Nat × Nat × Nat × Int
/-- what is known at a place: numbers, cells, locals, stack -/
abbrev zk_Z : Type := zk_N × List zk_C × List (Nat × zk_T) × List zk_T
abbrev zk_X : Type := Heap → List Loc → Nat → Array Slot → List Value → Prop
abbrev zk_A : Type := zk_E → zk_Z → Heap → List Loc → Array Slot → List Value → Prop
/-- from every machine that is as z says, the walk goes on at pc -/
def zk_go (X : zk_X) (At : zk_A) (E : zk_E) (n : Nat) (z : zk_Z) (pc : Nat) : Prop := ∀ (E' : zk_E) (H : Heap) (locs : List Loc) (ls : Array Slot) (stk : List Value), zk_ag n E E' → n ≤ z.1.1 → At E' z H locs ls stk → X H locs pc ls stk
def zk_At (dC : Nat → ClassId) (dI : Nat → Nat → Nat) (cl : List vw_C) (ad st : Nat → Nat) (cid : zk_CI) (ba : Nat) (ly : List (Nat × Nat)) (nL : Nat) (H0 : Heap) : zk_A := fun E z H locs ls stk =>
  zk_wd dC dI cl ad st cid ba ly E z.1 z.2.1 H ∧ zk_fr ad st E z.1.1 nL z.2.2.1 z.2.2.2 ls stk ∧ va_S (fun q => ba ≤ q) H0 H locs
/-- one int, two ints, on top of the stack -/
def zk_i1 : List zk_T → Option (zk_V × List zk_T)
  | t :: r => match t.1 with
    | 0 => some (t.2.2, r)
    | _ => none
  | [] => none
def zk_i2 (sk : List zk_T) : Option (zk_V × zk_V × List zk_T) := match zk_i1 sk with
  | some (y, r) => match zk_i1 r with
    | some (x, r') => some (x, y, r')
    | none => none
  | none => none
def zk_l1 : List zk_T → Option (zk_V × List zk_T)
  | t :: r => match t.1 with
    | 1 => some (t.2.2, r)
    | _ => none
  | [] => none
def zk_l2 (sk : List zk_T) : Option (zk_V × zk_V × List zk_T) := match zk_l1 sk with
  | some (y, r) => match zk_l1 r with
    | some (x, r') => some (x, y, r')
    | none => none
  | none => none
theorem zk_i1_of {sk r : List zk_T} {x : zk_V} (h : zk_i1 sk = some (x, r)) : ∃ k, sk = (0, k, x) :: r := by
  unfold zk_i1 at h
  split at h
  · rename_i t r'
    split at h
    · rename_i e
      cases h
      exact ⟨t.2.1, by rw [← e]⟩
    · cases h
  · cases h
theorem zk_i2_of {sk r : List zk_T} {x y : zk_V} (h : zk_i2 sk = some (x, y, r)) : ∃ k j, sk = (0, k, y) :: (0, j, x) :: r := by
  unfold zk_i2 at h
  split at h
  · rename_i y' r1 h1
    obtain ⟨k, rfl⟩ := zk_i1_of h1
    split at h
    · rename_i x' r2 h2
      obtain ⟨j, rfl⟩ := zk_i1_of h2
      cases h
      exact ⟨k, j, rfl⟩
    · cases h
  · cases h
theorem zk_l1_of {sk r : List zk_T} {x : zk_V} (h : zk_l1 sk = some (x, r)) : ∃ k, sk = (1, k, x) :: r := by
  unfold zk_l1 at h
  split at h
  · rename_i t r'
    split at h
    · rename_i e
      cases h
      exact ⟨t.2.1, by rw [← e]⟩
    · cases h
  · cases h
theorem zk_l2_of {sk r : List zk_T} {x y : zk_V} (h : zk_l2 sk = some (x, y, r)) : ∃ k j, sk = (1, k, y) :: (1, j, x) :: r := by
  unfold zk_l2 at h
  split at h
  · rename_i y' r1 h1
    obtain ⟨k, rfl⟩ := zk_l1_of h1
    split at h
    · rename_i x' r2 h2
      obtain ⟨j, rfl⟩ := zk_l1_of h2
      cases h
      exact ⟨k, j, rfl⟩
    · cases h
  · cases h
section ZS
variable {dC : Nat → ClassId} {dI : Nat → Nat → Nat} {cl : List vw_C} {ad st : Nat → Nat} {cid : zk_CI} {ba : Nat} {ly : List (Nat × Nat)} {nL : Nat} {H0 : Heap} {X : zk_X} {E : zk_E} {H : Heap} {locs : List Loc} {ls : Array Slot} {stk : List Value}
/-- a new value on what is left of the stack, nothing else moved -/
theorem zk_push {N : zk_N} {hp : List zk_C} {lc : List (Nat × zk_T)} {sk r : List zk_T} {pc : Nat} {tg k : Nat} {w : zk_V × zk_N} {P : Int → Prop} (h : zk_At dC dI cl ad st cid ba ly nL H0 E (N, hp, lc, sk) H locs ls stk) (hw : zk_to E N w P) (hr : ∀ t ∈ r, t ∈ sk)
    (hg : zk_go X (zk_At dC dI cl ad st cid ba ly nL H0) E N.1 (w.2, hp, lc, (tg, k, w.1) :: r) pc) : ∃ E', P (zk_i E' w.1) ∧ X H locs pc ls (zk_v E' ad st (tg, k, w.1) :: r.map (zk_v E ad st)) := by
  obtain ⟨E', a, b, c, d, e, f⟩ := hw
  obtain ⟨h1, h2, h3⟩ := h
  refine ⟨E', f, hg E' H locs ls _ a d ⟨zk_wd_to h1 a b c d, ?_, h3⟩⟩
  obtain ⟨g1, g2, g3, g4⟩ := zk_fr_to h2 a d
  refine ⟨g1, fun t ht => ?_, g3, ?_⟩
  · rcases List.mem_cons.mp ht with rfl | ht
    · exact e
    · exact g2 t (hr t ht)
  · rw [List.map_cons]
    congr 1
    exact List.map_congr_left fun t ht => (zk_v_ag a (h2.2.1 t (hr t ht))).symm
/-- the stack told anew out of its own values -/
theorem zk_same {N : zk_N} {hp : List zk_C} {lc : List (Nat × zk_T)} {sk r : List zk_T} {pc : Nat} (h : zk_At dC dI cl ad st cid ba ly nL H0 E (N, hp, lc, sk) H locs ls stk) (hr : ∀ t ∈ r, zk_tv N.1 t)
    (hg : zk_go X (zk_At dC dI cl ad st cid ba ly nL H0) E N.1 (N, hp, lc, r) pc) : X H locs pc ls (r.map (zk_v E ad st)) := by
  obtain ⟨h1, ⟨g1, g2, g3, g4⟩, h3⟩ := h
  exact hg E H locs ls _ zk_ag_rf (Nat.le_refl _) ⟨h1, ⟨g1, hr, g3, rfl⟩, h3⟩
/-- what is known grows, nothing moves -/
theorem zk_know {N N' : zk_N} {hp : List zk_C} {lc : List (Nat × zk_T)} {sk r : List zk_T} {pc : Nat} (h : zk_At dC dI cl ad st cid ba ly nL H0 E (N, hp, lc, sk) H locs ls stk) (hr : ∀ t ∈ r, t ∈ sk) (ho : zk_ok E N') (hc : zk_cl N') (hn : N'.1 = N.1)
    (hg : zk_go X (zk_At dC dI cl ad st cid ba ly nL H0) E N.1 (N', hp, lc, r) pc) : X H locs pc ls (r.map (zk_v E ad st)) := by
  obtain ⟨h1, ⟨g1, g2, g3, g4⟩, h3⟩ := h
  refine hg E H locs ls _ zk_ag_rf (Nat.le_of_eq hn.symm) ⟨zk_wd_to h1 zk_ag_rf ho hc (Nat.le_of_eq hn.symm), ⟨fun q hq => by show zk_tv N'.1 q.2; rw [hn]; exact g1 q hq, fun t ht => by show zk_tv N'.1 t; rw [hn]; exact g2 t (hr t ht), g3, rfl⟩, h3⟩
end ZS
end
