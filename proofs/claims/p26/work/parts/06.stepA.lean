noncomputable section
/-! constants, locals, the stack -/
def zk_pu (z : zk_Z) (tg : Nat) (v : zk_V) : Option (List (Option Nat × zk_Z)) := some [(none, (z.1, z.2.1, z.2.2.1, (tg, 0, v) :: z.2.2.2))]
def zk_ld (z : zk_Z) (i : Nat) (ok : Nat → Bool) : Option (List (Option Nat × zk_Z)) := match zk_loc i z.2.2.1 with
  | some t => match ok t.1 with
    | true => some [(none, (z.1, z.2.1, z.2.2.1, t :: z.2.2.2))]
    | false => none
  | none => none
def zk_to1 (nL : Nat) (z : zk_Z) (i : Nat) (ok : Nat → Bool) : Option (List (Option Nat × zk_Z)) := match z.2.2.2 with
  | t :: r => match ok t.1 && Nat.blt i nL with
    | true => some [(none, (z.1, z.2.1, (i, t) :: z.2.2.1.filter (zk_keep i), r))]
    | false => none
  | [] => none
def zk_to2 (nL : Nat) (z : zk_Z) (i : Nat) : Option (List (Option Nat × zk_Z)) := match z.2.2.2 with
  | t :: r => match Nat.beq t.1 1 && Nat.blt (i + 1) nL with
    | true => some [(none, (z.1, z.2.1, (i, t) :: z.2.2.1.filter (fun q => zk_keep i q && !(Nat.beq q.1 (i + 1))), r))]
    | false => none
  | [] => none
def zk_isI (n : Nat) : Bool := Nat.beq n 0
def zk_isL (n : Nat) : Bool := Nat.beq n 1
def zk_isR (n : Nat) : Bool := Nat.ble 2 n && Nat.ble n 4
def zk_one (n : Nat) : Bool := !(Nat.beq n 1)
def zk_inc (nL : Nat) (z : zk_Z) (i : Nat) (n : Int) : Option (List (Option Nat × zk_Z)) := match zk_loc i z.2.2.1 with
  | some t => match zk_isI t.1 && Nat.blt i nL with
    | true => some [(none, ((zk_norm z.1 (t.2.2.1, t.2.2.2 + n)).2, z.2.1, (i, (0, 0, (zk_norm z.1 (t.2.2.1, t.2.2.2 + n)).1)) :: z.2.2.1.filter (zk_keep i), z.2.2.2))]
    | false => none
  | none => none
def zk_sA (nL : Nat) (q : zk_I) (z : zk_Z) : Option (List (Option Nat × zk_Z)) := match q.2.1 with
  | .iconst _ => zk_pu z 0 (zk_c q.2.2.2.2.2.2)
  | .bipush _ => zk_pu z 0 (zk_c q.2.2.2.2.2.2)
  | .sipush _ => zk_pu z 0 (zk_c q.2.2.2.2.2.2)
  | .ldc _ => match Nat.beq q.2.2.2.2.2.1 79 with
    | true => none
    | false => zk_pu z 0 (zk_c q.2.2.2.2.2.2)
  | .ldc_w _ => zk_pu z 0 (zk_c q.2.2.2.2.2.2)
  | .lconst _ => zk_pu z 1 (zk_c q.2.2.2.2.2.2)
  | .ldc2_w _ => zk_pu z 1 (zk_c q.2.2.2.2.2.2)
  | .aconst_null => zk_pu z 2 (zk_c 0)
  | .iload i => zk_ld z i zk_isI
  | .iload_n i => zk_ld z i.val zk_isI
  | .lload i => zk_ld z i zk_isL
  | .lload_n i => zk_ld z i.val zk_isL
  | .aload i => zk_ld z i zk_isR
  | .aload_n i => zk_ld z i.val zk_isR
  | .istore i => zk_to1 nL z i zk_isI
  | .istore_n i => zk_to1 nL z i.val zk_isI
  | .astore i => zk_to1 nL z i zk_isR
  | .astore_n i => zk_to1 nL z i.val zk_isR
  | .lstore i => zk_to2 nL z i
  | .lstore_n i => zk_to2 nL z i.val
  | .iinc i n => zk_inc nL z i n
  | .dup => match z.2.2.2 with
    | t :: r => match zk_one t.1 with
      | true => some [(none, (z.1, z.2.1, z.2.2.1, t :: t :: r))]
      | false => none
    | _ => none
  | .dup_x1 => match z.2.2.2 with
    | t :: u :: r => match zk_one t.1 && zk_one u.1 with
      | true => some [(none, (z.1, z.2.1, z.2.2.1, t :: u :: t :: r))]
      | false => none
    | _ => none
  | .dup2 => match z.2.2.2 with
    | t :: u :: r => match zk_one t.1 && zk_one u.1 with
      | true => some [(none, (z.1, z.2.1, z.2.2.1, t :: u :: t :: u :: r))]
      | false => none
    | _ => none
  | .pop => match z.2.2.2 with
    | t :: r => match zk_one t.1 with
      | true => some [(none, (z.1, z.2.1, z.2.2.1, r))]
      | false => none
    | _ => none
  | .pop2 => match z.2.2.2 with
    | t :: r => match zk_isL t.1 with
      | true => some [(none, (z.1, z.2.1, z.2.2.1, r))]
      | false => none
    | _ => none
  | .goto _ => some [(some q.2.2.2.2.1, z)]
  | _ => none
/-- what the words of a row say, of these instructions -/
def zk_kA (own : String) (tb : List Jvm.Cond) (q : zk_I) : Prop := match q.2.1 with
  | .iconst n => q.2.2.1 = 1 ∧ Int32.ofInt n = Int32.ofInt q.2.2.2.2.2.2
  | .bipush n => q.2.2.1 = 2 ∧ (Int8.ofInt n).toInt32 = Int32.ofInt q.2.2.2.2.2.2
  | .sipush n => q.2.2.1 = 3 ∧ (Int16.ofInt n).toInt32 = Int32.ofInt q.2.2.2.2.2.2
  | .ldc i => q.2.2.1 = 2 ∧ (Nat.beq q.2.2.2.2.2.1 79 = false → Cond.constant own i (Int32.ofInt q.2.2.2.2.2.2) ∈ tb)
  | .ldc_w i => q.2.2.1 = 3 ∧ Cond.constant own i (Int32.ofInt q.2.2.2.2.2.2) ∈ tb
  | .lconst n => q.2.2.1 = 1 ∧ Int64.ofNat (n : Nat) = Int64.ofInt q.2.2.2.2.2.2
  | .ldc2_w i => q.2.2.1 = 3 ∧ Cond.constantLong own i (Int64.ofInt q.2.2.2.2.2.2) ∈ tb
  | .aconst_null => q.2.2.1 = 1
  | .iload _ => q.2.2.1 = 2
  | .iload_n _ => q.2.2.1 = 1
  | .lload _ => q.2.2.1 = 2
  | .lload_n _ => q.2.2.1 = 1
  | .aload _ => q.2.2.1 = 2
  | .aload_n _ => q.2.2.1 = 1
  | .istore _ => q.2.2.1 = 2
  | .istore_n _ => q.2.2.1 = 1
  | .astore _ => q.2.2.1 = 2
  | .astore_n _ => q.2.2.1 = 1
  | .lstore _ => q.2.2.1 = 2
  | .lstore_n _ => q.2.2.1 = 1
  | .iinc _ _ => q.2.2.1 = 3
  | .dup => q.2.2.1 = 1
  | .dup_x1 => q.2.2.1 = 1
  | .dup2 => q.2.2.1 = 1
  | .pop => q.2.2.1 = 1
  | .pop2 => q.2.2.1 = 1
  | .goto off => q.2.2.1 = 3 ∧ (q.1 : Int) + off = (q.2.2.2.2.1 : Int)
  | _ => True
def zk_tg (q : zk_I) (t : Option Nat) : Nat := match t with
  | none => q.1 + q.2.2.1
  | some t => t
section ZA
variable {p : Program} {l : Launch} {e : Env} {R : Room} {s : State} {m : MethodId} {args : Array Value} {below : List Frame} {meth : Method} {c : Code} {cells slots : Nat} {Q : State → Prop}
variable {dC : Nat → ClassId} {dI : Nat → Nat → Nat} {cl : List vw_C} {ad st : Nat → Nat} {cid : zk_CI} {ba : Nat} {ly : List (Nat × Nat)} {nL : Nat} {H0 : Heap} {E : zk_E} {H : Heap} {locs : List Loc} {ls : Array Slot} {stk : List Value}
variable {cc : ByteArray} {own : String} {tb : List Jvm.Cond} {q : zk_I} {z : zk_Z} {L : List (Option Nat × zk_Z)}
abbrev zk_W (p : Program) (l : Launch) (e : Env) (R : Room) (s : State) (m : MethodId) (args : Array Value) (below : List Frame) (meth : Method) (c : Code) (cells slots : Nat) (Q : State → Prop) : zk_X := fun H locs pc ls stk => W p l e R s m args below meth c H locs cells slots Q (F0 m pc ls stk)
theorem zk_pu_ok {tg : Nat} {v : zk_V} (h : zk_At dC dI cl ad st cid ba ly nL H0 E z H locs ls stk) (he : zk_pu z tg v = some L) (hv : zk_sv z.1.1 v) {X : zk_X} (hg : ∀ r ∈ L, zk_go X (zk_At dC dI cl ad st cid ba ly nL H0) E z.1.1 r.2 (zk_tg q r.1)) : X H locs (q.1 + q.2.2.1) ls (zk_v E ad st (tg, 0, v) :: stk) := by
  cases he
  obtain ⟨E', hP, hX⟩ := zk_push (tg := tg) (k := 0) (P := fun w => w = zk_i E v) h (zk_old_to h.1.1 h.1.2.1 hv rfl) (fun t ht => ht) (hg _ List.mem_cons_self)
  have e1 : zk_v E' ad st (tg, 0, v) = zk_v E ad st (tg, 0, v) := by unfold zk_v; simp only [hP]
  rw [e1, ← h.2.1.2.2.2] at hX
  exact hX
theorem zk_ld_ok {i : Nat} {ok : Nat → Bool} (h : zk_At dC dI cl ad st cid ba ly nL H0 E z H locs ls stk) (he : zk_ld z i ok = some L) {X : zk_X} (hg : ∀ r ∈ L, zk_go X (zk_At dC dI cl ad st cid ba ly nL H0) E z.1.1 r.2 (zk_tg q r.1)) : ∃ t, ok t.1 = true ∧ ls[i]? = some (.val (zk_v E ad st t)) ∧ X H locs (q.1 + q.2.2.1) ls (zk_v E ad st t :: stk) := by
  unfold zk_ld at he
  split at he
  · rename_i t ht
    split at he
    · rename_i hok
      cases he
      refine ⟨t, hok, zk_loc_at h.2.1.2.2.1 ht, ?_⟩
      have hX := zk_same (r := t :: z.2.2.2) h (fun u hu => by
        rcases List.mem_cons.mp hu with rfl | hu
        · exact h.2.1.1 _ (zk_loc_mem ht)
        · exact h.2.1.2.1 u hu) (hg _ List.mem_cons_self)
      rw [List.map_cons, ← h.2.1.2.2.2] at hX
      exact hX
    · cases he
  · cases he
/-- the locals told anew -/
theorem zk_locs {N : zk_N} {hp : List zk_C} {lc lc' : List (Nat × zk_T)} {sk r : List zk_T} {pc : Nat} {X : zk_X} (h : zk_At dC dI cl ad st cid ba ly nL H0 E (N, hp, lc, sk) H locs ls stk) (hl : ∀ u ∈ lc', zk_tv N.1 u.2) (hr : ∀ t ∈ r, t ∈ sk)
    (hg : zk_go X (zk_At dC dI cl ad st cid ba ly nL H0) E N.1 (N, hp, lc', r) pc) (ls' : Array Slot) (hls : lv_has ls' nL (lc'.map fun u => (u.1, zk_v E ad st u.2))) : X H locs pc ls' (r.map (zk_v E ad st)) := by
  obtain ⟨h1, ⟨g1, g2, g3, g4⟩, h3⟩ := h
  exact hg E H locs ls' _ zk_ag_rf (Nat.le_refl _) ⟨h1, ⟨hl, fun t ht => g2 t (hr t ht), hls, rfl⟩, h3⟩
theorem zk_filter_sv {N : zk_N} {lc : List (Nat × zk_T)} {f : Nat × zk_T → Bool} {i : Nat} {t : zk_T} (h : ∀ u ∈ lc, zk_tv N.1 u.2) (ht : zk_tv N.1 t) : ∀ u ∈ (i, t) :: lc.filter f, zk_tv N.1 u.2 := fun u hu => by
  rcases List.mem_cons.mp hu with rfl | hu
  · exact ht
  · exact h u (List.mem_filter.mp hu).1
theorem zk_to1_ok {i : Nat} {ok : Nat → Bool} (h : zk_At dC dI cl ad st cid ba ly nL H0 E z H locs ls stk) (he : zk_to1 nL z i ok = some L) {X : zk_X} (hg : ∀ r ∈ L, zk_go X (zk_At dC dI cl ad st cid ba ly nL H0) E z.1.1 r.2 (zk_tg q r.1)) : ∃ (t : zk_T) (r : List zk_T), ok t.1 = true ∧ i < nL ∧ stk = zk_v E ad st t :: r.map (zk_v E ad st) ∧
    ∀ ls', lv_has ls' nL ((i, zk_v E ad st t) :: (z.2.2.1.map fun u => (u.1, zk_v E ad st u.2)).filter (fun q => !(q.1 == i) && !(q.1 + 1 == i && q.2.category == 2))) → X H locs (q.1 + q.2.2.1) ls' (r.map (zk_v E ad st)) := by
  obtain ⟨N, hp, lc, sk⟩ := z
  unfold zk_to1 at he
  simp only at he
  split at he
  · rename_i t r
    split at he
    · rename_i hok
      simp only [Bool.and_eq_true] at hok
      cases he
      refine ⟨t, r, hok.1, Nat.blt_eq.mp hok.2, by rw [h.2.1.2.2.2]; rfl, fun ls' hls => ?_⟩
      refine zk_locs h (zk_filter_sv h.2.1.1 (h.2.1.2.1 _ List.mem_cons_self)) (fun u hu => List.mem_cons_of_mem _ hu) (hg _ List.mem_cons_self) ls' ?_
      rw [zk_keep_eq] at hls
      exact hls
    · cases he
  · cases he
end ZA
end
