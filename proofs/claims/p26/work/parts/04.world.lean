noncomputable section
/-! VALUES, CELLS, WORLDS, as words that a program reads -/
/-- a value: 0 an int, 1 a long (the sum), 2 null, 3 a cell, 4 a table of a class (its number) -/
abbrev zk_T : Type := Nat × Nat × zk_V
/-- a cell: 0 an object (its class, its fields), else a row (1 ints, 2 longs, 3 bytes, 4 shorts: length, its symbol first; 5 references: length, all of them) -/
abbrev zk_C : Type := Nat × Nat × List zk_T
noncomputable def zk_get {α : Type} (l : List α) (n : Nat) : Option α := List.rec (motive := fun _ => Nat → Option α) (fun _ => none) (fun a _ ih n => Nat.rec (motive := fun _ => Option α) (some a) (fun m _ => ih m) n) l n
theorem zk_get_eq {α : Type} : ∀ (l : List α) (n : Nat), zk_get l n = l[n]?
  | [], n => by
    show none = _
    simp
  | a :: l, 0 => by
    show some a = _
    simp
  | a :: l, n + 1 => by
    show zk_get l n = _
    rw [zk_get_eq l n]
    simp
noncomputable def zk_put {α : Type} (x : α) (l : List α) (n : Nat) : List α := List.rec (motive := fun _ => Nat → List α) (fun _ => []) (fun a l ih n => Nat.rec (motive := fun _ => List α) (x :: l) (fun m _ => a :: ih m) n) l n
theorem zk_put_eq {α : Type} (x : α) : ∀ (l : List α) (n : Nat), zk_put x l n = l.set n x
  | [], n => by
    show [] = _
    simp
  | a :: l, 0 => by
    show x :: l = _
    simp
  | a :: l, n + 1 => by
    show a :: zk_put x l n = _
    rw [zk_put_eq x l n]
    simp
def zk_hd : List zk_T → Nat
  | [] => 0
  | t :: _ => t.2.1
def zk_v (E : zk_E) (ad st : Nat → Nat) (t : zk_T) : Value := match t.1 with
  | 0 => .int (Int32.ofInt (zk_i E t.2.2))
  | 1 => .long (Int64.ofInt (zk_i E t.2.2))
  | 3 => .ref (ad t.2.1)
  | 4 => .ref (st t.2.1)
  | _ => .null
def zk_rq (ad : Nat → Nat) (t : zk_T) : Option Nat := match t.1 with
  | 3 => some (ad t.2.1)
  | _ => none
/-- which array classes the cells have; what lies in the cells that nobody names -/
abbrev zk_CI : Type := (Nat → ClassId) × (Nat → va_E)
def zk_ce (E : zk_E) (ad st : Nat → Nat) (cid : zk_CI) (k : Nat) (c : zk_C) : va_E := match c.1 with
  | 0 => .inr (c.2.1, c.2.2.map (zk_v E ad st))
  | 2 => .inl (cid.1 k, c.2.1, .inr (.inl fun j => Int64.ofInt (E.2 (zk_hd c.2.2) j)))
  | 5 => .inl (cid.1 k, c.2.1, .inr (.inr (.inr (.inr fun j => zk_rq ad (c.2.2.getD j (2, 0, [], 0))))))
  | 9 => cid.2 k
  | _ => .inl (cid.1 k, c.2.1, .inl fun j => Int32.ofInt (E.2 (zk_hd c.2.2) j))
def zk_ty : Nat → FieldType
  | 2 => .long
  | 3 => .byte
  | 4 => .short
  | 5 => .object "NightLetIn$Shelf"
  | _ => .int
def zk_ws (E : zk_E) (ad st : Nat → Nat) (cid : zk_CI) : Nat → List zk_C → va_W
  | _, [] => []
  | k, c :: l => (ad k, zk_ce E ad st cid k c) :: zk_ws E ad st cid (k + 1) l
theorem zk_ws_at (E : zk_E) (ad st : Nat → Nat) (cid : zk_CI) : ∀ (hp : List zk_C) (k0 k : Nat), (zk_ws E ad st cid k0 hp)[k]? = (hp[k]?).map fun c => (ad (k0 + k), zk_ce E ad st cid (k0 + k) c)
  | [], k0, k => by simp [zk_ws]
  | c :: l, k0, 0 => by simp [zk_ws]
  | c :: l, k0, k + 1 => by
    simp only [zk_ws, List.getElem?_cons_succ]
    rw [zk_ws_at E ad st cid l (k0 + 1) k, show k0 + 1 + k = k0 + (k + 1) by omega]
theorem zk_ws_set (E : zk_E) (ad st : Nat → Nat) (cid : zk_CI) (c : zk_C) : ∀ (hp : List zk_C) (k0 k : Nat), zk_ws E ad st cid k0 (hp.set k c) = (zk_ws E ad st cid k0 hp).set k (ad (k0 + k), zk_ce E ad st cid (k0 + k) c)
  | [], k0, k => by simp [zk_ws]
  | d :: l, k0, 0 => by simp [zk_ws]
  | d :: l, k0, k + 1 => by
    simp only [zk_ws, List.set_cons_succ]
    rw [zk_ws_set E ad st cid c l (k0 + 1) k, show k0 + 1 + k = k0 + (k + 1) by omega]
theorem zk_ws_0 {E : zk_E} {ad st : Nat → Nat} {cid : zk_CI} {hp : List zk_C} {k : Nat} {c : zk_C} (h : hp[k]? = some c) : (zk_ws E ad st cid 0 hp)[k]? = some (ad k, zk_ce E ad st cid k c) := by
  rw [zk_ws_at, h, Nat.zero_add]
  rfl
theorem zk_ws_put {E : zk_E} {ad st : Nat → Nat} {cid : zk_CI} {hp : List zk_C} {k : Nat} {c : zk_C} : zk_ws E ad st cid 0 (hp.set k c) = (zk_ws E ad st cid 0 hp).set k (ad k, zk_ce E ad st cid k c) := by
  rw [zk_ws_set, Nat.zero_add]
def zk_tv (n : Nat) (t : zk_T) : Prop := zk_sv n t.2.2
def zk_cs (n : Nat) (c : zk_C) : Prop := (∀ t ∈ c.2.2, zk_tv n t) ∧ (c.1 ≠ 0 → c.1 ≠ 5 → c.1 ≠ 9 → zk_hd c.2.2 < n)
theorem zk_tv_le {n m : Nat} (h : n ≤ m) {t : zk_T} (ht : zk_tv n t) : zk_tv m t := zk_sv_le h ht
theorem zk_cs_le {n m : Nat} (h : n ≤ m) {c : zk_C} (hc : zk_cs n c) : zk_cs m c := ⟨fun t ht => zk_tv_le h (hc.1 t ht), fun a b d => Nat.lt_of_lt_of_le (hc.2 a b d) h⟩
theorem zk_v_ag {n : Nat} {E E' : zk_E} (ha : zk_ag n E E') {ad st : Nat → Nat} {t : zk_T} (ht : zk_tv n t) : zk_v E' ad st t = zk_v E ad st t := by
  unfold zk_v
  split <;> simp only [zk_i_ag ha ht]
theorem zk_ce_ag {n : Nat} {E E' : zk_E} (ha : zk_ag n E E') {ad st : Nat → Nat} {cid : zk_CI} {k : Nat} {c : zk_C} (hc : zk_cs n c) : zk_ce E' ad st cid k c = zk_ce E ad st cid k c := by
  unfold zk_ce
  split
  · rw [List.map_congr_left fun t ht => zk_v_ag ha (hc.1 t ht)]
  · rename_i h
    rw [(ha _ (hc.2 (by omega) (by omega) (by omega))).2]
  · rfl
  · rfl
  · rename_i h1 h2 h3 h4
    rw [(ha _ (hc.2 (fun q => h1 q) (fun q => h3 q) (fun q => h4 q))).2]
theorem zk_ws_ag {n : Nat} {E E' : zk_E} (ha : zk_ag n E E') {ad st : Nat → Nat} {cid : zk_CI} : ∀ {hp : List zk_C} {k : Nat}, (∀ c ∈ hp, zk_cs n c) → zk_ws E' ad st cid k hp = zk_ws E ad st cid k hp
  | [], _, _ => rfl
  | c :: l, k, h => by
    unfold zk_ws
    rw [zk_ce_ag ha (h c List.mem_cons_self), zk_ws_ag ha fun d hd => h d (List.mem_cons_of_mem _ hd)]
/-- the cells that are told are laid as ly says -/
def zk_lay (hp : List zk_C) (ly : List (Nat × Nat)) : Prop := ∀ (k : Nat) (c : zk_C), hp[k]? = some c → c.1 ≠ 9 → ly[k]? = some (c.1, c.2.1)
theorem zk_lay_map {hp hp' : List zk_C} {ly : List (Nat × Nat)} (h : zk_lay hp ly) (e : hp'.map (fun c => (c.1, c.2.1)) = hp.map fun c => (c.1, c.2.1)) : zk_lay hp' ly := by
  intro k c hk h9
  have e2 := congrArg (fun l => l[k]?) e
  simp only [List.getElem?_map, hk, Option.map_some] at e2
  cases h2 : hp[k]? with
  | none => rw [h2] at e2; cases e2
  | some d =>
    rw [h2] at e2
    simp only [Option.map_some, Option.some.injEq, Prod.mk.injEq] at e2
    rw [e2.1, e2.2]
    exact h k d h2 (by rw [← e2.1]; exact h9)
/-- a heap that holds the cells hp, whose symbols are as N says; all at or behind ba -/
def zk_wd (dC : Nat → ClassId) (dI : Nat → Nat → Nat) (cl : List vw_C) (ad st : Nat → Nat) (cid : zk_CI) (ba : Nat) (ly : List (Nat × Nat)) (E : zk_E) (N : zk_N) (hp : List zk_C) (H : Heap) : Prop :=
  zk_ok E N ∧ zk_cl N ∧ (∀ c ∈ hp, zk_cs N.1 c) ∧ zk_lay hp ly ∧ va_P (dC, dI) cl (zk_ws E ad st cid 0 hp) H ∧ va_D (fun q => ba ≤ q) (zk_ws E ad st cid 0 hp)
theorem zk_wd_to {dC : Nat → ClassId} {dI : Nat → Nat → Nat} {cl : List vw_C} {ad st : Nat → Nat} {cid : zk_CI} {ba : Nat} {ly : List (Nat × Nat)} {E E' : zk_E} {N N' : zk_N} {hp : List zk_C} {H : Heap} (h : zk_wd dC dI cl ad st cid ba ly E N hp H) (ha : zk_ag N.1 E E') (ho : zk_ok E' N') (hc : zk_cl N') (hn : N.1 ≤ N'.1) : zk_wd dC dI cl ad st cid ba ly E' N' hp H := by
  obtain ⟨_, _, h3, h4, h5, h6⟩ := h
  rw [← zk_ws_ag ha h3] at h5 h6
  exact ⟨ho, hc, fun c hcm => zk_cs_le hn (h3 c hcm), h4, h5, h6⟩
/-- a frame's locals and stack -/
def zk_fr (ad st : Nat → Nat) (E : zk_E) (n nL : Nat) (lc : List (Nat × zk_T)) (sk : List zk_T) (ls : Array Slot) (stk : List Value) : Prop :=
  (∀ q ∈ lc, zk_tv n q.2) ∧ (∀ t ∈ sk, zk_tv n t) ∧ lv_has ls nL (lc.map fun q => (q.1, zk_v E ad st q.2)) ∧ stk = sk.map (zk_v E ad st)
theorem zk_fr_to {ad st : Nat → Nat} {E E' : zk_E} {n n' nL : Nat} {lc : List (Nat × zk_T)} {sk : List zk_T} {ls : Array Slot} {stk : List Value} (h : zk_fr ad st E n nL lc sk ls stk) (ha : zk_ag n E E') (hn : n ≤ n') : zk_fr ad st E' n' nL lc sk ls stk := by
  obtain ⟨h1, h2, h3, h4⟩ := h
  have e1 : lc.map (fun q => (q.1, zk_v E' ad st q.2)) = lc.map fun q => (q.1, zk_v E ad st q.2) := List.map_congr_left fun q hq => by rw [zk_v_ag ha (h1 q hq)]
  have e2 : sk.map (zk_v E' ad st) = sk.map (zk_v E ad st) := List.map_congr_left fun t ht => zk_v_ag ha (h2 t ht)
  refine ⟨fun q hq => zk_tv_le hn (h1 q hq), fun t ht => zk_tv_le hn (h2 t ht), ?_, ?_⟩
  · rw [e1]; exact h3
  · rw [e2]; exact h4
def zk_loc (i : Nat) : List (Nat × zk_T) → Option zk_T
  | [] => none
  | q :: l => match Nat.beq q.1 i with
    | true => some q.2
    | false => zk_loc i l
theorem zk_loc_mem {i : Nat} {t : zk_T} : ∀ {lc : List (Nat × zk_T)}, zk_loc i lc = some t → (i, t) ∈ lc
  | [], h => by cases h
  | q :: l, h => by
    unfold zk_loc at h
    split at h
    · rename_i e
      have e := Nat.eq_of_beq_eq_true e
      cases h
      rw [← e]
      exact List.mem_cons_self
    · exact List.mem_cons_of_mem _ (zk_loc_mem h)
theorem zk_loc_at {ad st : Nat → Nat} {E : zk_E} {nL : Nat} {lc : List (Nat × zk_T)} {ls : Array Slot} (h : lv_has ls nL (lc.map fun q => (q.1, zk_v E ad st q.2))) {i : Nat} {t : zk_T} (hi : zk_loc i lc = some t) : ls[i]? = some (.val (zk_v E ad st t)) :=
  h.2.2 (i, zk_v E ad st t) (List.mem_map.mpr ⟨(i, t), zk_loc_mem hi, rfl⟩)
/-- what stays listed when local i is told anew -/
def zk_keep (i : Nat) (q : Nat × zk_T) : Bool := !(Nat.beq q.1 i) && !(Nat.beq (q.1 + 1) i && Nat.beq q.2.1 1)
theorem zk_cat (E : zk_E) (ad st : Nat → Nat) (t : zk_T) : (zk_v E ad st t).category = if t.1 = 1 then 2 else 1 := by
  unfold zk_v
  split <;> simp_all [Value.category]
theorem zk_keep_eq {E : zk_E} {ad st : Nat → Nat} {i : Nat} : ∀ (lc : List (Nat × zk_T)), (lc.map fun q => (q.1, zk_v E ad st q.2)).filter (fun q => !(q.1 == i) && !(q.1 + 1 == i && q.2.category == 2)) = (lc.filter (zk_keep i)).map fun q => (q.1, zk_v E ad st q.2)
  | [] => rfl
  | q :: l => by
    rw [List.map_cons, List.filter_cons, List.filter_cons, zk_keep_eq l]
    have e : (!(q.1 == i) && !(q.1 + 1 == i && (zk_v E ad st q.2).category == 2)) = zk_keep i q := by
      unfold zk_keep
      rw [zk_cat]
      have a0 : ∀ a b : Nat, Nat.beq a b = (a == b) := fun a b => by rw [Bool.eq_iff_iff, Nat.beq_eq]; simp
      rw [a0, a0, a0]
      by_cases h : q.2.1 = 1 <;> simp [h]
    simp only [e]
    split <;> simp
end
