noncomputable section
/-! the rows of constructors held against the tables' words -/
def zb_bB (own : String) (ws nw : List Jvm.Cond) (cl : List vw_C) (PT : List zk_M) (q : zk_I) : Bool := match q.2.1 with
  | .new i => match zk_get cl q.2.2.2.2.1 with
    | some r => Nat.beq q.2.2.1 3 && zk_el (Cond.classLink own i r.1) ws && zk_el (Cond.instantiable r.1 r.2.2) ws && zk_el (Cond.initialized r.1) ws
    | none => false
  | .newarray t => Nat.beq q.2.2.1 2 && zk_el (Cond.arrayClass (newarray.typeOf t)) ws
  | .anewarray i => Nat.beq q.2.2.1 3 && zk_el (Cond.classLink own i "NightLetIn$Shelf") ws
  | .putfield _ => match zk_get cl q.2.2.2.2.1 with
    | some r => decide (r.1 = own)
    | none => true
  | .aastore => Nat.beq q.2.2.1 1
  | .invokespecial i => match Nat.beq q.2.2.2.2.2.1 75 with
    | true => Nat.beq q.2.2.1 3 && zk_el (Cond.methodLink own i Lib.objectInit) ws && zk_el (Cond.instanceMethod Lib.objectInit) ws && zk_el (Cond.code Lib.objectInit ⟨#[0xb1]⟩ 1 none) ws
    | false => match zk_get PT q.2.2.2.2.1 with
      | some M' => Nat.beq q.2.2.1 3 && decide (M'.1.name = "<init>") && zk_el (Cond.instanceMethod M'.1) ws && zk_el (Cond.initialized M'.1.cls) ws && decide (M'.2.2.2.1 = none) && Nat.beq M'.2.2.2.2.1 0 && (zk_el (Cond.methodLink own i M'.1) ws || zk_el (Cond.methodLinkNest own i M'.1 "NightLetIn") nw)
      | none => false
  | _ => true
theorem zb_bB_of {own : String} {ws nw G : List Jvm.Cond} {cl : List vw_C} {PT : List zk_M} {q : zk_I} (hw : ∀ w ∈ ws, w ∈ G) (h : zb_bB own ws nw cl PT q = true) : zb_kB own (G ++ nw) cl q ∧ zb_kI G nw PT own q := by
  obtain ⟨pc, ins, len, ann, qa, qb, qc⟩ := q
  unfold zb_bB at h
  unfold zb_kB zb_kI
  simp only at h ⊢
  split at h
  · split at h
    · rename_i r hr
      simp only [Bool.and_eq_true] at h
      rw [zk_get_eq] at hr
      obtain ⟨⟨⟨h1, h2⟩, h3⟩, h4⟩ := h
      exact ⟨⟨Nat.eq_of_beq_eq_true h1, r, hr, List.mem_append_left _ (hw _ (zk_el_of h2)), List.mem_append_left _ (hw _ (zk_el_of h3)), List.mem_append_left _ (hw _ (zk_el_of h4))⟩, trivial⟩
    · cases h
  · simp only [Bool.and_eq_true] at h
    exact ⟨⟨Nat.eq_of_beq_eq_true h.1, List.mem_append_left _ (hw _ (zk_el_of h.2))⟩, trivial⟩
  · simp only [Bool.and_eq_true] at h
    exact ⟨⟨Nat.eq_of_beq_eq_true h.1, List.mem_append_left _ (hw _ (zk_el_of h.2))⟩, trivial⟩
  · refine ⟨fun r hr => ?_, trivial⟩
    split at h
    · rename_i r' hr'
      rw [zk_get_eq] at hr'
      cases hr.symm.trans hr'
      exact of_decide_eq_true h
    · rename_i hr'
      rw [zk_get_eq] at hr'
      rw [hr] at hr'
      cases hr'
  · exact ⟨Nat.eq_of_beq_eq_true h, trivial⟩
  · split at h
    · rename_i h75
      simp only [Bool.and_eq_true] at h
      obtain ⟨⟨⟨h1, h2⟩, h3⟩, h4⟩ := h
      exact ⟨trivial, Nat.eq_of_beq_eq_true h1, fun _ => ⟨hw _ (zk_el_of h2), hw _ (zk_el_of h3), hw _ (zk_el_of h4)⟩, fun e => by rw [h75] at e; cases e⟩
    · rename_i h75
      split at h
      · rename_i M' hM
        simp only [Bool.and_eq_true, Bool.or_eq_true, decide_eq_true_eq] at h
        rw [zk_get_eq] at hM
        obtain ⟨⟨⟨⟨⟨⟨h1, h2⟩, h3⟩, h4⟩, h5⟩, h6⟩, h7⟩ := h
        refine ⟨trivial, Nat.eq_of_beq_eq_true h1, (fun e => by rw [h75] at e; cases e), fun _ => ⟨M', hM, h2, hw _ (zk_el_of h3), hw _ (zk_el_of h4), h5, Nat.eq_of_beq_eq_true h6, ?_⟩⟩
        rcases h7 with h7 | h7
        · exact Or.inl (hw _ (zk_el_of h7))
        · exact Or.inr ⟨_, zk_el_of h7⟩
      · cases h
  · constructor
    · split <;> first | trivial | (exfalso; simp_all; done)
    · split <;> first | trivial | (exfalso; simp_all; done)
def zb_Mb (T nw : List Jvm.Cond) (cl : List vw_C) (PT : List zk_M) (gw : List (Nat × Jvm.Cond)) (M : zk_M) : Bool := zk_wok gw T && M.2.2.2.2.2.1.all (zb_bB M.1.cls (gw.map (·.2)) nw cl PT)
theorem zb_Mb_of {T nw : List Jvm.Cond} {cl : List vw_C} {PT : List zk_M} {gw : List (Nat × Jvm.Cond)} {M : zk_M} (h : zb_Mb T nw cl PT gw M = true) : ∀ v ∈ M.2.2.2.2.2.1, zb_kB M.1.cls (T.filter goodWord ++ nw) cl v ∧ zb_kI (T.filter goodWord) nw PT M.1.cls v := by
  unfold zb_Mb at h
  simp only [Bool.and_eq_true] at h
  intro v hv
  refine zb_bB_of (fun w hw => ?_) (List.all_eq_true.mp h.2 v hv)
  obtain ⟨p, hp, rfl⟩ := List.mem_map.mp hw
  exact zk_wok_of h.1 p hp
/-! A LONG METHOD HELD IN PIECES -/
/-- all that the words say of a row -/
def zb_Rp (G nw : List Jvm.Cond) (cl : List vw_C) (tab : zk_Tab) (PT : List zk_M) (M : zk_M) (q : zk_I) : Prop := (decode M.2.1 q.1 = .ok (q.2.1, q.2.2.1) ∧ zk_kA M.1.cls (G ++ nw) q ∧ zk_kC q ∧ zk_kE M.1.cls (G ++ nw) cl tab q ∧ zk_kK G nw cl PT M.1.cls q) ∧ zb_kB M.1.cls (G ++ nw) cl q ∧ zb_kI G nw PT M.1.cls q
def zb_pc (T nw : List Jvm.Cond) (cl : List vw_C) (tab : zk_Tab) (PT : List zk_M) (gw : List (Nat × Jvm.Cond)) (M : zk_M) (l : List zk_I) : Bool := zk_wok gw T && l.all fun q => decide (decode M.2.1 q.1 = .ok (q.2.1, q.2.2.1)) && zk_bA M.1.cls (gw.map (·.2)) q && zk_bC q && zk_bE M.1.cls (gw.map (·.2)) nw cl tab q && zk_bK M.1.cls (gw.map (·.2)) nw cl PT q && zb_bB M.1.cls (gw.map (·.2)) nw cl PT q
theorem zb_pc_of {T nw : List Jvm.Cond} {cl : List vw_C} {tab : zk_Tab} {PT : List zk_M} {gw : List (Nat × Jvm.Cond)} {M : zk_M} {l : List zk_I} (h : zb_pc T nw cl tab PT gw M l = true) : ∀ q ∈ l, zb_Rp (T.filter goodWord) nw cl tab PT M q := by
  unfold zb_pc at h
  simp only [Bool.and_eq_true] at h
  obtain ⟨h2, h5⟩ := h
  have hw : ∀ w ∈ gw.map (·.2), w ∈ T.filter goodWord := fun w hw => by
    obtain ⟨p, hp, rfl⟩ := List.mem_map.mp hw
    exact zk_wok_of h2 p hp
  intro q hq
  have g := List.all_eq_true.mp h5 q hq
  simp only [Bool.and_eq_true, decide_eq_true_eq] at g
  obtain ⟨⟨⟨⟨⟨g1, g2⟩, g3⟩, g4⟩, g5⟩, g6⟩ := g
  exact ⟨⟨g1, zk_bA_of (fun w h => List.mem_append_left _ (hw w h)) g2, zk_bC_of g3, zk_bE_of hw g4, zk_bK_of hw g5⟩, zb_bB_of hw g6⟩
theorem zb_cut {α : Type} {P : α → Prop} {l : List α} {n : Nat} (hl : l.length ≤ 60 * n) (h : ∀ j, j < n → ∀ q ∈ (l.drop (60 * j)).take 60, P q) : ∀ q ∈ l, P q := by
  intro q hq
  obtain ⟨i, hi, e⟩ := List.getElem_of_mem hq
  refine h (i / 60) (by omega) q (List.mem_of_getElem? (i := i % 60) ?_)
  rw [List.getElem?_take, if_pos (Nat.mod_lt _ (by omega)), List.getElem?_drop, show 60 * (i / 60) + i % 60 = i by omega, List.getElem?_eq_getElem hi, e]
end
