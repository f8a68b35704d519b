noncomputable section
/-! A METHOD'S ROWS HELD AGAINST ITS BYTES AND THE TABLES' WORDS, by a program -/
/-- a word's kind and number, to be looked at first -/
def zk_wt (w : Jvm.Cond) : Nat := match w with
  | .fieldLink _ i _ _ _ => 16 * i + 1
  | .methodLink _ i _ => 16 * i + 2
  | .instanceMethod .. => 3
  | .selects .. => 4
  | .code _ _ m _ => 16 * m + 5
  | .initialized _ => 6
  | .constant _ i _ => 16 * i + 7
  | .classLink _ i _ => 16 * i + 8
  | _ => 0
def zk_el (w : Jvm.Cond) (ws : List Jvm.Cond) : Bool := ws.any fun v => Nat.beq (zk_wt v) (zk_wt w) && decide (v = w)
theorem zk_el_of {w : Jvm.Cond} {ws : List Jvm.Cond} (h : zk_el w ws = true) : w ∈ ws := by
  obtain ⟨v, hv, e⟩ := List.any_eq_true.mp h
  rw [Bool.and_eq_true] at e
  rw [← of_decide_eq_true e.2]
  exact hv
/-- words by their gaps in a long list -/
def zk_wok : List (Nat × Jvm.Cond) → List Jvm.Cond → Bool
  | [], _ => true
  | _ :: _, [] => false
  | (0, w) :: l, t :: ts => decide (w = t) && goodWord t && zk_wok l ts
  | (g + 1, w) :: l, _ :: ts => zk_wok ((g, w) :: l) ts
theorem zk_wok_of : ∀ {T : List Jvm.Cond} {ws : List (Nat × Jvm.Cond)}, zk_wok ws T = true → ∀ p ∈ ws, p.2 ∈ T.filter goodWord
  | _, [], _, p, hp => absurd hp List.not_mem_nil
  | [], _ :: _, h, _, _ => by cases h
  | t :: ts, (0, w) :: l, h, p, hp => by
    unfold zk_wok at h
    simp only [Bool.and_eq_true, decide_eq_true_eq] at h
    rcases List.mem_cons.mp hp with rfl | hp
    · rw [show (0, w).2 = t from h.1.1]
      exact List.mem_filter.mpr ⟨List.mem_cons_self, h.1.2⟩
    · have := zk_wok_of h.2 p hp
      rw [List.mem_filter] at this ⊢
      exact ⟨List.mem_cons_of_mem _ this.1, this.2⟩
  | t :: ts, (g + 1, w) :: l, h, p, hp => by
    unfold zk_wok at h
    have := fun p hp => zk_wok_of h p hp
    have hk : ∀ x, x ∈ ts.filter goodWord → x ∈ (t :: ts).filter goodWord := fun x hx => by
      rw [List.mem_filter] at hx ⊢
      exact ⟨List.mem_cons_of_mem _ hx.1, hx.2⟩
    rcases List.mem_cons.mp hp with rfl | hp
    · exact hk _ (this (g, w) List.mem_cons_self)
    · exact hk _ (this p (List.mem_cons_of_mem _ hp))
def zk_bA (own : String) (ws : List Jvm.Cond) (q : zk_I) : Bool := match q.2.1 with
  | .iconst n => Nat.beq q.2.2.1 1 && decide (Int32.ofInt n = Int32.ofInt q.2.2.2.2.2.2)
  | .bipush n => Nat.beq q.2.2.1 2 && decide ((Int8.ofInt n).toInt32 = Int32.ofInt q.2.2.2.2.2.2)
  | .sipush n => Nat.beq q.2.2.1 3 && decide ((Int16.ofInt n).toInt32 = Int32.ofInt q.2.2.2.2.2.2)
  | .ldc i => Nat.beq q.2.2.1 2 && (Nat.beq q.2.2.2.2.2.1 79 || zk_el (Cond.constant own i (Int32.ofInt q.2.2.2.2.2.2)) ws)
  | .ldc_w i => Nat.beq q.2.2.1 3 && zk_el (Cond.constant own i (Int32.ofInt q.2.2.2.2.2.2)) ws
  | .lconst n => Nat.beq q.2.2.1 1 && decide (Int64.ofNat (n : Nat) = Int64.ofInt q.2.2.2.2.2.2)
  | .ldc2_w i => Nat.beq q.2.2.1 3 && zk_el (Cond.constantLong own i (Int64.ofInt q.2.2.2.2.2.2)) ws
  | .aconst_null => Nat.beq q.2.2.1 1
  | .iload _ => Nat.beq q.2.2.1 2
  | .iload_n _ => Nat.beq q.2.2.1 1
  | .lload _ => Nat.beq q.2.2.1 2
  | .lload_n _ => Nat.beq q.2.2.1 1
  | .aload _ => Nat.beq q.2.2.1 2
  | .aload_n _ => Nat.beq q.2.2.1 1
  | .istore _ => Nat.beq q.2.2.1 2
  | .istore_n _ => Nat.beq q.2.2.1 1
  | .astore _ => Nat.beq q.2.2.1 2
  | .astore_n _ => Nat.beq q.2.2.1 1
  | .lstore _ => Nat.beq q.2.2.1 2
  | .lstore_n _ => Nat.beq q.2.2.1 1
  | .iinc _ _ => Nat.beq q.2.2.1 3
  | .dup => Nat.beq q.2.2.1 1
  | .dup_x1 => Nat.beq q.2.2.1 1
  | .dup2 => Nat.beq q.2.2.1 1
  | .pop => Nat.beq q.2.2.1 1
  | .pop2 => Nat.beq q.2.2.1 1
  | .goto off => Nat.beq q.2.2.1 3 && zk_eqi ((q.1 : Int) + off) (q.2.2.2.2.1 : Int)
  | _ => true
theorem zk_bA_of {own : String} {ws tb : List Jvm.Cond} {q : zk_I} (hw : ∀ w ∈ ws, w ∈ tb) (h : zk_bA own ws q = true) : zk_kA own tb q := by
  obtain ⟨pc, ins, len, ann, qa, qb, qc⟩ := q
  unfold zk_bA at h
  unfold zk_kA
  simp only at h ⊢
  split at h <;> (try simp only [Bool.and_eq_true, decide_eq_true_eq] at h) <;> first
    | exact ⟨Nat.eq_of_beq_eq_true h.1, h.2⟩
    | exact ⟨Nat.eq_of_beq_eq_true h.1, hw _ (zk_el_of h.2)⟩
    | exact ⟨Nat.eq_of_beq_eq_true h.1, zk_eqi_of h.2⟩
    | exact ⟨Nat.eq_of_beq_eq_true h.1, fun h79 => hw _ (zk_el_of (by have := h.2; rw [h79, Bool.false_or] at this; exact this))⟩
    | exact Nat.eq_of_beq_eq_true h
    | trivial
    | (split <;> first | trivial | (exfalso; simp_all; done))
def zk_bC (q : zk_I) : Bool := match q.2.1 with
  | .ifCond _ off => Nat.beq q.2.2.1 3 && zk_eqi ((q.1 : Int) + off) (q.2.2.2.2.1 : Int)
  | .if_icmp _ off => Nat.beq q.2.2.1 3 && zk_eqi ((q.1 : Int) + off) (q.2.2.2.2.1 : Int)
  | .ifnull off => Nat.beq q.2.2.1 3 && zk_eqi ((q.1 : Int) + off) (q.2.2.2.2.1 : Int)
  | .ifnonnull off => Nat.beq q.2.2.1 3 && zk_eqi ((q.1 : Int) + off) (q.2.2.2.2.1 : Int)
  | .lcmp => Nat.beq q.2.2.1 1
  | .lookupswitch _ ps => (ps.toList.zip (ps.toList.drop 1)).all (fun (a, next) => a.1 < next.1)
  | _ => true
theorem zk_bC_of {q : zk_I} (h : zk_bC q = true) : zk_kC q := by
  obtain ⟨pc, ins, len, ann, qa, qb, qc⟩ := q
  unfold zk_bC at h
  unfold zk_kC
  simp only at h ⊢
  split at h <;> (try simp only [Bool.and_eq_true] at h) <;> first
    | exact ⟨Nat.eq_of_beq_eq_true h.1, zk_eqi_of h.2⟩
    | exact Nat.eq_of_beq_eq_true h
    | exact h
    | trivial
    | (split <;> first | trivial | (exfalso; simp_all; done))
def zk_nest (f : String → Jvm.Cond) (nw : List Jvm.Cond) : Bool := zk_el (f "NightLetIn") nw
def zk_bE (own : String) (ws nw : List Jvm.Cond) (cl : List vw_C) (tab : zk_Tab) (q : zk_I) : Bool := match q.2.1 with
  | .getfield i => match zk_get cl q.2.2.2.2.1 with
    | some r => Nat.beq q.2.2.1 3 && Nat.blt q.2.2.2.2.2.1 r.2.2 && decide ((r.2.1 q.2.2.2.2.2.1).1 = r.1) && zk_el (Cond.fieldLink own i r.1 (r.2.1 q.2.2.2.2.2.1).2.1 (r.2.1 q.2.2.2.2.2.1).2.2.1) ws
    | none => false
  | .putfield i => match zk_get cl q.2.2.2.2.1 with
    | some r => Nat.beq q.2.2.1 3 && Nat.blt q.2.2.2.2.2.1 r.2.2 && decide ((r.2.1 q.2.2.2.2.2.1).1 = r.1) && zk_el (Cond.fieldLink own i r.1 (r.2.1 q.2.2.2.2.2.1).2.1 (r.2.1 q.2.2.2.2.2.1).2.2.1) ws && (zk_eqi q.2.2.2.2.2.2 74 || (!(r.2.1 q.2.2.2.2.2.1).2.2.2 && (decide ((r.2.1 q.2.2.2.2.2.1).2.2.1 = "I") || (decide ((r.2.1 q.2.2.2.2.2.1).2.2.1 = "Z") && !(zk_eqi q.2.2.2.2.2.2 0)))))
    | none => false
  | .getstatic i => match zk_get tab q.2.2.2.2.1 with
    | some r => Nat.beq q.2.2.1 3 && (zk_el (Cond.fieldLink own i r.1 r.2.1 "[I") ws || zk_el (Cond.fieldLinkNest own i r.1 r.2.1 "[I" "NightLetIn") nw)
    | none => false
  | .iaload => Nat.beq q.2.2.1 1
  | .laload => Nat.beq q.2.2.1 1
  | .baload => Nat.beq q.2.2.1 1
  | .saload => Nat.beq q.2.2.1 1
  | .aaload => Nat.beq q.2.2.1 1
  | .iastore => Nat.beq q.2.2.1 1
  | .lastore => Nat.beq q.2.2.1 1
  | .bastore => Nat.beq q.2.2.1 1
  | .sastore => Nat.beq q.2.2.1 1
  | .arraylength => Nat.beq q.2.2.1 1
  | _ => true
theorem zk_bE_of {own : String} {ws nw G : List Jvm.Cond} {cl : List vw_C} {tab : zk_Tab} {q : zk_I} (hw : ∀ w ∈ ws, w ∈ G) (h : zk_bE own ws nw cl tab q = true) : zk_kE own (G ++ nw) cl tab q := by
  have hw1 : ∀ w ∈ ws, w ∈ G ++ nw := fun w h => List.mem_append_left _ (hw w h)
  obtain ⟨pc, ins, len, ann, qa, qb, qc⟩ := q
  unfold zk_bE at h
  unfold zk_kE
  simp only at h ⊢
  split at h
  · split at h
    · rename_i r hr
      simp only [Bool.and_eq_true, decide_eq_true_eq] at h
      rw [zk_get_eq] at hr
      exact ⟨Nat.eq_of_beq_eq_true h.1.1.1, r, hr, Nat.blt_eq.mp h.1.1.2, h.1.2, hw1 _ (zk_el_of h.2)⟩
    · cases h
  · split at h
    · rename_i r hr
      simp only [Bool.and_eq_true, Bool.or_eq_true, decide_eq_true_eq, Bool.not_eq_true'] at h
      rw [zk_get_eq] at hr
      obtain ⟨⟨⟨⟨h1, h2⟩, h3⟩, h4⟩, h56⟩ := h
      refine ⟨Nat.eq_of_beq_eq_true h1, r, hr, Nat.blt_eq.mp h2, h3, hw1 _ (zk_el_of h4), ?_⟩
      rcases h56 with h56 | ⟨h5, h6⟩
      · exact Or.inl (zk_eqi_of h56)
      refine Or.inr ⟨h5, ?_⟩
      rcases h6 with h6 | h6
      · exact Or.inl h6
      · refine Or.inr ⟨h6.1, fun e => ?_⟩
        subst e
        exact absurd h6.2 (by decide)
    · cases h
  · split at h
    · rename_i r hr
      simp only [Bool.and_eq_true, Bool.or_eq_true] at h
      rw [zk_get_eq] at hr
      refine ⟨Nat.eq_of_beq_eq_true h.1, r, hr, ?_⟩
      rcases h.2 with h2 | h2
      · exact Or.inl (hw1 _ (zk_el_of h2))
      · exact Or.inr ⟨_, List.mem_append_right _ (zk_el_of h2)⟩
    · cases h
  all_goals first
    | exact Nat.eq_of_beq_eq_true h
    | trivial
    | (split <;> first | trivial | (exfalso; simp_all; done))
def zk_bK (own : String) (ws nw : List Jvm.Cond) (cl : List vw_C) (PT : List zk_M) (q : zk_I) : Bool := match q.2.1 with
  | .invokestatic i => match Nat.beq q.2.2.2.2.2.1 77 with
    | true => Nat.beq q.2.2.1 3 && zk_el (Cond.methodLink own i arraycopyName) ws && zk_el (Cond.native arraycopyName) ws && zk_el (Cond.static arraycopyName) ws && zk_el (Cond.initialized "java/lang/System") ws
    | false => match zk_m3 q.2.2.2.2.2.1 with
      | true => Nat.beq q.2.2.1 3 && (zk_mw own i q.2.2.2.2.2.1).all fun w => zk_el w ws
      | false => match zk_get PT q.2.2.2.2.1 with
        | some M' => Nat.beq q.2.2.1 3 && zk_el (Cond.static M'.1) ws && zk_el (Cond.initialized M'.1.cls) ws && (zk_el (Cond.methodLink own i M'.1) ws || zk_el (Cond.methodLinkNest own i M'.1 "NightLetIn") nw)
        | none => false
  | .invokevirtual i => match Nat.beq q.2.2.2.2.2.1 78 with
    | true => Nat.beq q.2.2.1 3 && decide (own = "NightLetIn$Reader") && Nat.beq i 59 && zk_sw.all fun w => zk_el w ws
    | false => match zk_get PT q.2.2.2.2.1, zk_get cl q.2.2.2.2.2.2.toNat with
      | some M', some r => Nat.beq q.2.2.1 3 && zk_el (Cond.instanceMethod M'.1) ws && zk_el (Cond.selects M'.1.cls M'.1 M'.1) ws && zk_el (Cond.initialized M'.1.cls) ws && zk_el (Cond.methodLink own i M'.1) ws && decide (r.1 = M'.1.cls)
      | _, _ => false
  | .iaload => match Nat.beq q.2.2.2.2.2.1 76 with
    | true => Nat.beq q.2.2.1 1 && decide (own = "NightLetInLaw")
    | false => true
  | .arraylength => match Nat.beq q.2.2.2.2.2.1 76 with
    | true => Nat.beq q.2.2.1 1 && decide (own = "NightLetInLaw")
    | false => true
  | .ldc i => match Nat.beq q.2.2.2.2.2.1 79 with
    | true => Nat.beq q.2.2.1 2 && decide (own = "NightLetIn$Reader") && Nat.beq i 57
    | false => true
  | .ireturn => Nat.beq q.2.2.1 1
  | .lreturn => Nat.beq q.2.2.1 1
  | .areturn => Nat.beq q.2.2.1 1
  | .return_ => Nat.beq q.2.2.1 1
  | _ => true
theorem zk_bK_of {own : String} {ws nw G : List Jvm.Cond} {cl : List vw_C} {PT : List zk_M} {q : zk_I} (hw : ∀ w ∈ ws, w ∈ G) (h : zk_bK own ws nw cl PT q = true) : zk_kK G nw cl PT own q := by
  obtain ⟨pc, ins, len, ann, qa, qb, qc⟩ := q
  unfold zk_bK at h
  unfold zk_kK
  simp only at h ⊢
  split at h
  · split at h
    · rename_i h77
      simp only [Bool.and_eq_true] at h
      obtain ⟨⟨⟨⟨h1, h2⟩, h3⟩, h4⟩, h5⟩ := h
      exact ⟨Nat.eq_of_beq_eq_true h1, fun _ => ⟨hw _ (zk_el_of h2), hw _ (zk_el_of h3), hw _ (zk_el_of h4), hw _ (zk_el_of h5)⟩, (fun e => by rw [Nat.eq_of_beq_eq_true h77] at e; exact absurd e (by decide)), fun e => by rw [h77] at e; cases e⟩
    · rename_i h77
      split at h
      · rename_i h3
        simp only [Bool.and_eq_true] at h
        exact ⟨Nat.eq_of_beq_eq_true h.1, (fun e => by rw [h77] at e; cases e), (fun _ w hws => hw _ (zk_el_of (List.all_eq_true.mp h.2 w hws))), fun _ e => by rw [h3] at e; cases e⟩
      · rename_i hm3
        split at h
        · rename_i M' hM
          simp only [Bool.and_eq_true, Bool.or_eq_true] at h
          rw [zk_get_eq] at hM
          obtain ⟨⟨⟨h1, h2⟩, h3⟩, h4⟩ := h
          refine ⟨Nat.eq_of_beq_eq_true h1, (fun e => by rw [h77] at e; cases e), (fun e => by rw [hm3] at e; cases e), fun _ _ => ⟨M', hM, hw _ (zk_el_of h2), hw _ (zk_el_of h3), ?_⟩⟩
          rcases h4 with h4 | h4
          · exact Or.inl (hw _ (zk_el_of h4))
          · exact Or.inr ⟨_, zk_el_of h4⟩
        · cases h
  · split at h
    · rename_i h78
      simp only [Bool.and_eq_true, decide_eq_true_eq] at h
      obtain ⟨⟨⟨h1, h2⟩, h3⟩, h4⟩ := h
      exact ⟨Nat.eq_of_beq_eq_true h1, fun _ => ⟨h2, Nat.eq_of_beq_eq_true h3, fun w hws => hw _ (zk_el_of (List.all_eq_true.mp h4 w hws))⟩, fun e => by rw [h78] at e; cases e⟩
    · rename_i h78
      split at h
      · rename_i M' r hM hr
        simp only [Bool.and_eq_true, decide_eq_true_eq] at h
        rw [zk_get_eq] at hM hr
        obtain ⟨⟨⟨⟨⟨h1, h2⟩, h3⟩, h4⟩, h5⟩, h6⟩ := h
        exact ⟨Nat.eq_of_beq_eq_true h1, (fun e => by rw [h78] at e; cases e), fun _ => ⟨M', r, hM, hw _ (zk_el_of h2), hw _ (zk_el_of h3), hw _ (zk_el_of h4), hw _ (zk_el_of h5), hr, h6⟩⟩
      · cases h
  · split at h
    · simp only [Bool.and_eq_true, decide_eq_true_eq] at h
      exact fun _ => ⟨Nat.eq_of_beq_eq_true h.1, h.2⟩
    · rename_i h76
      exact fun e => by rw [h76] at e; cases e
  · split at h
    · simp only [Bool.and_eq_true, decide_eq_true_eq] at h
      exact fun _ => ⟨Nat.eq_of_beq_eq_true h.1, h.2⟩
    · rename_i h76
      exact fun e => by rw [h76] at e; cases e
  · split at h
    · simp only [Bool.and_eq_true, decide_eq_true_eq] at h
      exact fun _ => ⟨Nat.eq_of_beq_eq_true h.1.1, h.1.2, Nat.eq_of_beq_eq_true h.2⟩
    · rename_i h79
      exact fun e => by rw [h79] at e; cases e
  all_goals first
    | exact Nat.eq_of_beq_eq_true h
    | trivial
    | (split <;> first | trivial | (exfalso; simp_all; done))
/-- a method held whole -/
def zk_Mb (T nw : List Jvm.Cond) (cl : List vw_C) (tab : zk_Tab) (PT : List zk_M) (gw : List (Nat × Jvm.Cond)) (M : zk_M) : Bool :=
  plainName M.1.cls && zk_wok gw T && (decide (M.1.cls = "NightLetInLaw") || zk_el (zk_code M) (gw.map (·.2))) && decide (M.1.cls ≠ "java/lang/invoke/MethodHandle" ∧ M.1.cls ≠ "java/lang/invoke/VarHandle" ∧ (parseMethodDescriptor M.1.desc).map (fun d => d.parameters.length) = some M.2.2.2.2.1) &&
  M.2.2.2.2.2.1.all fun q => decide (decode M.2.1 q.1 = .ok (q.2.1, q.2.2.1)) && zk_bA M.1.cls (gw.map (·.2)) q && zk_bC q && zk_bE M.1.cls (gw.map (·.2)) nw cl tab q && zk_bK M.1.cls (gw.map (·.2)) nw cl PT q
theorem zk_Mb_of {T nw : List Jvm.Cond} {cl : List vw_C} {tab : zk_Tab} {PT : List zk_M} {gw : List (Nat × Jvm.Cond)} {M : zk_M} (h : zk_Mb T nw cl tab PT gw M = true) : zk_Mok (T.filter goodWord) nw cl tab PT M := by
  unfold zk_Mb at h
  simp only [Bool.and_eq_true, Bool.or_eq_true, decide_eq_true_eq] at h
  obtain ⟨⟨⟨⟨h1, h2⟩, h3⟩, h4⟩, h5⟩ := h
  have hw : ∀ w ∈ gw.map (·.2), w ∈ T.filter goodWord := fun w hw => by
    obtain ⟨p, hp, rfl⟩ := List.mem_map.mp hw
    exact zk_wok_of h2 p hp
  refine ⟨h1, fun hne => hw _ (zk_el_of (h3.resolve_left hne)), h4, fun q hq => ?_⟩
  have g := List.all_eq_true.mp h5 q hq
  simp only [Bool.and_eq_true, decide_eq_true_eq] at g
  obtain ⟨⟨⟨⟨g1, g2⟩, g3⟩, g4⟩, g5⟩ := g
  exact ⟨g1, zk_bA_of (fun w h => List.mem_append_left _ (hw w h)) g2, zk_bC_of g3, zk_bE_of hw g4, zk_bK_of hw g5⟩
end
