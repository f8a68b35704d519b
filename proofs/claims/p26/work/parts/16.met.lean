noncomputable section
def zk_code (M : zk_M) : Jvm.Cond := .code M.1 M.2.1 M.2.2.1 M.2.2.2.1
def zk_rm (d : Nat) : Room := { frames := d, cells := 0, slots := 0, locals := 64 * d }
/-- what the words of a row say, of calls and ends -/
def zk_kK (G nw : List Jvm.Cond) (cl : List vw_C) (PT : List zk_M) (own : String) (q : zk_I) : Prop := match q.2.1 with
  | .invokestatic i => q.2.2.1 = 3 ∧ (Nat.beq q.2.2.2.2.2.1 77 = true → Cond.methodLink own i arraycopyName ∈ G ∧ Cond.native arraycopyName ∈ G ∧ Cond.static arraycopyName ∈ G ∧ Cond.initialized "java/lang/System" ∈ G) ∧ (zk_m3 q.2.2.2.2.2.1 = true → ∀ w ∈ zk_mw own i q.2.2.2.2.2.1, w ∈ G) ∧ (Nat.beq q.2.2.2.2.2.1 77 = false → zk_m3 q.2.2.2.2.2.1 = false → ∃ M', PT[q.2.2.2.2.1]? = some M' ∧ Cond.static M'.1 ∈ G ∧ Cond.initialized M'.1.cls ∈ G ∧ (Cond.methodLink own i M'.1 ∈ G ∨ ∃ host, Cond.methodLinkNest own i M'.1 host ∈ nw))
  | .invokevirtual i => q.2.2.1 = 3 ∧ (Nat.beq q.2.2.2.2.2.1 78 = true → own = "NightLetIn$Reader" ∧ i = 59 ∧ ∀ w ∈ zk_sw, w ∈ G) ∧ (Nat.beq q.2.2.2.2.2.1 78 = false → ∃ M' r, PT[q.2.2.2.2.1]? = some M' ∧ Cond.instanceMethod M'.1 ∈ G ∧ Cond.selects M'.1.cls M'.1 M'.1 ∈ G ∧ Cond.initialized M'.1.cls ∈ G ∧ Cond.methodLink own i M'.1 ∈ G ∧ cl[q.2.2.2.2.2.2.toNat]? = some r ∧ r.1 = M'.1.cls)
  | .iaload => Nat.beq q.2.2.2.2.2.1 76 = true → q.2.2.1 = 1 ∧ own = "NightLetInLaw"
  | .arraylength => Nat.beq q.2.2.2.2.2.1 76 = true → q.2.2.1 = 1 ∧ own = "NightLetInLaw"
  | .ldc i => Nat.beq q.2.2.2.2.2.1 79 = true → q.2.2.1 = 2 ∧ own = "NightLetIn$Reader" ∧ i = 57
  | .ireturn => q.2.2.1 = 1
  | .lreturn => q.2.2.1 = 1
  | .areturn => q.2.2.1 = 1
  | .return_ => q.2.2.1 = 1
  | _ => True
/-- a method of the table: its name, its words, its rows -/
def zk_Mok (G nw : List Jvm.Cond) (cl : List vw_C) (tab : zk_Tab) (PT : List zk_M) (M : zk_M) : Prop :=
  plainName M.1.cls = true ∧ (M.1.cls ≠ "NightLetInLaw" → zk_code M ∈ G) ∧ (M.1.cls ≠ "java/lang/invoke/MethodHandle" ∧ M.1.cls ≠ "java/lang/invoke/VarHandle" ∧ (parseMethodDescriptor M.1.desc).map (fun d => d.parameters.length) = some M.2.2.2.2.1) ∧
  ∀ q ∈ M.2.2.2.2.2.1, decode M.2.1 q.1 = .ok (q.2.1, q.2.2.1) ∧ zk_kA M.1.cls (G ++ nw) q ∧ zk_kC q ∧ zk_kE M.1.cls (G ++ nw) cl tab q ∧ zk_kK G nw cl PT M.1.cls q
def zk_isNest (w : Jvm.Cond) : Prop := (∃ a i x h, w = Cond.methodLinkNest a i x h) ∨ ∃ a i b n d h, w = Cond.fieldLinkNest a i b n d h
/-- what holds of the machine's tables, whatever runs -/
def zk_S0 (dC : Nat → ClassId) (dI : Nat → Nat → Nat) (cl : List vw_C) (st : Nat → Nat) (cid : zk_CI) (ba : Nat) (ly : List (Nat × Nat)) (tab : zk_Tab) (nw : List Jvm.Cond) (U : State) : Prop := zk_env dC dI cl cid ly U ∧ zk_sta tab st ba U ∧ ∀ w ∈ nw, va_Nw w U
theorem zk_S0_mv {dC : Nat → ClassId} {dI : Nat → Nat → Nat} {cl : List vw_C} {st : Nat → Nat} {cid : zk_CI} {ba : Nat} {ly : List (Nat × Nat)} {tab : zk_Tab} {nw : List Jvm.Cond} (hn : ∀ w ∈ nw, zk_isNest w) {s U : State} (h : zk_S0 dC dI cl st cid ba ly tab nw s) (hW : s.WarmedH U.vm) (hH : ∀ q : Nat, q < s.heap.size → ¬ ba ≤ q → U.heap[q]? = s.heap[q]?) : zk_S0 dC dI cl st cid ba ly tab nw U := by
  obtain ⟨⟨h1, h2⟩, ⟨h3, h5⟩, h4⟩ := h
  refine ⟨⟨va_K.moved hW.alike h1, fun k kd hk => ⟨(h2 k kd hk).1, fun h0 => ⟨arrOfT_moved hW.alike ((h2 k kd hk).2 h0).1, ((h2 k kd hk).2 h0).2.moved hW.alike⟩⟩⟩, ⟨fun k r hr => ?_, zk_str_mv h5 hW hH⟩, fun w hw => ?_⟩
  · obtain ⟨a1, a2, a3⟩ := h3 k r hr
    exact ⟨a1, va_Z.moved hW.alike (a2.kept hH), va_T.moved hW.alike (a3.kept hH)⟩
  · rcases hn w hw with ⟨a, i, x, h, rfl⟩ | ⟨a, i, b, n, d, h, rfl⟩
    · exact va_Nw.warmM hW (h4 _ hw)
    · exact va_Nw.warmF hW (h4 _ hw)
theorem zk_S0_call {dC : Nat → ClassId} {dI : Nat → Nat → Nat} {cl : List vw_C} {st : Nat → Nat} {cid : zk_CI} {ba : Nat} {ly : List (Nat × Nat)} {tab : zk_Tab} {nw : List Jvm.Cond} (hn : ∀ w ∈ nw, zk_isNest w) {U : State} {g : JFrame} {mk : MethodId} {a : Array Value} (h : zk_S0 dC dI cl st cid ba ly tab nw U) : zk_S0 dC dI cl st cid ba ly tab nw (U.calling g mk a) := by
  obtain ⟨⟨h1, h2⟩, ⟨h3, h5⟩, h4⟩ := h
  have hv := Vm.Alike.refl U.vm
  refine ⟨⟨va_K.moved (u := U) (U := U.calling g mk a) hv h1, fun k kd hk => ⟨(h2 k kd hk).1, fun h0 => ⟨arrOfT_moved (u := U) (E := U.calling g mk a) hv ((h2 k kd hk).2 h0).1, va_RA.moved (u := U) (U := U.calling g mk a) hv ((h2 k kd hk).2 h0).2⟩⟩⟩, ⟨fun k r hr => ?_, zk_str_call h5⟩, fun w hw => ?_⟩
  · obtain ⟨a1, a2, a3⟩ := h3 k r hr
    exact ⟨a1, va_Z.moved (u := U) (U := U.calling g mk a) hv a2, va_T.moved (u := U) (U := U.calling g mk a) hv a3⟩
  · rcases hn w hw with ⟨a', i, x, h, rfl⟩ | ⟨a', i, b, n, d, h, rfl⟩
    · exact va_tabs (u := U) (U := U.calling g mk a) rfl rfl (h4 _ hw)
    · exact va_tabs (u := U) (U := U.calling g mk a) rfl rfl (h4 _ hw)
/-- the ends of a method, as its contract says them -/
def zk_QX (dC : Nat → ClassId) (dI : Nat → Nat → Nat) (cl : List vw_C) (ad st : Nat → Nat) (cid : zk_CI) (ba : Nat) (ly : List (Nat × Nat)) (E0 : zk_E) (n0 : Nat) (L : List zk_Ex) : Array Value → State → Outcome → State → Prop := fun _ s oc t =>
  (∃ X ∈ L, ∃ E', zk_ag n0 E0 E' ∧ n0 ≤ X.1.1 ∧ oc = .returned (X.2.2.map (zk_v E' ad st)) ∧ zk_wd dC dI cl ad st cid ba ly E' X.1 X.2.1 t.heap ∧ ∀ u, X.2.2 = some u → zk_tv X.1.1 u) ∧ va_F (fun q => ba ≤ q) s t
/-- the frame of a method that runs -/
def zk_Fr (dC : Nat → ClassId) (dI : Nat → Nat → Nat) (cl : List vw_C) (st : Nat → Nat) (cid : zk_CI) (ba : Nat) (ly : List (Nat × Nat)) (tab : zk_Tab) (G nw : List Jvm.Cond) (M : zk_M) (p : Program) (s : State) (m : MethodId) (args : Array Value) (meth : Method) (c : Code) : Prop :=
  p.tables.exec = Jvm.exec ∧ c.code = M.2.1 ∧ c.maxLocals = M.2.2.1 ∧ meth.sig.returnType = M.2.2.2.1 ∧ meth.locks = false ∧ s.vm.findClass M.1.cls = some m.cls ∧ (∀ w ∈ G, w.before args s = true) ∧ zk_S0 dC dI cl st cid ba ly tab nw s
theorem zk_args_eq (E : zk_E) (ad st : Nat → Nat) : ∀ (as : List zk_T) (i : Nat), lv_args i (as.map (zk_v E ad st)) = (zk_args i as).map fun q => (q.1, zk_v E ad st q.2)
  | [], i => rfl
  | t :: l, i => by
    simp only [List.map_cons, lv_args, zk_args]
    rw [zk_args_eq E ad st l]
    congr 2
    rw [zk_cat]
    by_cases h : t.1 = 1
    · rw [if_pos h, h]; rfl
    · rw [if_neg h]
      have : Nat.beq t.1 1 = false := by rw [Bool.eq_false_iff]; exact fun g => h (Nat.eq_of_beq_eq_true g)
      rw [this]; simp
theorem zk_slots_eq (E : zk_E) (ad st : Nat → Nat) : ∀ (as : List zk_T), (lg_sl (as.map (zk_v E ad st))).length = zk_slots as
  | [] => rfl
  | t :: l => by
    have ih := zk_slots_eq E ad st l
    simp only [lg_sl, List.map_cons, List.flatMap_cons, List.length_append, zk_slots] at ih ⊢
    rw [ih, zk_cat]
    by_cases h : t.1 = 1
    · rw [if_pos h, h]; rfl
    · rw [if_neg h]
      have : Nat.beq t.1 1 = false := by rw [Bool.eq_false_iff]; exact fun g => h (Nat.eq_of_beq_eq_true g)
      rw [this]; simp
theorem zk_args_sv {n : Nat} : ∀ {as : List zk_T} {i : Nat}, (∀ t ∈ as, zk_tv n t) → ∀ q ∈ zk_args i as, zk_tv n q.2
  | [], _, _, q, hq => by cases hq
  | t :: l, i, h, q, hq => by
    unfold zk_args at hq
    rcases List.mem_cons.mp hq with rfl | hq
    · exact h _ List.mem_cons_self
    · exact zk_args_sv (fun u hu => h u (List.mem_cons_of_mem _ hu)) q hq
section ZM
variable {dC : Nat → ClassId} {dI : Nat → Nat → Nat} {cl : List vw_C} {ad st : Nat → Nat} {cid : zk_CI} {ba : Nat} {ly : List (Nat × Nat)} {tab : zk_Tab} {G nw : List Jvm.Cond} {PT : List zk_M}
theorem zk_met {l : Launch} {M : zk_M} (hM : zk_Mok G nw cl tab PT M) {d : Nat} {E : zk_E} {N : zk_N} {hp : List zk_C} {as : List zk_T} {L : List zk_Ex} (has : ∀ t ∈ as, zk_tv N.1 t) (hsl : zk_slots as ≤ M.2.2.1)
    (hW : ∀ (p : Program) (e : Env) (s : State) (m : MethodId) (args : Array Value) (below : List Frame) (meth : Method) (c : Code), zk_Fr dC dI cl st cid ba ly tab G nw M p s m args meth c → ∀ (H : Heap) (locs : List Loc) (ls : Array Slot) (stk : List Value), zk_At dC dI cl ad st cid ba ly M.2.2.1 s.heap E (N, hp, zk_args 0 as, []) H locs ls stk → W p l e (zk_rm d) s m args below meth c H locs 0 0 (MQ below (zk_QX dC dI cl ad st cid ba ly E N.1 L) args s 0 0 (fun q => ba ≤ q)) (F0 m 0 ls stk)) :
    Met l M.1 (zk_code M :: G) (zk_rm d) (va_Pc (as.map (zk_v E ad st)) (fun U => zk_S0 dC dI cl st cid ba ly tab nw U ∧ zk_wd dC dI cl ad st cid ba ly E N hp U.heap)) (zk_QX dC dI cl ad st cid ba ly E N.1 L) 0 0 (fun q => ba ≤ q) := by
  refine Met.ofW (cc := M.2.1) (maxL := M.2.2.1) (ret := M.2.2.2.1) hM.1 rfl ?_
  intro p e s m args below meth c s₁ B hml hv
  obtain ⟨rfl, hS0, hwd⟩ := hv
  have hts := atoms_spec (ws := zk_code M :: G) B.pre
  have hl := lv_entry (as.map (zk_v E ad st)) (n := M.2.2.1) (by rw [zk_slots_eq]; exact hsl)
  rw [zk_args_eq] at hl
  rw [lg_entry_eq]
  exact hW p e s m _ below meth c ⟨B.exec, B.bytes, hml, B.returns, B.notSynchronized, findClass_of_methodNamed B.named, fun w hw => hts w (List.mem_cons_of_mem _ hw), hS0⟩ s.heap [] _ [] ⟨hwd, ⟨zk_args_sv has, fun t ht => absurd ht List.not_mem_nil, hl, rfl⟩, va_S.rf⟩
theorem zk_blind (hn : ∀ w ∈ nw, zk_isNest w) {E : zk_E} {N : zk_N} {hp : List zk_C} {av : List Value} : FrameBlind (va_Pc av (fun U => zk_S0 dC dI cl st cid ba ly tab nw U ∧ zk_wd dC dI cl ad st cid ba ly E N hp U.heap)) := fun a U g mk h => ⟨h.1, zk_S0_call hn h.2.1, h.2.2⟩
end ZM
end
