noncomputable section
def zk_QJ (post : Int32 → Prop) : Array Value → State → Outcome → State → Prop := fun _ s oc t => (∃ r : Int32, oc = .returned (some (.int r)) ∧ post r) ∧ t.heap = s.heap
section ZST
variable {st : Nat → Nat} {ba : Nat} {G : List Cond} {l : Launch}
/-- the frame of a method of it -/
def zk_JF (st : Nat → Nat) (ba : Nat) (G : List Cond) (y : MethodName) (cc : ByteArray) (maxL : Nat) (ret : Option FieldType) (p : Program) (s : State) (m : MethodId) (args : Array Value) (meth : Method) (c : Code) : Prop :=
  p.tables.exec = Jvm.exec ∧ c.code = cc ∧ c.maxLocals = maxL ∧ meth.sig.returnType = ret ∧ meth.locks = false ∧ s.vm.findClass y.cls = some m.cls ∧ (∀ w ∈ Cond.code y cc maxL ret :: G, w.before args s = true) ∧ zk_str st ba s
theorem zk_jmet {y : MethodName} {cc : ByteArray} {maxL d : Nat} {ret : Option FieldType} {av : List Value} {post : Int32 → Prop} (hy : plainName y.cls = true) (hsl : (lg_sl av).length ≤ maxL)
    (hW : ∀ (p : Program) (e : Env) (s : State) (m : MethodId) (args : Array Value) (below : List Frame) (meth : Method) (c : Code), zk_JF st ba G y cc maxL ret p s m args meth c → va_S (fun q => ba ≤ q) s.heap s.heap [] → ∀ ls : Array Slot, lv_has ls maxL (lv_args 0 av) → W p l e (zk_rm d) s m args below meth c s.heap [] 0 0 (MQ below (zk_QJ post) args s 0 0 (fun q => ba ≤ q)) (F0 m 0 ls [])) :
    Met l y (Cond.code y cc maxL ret :: G) (zk_rm d) (va_Pc av (zk_str st ba)) (zk_QJ post) 0 0 (fun q => ba ≤ q) := by
  refine Met.ofW (cc := cc) (maxL := maxL) (ret := ret) hy rfl ?_
  intro p e s m args below meth c s₁ B hml hv
  obtain ⟨rfl, hS0⟩ := hv
  have hts := atoms_spec (ws := Cond.code y cc maxL ret :: G) B.pre
  have hl := lv_entry av (n := maxL) hsl
  rw [lg_entry_eq]
  exact hW p e s m _ below meth c ⟨B.exec, B.bytes, hml, B.returns, B.notSynchronized, findClass_of_methodNamed B.named, hts, hS0⟩ va_S.rf _ hl
theorem zk_QJ_F {post : Int32 → Prop} {a : Array Value} {s : State} {oc : Outcome} {t : State} (h : zk_QJ post a s oc t) : va_F (fun q => ba ≤ q) s t := by
  refine ⟨?_, fun q _ _ => ?_⟩
  · rw [h.2]; exact Nat.le_refl _
  · rw [h.2]
theorem zk_jgood (hG : ∀ w ∈ G, (w.onTables && w.keeps) = true ∨ ∃ ty, w = Cond.arrayClass ty) {x y : Cond} (h : y ∈ G) : GoodIn (x :: G) (y :: G) := fun w hw => by
  rcases List.mem_cons.mp hw with rfl | hw
  · exact ⟨List.mem_cons_of_mem _ h, hG w h⟩
  · exact ⟨List.mem_cons_of_mem _ hw, hG w hw⟩
theorem zk_jgood2 (hG : ∀ w ∈ G, (w.onTables && w.keeps) = true ∨ ∃ ty, w = Cond.arrayClass ty) {y : Cond} (h : y ∈ G) : GoodIn G (y :: G) := fun w hw => by
  rcases List.mem_cons.mp hw with rfl | hw
  · exact ⟨h, hG w h⟩
  · exact ⟨hw, hG w hw⟩
theorem zk_jblind {av : List Value} : FrameBlind (va_Pc av (zk_str st ba)) := fun a U g mk h => ⟨h.1, zk_str_call h.2⟩
section ZSU
variable {p : Program} {e : Env} {s : State} {m : MethodId} {args : Array Value} {below : List Frame} {meth : Method} {c : Code} {locs : List Loc} {Q : State → Prop} {pc : Nat} {ls : Array Slot} {stk rest : List Value} {x y : MethodName} {cc yc : ByteArray} {maxL yL d d' index : Nat} {ret yr : Option FieldType} {post : Int32 → Prop} {As : List Value}
theorem zk_jV (hG : ∀ w ∈ G, (w.onTables && w.keeps) = true ∨ ∃ ty, w = Cond.arrayClass ty) (hF : zk_JF st ba G x cc maxL ret p s m args meth c)
    (hM : Met l y (Cond.code y yc yL yr :: G) (zk_rm d') (va_Pc (.ref (st 7) :: As) (zk_str st ba)) (zk_QJ post) 0 0 (fun q => ba ≤ q)) (hy : y.cls = "java/lang/String") (hp : (parseMethodDescriptor y.desc).map (fun d => d.parameters.length) = some As.length)
    (k1 : Cond.code y yc yL yr ∈ G) (k2 : Cond.initialized "java/lang/String" ∈ G) (k3 : Cond.methodLink x.cls index y ∈ G) (k4 : Cond.instanceMethod y ∈ G) (k5 : Cond.selects "java/lang/String" y y ∈ G) (hyL : yL ≤ 45) (hd : d' < d)
    (hS : va_S (fun q => ba ≤ q) s.heap s.heap locs) (hsz : ls.size = maxL) (hst : stk = As.reverse ++ .ref (st 7) :: rest) (hr : (rest.map fun v => v.category).sum ≤ 8) (hdg : decode cc pc = .ok (.invokevirtual index, 3))
    (kk : ∀ (r : Int32) (locs1 : List Loc), post r → va_S (fun q => ba ≤ q) s.heap s.heap locs1 → W p l e (zk_rm d) s m args below meth c s.heap locs1 0 0 Q (F0 m (pc + 3) ls (.int r :: rest))) : W p l e (zk_rm d) s m args below meth c s.heap locs 0 0 Q (F0 m pc ls stk) := by
  obtain ⟨hx, hb, hml, hrt, hlk, hown, hts, hS0⟩ := hF
  have ht : ∀ w ∈ G, w.before args s = true := fun w hw => hts w (List.mem_cons_of_mem _ hw)
  have hrecv := vk_recv hS0.2.1 (i := 0) (Nat.lt_succ_self 0) hS
  have hPre : PreV s s.heap "java/lang/String" (st 7) (va_Pc (.ref (st 7) :: As) (zk_str st ba)) As := ⟨zk_jblind, hrecv, fun U hU hW => ⟨rfl, zk_str_mv hS0 hW fun a h1 h2 => by rw [hU]⟩⟩
  have hR : (zk_rm d').frames + 1 ≤ (zk_rm d).frames ∧ 8 + (yL + 11) + (zk_rm d').locals ≤ (zk_rm d).locals := ⟨hd, by show 8 + (yL + 11) + 64 * d' ≤ 64 * d; omega⟩
  have hrun := va_runV (p := p) (e := e) (R := zk_rm d) (s := s) (m := m) (args := args) (below := below) (meth := meth) (H := s.heap) (locs := locs) (cells := 0) (slots := 0) (g := F0 m pc ls stk) (rest := rest) (Ts := Cond.code x cc maxL ret :: G) (own := x.cls) (index := index) ⟨hx, hb, hml, hown, hts⟩ hM ⟨callB_of (ret := yr) As.length hts (zk_jgood hG k1) rfl rfl rfl (by rw [hy]; exact ht _ k2) (ht _ k3) ⟨by rw [hy]; decide, by rw [hy]; decide, hp⟩ hR, ht _ k4, ht _ k5⟩ hPre rfl rfl hsz hst (lv_room hr) hdg ⟨Nat.zero_le _, Nat.zero_le _⟩
  refine zk_callX hrun hS (fun _ _ _ h => zk_QJ_F h) fun v s0 t locs1 h0 hQ hS1 => ?_
  obtain ⟨⟨r, e1, e2⟩, hh⟩ := hQ
  cases e1
  rw [hh, h0] at hS1
  rw [hh, h0]
  exact kk r locs1 e2 hS1
theorem zk_jS (hG : ∀ w ∈ G, (w.onTables && w.keeps) = true ∨ ∃ ty, w = Cond.arrayClass ty) (hF : zk_JF st ba G x cc maxL ret p s m args meth c)
    (hM : Met l y (Cond.code y yc yL yr :: G) (zk_rm d') (va_Pc As (zk_str st ba)) (zk_QJ post) 0 0 (fun q => ba ≤ q)) (hy : y.cls = "java/lang/StringLatin1") (hp : (parseMethodDescriptor y.desc).map (fun d => d.parameters.length) = some As.length)
    (k1 : Cond.code y yc yL yr ∈ G) (k2 : Cond.initialized "java/lang/StringLatin1" ∈ G) (k3 : Cond.methodLink x.cls index y ∈ G) (k4 : Cond.static y ∈ G) (hyL : yL ≤ 45) (hd : d' < d)
    (hS : va_S (fun q => ba ≤ q) s.heap s.heap locs) (hsz : ls.size = maxL) (hst : stk = As.reverse ++ rest) (hr : (rest.map fun v => v.category).sum ≤ 8) (hdg : decode cc pc = .ok (.invokestatic index, 3))
    (kk : ∀ (r : Int32) (locs1 : List Loc), post r → va_S (fun q => ba ≤ q) s.heap s.heap locs1 → W p l e (zk_rm d) s m args below meth c s.heap locs1 0 0 Q (F0 m (pc + 3) ls (.int r :: rest))) : W p l e (zk_rm d) s m args below meth c s.heap locs 0 0 Q (F0 m pc ls stk) := by
  obtain ⟨hx, hb, hml, hrt, hlk, hown, hts, hS0⟩ := hF
  have ht : ∀ w ∈ G, w.before args s = true := fun w hw => hts w (List.mem_cons_of_mem _ hw)
  have hPre : PreS s s.heap (va_Pc As (zk_str st ba)) As := ⟨zk_jblind, fun U hU hW => ⟨rfl, zk_str_mv hS0 hW fun a h1 h2 => by rw [hU]⟩⟩
  have hR : (zk_rm d').frames + 1 ≤ (zk_rm d).frames ∧ 8 + (yL + 11) + (zk_rm d').locals ≤ (zk_rm d).locals := ⟨hd, by show 8 + (yL + 11) + 64 * d' ≤ 64 * d; omega⟩
  have hrun := va_runS (p := p) (e := e) (R := zk_rm d) (s := s) (m := m) (args := args) (below := below) (meth := meth) (H := s.heap) (locs := locs) (cells := 0) (slots := 0) (g := F0 m pc ls stk) (rest := rest) (Ts := Cond.code x cc maxL ret :: G) (own := x.cls) (index := index) ⟨hx, hb, hml, hown, hts⟩ hM ⟨callB_of (ret := yr) As.length hts (zk_jgood hG k1) rfl rfl rfl (by rw [hy]; exact ht _ k2) (ht _ k3) ⟨by rw [hy]; decide, by rw [hy]; decide, hp⟩ hR, ht _ k4⟩ hPre rfl rfl hsz hst (lv_room hr) hdg ⟨Nat.zero_le _, Nat.zero_le _⟩
  refine zk_callX hrun hS (fun _ _ _ h => zk_QJ_F h) fun v s0 t locs1 h0 hQ hS1 => ?_
  obtain ⟨⟨r, e1, e2⟩, hh⟩ := hQ
  cases e1
  rw [hh, h0] at hS1
  rw [hh, h0]
  exact kk r locs1 e2 hS1
end ZSU
theorem zk_narb (x : Int32) (h : x = 0 ∨ x = 1) : narrow .boolean (.int x) = .int x := by
  rcases h with rfl | rfl <;> decide
set_option maxHeartbeats 1000000 in
theorem zk_jcd (hG : ∀ w ∈ G, (w.onTables && w.keeps) = true ∨ ∃ ty, w = Cond.arrayClass ty) (hw : ∀ w ∈ zk_sw, w ∈ G) : Met l (zk_mS "coder" "()B") (Cond.code (zk_mS "coder" "()B") prog_18_method_152_code 1 (some .byte) :: G) (zk_rm 0) (va_Pc [.ref (st 7)] (zk_str st ba)) (zk_QJ (fun r => r = 0)) 0 0 (fun q => ba ≤ q) := by
  refine zk_jmet (by decide) (by first | decide | (simp [lg_sl]; decide) | simp [lg_sl, Value.category]) fun p e s m args below meth c hF hS ls hls => ?_
  have hF' := hF
  obtain ⟨hx, hb, hml, hrt, hlk, hown, hts, hS0⟩ := hF'
  have ht : ∀ w ∈ G, w.before args s = true := fun w hw => hts w (List.mem_cons_of_mem _ hw)
  obtain ⟨o1, o2, o3, o4⟩ := hS0.2.1.1 0 (Nat.lt_succ_self 0)
  refine va_gets hx hb hS0.2.2 hS hown (ht _ (hw _ (List.mem_of_getElem? (i := 3) rfl))) (fun x h => h) (by decide +kernel) ?_
  refine lv_if_eq hx hb (off := 10) (tgt := 13) (by decide +kernel) rfl (fun h1 => ?_) (fun h1 => ?_)
  · exact absurd h1 (by decide)
  · refine lv_aload_n hx hb (k := 0) (by decide +kernel) rfl (lv_at hls 0 rfl) ?_
    refine vk_getf hx hb o2 hS hown (ht _ (hw _ (List.mem_of_getElem? (i := 4) rfl))) (fun x h => h) (by decide +kernel) ?_
    refine lv_goto hx hb (off := 4) (tgt := 14) (by decide +kernel) rfl ?_
    exact W.zret hx hb hrt rfl (fun t h _ => ⟨⟨_, rfl, rfl⟩, h⟩) hS.2.2 (by decide +kernel)
set_option maxHeartbeats 1000000 in
theorem zk_jil (hG : ∀ w ∈ G, (w.onTables && w.keeps) = true ∨ ∃ ty, w = Cond.arrayClass ty) (hw : ∀ w ∈ zk_sw, w ∈ G) : Met l (zk_mS "isLatin1" "()Z") (Cond.code (zk_mS "isLatin1" "()Z") prog_18_method_154_code 1 (some .boolean) :: G) (zk_rm 0) (va_Pc [.ref (st 7)] (zk_str st ba)) (zk_QJ (fun r => r = 1)) 0 0 (fun q => ba ≤ q) := by
  refine zk_jmet (by decide) (by first | decide | (simp [lg_sl]; decide) | simp [lg_sl, Value.category]) fun p e s m args below meth c hF hS ls hls => ?_
  have hF' := hF
  obtain ⟨hx, hb, hml, hrt, hlk, hown, hts, hS0⟩ := hF'
  have ht : ∀ w ∈ G, w.before args s = true := fun w hw => hts w (List.mem_cons_of_mem _ hw)
  obtain ⟨o1, o2, o3, o4⟩ := hS0.2.1.1 0 (Nat.lt_succ_self 0)
  refine va_gets hx hb hS0.2.2 hS hown (ht _ (hw _ (List.mem_of_getElem? (i := 3) rfl))) (fun x h => h) (by decide +kernel) ?_
  refine lv_if_eq hx hb (off := 14) (tgt := 17) (by decide +kernel) rfl (fun h1 => ?_) (fun h1 => ?_)
  · exact absurd h1 (by decide)
  · refine lv_aload_n hx hb (k := 0) (by decide +kernel) rfl (lv_at hls 0 rfl) ?_
    refine vk_getf hx hb o2 hS hown (ht _ (hw _ (List.mem_of_getElem? (i := 4) rfl))) (fun x h => h) (by decide +kernel) ?_
    refine lv_if_ne hx hb (off := 7) (tgt := 17) (by decide +kernel) rfl (fun h1 => ?_) (fun h1 => ?_)
    · exact absurd rfl h1
    · refine lv_iconst hx hb (n := 1) (v := 1) (by decide +kernel) rfl ?_
      refine lv_goto hx hb (off := 4) (tgt := 18) (by decide +kernel) rfl ?_
      exact W.zret hx hb hrt (zk_narb _ (Or.inr rfl)) (fun t h _ => ⟨⟨_, rfl, rfl⟩, h⟩) hS.2.2 (by decide +kernel)
set_option maxHeartbeats 1000000 in
theorem zk_jln (hG : ∀ w ∈ G, (w.onTables && w.keeps) = true ∨ ∃ ty, w = Cond.arrayClass ty) (hw : ∀ w ∈ zk_sw, w ∈ G) : Met l (zk_mS "length" "()I") (Cond.code (zk_mS "length" "()I") prog_18_method_54_code 1 (some .int) :: G) (zk_rm 1) (va_Pc [.ref (st 7)] (zk_str st ba)) (zk_QJ (fun r => r = 6)) 0 0 (fun q => ba ≤ q) := by
  refine zk_jmet (by decide) (by first | decide | (simp [lg_sl]; decide) | simp [lg_sl, Value.category]) fun p e s m args below meth c hF hS ls hls => ?_
  have hF' := hF
  obtain ⟨hx, hb, hml, hrt, hlk, hown, hts, hS0⟩ := hF'
  have ht : ∀ w ∈ G, w.before args s = true := fun w hw => hts w (List.mem_cons_of_mem _ hw)
  obtain ⟨o1, o2, o3, o4⟩ := hS0.2.1.1 0 (Nat.lt_succ_self 0)
  refine lv_aload_n hx hb (k := 0) (by decide +kernel) rfl (lv_at hls 0 rfl) ?_
  refine vk_getf hx hb o3 hS hown (ht _ (hw _ (List.mem_of_getElem? (i := 5) rfl))) (fun x h => h) (by decide +kernel) ?_
  refine va_tlen hx hb o4 hS (v := 6) rfl (by decide +kernel) ?_
  refine lv_aload_n hx hb (k := 0) (by decide +kernel) rfl (lv_at hls 0 rfl) ?_
  refine zk_jV hG hF (zk_jcd hG hw) rfl (show (parseMethodDescriptor "()B").map (fun d => d.parameters.length) = some 0 by decide +kernel) (hw _ (List.mem_of_getElem? (i := 6) rfl)) (hw _ (List.mem_of_getElem? (i := 0) rfl)) (hw _ (List.mem_of_getElem? (i := 7) rfl)) (hw _ (List.mem_of_getElem? (i := 8) rfl)) (hw _ (List.mem_of_getElem? (i := 9) rfl)) (by decide) (by decide) hS hls.1 rfl (by decide) (by decide +kernel) fun r locs1 hr hS => ?_
  subst hr
  refine lv_ishr hx hb (by decide +kernel) ?_
  exact W.iret hx hb hrt (fun t h _ => ⟨⟨_, rfl, by decide⟩, h⟩) hS.2.2 (by decide +kernel)
set_option maxHeartbeats 1000000 in
theorem zk_jce (hG : ∀ w ∈ G, (w.onTables && w.keeps) = true ∨ ∃ ty, w = Cond.arrayClass ty) (hw : ∀ w ∈ zk_sw, w ∈ G) (cv : Int32) : Met l (zk_mL "canEncode" "(I)Z") (Cond.code (zk_mL "canEncode" "(I)Z") prog_19_method_4_code 1 (some .boolean) :: G) (zk_rm 0) (va_Pc [.int cv] (zk_str st ba)) (zk_QJ (fun r => (r ≠ 0 → ¬ cv < 0 ∧ ¬ cv > 255) ∧ (r = 0 → cv < 0 ∨ cv > 255))) 0 0 (fun q => ba ≤ q) := by
  refine zk_jmet (by decide) (by first | decide | (simp [lg_sl]; decide) | simp [lg_sl, Value.category]) fun p e s m args below meth c hF hS ls hls => ?_
  have hF' := hF
  obtain ⟨hx, hb, hml, hrt, hlk, hown, hts, hS0⟩ := hF'
  have ht : ∀ w ∈ G, w.before args s = true := fun w hw => hts w (List.mem_cons_of_mem _ hw)
  obtain ⟨o1, o2, o3, o4⟩ := hS0.2.1.1 0 (Nat.lt_succ_self 0)
  refine lv_iload_n hx hb (k := 0) (by decide +kernel) rfl (lv_at hls 0 rfl) ?_
  refine lv_if_lt hx hb (off := 14) (tgt := 15) (by decide +kernel) rfl (fun h1 => ?_) (fun h1 => ?_)
  · refine lv_iconst hx hb (n := 0) (v := 0) (by decide +kernel) rfl ?_
    exact W.zret hx hb hrt (zk_narb _ (Or.inl rfl)) (fun t h _ => ⟨⟨_, rfl, fun h => absurd rfl h, fun _ => Or.inl h1⟩, h⟩) hS.2.2 (by decide +kernel)
  · refine lv_iload_n hx hb (k := 0) (by decide +kernel) rfl (lv_at hls 0 rfl) ?_
    refine lv_sipush hx hb (n := 255) (v := 255) (by decide +kernel) rfl ?_
    refine lv_icmp_gt hx hb (off := 7) (tgt := 15) (by decide +kernel) rfl (fun h2 => ?_) (fun h2 => ?_)
    · refine lv_iconst hx hb (n := 0) (v := 0) (by decide +kernel) rfl ?_
      exact W.zret hx hb hrt (zk_narb _ (Or.inl rfl)) (fun t h _ => ⟨⟨_, rfl, fun h => absurd rfl h, fun _ => Or.inr h2⟩, h⟩) hS.2.2 (by decide +kernel)
    · refine lv_iconst hx hb (n := 1) (v := 1) (by decide +kernel) rfl ?_
      refine lv_goto hx hb (off := 4) (tgt := 16) (by decide +kernel) rfl ?_
      exact W.zret hx hb hrt (zk_narb _ (Or.inr rfl)) (fun t h _ => ⟨⟨_, rfl, fun _ => ⟨h1, h2⟩, fun h => absurd h (by decide)⟩, h⟩) hS.2.2 (by decide +kernel)
theorem zk_j6 : ∀ i, i < 6 → ¬ (6 : Int32) ≤ Int32.ofNat i ∧ vp_in (Int32.ofNat i) 6 ∧ Int32.ofNat i + Int32.ofInt 1 = Int32.ofNat (i + 1) ∧ -1 ≤ (Int32.ofNat i).toInt ∧ (Int32.ofNat i).toInt ≤ 5 := by
  unfold vp_in
  decide
/-- which name it is -/
def zk_pn (cv : Int32) (r : Int32) : Prop := (-1 ≤ r.toInt ∧ r.toInt ≤ 5) ∧ r.toInt = zx_nm cv.toInt
theorem zk_pb {cv : Int32} (h1 : 0 ≤ cv.toInt) (h2 : cv.toInt ≤ 255) : ∀ k : Int32, 0 ≤ k.toInt → k.toInt ≤ 127 → (k = cv.toInt8.toInt32 ↔ cv.toInt = k.toInt) := fun k k1 k2 => by
  rw [← Int32.toInt_inj, Int8.toInt_toInt32, Int32.toInt_toInt8, Int.bmod_def]
  split <;> omega
theorem zk_ce255 {cv : Int32} (h : ¬ cv < 0 ∧ ¬ cv > 255) : 0 ≤ cv.toInt ∧ cv.toInt ≤ 255 := by
  obtain ⟨h1, h2⟩ := h
  rw [Int32.lt_iff_toInt_lt] at h1
  rw [gt_iff_lt, Int32.lt_iff_toInt_lt] at h2
  have e1 : (0 : Int32).toInt = 0 := by decide
  have e2 : (255 : Int32).toInt = 255 := by decide
  omega
theorem zk_ce0 {cv : Int32} (h : cv < 0 ∨ cv > 255) : zk_pn cv (-1) := by
  refine ⟨by decide, ?_⟩
  have e : cv.toInt < 0 ∨ 255 < cv.toInt := by
    have e1 : (0 : Int32).toInt = 0 := by decide
    have e2 : (255 : Int32).toInt = 255 := by decide
    rcases h with h | h
    · rw [Int32.lt_iff_toInt_lt] at h
      omega
    · rw [gt_iff_lt, Int32.lt_iff_toInt_lt] at h
      omega
  show (-1 : Int) = zx_nm cv.toInt
  unfold zx_nm
  rw [if_neg (by omega), if_neg (by omega), if_neg (by omega), if_neg (by omega), if_neg (by omega), if_neg (by omega)]
theorem zk_jn {cv : Int32} {n i : Nat} (hcv : 0 ≤ cv.toInt ∧ cv.toInt ≤ 255) (hi : i + (n + 1) = 6) (hno : ∀ j, j < i → cv.toInt ≠ [97, 98, 108, 116, 110, 100].getD j 0) (h2 : ¬ ([[97, 98, 108, 116, 110, 100]].getD 0 []).getD (Int32.ofNat i).toNatClampNeg 0 = cv.toInt8.toInt32) (j : Nat) (hj : j < i + 1) : cv.toInt ≠ [97, 98, 108, 116, 110, 100].getD j 0 := by
  by_cases hji : j < i
  · exact hno j hji
  · have e : j = i := by omega
    subst e
    intro he
    have hc : j = 0 ∨ j = 1 ∨ j = 2 ∨ j = 3 ∨ j = 4 ∨ j = 5 := by omega
    rcases hc with rfl | rfl | rfl | rfl | rfl | rfl
    · exact h2 ((zk_pb hcv.1 hcv.2 97 (by decide) (by decide)).mpr (he.trans (by decide)))
    · exact h2 ((zk_pb hcv.1 hcv.2 98 (by decide) (by decide)).mpr (he.trans (by decide)))
    · exact h2 ((zk_pb hcv.1 hcv.2 108 (by decide) (by decide)).mpr (he.trans (by decide)))
    · exact h2 ((zk_pb hcv.1 hcv.2 116 (by decide) (by decide)).mpr (he.trans (by decide)))
    · exact h2 ((zk_pb hcv.1 hcv.2 110 (by decide) (by decide)).mpr (he.trans (by decide)))
    · exact h2 ((zk_pb hcv.1 hcv.2 100 (by decide) (by decide)).mpr (he.trans (by decide)))
theorem zk_jy {cv : Int32} {n i : Nat} (hcv : 0 ≤ cv.toInt ∧ cv.toInt ≤ 255) (hi : i + (n + 1) = 6) (z4 : -1 ≤ (Int32.ofNat i).toInt ∧ (Int32.ofNat i).toInt ≤ 5) (h2 : ([[97, 98, 108, 116, 110, 100]].getD 0 []).getD (Int32.ofNat i).toNatClampNeg 0 = cv.toInt8.toInt32) : zk_pn cv (Int32.ofNat i) := by
  refine ⟨z4, ?_⟩
  have hc : i = 0 ∨ i = 1 ∨ i = 2 ∨ i = 3 ∨ i = 4 ∨ i = 5 := by omega
  rcases hc with rfl | rfl | rfl | rfl | rfl | rfl
  · rw [(zk_pb hcv.1 hcv.2 97 (by decide) (by decide)).mp h2]
    decide
  · rw [(zk_pb hcv.1 hcv.2 98 (by decide) (by decide)).mp h2]
    decide
  · rw [(zk_pb hcv.1 hcv.2 108 (by decide) (by decide)).mp h2]
    decide
  · rw [(zk_pb hcv.1 hcv.2 116 (by decide) (by decide)).mp h2]
    decide
  · rw [(zk_pb hcv.1 hcv.2 110 (by decide) (by decide)).mp h2]
    decide
  · rw [(zk_pb hcv.1 hcv.2 100 (by decide) (by decide)).mp h2]
    decide
set_option maxHeartbeats 1000000 in
theorem zk_jic (hG : ∀ w ∈ G, (w.onTables && w.keeps) = true ∨ ∃ ty, w = Cond.arrayClass ty) (hw : ∀ w ∈ zk_sw, w ∈ G) (cv : Int32) (hcv : 0 ≤ cv.toInt ∧ cv.toInt ≤ 255) : Met l (zk_mL "indexOfChar" "([BIII)I") (Cond.code (zk_mL "indexOfChar" "([BIII)I") prog_19_method_23_code 6 (some .int) :: G) (zk_rm 0) (va_Pc [.ref (st 8), .int cv, .int 0, .int 6] (zk_str st ba)) (zk_QJ (zk_pn cv)) 0 0 (fun q => ba ≤ q) := by
  refine zk_jmet (by decide) (by first | decide | (simp [lg_sl]; decide) | simp [lg_sl, Value.category]) fun p e s m args below meth c hF hS ls hls => ?_
  have hF' := hF
  obtain ⟨hx, hb, hml, hrt, hlk, hown, hts, hS0⟩ := hF'
  have ht : ∀ w ∈ G, w.before args s = true := fun w hw => hts w (List.mem_cons_of_mem _ hw)
  obtain ⟨o1, o2, o3, o4⟩ := hS0.2.1.1 0 (Nat.lt_succ_self 0)
  refine lv_iload_n hx hb (k := 1) (by decide +kernel) rfl (lv_at hls 1 rfl) ?_
  refine lv_i2b hx hb (by decide +kernel) rfl ?_
  refine lv_istore hx hb (i := 4) (by decide +kernel) hls (by decide) rfl fun ls hls => ?_
  refine lv_iload_n hx hb (k := 2) (by decide +kernel) rfl (lv_at hls 3 rfl) ?_
  refine lv_istore hx hb (i := 5) (by decide +kernel) hls (by decide) rfl fun ls hls => ?_
  have loop : ∀ (n i : Nat), i + n = 6 → (∀ j, j < i → cv.toInt ≠ [97, 98, 108, 116, 110, 100].getD j 0) → ∀ ls : Array Slot, lv_has ls 6 [(5, .int (Int32.ofNat i)), (4, .int cv.toInt8.toInt32), (0, .ref (st 8)), (1, .int cv), (2, .int 0), (3, .int 6)] → W p l e (zk_rm 0) s m args below meth c s.heap [] 0 0 (MQ below (zk_QJ (zk_pn cv)) args s 0 0 (fun q => ba ≤ q)) (F0 m 7 ls []) := by
    intro n
    induction n with
    | zero =>
      intro i hi hno ls hls
      have hi : i = 6 := by omega
      subst hi
      refine lv_iload hx hb (i := 5) (by decide +kernel) (lv_at hls 0 rfl) ?_
      refine lv_iload_n hx hb (k := 3) (by decide +kernel) rfl (lv_at hls 5 rfl) ?_
      refine lv_icmp_ge hx hb (off := 21) (tgt := 31) (by decide +kernel) rfl (fun h1 => ?_) (fun h1 => absurd (by decide) h1)
      refine lv_iconst hx hb (n := -1) (v := -1) (by decide +kernel) rfl ?_
      have g0 : cv.toInt ≠ 97 := hno 0 (by omega)
      have g1 : cv.toInt ≠ 98 := hno 1 (by omega)
      have g2 : cv.toInt ≠ 108 := hno 2 (by omega)
      have g3 : cv.toInt ≠ 116 := hno 3 (by omega)
      have g4 : cv.toInt ≠ 110 := hno 4 (by omega)
      have g5 : cv.toInt ≠ 100 := hno 5 (by omega)
      have hr : zk_pn cv (-1) := ⟨by decide, by
        show (-1 : Int) = zx_nm cv.toInt
        unfold zx_nm
        rw [if_neg g0, if_neg g1, if_neg g2, if_neg g3, if_neg g4, if_neg g5]⟩
      exact W.iret hx hb hrt (fun t h _ => ⟨⟨_, rfl, hr⟩, h⟩) hS.2.2 (by decide +kernel)
    | succ n ih =>
      intro i hi hno ls hls
      obtain ⟨z1, z2, z3, z4⟩ := zk_j6 i (by omega)
      refine lv_iload hx hb (i := 5) (by decide +kernel) (lv_at hls 0 rfl) ?_
      refine lv_iload_n hx hb (k := 3) (by decide +kernel) rfl (lv_at hls 5 rfl) ?_
      refine lv_icmp_ge hx hb (off := 21) (tgt := 31) (by decide +kernel) rfl (fun h1 => absurd h1 z1) (fun h1 => ?_)
      refine lv_aload_n hx hb (k := 0) (by decide +kernel) rfl (lv_at hls 2 rfl) ?_
      refine lv_iload hx hb (i := 5) (by decide +kernel) (lv_at hls 0 rfl) ?_
      refine va_tb hx hb o4 hS z2 rfl (by decide +kernel) ?_
      refine lv_iload hx hb (i := 4) (by decide +kernel) (lv_at hls 1 rfl) ?_
      refine lv_icmp_ne hx hb (off := 6) (tgt := 25) (by decide +kernel) rfl (fun h2 => ?_) (fun h2 => ?_)
      · refine lv_iinc hx hb (k := 0) (by decide +kernel) hls rfl z3 (by decide) rfl fun ls hls => ?_
        refine lv_goto hx hb (off := -21) (tgt := 7) (by decide +kernel) rfl ?_
        refine ih (i + 1) (by omega) (fun j hj => ?_) ls hls
        exact zk_jn hcv hi hno h2 j hj
      · refine lv_iload hx hb (i := 5) (by decide +kernel) (lv_at hls 0 rfl) ?_
        exact W.iret hx hb hrt (fun t h _ => ⟨⟨_, rfl, zk_jy hcv hi z4 h2⟩, h⟩) hS.2.2 (by decide +kernel)
  exact loop 6 0 rfl (fun j hj => absurd hj (Nat.not_lt_zero j)) ls (lv_sub hls [0, 1, 2, 3, 4, 5] rfl)
set_option maxHeartbeats 1000000 in
theorem zk_jli (hG : ∀ w ∈ G, (w.onTables && w.keeps) = true ∨ ∃ ty, w = Cond.arrayClass ty) (hw : ∀ w ∈ zk_sw, w ∈ G) (cv : Int32) : Met l (zk_mL "indexOf" "([BIII)I") (Cond.code (zk_mL "indexOf" "([BIII)I") prog_19_method_22_code 4 (some .int) :: G) (zk_rm 1) (va_Pc [.ref (st 8), .int cv, .int 0, .int 6] (zk_str st ba)) (zk_QJ (zk_pn cv)) 0 0 (fun q => ba ≤ q) := by
  refine zk_jmet (by decide) (by first | decide | (simp [lg_sl]; decide) | simp [lg_sl, Value.category]) fun p e s m args below meth c hF hS ls hls => ?_
  have hF' := hF
  obtain ⟨hx, hb, hml, hrt, hlk, hown, hts, hS0⟩ := hF'
  have ht : ∀ w ∈ G, w.before args s = true := fun w hw => hts w (List.mem_cons_of_mem _ hw)
  obtain ⟨o1, o2, o3, o4⟩ := hS0.2.1.1 0 (Nat.lt_succ_self 0)
  refine lv_iload_n hx hb (k := 1) (by decide +kernel) rfl (lv_at hls 1 rfl) ?_
  refine zk_jS hG hF (zk_jce hG hw cv) rfl (show (parseMethodDescriptor "(I)Z").map (fun d => d.parameters.length) = some 1 by decide +kernel) (hw _ (List.mem_of_getElem? (i := 18) rfl)) (hw _ (List.mem_of_getElem? (i := 1) rfl)) (hw _ (List.mem_of_getElem? (i := 19) rfl)) (hw _ (List.mem_of_getElem? (i := 20) rfl)) (by decide) (by decide) hS hls.1 rfl (by decide) (by decide +kernel) fun r locs1 hr hS => ?_
  refine lv_if_ne hx hb (off := 5) (tgt := 9) (by decide +kernel) rfl (fun h1 => ?_) (fun h1 => ?_)
  · have hcv := zk_ce255 (hr.1 h1)
    refine lv_iload_n hx hb (k := 2) (by decide +kernel) rfl (lv_at hls 2 rfl) ?_
    refine lv_iconst hx hb (n := 0) (v := 0) (by decide +kernel) rfl ?_
    refine va_mmax hx hb (hml.trans hls.1.symm) hown (ht _ (hw _ (List.mem_of_getElem? (i := 27) rfl))) (ht _ (hw _ (List.mem_of_getElem? (i := 28) rfl))) (ht _ (hw _ (List.mem_of_getElem? (i := 2) rfl))) (ht _ (hw _ (List.mem_of_getElem? (i := 29) rfl))) (by decide) (by decide) (Nat.le_refl 0) (Nat.le_refl 0) (by decide +kernel) ?_
    refine lv_istore_n hx hb (k := 2) (i := 2) (by decide +kernel) rfl hls (by decide) rfl fun ls hls => ?_
    refine lv_iload_n hx hb (k := 3) (by decide +kernel) rfl (lv_at hls 3 rfl) ?_
    refine lv_aload_n hx hb (k := 0) (by decide +kernel) rfl (lv_at hls 1 rfl) ?_
    refine va_tlen hx hb o4 hS (v := 6) rfl (by decide +kernel) ?_
    refine va_mmin hx hb (hml.trans hls.1.symm) hown (ht _ (hw _ (List.mem_of_getElem? (i := 30) rfl))) (ht _ (hw _ (List.mem_of_getElem? (i := 31) rfl))) (ht _ (hw _ (List.mem_of_getElem? (i := 2) rfl))) (ht _ (hw _ (List.mem_of_getElem? (i := 32) rfl))) (by decide) (by decide) (Nat.le_refl 0) (Nat.le_refl 0) (by decide +kernel) ?_
    refine lv_istore_n hx hb (k := 3) (i := 3) (by decide +kernel) rfl hls (by decide) rfl fun ls hls => ?_
    refine lv_iload_n hx hb (k := 2) (by decide +kernel) rfl (lv_at hls 1 rfl) ?_
    refine lv_iload_n hx hb (k := 3) (by decide +kernel) rfl (lv_at hls 0 rfl) ?_
    refine lv_icmp_lt hx hb (off := 5) (tgt := 29) (by decide +kernel) rfl (fun h1 => ?_) (fun h1 => absurd (by decide) h1)
    refine lv_aload_n hx hb (k := 0) (by decide +kernel) rfl (lv_at hls 2 rfl) ?_
    refine lv_iload_n hx hb (k := 1) (by decide +kernel) rfl (lv_at hls 3 rfl) ?_
    refine lv_iload_n hx hb (k := 2) (by decide +kernel) rfl (lv_at hls 1 rfl) ?_
    refine lv_iload_n hx hb (k := 3) (by decide +kernel) rfl (lv_at hls 0 rfl) ?_
    refine zk_jS hG hF (zk_jic hG hw cv hcv) rfl (show (parseMethodDescriptor "([BIII)I").map (fun d => d.parameters.length) = some 4 by decide +kernel) (hw _ (List.mem_of_getElem? (i := 21) rfl)) (hw _ (List.mem_of_getElem? (i := 1) rfl)) (hw _ (List.mem_of_getElem? (i := 22) rfl)) (hw _ (List.mem_of_getElem? (i := 23) rfl)) (by decide) (by decide) hS hls.1 rfl (by decide) (by decide +kernel) fun r locs1 hr2 hS => ?_
    exact W.iret hx hb hrt (fun t h _ => ⟨⟨_, rfl, hr2⟩, h⟩) hS.2.2 (by decide +kernel)
  · have hr2 := zk_ce0 (hr.2 h1)
    refine lv_iconst hx hb (n := -1) (v := -1) (by decide +kernel) rfl ?_
    exact W.iret hx hb hrt (fun t h _ => ⟨⟨_, rfl, hr2⟩, h⟩) hS.2.2 (by decide +kernel)
set_option maxHeartbeats 1000000 in
theorem zk_ji2 (hG : ∀ w ∈ G, (w.onTables && w.keeps) = true ∨ ∃ ty, w = Cond.arrayClass ty) (hw : ∀ w ∈ zk_sw, w ∈ G) (cv : Int32) : Met l (zk_mS "indexOf" "(II)I") (Cond.code (zk_mS "indexOf" "(II)I") prog_18_method_80_code 3 (some .int) :: G) (zk_rm 2) (va_Pc [.ref (st 7), .int cv, .int 0] (zk_str st ba)) (zk_QJ (zk_pn cv)) 0 0 (fun q => ba ≤ q) := by
  refine zk_jmet (by decide) (by first | decide | (simp [lg_sl]; decide) | simp [lg_sl, Value.category]) fun p e s m args below meth c hF hS ls hls => ?_
  have hF' := hF
  obtain ⟨hx, hb, hml, hrt, hlk, hown, hts, hS0⟩ := hF'
  have ht : ∀ w ∈ G, w.before args s = true := fun w hw => hts w (List.mem_cons_of_mem _ hw)
  obtain ⟨o1, o2, o3, o4⟩ := hS0.2.1.1 0 (Nat.lt_succ_self 0)
  refine lv_aload_n hx hb (k := 0) (by decide +kernel) rfl (lv_at hls 0 rfl) ?_
  refine zk_jV hG hF (zk_jil hG hw) rfl (show (parseMethodDescriptor "()Z").map (fun d => d.parameters.length) = some 0 by decide +kernel) (hw _ (List.mem_of_getElem? (i := 10) rfl)) (hw _ (List.mem_of_getElem? (i := 0) rfl)) (hw _ (List.mem_of_getElem? (i := 11) rfl)) (hw _ (List.mem_of_getElem? (i := 12) rfl)) (hw _ (List.mem_of_getElem? (i := 13) rfl)) (by decide) (by decide) hS hls.1 rfl (by decide) (by decide +kernel) fun r locs1 hr hS => ?_
  subst hr
  refine lv_if_eq hx hb (off := 19) (tgt := 23) (by decide +kernel) rfl (fun h1 => absurd h1 (by decide)) (fun h1 => ?_)
  refine lv_aload_n hx hb (k := 0) (by decide +kernel) rfl (lv_at hls 0 rfl) ?_
  refine vk_getf hx hb o3 hS hown (ht _ (hw _ (List.mem_of_getElem? (i := 5) rfl))) (fun x h => h) (by decide +kernel) ?_
  refine lv_iload_n hx hb (k := 1) (by decide +kernel) rfl (lv_at hls 1 rfl) ?_
  refine lv_iload_n hx hb (k := 2) (by decide +kernel) rfl (lv_at hls 2 rfl) ?_
  refine lv_aload_n hx hb (k := 0) (by decide +kernel) rfl (lv_at hls 0 rfl) ?_
  refine zk_jV hG hF (zk_jln hG hw) rfl (show (parseMethodDescriptor "()I").map (fun d => d.parameters.length) = some 0 by decide +kernel) (hw _ (List.mem_of_getElem? (i := 14) rfl)) (hw _ (List.mem_of_getElem? (i := 0) rfl)) (hw _ (List.mem_of_getElem? (i := 15) rfl)) (hw _ (List.mem_of_getElem? (i := 16) rfl)) (hw _ (List.mem_of_getElem? (i := 17) rfl)) (by decide) (by decide) hS hls.1 rfl (show (3 : Nat) ≤ 8 by decide) (by decide +kernel) fun r locs2 hr hS => ?_
  subst hr
  refine zk_jS hG hF (zk_jli hG hw cv) rfl (show (parseMethodDescriptor "([BIII)I").map (fun d => d.parameters.length) = some 4 by decide +kernel) (hw _ (List.mem_of_getElem? (i := 24) rfl)) (hw _ (List.mem_of_getElem? (i := 1) rfl)) (hw _ (List.mem_of_getElem? (i := 25) rfl)) (hw _ (List.mem_of_getElem? (i := 26) rfl)) (by decide) (by decide) hS hls.1 rfl (by decide) (by decide +kernel) fun r locs3 hr hS => ?_
  refine lv_goto hx hb (off := 16) (tgt := 36) (by decide +kernel) rfl ?_
  exact W.iret hx hb hrt (fun t h _ => ⟨⟨_, rfl, hr⟩, h⟩) hS.2.2 (by decide +kernel)
set_option maxHeartbeats 1000000 in
theorem zk_ji1 (hG : ∀ w ∈ G, (w.onTables && w.keeps) = true ∨ ∃ ty, w = Cond.arrayClass ty) (hw : ∀ w ∈ zk_sw, w ∈ G) (cv : Int32) : Met l (zk_mS "indexOf" "(I)I") (Cond.code (zk_mS "indexOf" "(I)I") prog_18_method_79_code 2 (some .int) :: G) (zk_rm 3) (va_Pc [.ref (st 7), .int cv] (zk_str st ba)) (zk_QJ (zk_pn cv)) 0 0 (fun q => ba ≤ q) := by
  refine zk_jmet (by decide) (by first | decide | (simp [lg_sl]; decide) | simp [lg_sl, Value.category]) fun p e s m args below meth c hF hS ls hls => ?_
  have hF' := hF
  obtain ⟨hx, hb, hml, hrt, hlk, hown, hts, hS0⟩ := hF'
  have ht : ∀ w ∈ G, w.before args s = true := fun w hw => hts w (List.mem_cons_of_mem _ hw)
  obtain ⟨o1, o2, o3, o4⟩ := hS0.2.1.1 0 (Nat.lt_succ_self 0)
  refine lv_aload_n hx hb (k := 0) (by decide +kernel) rfl (lv_at hls 0 rfl) ?_
  refine lv_iload_n hx hb (k := 1) (by decide +kernel) rfl (lv_at hls 1 rfl) ?_
  refine lv_iconst hx hb (n := 0) (v := 0) (by decide +kernel) rfl ?_
  refine zk_jV hG hF (zk_ji2 hG hw cv) rfl (show (parseMethodDescriptor "(II)I").map (fun d => d.parameters.length) = some 2 by decide +kernel) (hw _ (List.mem_of_getElem? (i := 33) rfl)) (hw _ (List.mem_of_getElem? (i := 0) rfl)) (hw _ (List.mem_of_getElem? (i := 34) rfl)) (hw _ (List.mem_of_getElem? (i := 35) rfl)) (hw _ (List.mem_of_getElem? (i := 36) rfl)) (by decide) (by decide) hS hls.1 rfl (by decide) (by decide +kernel) fun r locs1 hr hS => ?_
  exact W.iret hx hb hrt (fun t h _ => ⟨⟨_, rfl, hr⟩, h⟩) hS.2.2 (by decide +kernel)
end ZST
theorem zk_ixf_n {z : zk_Z} {L : List (Option Nat × zk_Z)} (h : zk_ixf z = some L) : ∀ u ∈ L, u.1 = none := by
  unfold zk_ixf at h
  split at h
  · split at h
    · cases h
      intro u hu
      rw [List.mem_singleton.mp hu]
    · cases h
  · cases h
theorem zk_ix_to {E : zk_E} {N : zk_N} (h : zk_ok E N) (hs : zk_cl N) {a : zk_V} (ha : zk_sv N.1 a) {x : Int32} (h1 : -1 ≤ x.toInt) (h2 : x.toInt ≤ 5) (h3 : x.toInt = zx_nm (Int32.ofInt (zk_i E a)).toInt) : zk_is E N ((zk_new N (-1) 5).1, zk_addG (zk_new N (-1) 5).2 (86, [], [a, (zk_new N (-1) 5).1])) x := by
  obtain ⟨E', p1, p2, p3, p4, p5, p6⟩ := zk_new_to h hs (lo := -1) (hi := 5) (w := x.toInt) h1 h2
  refine ⟨E', p1, zk_addG_ok p2 ?_, zk_addG_cl p3 ⟨fun b hb => absurd hb List.not_mem_nil, fun v hv => ?_⟩, p4, p5, ?_⟩
  · simp only [List.map_cons, List.map_nil, zq_6, zq_7, zq_8, zq_9, zq_20, zq_21, zq_22, zq_25, zq_26, zq_28, zq_30, zq_40, zq_51, zq_52, zq_53, zq_54, zq_55, zq_64, zq_65, zq_68, zq_72, zq_73, zq_85, zq_74, zq_75, zq_76, zq_71, zq_86, zq_87, zq_80, zq_41, zq_42, zq_43, zq_94, zq_95, zq_47, zq_48, zq_96, zq_97, zq_88, zq_89, zq_90, zq_93, zq_61, zq_62, zq_1, zq_2, zq_3, zq_4, zq_5]
    rw [p6, zk_i_ag p1 ha]
    exact h3
  · simp only [List.mem_cons, List.not_mem_nil, or_false] at hv
    rcases hv with rfl | rfl
    · exact zk_sv_le p4 ha
    · exact p5
  · show Int32.ofInt (zk_i E' (zk_new N (-1) 5).1) = x
    rw [p6, Int32.ofInt_toInt]
set_option maxHeartbeats 1000000 in
theorem zk_ixf_ok {dC : Nat → ClassId} {dI : Nat → Nat → Nat} {cl : List vw_C} {ad st : Nat → Nat} {cid : zk_CI} {ba : Nat} {ly : List (Nat × Nat)} {tab : zk_Tab} {G nw : List Jvm.Cond} {l : Launch} {M : zk_M} {p : Program} {e : Env} {s : State} {m : MethodId} {args : Array Value} {below : List Frame} {meth : Method} {c : Code} {Q : State → Prop} {E : zk_E} {H : Heap} {locs : List Loc} {ls : Array Slot} {stk : List Value} {z : zk_Z} {L : List (Option Nat × zk_Z)} {pc d : Nat} {R : Room} {cells slots : Nat} (hRk : zk_rk R d cells slots) (hd4 : 4 ≤ d)
    (hG : ∀ w ∈ G, (w.onTables && w.keeps) = true ∨ ∃ ty, w = Cond.arrayClass ty) (hF : zk_Fr dC dI cl st cid ba ly tab G nw M p s m args meth c) (hown : M.1.cls = "NightLetIn$Reader") (hw : ∀ w ∈ zk_sw, w ∈ G) (hd : decode M.2.1 pc = .ok (.invokevirtual 59, 3))
    (h : zk_At dC dI cl ad st cid ba ly M.2.2.1 s.heap E z H locs ls stk) (he : zk_ixf z = some L) (hg : ∀ r ∈ L, zk_go (zk_W p l e R s m args below meth c cells slots Q) (zk_At dC dI cl ad st cid ba ly M.2.2.1 s.heap) E z.1.1 r.2 (pc + 3)) : W p l e R s m args below meth c H locs cells slots Q (F0 m pc ls stk) := by
  obtain ⟨N, hp, lc, sk⟩ := z
  obtain ⟨hx, hb, hml, hrt, hlk, hcur, hts, hS0⟩ := hF
  have hstr := hS0.2.1.2
  have hstk := h.2.1.2.2.2
  unfold zk_ixf at he
  simp only at he hstk
  split at he
  · rename_i a t r
    split at he
    · rename_i g
      simp only [Bool.and_eq_true] at g
      obtain ⟨⟨⟨g1, g2⟩, g3⟩, g4⟩ := g
      have g1 := Nat.eq_of_beq_eq_true g1
      have g2 := Nat.eq_of_beq_eq_true g2
      have g3 := Nat.eq_of_beq_eq_true g3
      have g4 := Nat.ble_eq.mp g4
      cases he
      have ht : ∀ w ∈ G, w.before args s = true := fun w hw => hts w hw
      have hva : zk_v E ad st a = .int (Int32.ofInt (zk_i E a.2.2)) := by simp only [zk_v, g1]
      have hvt : zk_v E ad st t = .ref (st 7) := by simp only [zk_v, g2, g3]
      have hst2 : stk = [Value.int (Int32.ofInt (zk_i E a.2.2))].reverse ++ .ref (st 7) :: r.map (zk_v E ad st) := by rw [hstk, List.map_cons, List.map_cons, hva, hvt]; rfl
      generalize hcv : Int32.ofInt (zk_i E a.2.2) = cv at hst2
      have hroom : 2 * (F0 m pc ls stk).monitorRoom + ((r.map (zk_v E ad st)).map fun v => v.category).sum ≤ 8 := lv_room (by rw [zk_csum_eq0]; exact g4)
      have hrecv := vk_recv hstr.2.1 (i := 0) (Nat.lt_succ_self 0) h.2.2
      have hPre : PreV s H "java/lang/String" (st 7) (va_Pc (.ref (st 7) :: [.int cv]) (zk_str st ba)) [.int cv] := ⟨zk_jblind, hrecv, fun U hU hW => ⟨rfl, zk_str_mv hstr hW fun a h1 h2 => by rw [hU]; exact h.2.2.2.1 a h1 h2⟩⟩
      have hR : (zk_rm 3).frames + 1 ≤ R.frames ∧ 8 + (2 + 11) + (zk_rm 3).locals ≤ R.locals := ⟨by have := hRk.1; show 3 + 1 ≤ R.frames; omega, by have := hRk.2.1; show 8 + (2 + 11) + 64 * 3 ≤ R.locals; omega⟩
      have hrun := va_runV (p := p) (l := l) (e := e) (R := R) (s := s) (m := m) (args := args) (below := below) (meth := meth) (H := H) (locs := locs) (cells := cells) (slots := slots) (g := F0 m pc ls stk) (rest := r.map (zk_v E ad st)) (Ts := G) (own := M.1.cls) (index := 59) ⟨hx, hb, hml, hcur, hts⟩ (zk_ji1 hG hw cv) ⟨callB_of (ret := some .int) 1 hts (zk_jgood2 hG (hw _ (List.mem_of_getElem? (i := 37) rfl))) rfl rfl rfl (ht _ (hw _ (List.mem_of_getElem? (i := 0) rfl))) (by rw [hown]; exact ht _ (hw _ (List.mem_of_getElem? (i := 38) rfl))) ⟨by decide, by decide, by decide +kernel⟩ hR, ht _ (hw _ (List.mem_of_getElem? (i := 39) rfl)), ht _ (hw _ (List.mem_of_getElem? (i := 40) rfl))⟩ hPre rfl rfl h.2.1.2.2.1.1 hst2 hroom hd ⟨hRk.2.2.1, hRk.2.2.2⟩
      refine zk_callX hrun h.2.2 (fun _ _ _ h => zk_QJ_F h) fun v s0 t2 locs1 h0 hQ hS1 => ?_
      obtain ⟨⟨x, e1, ⟨e2, e3⟩, e4⟩, hh⟩ := hQ
      cases e1
      rw [hh, h0] at hS1
      rw [hh, h0]
      have hAt2 : zk_At dC dI cl ad st cid ba ly M.2.2.1 s.heap E (N, hp, lc, a :: t :: r) H locs1 ls stk := ⟨h.1, h.2.1, hS1⟩
      have hsa : zk_sv N.1 a.2.2 := h.2.1.2.1 _ List.mem_cons_self
      obtain ⟨E', hP, hX⟩ := zk_push (tg := 0) (k := 0) hAt2 (zk_ix_to h.1.1 h.1.2.1 hsa e2 e3 (by rw [hcv]; exact e4)) (fun u hu => List.mem_cons_of_mem _ (List.mem_cons_of_mem _ hu)) (hg _ List.mem_cons_self)
      rw [zk_vi, hP] at hX
      exact hX
    · cases he
  · cases he
end
