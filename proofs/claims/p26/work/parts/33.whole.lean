noncomputable section
/-! THE CLAIM OUT OF ONE WALK OF THE LAW'S BODY. Your part is whole_start (and what it stands on); all else here is the same for every law, but numbers. -/
def R_law : String := "NightLetInLaw"
def lw_P (b : Addr) (xs : List Int32) (args : Array Value) (s : State) : Prop := args = #[.ref b] ∧ s.IntsAt b xs ∧ xs.length ≤ 3072 ∧ (Jvm.Cond.and given_1 narrow_1).before args s = true
def lw_Q (_ : Array Value) (s : State) (o : Outcome) (t : State) : Prop := o = .returned (some (.int 1)) ∧ Framed s o t [] 600000 7302250
def lw_Z (below : List Frame) (a : Array Value) (s : State) : State → Prop := fun t => ∃ o, t.status = .running ∧ Ended t below o ∧ lw_Q a s o t
/-- the law's own end, with 1 on the stack, nothing written that was there before, its room as the claim has it -/
theorem lw_ret {p : Program} {l : Launch} {e : Env} {s : State} {m : MethodId} {below : List Frame} {meth : Method} {c : Code} {b : Nat} (hx : p.tables.exec = Jvm.exec) (hb : c.code = code) (hr : meth.sig.returnType = ret) (hlocks : meth.locks = false) {pc : Nat} {H : Heap} {ls : Array Slot} (hdg : decode code pc = .ok (.ireturn, 1)) : W p l e room_1 s m #[Value.ref b] below meth c H [] 600000 7302250 (lw_Z below #[Value.ref b] s) (F0 m pc ls [.int 1]) := by
  intro T hT X
  obtain ⟨fs, hret, hrun, hended, hW, hframe⟩ := X.leave (v := some (.int 1)) (hlocks := hlocks) (fun h => by rw [hr] at h; cases h)
  have hmeth' : T.vm.method? m = some meth := X.method'
  refine ⟨T.setFrames fs, ?_, .returned (some (.int 1)), hrun, hended, rfl, ⟨_, rfl⟩, hW, hframe⟩
  jvm_step X.here [X.here.top, hx, hb, hdg, hmeth', hr, ret, narrow_b1]
  (try refine ⟨rfl, ?_⟩); (try refine ⟨rfl, ?_⟩)
  first | (intro acts; rw [hret _ acts rfl rfl rfl]) | rw [hret _ _ rfl rfl rfl]
  exact Steps.refl _
/-- what holds at the law's entry: the machine, the code, the tables' words (any of lw_tbl by 'hts w (by decide +kernel)'), the script of L ints xs at the cell b, what the Statement gives of the start (any of its parts by flat_of_before) -/
def lw_At (p : Program) (s : State) (m : MethodId) (meth : Method) (c : Code) (b L : Nat) (xs : Nat → Int32) : Prop :=
  p.tables.exec = Jvm.exec ∧ c.code = code ∧ meth.sig.returnType = ret ∧ c.maxLocals = 4 ∧ s.vm.findClass R_law = some m.cls ∧ (∀ w ∈ lw_tbl, w.before #[Value.ref b] s = true) ∧ va_X b L xs s s.heap ∧ b < s.heap.size ∧ meth.locks = false ∧ (Jvm.Cond.and given_1 narrow_1).before #[Value.ref b] s = true
-- ===== YOUR PART BEGINS =====
def zl_F : List Jvm.Cond := flatC (Jvm.Cond.and given_1 narrow_1)
theorem zl_w1 : zk_tab.all (zl_tw lw_tbl zl_F) = true := by decide +kernel
theorem zl_w2 : zl_sw lw_tbl zl_F = true := by decide +kernel
theorem zl_w3 : (zk_el (Cond.arrayClass .int) lw_tbl && zk_el (Cond.arrayClass .long) lw_tbl && zk_el (Cond.arrayClass .byte) lw_tbl && zk_el (Cond.arrayClass .short) lw_tbl && zk_el (Cond.arrayOver (.object "NightLetIn$Shelf")) lw_tbl && zk_ly0.all fun kd => Nat.blt kd.2 2147483648 && Nat.ble kd.1 5) = true := by decide +kernel
theorem zl_w4 : (vwCl.all fun r => zk_el (Cond.instantiable r.1 r.2.2) lw_tbl) = true := by decide +kernel
theorem zl_w5 : zk_el (Cond.arrayOver (.object "NightLetIn$Shelf")) lw_tbl = true := by decide +kernel
theorem zl_cl0 : zk_cl zb_N0 := by
  refine ⟨fun q hq => ?_, fun f hf => absurd hf List.not_mem_nil, fun g hg => ?_⟩
  · rw [List.mem_singleton.mp hq]
    exact Nat.zero_lt_succ 1
  · rcases List.mem_cons.mp hg with rfl | hg
    · exact ⟨fun a ha => by rw [List.mem_singleton.mp ha]; exact Nat.zero_lt_succ 1, fun v hv => by
        rcases List.mem_cons.mp hv with rfl | hv
        · exact zk_c_sv
        · rw [List.mem_singleton.mp hv]; exact zk_c_sv⟩
    · rw [List.mem_singleton.mp hg]
      exact ⟨fun a ha => by rw [List.mem_singleton.mp ha]; exact Nat.le_refl 2, fun v hv => by
        rcases List.mem_cons.mp hv with rfl | hv
        · exact zk_c_sv
        · rw [List.mem_singleton.mp hv]; exact zk_c_sv⟩
def zl_E (L : Nat) (xs : Nat → Int32) : zk_E := (fun _ => (L : Int), fun a => match a with
  | 0 => fun j => (xs j).toInt
  | _ => fun _ => 0)
theorem zl_ok0 {L : Nat} {xs : Nat → Int32} (hL : L ≤ 3072) : zk_ok (zl_E L xs) zb_N0 := by
  refine ⟨fun q hq => ?_, fun f hf => absurd hf List.not_mem_nil, fun g hg => ?_⟩
  · rw [List.mem_singleton.mp hq]
    show (0 : Int) ≤ (L : Int) ∧ (L : Int) ≤ 3072
    omega
  · rcases List.mem_cons.mp hg with rfl | hg
    · simp only [List.map_cons, List.map_nil, zk_S, zk_c_i]
      intro j
      have h1 := Int32.le_toInt (xs j)
      have h2 := Int32.toInt_lt (xs j)
      show -2147483648 ≤ (xs j).toInt ∧ (xs j).toInt ≤ 2147483647
      omega
    · rw [List.mem_singleton.mp hg]
      simp only [List.map_cons, List.map_nil, zk_S, zk_c_i]
      exact fun j => ⟨Int.le_refl _, Int.le_refl _⟩
theorem zl_one_of {X : zk_Ex} (h : zl_one X = true) (E : zk_E) (ad st : Nat → Nat) : X.2.2.map (zk_v E ad st) = some (.int 1) := by
  unfold zl_one at h
  split at h
  · rename_i t ht
    simp only [Bool.and_eq_true] at h
    have h1 := Nat.eq_of_beq_eq_true h.1
    have h2 := zk_eqv_of h.2
    rw [ht, Option.map_some]
    simp only [zk_v, h1, h2, zk_c_i]
    rfl
  · cases h
/-- YOUR PART: from the entry, for every script of at most 3072 ints, the law comes to its end with true ('hflags': the launch's flags, for a law that throws: no stack traces) -/
theorem whole_start {p : Program} {e : Env} {s : State} {m : MethodId} {below : List Frame} {meth : Method} {c : Code} (l : Launch) (hflags : l.flags = flags0) {b L : Nat} {xs : Nat → Int32} (hL : L ≤ 3072) (C0 : lw_At p s m meth c b L xs) : W p l e room_1 s m #[Value.ref b] below meth c s.heap [] 0 0 (lw_Z below #[Value.ref b] s) (entryFrame m ([Value.ref b] : List Value).toArray 4) := by
  obtain ⟨hx, hb, hr, hml, hown, hts, hX, hbl, hlocks, hgv⟩ := id C0
  have hF : ∀ w ∈ zl_F, w.before #[Value.ref b] s = true := flat_of_before _ hgv
  have hGw : ∀ w ∈ zl_Gw, w.before #[Value.ref b] s = true := fun w hw => hts w (List.mem_filter.mp hw).1
  have hnw : ∀ w ∈ zk_nw, w.before #[Value.ref b] s = true := fun w hw => hts w (zk_nw_in w hw)
  have htb : ∀ w ∈ zl_Gw ++ zk_nw, w.before #[Value.ref b] s = true := fun w hw => by
    rcases List.mem_append.mp hw with h | h
    · exact hGw w h
    · exact hnw w h
  obtain ⟨dC, dI, hKn⟩ := zl_known_of zl_cls htb hts zl_w4
  obtain ⟨cid, hcid⟩ := zl_arr_of hts zl_w3
  obtain ⟨st, hs9, hs10, hsta⟩ := zl_sta_of hts hF zl_w1 zl_w2 (Nat.le_of_ble_eq_true rfl) b L
  have hS0 : zk_S0 dC dI vwCl st cid s.heap.size zk_ly0 zk_tab zk_nw s := ⟨⟨⟨hKn, fun k q h => by simp at h⟩, hcid⟩, hsta, fun w hw => by
    rcases zk_nw_ok w hw with ⟨a, i, x, h, rfl⟩ | ⟨a, i, b', n, d, h, rfl⟩
    · exact va_Nw.of rfl (hnw _ hw)
    · exact va_Nw.of rfl (hnw _ hw)⟩
  have hZ : zb_S dC dI vwCl st cid s.heap.size zk_ly0 zk_tab zk_nw s := ⟨hS0, Nat.le_refl _, va_AO.of (hts _ (zk_el_of zl_w5))⟩
  have hFr : zk_Fr dC dI vwCl st cid s.heap.size zk_ly0 zk_tab zl_Gw zk_nw zm_law p s m #[Value.ref b] meth c := ⟨hx, hb, hml, hr, hlocks, hown, hGw, hS0⟩
  have hl := lv_entry ([.ref b]) (n := 4) (Nat.le_of_ble_eq_true rfl)
  rw [lg_entry_eq]
  generalize (lg_sl ([.ref b]) ++ List.replicate (4 - (lg_sl ([.ref b])).length) Slot.unset).toArray = ls at hl ⊢
  have hl : lv_has ls 4 [(0, .ref b)] := hl
  have hl2 : lv_has ls 4 [(0, Value.ref (st 9))] := by rw [hs9]; exact hl
  have hAt0 : zb_At dC dI vwCl st cid s.heap.size zk_ly0 zm_law.2.2.1 s.heap (zl_E L xs) [] (zb_N0, [], [(0, (4, 9, zk_c 0))], []) s.heap [] ls [] :=
    ⟨rfl, ⟨zl_ok0 hL, zl_cl0, fun c hc => absurd hc List.not_mem_nil, fun k c hk => by simp at hk, fun k q h => by simp [zk_ws] at h, ⟨fun i j p q h => by simp [zk_ws] at h, fun k q h => by simp [zk_ws] at h⟩⟩, ⟨fun q hq => by rw [List.mem_singleton.mp hq]; exact zk_c_sv, fun t ht => absurd ht List.not_mem_nil, hl2, rfl⟩, va_S.rf⟩
  have hsc : zk_scr st s.heap.size zm_law s (zl_E L xs) 2 := fun _ => ⟨Nat.zero_lt_succ 1, by rw [hs10]; rfl, by rw [hs10]; omega, by rw [hs9]; exact Nat.not_le.mpr hbl, by rw [hs9]; exact hbl, xs, by rw [hs9, hs10]; exact hX, rfl⟩
  refine zl_top (fun ad K hK => zl_CT K hK dC dI ad st cid s.heap.size l) zk_nw_ok zl_GwG zl_cls zl_PT zl_RT zl_PTc zk_claw zb_claw (by decide) rfl (N0 := zb_N0) (en := zl_en) (thf := zl_th) (k := 100000 + 11) zl_A zl_C zl_B rfl rfl rfl zl_cl0 (R := room_1) hFr hZ (Nat.le_of_ble_eq_true rfl) (Nat.le_of_ble_eq_true rfl) (Nat.le_of_ble_eq_true rfl) (Nat.le_of_ble_eq_true rfl) hAt0 hsc fun ad L' t h1 h2 => ?_
  obtain ⟨o, q1, q2, ⟨⟨X, hX1, E', -, -, x3, -⟩, -⟩, Lc, q4, q5⟩ := h2
  refine ⟨o, q1, q2, ?_, zl_end q4 q5⟩
  rw [x3, zl_one_of (h1 X hX1)]
-- ===== YOUR PART ENDS =====
set_option maxHeartbeats 4000000 in
theorem lw_walk (l : Launch) (hflags : l.flags = flags0) (b : Addr) (xs : List Int32) : MetFree l x (headSpec (Jvm.Cond.code x code maxLocals ret :: tables_1) room_1) (lw_P b xs) (fun _ _ _ _ _ => True) lw_Q := by
  refine MetFree.of_bodyS (code := code) (maxLocals := maxLocals) (ret := ret) (by decide) ?_ ?_
  · intro args s m h hn
    obtain ⟨meth, c, h1, h2, h3, h4, h5, h6, -, -⟩ := Cond.code_spec hn (atoms_spec (ws := Jvm.Cond.code x code maxLocals ret :: tables_1) h _ List.mem_cons_self)
    exact ⟨meth, c, h1, h2, h3, h4, h5, h6⟩
  · intro p e s m args below meth c s₁ B hml0 hP _
    obtain ⟨rfl, hx, hbd, hgv⟩ := hP
    obtain ⟨scr, harrAt, hlist, hof, hsmall⟩ := hx
    obtain ⟨hcb, hkn, -, -⟩ := State.arrayAt?_spec harrAt
    have hown : s.vm.findClass R_law = some m.cls := findClass_of_methodNamed B.named
    have hts0 : ∀ c ∈ (Jvm.Cond.code x code maxLocals ret :: tables_1), c.before #[Value.ref b] s = true := atoms_spec (ws := Jvm.Cond.code x code maxLocals ret :: tables_1) B.pre
    have hts : ∀ w ∈ lw_tbl, w.before #[Value.ref b] s = true := k2_hts_sels lw_privs (fun w hw => hts0 w (List.mem_cons_of_mem _ hw)) lw_privs_ok
    have hml : c.maxLocals = 4 := B.maxLocals_eq (hts0 _ List.mem_cons_self)
    have X₀ : Stand p l e room_1 s m #[Value.ref b] below meth c s₁ [] 0 0 := Stand.of_body B
    have hh0 : s₁.heap = s.heap := by rw [B.state]; rfl
    have hsz : scr.slots.size = xs.length := by rw [← Array.length_toList, hlist, List.length_map]
    have hval : ∀ j : Nat, j < xs.length → scr.slots[j]? = some (.int (xs.getD j 0)) := fun j hj => by
      rw [← Array.getElem?_toList, hlist]
      simp [hj]
    have hbl : b < s.heap.size := (Array.getElem?_eq_some_iff.mp hcb).1
    have hX : va_X b xs.length (fun j => xs.getD j 0) s s.heap := ⟨scr, hcb, hof, hkn, hsz, hval⟩
    have K : W p l e room_1 s m #[Value.ref b] below meth c s₁.heap [] 0 0 (lw_Z below #[Value.ref b] s) (entryFrame m ([Value.ref b] : List Value).toArray 4) := by
      rw [hh0]
      exact whole_start l hflags hbd ⟨B.exec, B.bytes, B.returns, hml, hown, hts, hX, hbl, B.notSynchronized, hgv⟩
    obtain ⟨t, a1, o, b1, b2, b3⟩ := K s₁ rfl X₀
    exact ⟨t, o, a1, b1, b2, b3⟩
theorem lw_pre_spec {args : Array Value} {s : State} (h : (Jvm.Cond.and given_1 narrow_1).before args s = true) (hr : rest_1_c.before args s = true) : ∃ (b : Addr) (xs : List Int32), lw_P b xs args s := by
  have hs := flat_of_before _ h
  have hq := flat_of_before _ hr
  have hc : (Cond.count 1).before args s = true := hs _ (by decide +kernel)
  have harr : (Cond.arrayOf (.arg 0) .int).before args s = true := hs _ (by decide +kernel)
  have hle : (Cond.le (.length (.arg 0)) (.int 3072)).before args s = true := hs _ (by decide +kernel)
  have hlen : (Cond.isInt (.length (.arg 0))).before args s = true := hq _ (by decide +kernel)
  have hall : (Cond.all (.arg 0) (.isInt (.elem (.arg 0) (.index 0)))).before args s = true := hq _ (by decide +kernel)
  obtain ⟨b, xs, hb, hx⟩ := State.ints_of_pre rfl harr hlen hall
  have hsm : xs.length < 2 ^ 31 := hx.choose_spec.2.2.2
  have hev : (Term.length (.arg 0)).eval args s none [] s = some (.int xs.length.toInt32) := hx.length_eval hb
  have hv := Cond.le_ints hev (show (Term.int 3072).eval args s none [] s = some (.int 3072) from rfl)
  have hd : xs.length.toInt32 ≤ 3072 := by
    simpa [Cond.before, Cond.holds, hv] using hle
  have hN : xs.length ≤ 3072 := (Int32.ofNat_le_ofNat hsm (by decide)).mp (show Int32.ofNat xs.length ≤ Int32.ofNat 3072 from hd)
  exact ⟨b, xs, Cond.one_arg hc (show args[0]? = some (.ref b) from hb), hx, hN, h⟩
theorem lw_comes (l : Launch) (hflags : l.flags = flags0) : Comes l x (Jvm.Cond.code x code maxLocals ret :: tables_1) room_1 (fun tb e args s => Calls_1 tb e args s ∧ rest_1 tb e args s ∧ Pre_1 tb e args s)
    (fun _ _ args s o t => lw_Q args s o t) := by
  intro p e ha hc hk s m args below hf hfit hheap happ hpre
  obtain ⟨b, xs, hP⟩ := lw_pre_spec hpre.2.2 hpre.2.1
  obtain ⟨k, o, h1, h2, h3, hQ⟩ := lw_walk l hflags b xs p e ha hc hk s m args below hf ((Spec.applies_iff_loose hf).mp happ).1 hP trivial
  exact ⟨k, o, h1, h2, h3, hQ⟩
theorem lw_frame {s t : State} {o : Outcome} {args : Array Value} (h : Framed s o t [] 600000 7302250) :
    Framed s o t (fieldLocs frame_1_writes args s ++ arrayLocs frame_1_arrays args s ++ staticLocs frame_1_statics s) 600000 7302250 := h
theorem lw_limb (L : Cond) (hL : ∀ (args : Array Value) (s t : State), L.after args s (.returned (some (.int 1))) t = true) :
    ArmFor flags0 classFile x code maxLocals ret World_1 tables_1 room_1 Calls_1 rest_1 Pre_1
      (fun tb e a s o t => postC L tb e a s o t ∧ Framed s o t (fieldLocs frame_1_writes a s ++ arrayLocs frame_1_arrays a s ++ staticLocs frame_1_statics s) 600000 7302250) := by
  intro l hflags _ _ p e ha hc hk s m args below hf hfit hheap happ hpre
  obtain ⟨k, o, h1, h2, h3, rfl, hF⟩ := lw_comes l hflags p e ha hc hk s m args below hf hfit hheap happ hpre
  exact ⟨k, _, h1, h2, h3, hL args s _, lw_frame hF⟩
theorem i_vc : Claimed_1_1 ∧ Claimed_1_2 := ⟨lw_limb limb_1_1 (fun args s t => by simp [limb_1_1, Cond.after, Cond.holds, Cond.value]), lw_limb limb_1_2 (fun args s t => Cond.after_iff.mpr (by
  first | (rw [show limb_1_2 = Cond.eq .result (.int 1) from rfl, Cond.eq_ints (x := 1) (y := 1) rfl rfl]; simp; done) | (simp [limb_1_2, Cond.value, Term.eval]; done)))⟩
end
