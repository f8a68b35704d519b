noncomputable section
section ZO
variable {dC : Nat → ClassId} {dI : Nat → Nat → Nat} {cl : List vw_C} {ad st : Nat → Nat} {cid : zk_CI} {ba : Nat} {ly : List (Nat × Nat)} {tab : zk_Tab} {G nw : List Jvm.Cond} {PT : List zk_M} {CT : List zk_K} {l : Launch}
theorem zk_goodIn (hG : ∀ w ∈ G, (w.onTables && w.keeps) = true ∨ ∃ ty, w = Cond.arrayClass ty) {M' : zk_M} (h : zk_code M' ∈ G) : GoodIn G (zk_code M' :: G) := fun w hw => by
  rcases List.mem_cons.mp hw with rfl | hw
  · exact ⟨h, Or.inl rfl⟩
  · exact ⟨hw, hG w hw⟩
theorem zk_csum_eq (E : zk_E) (ad st : Nat → Nat) : ∀ (sk : List zk_T), ((sk.map (zk_v E ad st)).map fun v => v.category).sum = zk_csum sk
  | [] => rfl
  | t :: l => by
    simp only [List.map_cons, List.sum_cons, zk_csum]
    rw [zk_csum_eq E ad st l, zk_cat]
    by_cases h : t.1 = 1
    · rw [if_pos h, h]
    · rw [if_neg h]
      have : Nat.beq t.1 1 = false := by rw [Bool.eq_false_iff]; exact fun g => h (Nat.eq_of_beq_eq_true g)
      rw [this]
/-- behind a call: from each end of the callee -/
theorem zk_cont_ok {R : Room} {cells slots d : Nat} (hRk : zk_rk R d cells slots) {rec : zk_Rec} (hrec : zk_Snd dC dI cl ad st cid ba ly tab G nw PT l rec) {M : zk_M} {cx : List zk_Cx} {q : zk_I} {r : List zk_I} {z : zk_Z} {sk : List zk_T} {L L' : List zk_Ex} (hM : zk_Mok G nw cl tab PT M) (hr : ∀ v ∈ q :: r, v ∈ M.2.2.2.2.2.1) (hl3 : q.2.2.1 = 3) (hu : zk_all (zk_cont rec d M cx q r z.2.2.1 sk) L' = some L)
    {p : Program} {e : Env} {s : State} {m : MethodId} {args : Array Value} {below : List Frame} {meth : Method} {c : Code} (hF : zk_Fr dC dI cl st cid ba ly tab G nw M p s m args meth c)
    {E : zk_E} {H : Heap} {locs : List Loc} {ls : Array Slot} {stk : List Value} {E0 : zk_E} {n0 : Nat} {L0 : List zk_Ex} (hAt : zk_At dC dI cl ad st cid ba ly M.2.2.1 s.heap E z H locs ls stk) (hsk : ∀ t ∈ sk, t ∈ z.2.2.2) (ha : zk_ag n0 E0 E) (hn : n0 ≤ z.1.1) (hL : ∀ X ∈ L, X ∈ L0) (hsc : zk_scr st ba M s E0 n0)
    (hC : zk_HC dC dI cl ad st cid ba ly M.2.2.1 s.heap (zk_W p l e R s m args below meth c cells slots (zk_Q cells slots dC dI cl ad st cid ba ly below args s E0 n0 L0)) cx E z.1.1)
    {a : Array Value} {s0 t : State} {v : Option Value} {locs1 : List Loc} (hQ : zk_QX dC dI cl ad st cid ba ly E z.1.1 L' a s0 (.returned v) t) (hS : va_S (fun q => ba ≤ q) s.heap t.heap locs1) : W p l e R s m args below meth c t.heap locs1 cells slots (zk_Q cells slots dC dI cl ad st cid ba ly below args s E0 n0 L0) (F0 m (q.1 + 3) ls (v.toList ++ sk.map (zk_v E ad st))) := by
  obtain ⟨⟨X, hX, E', a1, a2, a3, a4, a5⟩, -⟩ := hQ
  obtain ⟨x, hx1, hx2⟩ := zk_all_at hu X hX
  cases a3
  have hfr := zk_fr_to hAt.2.1 a1 a2
  have e1 : sk.map (zk_v E ad st) = sk.map (zk_v E' ad st) := List.map_congr_left fun u hu => (zk_v_ag a1 (hAt.2.1.2.1 u (hsk u hu))).symm
  unfold zk_cont at hx1
  have := zk_next2_ok hRk hrec hM hr hx1 hF (E := E') (H := t.heap) (locs := locs1) (ls := ls) (stk := (X.2.2.map (zk_v E' ad st)).toList ++ sk.map (zk_v E ad st)) (E0 := E0) (n0 := n0) (L0 := L0) (below := below) (e := e) ⟨a4, ⟨hfr.1, fun u hu => ?_, hfr.2.2.1, ?_⟩, hS⟩ (zk_ag_tr ha a1 hn) (Nat.le_trans hn a2) (fun Y hY => hL Y (hx2 Y hY)) hsc (zk_HC_to hC a1 a2)
  · unfold zk_tg at this
    rw [hl3] at this
    exact this
  · simp only at hu
    split at hu
    · rename_i t' ht'
      rcases List.mem_cons.mp hu with rfl | hu
      · exact a5 _ ht'
      · exact hfr.2.1 u (hsk u hu)
    · exact hfr.2.1 u (hsk u hu)
  · simp only
    rw [e1]
    cases hX2 : X.2.2 with
    | none => rfl
    | some t' => rfl
set_option maxHeartbeats 2000000 in
theorem zk_call_ok {R : Room} {cells slots d : Nat} (hRk : zk_rk R d cells slots) (hCT : ∀ K ∈ CT, zk_Kok dC dI cl ad st cid ba ly tab G nw PT l K) (hnw : ∀ w ∈ nw, zk_isNest w) (hG : ∀ w ∈ G, (w.onTables && w.keeps) = true ∨ ∃ ty, w = Cond.arrayClass ty) (hPT : ∀ (i : Nat) (M : zk_M), PT[i]? = some M → zk_Mok G nw cl tab PT M ∧ M.1.cls ≠ "NightLetInLaw") {rec : zk_Rec} (hrec : zk_Snd dC dI cl ad st cid ba ly tab G nw PT l rec) {M : zk_M} {cx : List zk_Cx} {q : zk_I} {r : List zk_I} {z : zk_Z} {vi : Bool} {L : List zk_Ex} (hM : zk_Mok G nw cl tab PT M) (hr : ∀ v ∈ q :: r, v ∈ M.2.2.2.2.2.1)
    (hvi : (vi = false ∧ (Nat.beq q.2.2.2.2.2.1 77 = false ∧ zk_m3 q.2.2.2.2.2.1 = false) ∧ ∃ i, q.2.1 = .invokestatic i) ∨ (vi = true ∧ Nat.beq q.2.2.2.2.2.1 78 = false ∧ ∃ i, q.2.1 = .invokevirtual i)) (hu : zk_call PT CT rec d M cx q r z vi = some L)
    {p : Program} {e : Env} {s : State} {m : MethodId} {args : Array Value} {below : List Frame} {meth : Method} {c : Code} (hF : zk_Fr dC dI cl st cid ba ly tab G nw M p s m args meth c)
    {E : zk_E} {H : Heap} {locs : List Loc} {ls : Array Slot} {stk : List Value} {E0 : zk_E} {n0 : Nat} {L0 : List zk_Ex} (hAt : zk_At dC dI cl ad st cid ba ly M.2.2.1 s.heap E z H locs ls stk) (ha : zk_ag n0 E0 E) (hn : n0 ≤ z.1.1) (hL : ∀ X ∈ L, X ∈ L0) (hsc : zk_scr st ba M s E0 n0)
    (hC : zk_HC dC dI cl ad st cid ba ly M.2.2.1 s.heap (zk_W p l e R s m args below meth c cells slots (zk_Q cells slots dC dI cl ad st cid ba ly below args s E0 n0 L0)) cx E z.1.1) : W p l e R s m args below meth c H locs cells slots (zk_Q cells slots dC dI cl ad st cid ba ly below args s E0 n0 L0) (F0 m q.1 ls stk) := by
  have hF' := hF
  obtain ⟨hx, hb, hml, hrt, hlk, hown, hts, hS0⟩ := hF'
  obtain ⟨hd, -, -, -, kK⟩ := hM.2.2.2 q (hr q List.mem_cons_self)
  have hstk := hAt.2.1.2.2.2
  have hSH : ∀ U : State, U.heap = H → s.WarmedH U.vm → zk_S0 dC dI cl st cid ba ly tab nw U := fun U hU hW => zk_S0_mv hnw hS0 hW fun a h1 h2 => by rw [hU]; exact hAt.2.2.2.1 a h1 h2
  unfold zk_call at hu
  split at hu
  · rename_i M' d' hM'
    rw [zk_get_eq] at hM'
    have hMok2 := hPT _ _ hM'
    have hMok' := hMok2.1
    split at hu
    · rename_i as sk htk
      obtain ⟨u, hu1, hu2, hu3⟩ := zk_take_of htk
      rw [List.append_nil] at hu1
      have hus : ∀ t ∈ u, zk_tv z.1.1 t := fun t ht => hAt.2.1.2.1 t (by rw [hu2]; exact List.mem_append_left _ ht)
      have has : ∀ t ∈ as, zk_tv z.1.1 t := fun t ht => hus t (by rw [hu1] at ht; exact List.mem_reverse.mp ht)
      have hrev : u.map (zk_v E ad st) = (as.map (zk_v E ad st)).reverse := by rw [hu1, List.map_reverse, List.reverse_reverse]
      have haslen : (as.map (zk_v E ad st)).length = M'.2.2.2.2.1 := by rw [List.length_map, hu1, List.length_reverse, hu3]
      rcases hvi with ⟨rfl, h77, i, hi⟩ | ⟨rfl, h78, i, hi⟩
      · simp only at hu
        unfold zk_kK at kK
        rw [hi] at hd kK
        simp only at kK
        obtain ⟨hl3, -, -, kK2⟩ := kK
        obtain ⟨M2, k1, k2, k3, k4⟩ := kK2 h77.1 h77.2
        cases hM'.symm.trans k1
        split at hu
        · rename_i q0 r0 g hops
          simp only [Bool.and_eq_true] at g
          obtain ⟨⟨g1, g2⟩, g3⟩ := g
          have g1 := Nat.ble_eq.mp g1
          have g2 := Nat.ble_eq.mp g2
          have g3 := Nat.ble_eq.mp g3
          split at hu
          · rename_i L' g4 hrun
            have g4 := Nat.eq_of_beq_eq_true g4
            obtain ⟨dk, hdk, hMet⟩ := zk_inl_ok hCT hrec hM' hMok2 hops g4 hAt.1.1 hAt.1.2.1 hAt.1.2.2.1 hAt.1.2.2.2.1 has g1 hrun
            have hPre : PreS s H (va_Pc (as.map (zk_v E ad st)) (fun U => zk_S0 dC dI cl st cid ba ly tab nw U ∧ zk_wd dC dI cl ad st cid ba ly E z.1 z.2.1 U.heap)) (as.map (zk_v E ad st)) := ⟨zk_blind hnw, fun U hU hW => ⟨rfl, hSH U hU hW, by rw [hU]; exact hAt.1⟩⟩
            have hst2 : stk = (as.map (zk_v E ad st)).reverse ++ sk.map (zk_v E ad st) := by rw [hstk, hu2, List.map_append, hrev]
            have hroom : 2 * (F0 m q.1 ls stk).monitorRoom + ((sk.map (zk_v E ad st)).map fun v => v.category).sum ≤ 8 := lv_room (by rw [zk_csum_eq]; exact g3)
            have hR : (zk_rm dk).frames + 1 ≤ R.frames ∧ 8 + (M'.2.2.1 + 11) + (zk_rm dk).locals ≤ R.locals := ⟨by have := hRk.1; show dk + 1 ≤ R.frames; omega, by have := hRk.2.1; show 8 + (M'.2.2.1 + 11) + 64 * dk ≤ R.locals; omega⟩
            have hrun2 : va_Run p l e R s m args below meth c H locs cells slots 0 0 (F0 m q.1 ls stk) (sk.map (zk_v E ad st)) (zk_QX dC dI cl ad st cid ba ly E z.1.1 L' (as.map (zk_v E ad st)).toArray) (fun q => ba ≤ q) := by
              rcases k4 with k4 | ⟨host, k4⟩
              · exact va_runS (Ts := G) (own := M.1.cls) ⟨hx, hb, hml, hown, hts⟩ hMet ⟨callB_of (ret := M'.2.2.2.1) M'.2.2.2.2.1 hts (zk_goodIn hG (hMok'.2.1 hMok2.2)) rfl rfl rfl (hts _ k3) (hts _ k4) hMok'.2.2.1 hR, hts _ k2⟩ hPre rfl haslen hAt.2.1.2.2.1.1 hst2 hroom (by rw [hl3] at hd; exact hd) ⟨hRk.2.2.1, hRk.2.2.2⟩
              · exact va_runSN (Ts := G) (own := M.1.cls) (host := host) ⟨hx, hb, hml, hown, hts⟩ hMet ⟨va_cnB (ret := M'.2.2.2.1) M'.2.2.2.2.1 hts (zk_goodIn hG (hMok'.2.1 hMok2.2)) rfl rfl rfl (hS0.2.2 _ k4) (hts _ k3) hMok'.2.2.1 hR, hts _ k2, trivial⟩ hPre rfl haslen hAt.2.1.2.2.1.1 hst2 hroom (by rw [hl3] at hd; exact hd) ⟨hRk.2.2.1, hRk.2.2.2⟩
            refine zk_callX hrun2 hAt.2.2 (fun _ _ _ h => h.2) fun v s0 t locs1 h0 hQ hS => ?_
            exact zk_cont_ok hRk hrec hM hr hl3 hu hF hAt (fun t ht => by rw [hu2]; exact List.mem_append_right _ ht) ha hn hL hsc hC hQ hS
          · cases hu
        · cases hu
      · simp only at hu
        unfold zk_kK at kK
        rw [hi] at hd kK
        simp only at kK
        obtain ⟨hl3, -, kK2⟩ := kK
        obtain ⟨M2, rr, k1, k2, k3, k4, k5, k6, k7⟩ := kK2 h78
        cases hM'.symm.trans k1
        split at hu
        · cases hu
        · rename_i t sk'
          split at hu
          · rename_i cc' q0 r0 g hcell hops
            simp only [Bool.and_eq_true] at g
            obtain ⟨⟨⟨g1, g2⟩, g3⟩, g5⟩ := g
            have g1 := Nat.ble_eq.mp g1
            have g2 := Nat.ble_eq.mp g2
            have g3 := Nat.ble_eq.mp g3
            have g5 := Nat.eq_of_beq_eq_true g5
            rw [zk_get_eq] at hcell
            split at hu
            · rename_i L' g4 hrun
              simp only [Bool.and_eq_true] at g4
              obtain ⟨⟨g4, g6⟩, g7⟩ := g4
              have g4 := Nat.eq_of_beq_eq_true g4
              have g6 := Nat.eq_of_beq_eq_true g6
              have g7 := zk_eqi_of g7
              have htv : zk_tv z.1.1 t := hAt.2.1.2.1 t (by rw [hu2]; simp)
              have has' : ∀ v ∈ t :: as, zk_tv z.1.1 v := fun v hv => by
                rcases List.mem_cons.mp hv with rfl | hv
                · exact htv
                · exact has v hv
              obtain ⟨dk, hdk, hMet⟩ := zk_inl_ok hCT hrec hM' hMok2 hops g4 hAt.1.1 hAt.1.2.1 hAt.1.2.2.1 hAt.1.2.2.2.1 has' g1 hrun
              have hvt : zk_v E ad st t = .ref (ad t.2.1) := by simp only [zk_v, g5]
              rw [List.map_cons, hvt] at hMet
              have hws := zk_ws_0 (E := E) (ad := ad) (st := st) (cid := cid) hcell
              have ec : zk_ce E ad st cid t.2.1 cc' = .inr (cc'.2.1, cc'.2.2.map (zk_v E ad st)) := by simp only [zk_ce, g6]
              rw [ec] at hws
              have hcl2 : cl[cc'.2.1]? = some rr := by
                have : q.2.2.2.2.2.2.toNat = cc'.2.1 := by rw [← g7]; rfl
                rw [← this]; exact k6
              have hrecv := va_recv hS0.1.1 hAt.1.2.2.2.2.1 hcl2 hws
              rw [k7] at hrecv
              have hPre : PreV s H M'.1.cls (ad t.2.1) (va_Pc (.ref (ad t.2.1) :: as.map (zk_v E ad st)) (fun U => zk_S0 dC dI cl st cid ba ly tab nw U ∧ zk_wd dC dI cl ad st cid ba ly E z.1 z.2.1 U.heap)) (as.map (zk_v E ad st)) := ⟨zk_blind hnw, hrecv, fun U hU hW => ⟨rfl, hSH U hU hW, by rw [hU]; exact hAt.1⟩⟩
              have hst2 : stk = (as.map (zk_v E ad st)).reverse ++ .ref (ad t.2.1) :: sk'.map (zk_v E ad st) := by rw [hstk, hu2, List.map_append, hrev, List.map_cons, hvt]
              have hroom : 2 * (F0 m q.1 ls stk).monitorRoom + ((sk'.map (zk_v E ad st)).map fun v => v.category).sum ≤ 8 := lv_room (by rw [zk_csum_eq]; exact g3)
              have hR : (zk_rm dk).frames + 1 ≤ R.frames ∧ 8 + (M'.2.2.1 + 11) + (zk_rm dk).locals ≤ R.locals := ⟨by have := hRk.1; show dk + 1 ≤ R.frames; omega, by have := hRk.2.1; show 8 + (M'.2.2.1 + 11) + 64 * dk ≤ R.locals; omega⟩
              have hrun2 := va_runV (p := p) (e := e) (R := R) (s := s) (m := m) (args := args) (below := below) (meth := meth) (H := H) (locs := locs) (cells := cells) (slots := slots) (g := F0 m q.1 ls stk) (rest := sk'.map (zk_v E ad st)) (Ts := G) (own := M.1.cls) (index := i) ⟨hx, hb, hml, hown, hts⟩ hMet ⟨callB_of (ret := M'.2.2.2.1) M'.2.2.2.2.1 hts (zk_goodIn hG (hMok'.2.1 hMok2.2)) rfl rfl rfl (hts _ k4) (hts _ k5) hMok'.2.2.1 hR, hts _ k2, hts _ k3⟩ hPre rfl haslen hAt.2.1.2.2.1.1 hst2 hroom (by rw [hl3] at hd; exact hd) ⟨hRk.2.2.1, hRk.2.2.2⟩
              refine zk_callX hrun2 hAt.2.2 (fun _ _ _ h => h.2) fun v s0 t2 locs1 h0 hQ hS => ?_
              exact zk_cont_ok hRk hrec hM hr hl3 hu hF hAt (fun v hv => by rw [hu2]; simp [hv]) ha hn hL hsc hC hQ hS
            · cases hu
          · cases hu
    · cases hu
  · cases hu
end ZO
end
