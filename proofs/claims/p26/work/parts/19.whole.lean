noncomputable section
section ZP
variable {dC : Nat → ClassId} {dI : Nat → Nat → Nat} {cl : List vw_C} {ad st : Nat → Nat} {cid : zk_CI} {ba : Nat} {ly : List (Nat × Nat)} {tab : zk_Tab} {G nw : List Jvm.Cond} {PT : List zk_M} {CT : List zk_K} {RT : List zk_Rl} {l : Launch}
theorem zk_nar_b (x : Int32) (h : x = 0 ∨ x = 1) : narrow .boolean (.int x) = .int x := by
  rcases h with rfl | rfl <;> decide
set_option maxHeartbeats 2000000 in
/-- one row -/
theorem zk_ex1_ok {R : Room} {cells slots d : Nat} (hRk : zk_rk R d cells slots) (hCT : ∀ K ∈ CT, zk_Kok dC dI cl ad st cid ba ly tab G nw PT l K) (hnw : ∀ w ∈ nw, zk_isNest w) (hG : ∀ w ∈ G, (w.onTables && w.keeps) = true ∨ ∃ ty, w = Cond.arrayClass ty) (hcls : zk_cls cl (G ++ nw)) (hPT : ∀ (i : Nat) (M : zk_M), PT[i]? = some M → zk_Mok G nw cl tab PT M ∧ M.1.cls ≠ "NightLetInLaw") {rec : zk_Rec} (hrec : zk_Snd dC dI cl ad st cid ba ly tab G nw PT l rec) {M : zk_M} {cx : List zk_Cx} {q : zk_I} {r : List zk_I} {z : zk_Z} {L : List zk_Ex} (hM : zk_Mok G nw cl tab PT M) (hr : ∀ v ∈ q :: r, v ∈ M.2.2.2.2.2.1)
    (hu : zk_ex1 PT CT tab rec d M cx q r z = some L)
    {p : Program} {e : Env} {s : State} {m : MethodId} {args : Array Value} {below : List Frame} {meth : Method} {c : Code} (hF : zk_Fr dC dI cl st cid ba ly tab G nw M p s m args meth c)
    {E : zk_E} {H : Heap} {locs : List Loc} {ls : Array Slot} {stk : List Value} {E0 : zk_E} {n0 : Nat} {L0 : List zk_Ex} (hAt : zk_At dC dI cl ad st cid ba ly M.2.2.1 s.heap E z H locs ls stk) (ha : zk_ag n0 E0 E) (hn : n0 ≤ z.1.1) (hL : ∀ X ∈ L, X ∈ L0) (hsc : zk_scr st ba M s E0 n0)
    (hC : zk_HC dC dI cl ad st cid ba ly M.2.2.1 s.heap (zk_W p l e R s m args below meth c cells slots (zk_Q cells slots dC dI cl ad st cid ba ly below args s E0 n0 L0)) cx E z.1.1) : W p l e R s m args below meth c H locs cells slots (zk_Q cells slots dC dI cl ad st cid ba ly below args s E0 n0 L0) (F0 m q.1 ls stk) := by
  have hF' := hF
  obtain ⟨hx, hb, hml, hrt, hlk, hown, hts, hS0⟩ := hF'
  obtain ⟨hd, -, -, -, kK⟩ := hM.2.2.2 q (hr q List.mem_cons_self)
  have hstk := hAt.2.1.2.2.2
  have fin : ∀ (v : Option zk_T), (z.1, z.2.1, v) ∈ L → (∀ u, v = some u → zk_tv z.1.1 u) → ∀ t : State, t.heap = H → s.WarmedH t.vm → zk_QX dC dI cl ad st cid ba ly E0 n0 L0 args s (.returned (v.map (zk_v E ad st))) t := fun v hv hs t ht _ => ⟨⟨_, hL _ hv, E, ha, hn, rfl, by rw [ht]; exact hAt.1, hs⟩, hAt.2.2.F ht⟩
  unfold zk_ex1 at hu
  unfold zk_kK at kK
  split at hu
  · rename_i hi
    rw [hi] at hd kK
    simp only at kK
    rw [kK] at hd
    split at hu
    · rename_i t hsk
      split at hu
      · rename_i g
        simp only [Bool.and_eq_true] at g
        have g1 := Nat.eq_of_beq_eq_true g.1
        cases hu
        have hvt : zk_v E ad st t = .int (Int32.ofInt (zk_i E t.2.2)) := by simp only [zk_v, g1]
        have hf := fin (some t) List.mem_cons_self (fun u hu => by cases hu; exact hAt.2.1.2.1 t (by rw [hsk]; exact List.mem_cons_self))
        rw [hstk, hsk, List.map_cons, List.map_nil, hvt]
        rw [Option.map_some, hvt] at hf
        have g2 := g.2
        unfold zk_retI at g2
        split at g2
        · rename_i hret
          exact W.iret hx hb (by rw [hrt, hret]) hf hAt.2.2.2.2 hd
        · rename_i hret
          have hix := zk_ix_ok hAt.1.1 g2
          refine W.zret hx hb (by rw [hrt, hret]) (zk_nar_b _ ?_) hf hAt.2.2.2.2 hd
          rcases (show zk_i E t.2.2 = 0 ∨ zk_i E t.2.2 = 1 by omega) with e | e <;> rw [e]
          · exact Or.inl rfl
          · exact Or.inr rfl
        · cases g2
      · cases hu
    · cases hu
  · rename_i hi
    rw [hi] at hd kK
    simp only at kK
    rw [kK] at hd
    split at hu
    · rename_i t hsk
      split at hu
      · rename_i g
        simp only [Bool.and_eq_true] at g
        have g1 := Nat.eq_of_beq_eq_true g.1
        cases hu
        have hvt : zk_v E ad st t = .long (Int64.ofInt (zk_i E t.2.2)) := by simp only [zk_v, g1]
        have hf := fin (some t) List.mem_cons_self (fun u hu => by cases hu; exact hAt.2.1.2.1 t (by rw [hsk]; exact List.mem_cons_self))
        rw [hstk, hsk, List.map_cons, List.map_nil, hvt]
        rw [Option.map_some, hvt] at hf
        have g2 := g.2
        unfold zk_retL at g2
        split at g2
        · rename_i hret
          exact W.lret hx hb (by rw [hrt, hret]) hf hAt.2.2.2.2 hd
        · cases g2
      · cases hu
    · cases hu
  · rename_i hi
    rw [hi] at hd kK
    simp only at kK
    rw [kK] at hd
    split at hu
    · rename_i t hsk
      split at hu
      · rename_i g
        simp only [Bool.and_eq_true] at g
        cases hu
        have hvt := zk_isR_of (E := E) (ad := ad) (st := st) g.1
        have hf := fin (some t) List.mem_cons_self (fun u hu => by cases hu; exact hAt.2.1.2.1 t (by rw [hsk]; exact List.mem_cons_self))
        rw [hstk, hsk, List.map_cons, List.map_nil]
        rw [Option.map_some] at hf
        have g2 := g.2
        unfold zk_retA at g2
        split at g2
        · rename_i n hret
          exact W.aret hx hb (by rw [hrt, hret]) (Or.inl ⟨_, rfl⟩) hvt hf hAt.2.2.2.2 hd
        · rename_i n hret
          exact W.aret hx hb (by rw [hrt, hret]) (Or.inr ⟨_, rfl⟩) hvt hf hAt.2.2.2.2 hd
        · cases g2
      · cases hu
    · cases hu
  · rename_i hi
    rw [hi] at hd kK
    simp only at kK
    rw [kK] at hd
    split at hu
    · rename_i hsk
      split at hu
      · rename_i g
        cases hu
        have hf := fin none List.mem_cons_self (fun u hu => by cases hu)
        rw [hstk, hsk, List.map_nil]
        unfold zk_retV at g
        split at g
        · rename_i hret
          exact W.vret hx hb (by rw [hrt, hret]) hf hAt.2.2.2.2 hd
        · cases g
      · cases hu
    · cases hu
  · rename_i i hi
    split at hu
    · rename_i h77
      split at hu
      · rename_i h3
        exact zk_call_ok hRk hCT hnw hG hPT hrec hM hr (Or.inl ⟨rfl, ⟨h77, h3⟩, i, hi⟩) hu hF hAt ha hn hL hsc hC
      · rename_i h3
        split at hu
        · rename_i d' Ls hs
          rw [hi] at hd kK
          simp only at kK
          obtain ⟨hl3, -, kK1, -⟩ := kK
          have c1 := kK1 h3
          rw [hl3] at hd
          refine zk_mth_ok hx hb hml hd hown (fun w hw => hts w (c1 w hw)) (by have := hRk.1; omega) (by have := hRk.2.1; omega) hRk.2.2.1 hRk.2.2.2 hAt hs fun u huL => ?_
          obtain ⟨x, hx1, hx2⟩ := zk_all_at hu u huL
          have hu1 : u.1 = none := zk_mth_n hs u huL
          intro E' H' locs' ls' stk' a1 a2 a3
          have := zk_next2_ok hRk hrec hM hr hx1 hF a3 (zk_ag_tr ha a1 hn) (Nat.le_trans hn a2) (fun X hX => hL X (hx2 X hX)) hsc (zk_HC_to hC a1 a2)
          rw [hu1] at this
          have e3 : zk_tg q none = q.1 + 3 := by show q.1 + q.2.2.1 = _; rw [hl3]
          rw [e3] at this
          exact this
        · cases hu
    · rename_i h77
      split at hu
      · rename_i d' Ls hs
        rw [hi] at hd kK
        simp only at kK
        obtain ⟨hl3, kK1, -, -⟩ := kK
        obtain ⟨c1, c2, c3, c4⟩ := kK1 h77
        rw [hl3] at hd
        refine zk_cpq_ok hx hb hml hd hown (hts _ c1) (hts _ c2) (hts _ c3) (hts _ c4) hS0.1 (by have := hRk.1; omega) (by have := hRk.2.1; omega) hAt hs fun u huL => ?_
        obtain ⟨x, hx1, hx2⟩ := zk_all_at hu u huL
        have hu1 : u.1 = none := zk_cpq_n hs u huL
        intro E' H' locs' ls' stk' a1 a2 a3
        have := zk_next2_ok hRk hrec hM hr hx1 hF a3 (zk_ag_tr ha a1 hn) (Nat.le_trans hn a2) (fun X hX => hL X (hx2 X hX)) hsc (zk_HC_to hC a1 a2)
        rw [hu1] at this
        have e3 : zk_tg q none = q.1 + 3 := by show q.1 + q.2.2.1 = _; rw [hl3]
        rw [e3] at this
        exact this
      · cases hu
  · rename_i i hi
    split at hu
    · rename_i h78
      exact zk_call_ok hRk hCT hnw hG hPT hrec hM hr (Or.inr ⟨rfl, h78, i, hi⟩) hu hF hAt ha hn hL hsc hC
    · rename_i h78
      split at hu
      · rename_i d' Ls hs
        rw [hi] at hd kK
        simp only at kK
        obtain ⟨hl3, kK1, -⟩ := kK
        obtain ⟨c1, c2, c3⟩ := kK1 h78
        rw [hl3, c2] at hd
        refine zk_ixf_ok hRk (Nat.le_add_left 4 d') hG hF c1 c3 hd hAt hs fun u huL => ?_
        obtain ⟨x, hx1, hx2⟩ := zk_all_at hu u huL
        have hu1 : u.1 = none := zk_ixf_n hs u huL
        intro E' H' locs' ls' stk' a1 a2 a3
        have := zk_next2_ok hRk hrec hM hr hx1 hF a3 (zk_ag_tr ha a1 hn) (Nat.le_trans hn a2) (fun X hX => hL X (hx2 X hX)) hsc (zk_HC_to hC a1 a2)
        rw [hu1] at this
        have e3 : zk_tg q none = q.1 + 3 := by show q.1 + q.2.2.1 = _; rw [hl3]
        rw [e3] at this
        exact this
      · cases hu
  · rename_i hi
    split at hu
    · rename_i h76
      rw [hi] at hd kK
      simp only at kK
      obtain ⟨c1, c2⟩ := kK h76
      rw [c1] at hd
      obtain ⟨k1, k2, k3, k4, k5, xs, k6, k7⟩ := hsc c2
      split at hu
      · rename_i a t r' hsk
        split at hu
        · rename_i w g hw
          simp only [Bool.and_eq_true] at g
          obtain ⟨⟨⟨⟨⟨g1, g2⟩, g3⟩, g4⟩, g5⟩, g6⟩ := g
          have g1 := Nat.eq_of_beq_eq_true g1
          have g2 := Nat.eq_of_beq_eq_true g2
          have g3 := Nat.eq_of_beq_eq_true g3
          have g4 := zk_n2_ok hAt.1.1 g4
          have g5 := zk_n2_ok hAt.1.1 g5
          have g6 := Nat.blt_eq.mp g6
          have hL0 : zk_i E (zk_y 0) = (st 10 : Int) := by rw [zk_y_i, (ha 0 k1).1, k2]
          rw [zk_vsub_i, zk_vsub_i, hL0, zk_c_i] at g5
          obtain ⟨x, hx1, hx2⟩ := zk_all_at hu _ List.mem_cons_self
          have hva : zk_v E ad st a = .int (Int32.ofInt (zk_i E a.2.2)) := by simp only [zk_v, g1]
          have hvt : zk_v E ad st t = .ref (st 9) := by simp only [zk_v, g2, g3]
          obtain ⟨n1, n2⟩ := zk_idx (x := zk_i E a.2.2) g4 (by omega)
          have hin : vp_in (Int32.ofInt (zk_i E a.2.2)) (st 10) := by
            unfold vp_in
            rw [n2]
            intro q
            rcases q with q | q
            · exact n1 q
            · omega
          have hwo := zk_rd_ok hAt.1.1 hAt.1.2.1 g6 (hAt.2.1.2.1 a (by rw [hsk]; exact List.mem_cons_self)) hw
          have hAt' := hAt
          obtain ⟨N, hp, lc, sk⟩ := z
          simp only at hsk hx1 hAt'
          subst hsk
          obtain ⟨E', hP, hX⟩ := zk_push (tg := 0) (k := 0) (pc := q.1 + 1) (X := zk_W p l e R s m args below meth c cells slots (zk_Q cells slots dC dI cl ad st cid ba ly below args s E0 n0 L0)) hAt' hwo (r := r') (fun u hu => List.mem_cons_of_mem _ (List.mem_cons_of_mem _ hu)) (fun E' H' locs' ls' stk' a1 a2 a3 => by
            have := zk_next2_ok hRk hrec hM hr hx1 hF a3 (zk_ag_tr ha a1 hn) (Nat.le_trans hn a2) (fun X hX => hL X (hx2 X hX)) hsc (zk_HC_to hC a1 a2)
            have e3 : zk_tg q none = q.1 + 1 := by show q.1 + q.2.2.1 = _; rw [c1]
            rw [e3] at this
            exact this)
          have hxs : Int32.ofInt (E.2 0 (zk_i E a.2.2).toNat) = xs (Int32.ofInt (zk_i E a.2.2)).toNatClampNeg := by
            rw [(ha 0 k1).2, k7, n2, Int32.ofInt_toInt]
          rw [zk_vi, hP, hxs] at hX
          rw [hstk, List.map_cons, List.map_cons, hva, hvt]
          exact va_sld hx hb k6 k5 k4 hAt.2.2 hin hd hX
        · cases hu
      · cases hu
    · split at hu
      · rename_i Ls hs
        refine zk_step_ok hnw hcls hM (hr q List.mem_cons_self) hs hF hAt fun u huL => ?_
        obtain ⟨x, hx1, hx2⟩ := zk_all_at hu u huL
        intro E' H' locs' ls' stk' a1 a2 a3
        exact zk_next2_ok hRk hrec hM hr hx1 hF a3 (zk_ag_tr ha a1 hn) (Nat.le_trans hn a2) (fun X hX => hL X (hx2 X hX)) hsc (zk_HC_to hC a1 a2)
      · cases hu
  · rename_i hi
    split at hu
    · rename_i h76
      rw [hi] at hd kK
      simp only at kK
      obtain ⟨c1, c2⟩ := kK h76
      rw [c1] at hd
      obtain ⟨k1, k2, k3, k4, k5, xs, k6, k7⟩ := hsc c2
      split at hu
      · rename_i t r' hsk
        split at hu
        · rename_i g
          simp only [Bool.and_eq_true] at g
          obtain ⟨⟨g2, g3⟩, g4⟩ := g
          have g2 := Nat.eq_of_beq_eq_true g2
          have g3 := Nat.eq_of_beq_eq_true g3
          have g4 := Nat.blt_eq.mp g4
          have hL0 : zk_i E (zk_y 0) = (st 10 : Int) := by rw [zk_y_i, (ha 0 k1).1, k2]
          obtain ⟨x, hx1, hx2⟩ := zk_all_at hu _ List.mem_cons_self
          have hvt : zk_v E ad st t = .ref (st 9) := by simp only [zk_v, g2, g3]
          have hfr := hAt.2.1
          have := zk_next2_ok hRk hrec hM hr hx1 hF (E := E) (H := H) (locs := locs) (ls := ls) (stk := .int (Int32.ofNat (st 10)) :: r'.map (zk_v E ad st)) (E0 := E0) (n0 := n0) (L0 := L0) (below := below) (e := e) ⟨hAt.1, ⟨hfr.1, fun u hu => by
            rcases List.mem_cons.mp hu with rfl | hu
            · exact zk_y_sv g4
            · exact hfr.2.1 u (by rw [hsk]; exact List.mem_cons_of_mem _ hu), hfr.2.2.1, by
              rw [List.map_cons]
              congr 1
              simp only [zk_v]
              rw [hL0]
              rfl⟩, hAt.2.2⟩ ha hn (fun X hX => hL X (hx2 X hX)) hsc hC
          have e3 : zk_tg q none = q.1 + 1 := by show q.1 + q.2.2.1 = _; rw [c1]
          rw [e3] at this
          rw [hstk, hsk, List.map_cons, hvt]
          exact va_slen hx hb k6 k5 k4 hAt.2.2 hd this
        · cases hu
      · cases hu
    · split at hu
      · rename_i Ls hs
        refine zk_step_ok hnw hcls hM (hr q List.mem_cons_self) hs hF hAt fun u huL => ?_
        obtain ⟨x, hx1, hx2⟩ := zk_all_at hu u huL
        intro E' H' locs' ls' stk' a1 a2 a3
        exact zk_next2_ok hRk hrec hM hr hx1 hF a3 (zk_ag_tr ha a1 hn) (Nat.le_trans hn a2) (fun X hX => hL X (hx2 X hX)) hsc (zk_HC_to hC a1 a2)
      · cases hu
  · rename_i i hi
    split at hu
    · rename_i h79
      rw [hi] at hd kK
      simp only at kK
      obtain ⟨hl2, c1, c2⟩ := kK h79
      rw [hl2, c2] at hd
      have hstr := hS0.2.1.2
      obtain ⟨x, hx1, hx2⟩ := zk_all_at hu _ List.mem_cons_self
      have hfr := hAt.2.1
      have := zk_next2_ok hRk hrec hM hr hx1 hF (E := E) (H := H) (locs := locs) (ls := ls) (stk := .ref (st 7) :: stk) (E0 := E0) (n0 := n0) (L0 := L0) (below := below) (e := e) ⟨hAt.1, ⟨hfr.1, fun u hu => by
        rcases List.mem_cons.mp hu with rfl | hu
        · exact zk_c_sv
        · exact hfr.2.1 u hu, hfr.2.2.1, by rw [List.map_cons, ← hfr.2.2.2]; rfl⟩, hAt.2.2⟩ ha hn (fun X hX => hL X (hx2 X hX)) hsc hC
      have e3 : zk_tg q none = q.1 + 2 := by show q.1 + q.2.2.1 = _; rw [hl2]
      rw [e3] at this
      exact va_ldcS (own := "NightLetIn$Reader") (tx := "abltnd") (index := 57) hx hb (by rw [← c1]; exact hown) hstr.1 hd this
    · split at hu
      · rename_i Ls hs
        refine zk_step_ok hnw hcls hM (hr q List.mem_cons_self) hs hF hAt fun u huL => ?_
        obtain ⟨x, hx1, hx2⟩ := zk_all_at hu u huL
        intro E' H' locs' ls' stk' a1 a2 a3
        exact zk_next2_ok hRk hrec hM hr hx1 hF a3 (zk_ag_tr ha a1 hn) (Nat.le_trans hn a2) (fun X hX => hL X (hx2 X hX)) hsc (zk_HC_to hC a1 a2)
      · cases hu
  · split at hu
    · rename_i Ls hs
      refine zk_step_ok hnw hcls hM (hr q List.mem_cons_self) hs hF hAt fun u huL => ?_
      obtain ⟨x, hx1, hx2⟩ := zk_all_at hu u huL
      intro E' H' locs' ls' stk' a1 a2 a3
      exact zk_next2_ok hRk hrec hM hr hx1 hF a3 (zk_ag_tr ha a1 hn) (Nat.le_trans hn a2) (fun X hX => hL X (hx2 X hX)) hsc (zk_HC_to hC a1 a2)
    · cases hu
theorem zk_findc_of {pc : Nat} {en : zk_Cx} : ∀ {cx : List zk_Cx}, zk_findc pc cx = some en → en ∈ cx ∧ en.1 = pc
  | [], h => by cases h
  | a :: l, h => by
    unfold zk_findc at h
    split at h
    · rename_i g
      cases h
      exact ⟨List.mem_cons_self, Nat.eq_of_beq_eq_true g⟩
    · obtain ⟨h1, h2⟩ := zk_findc_of h
      exact ⟨List.mem_cons_of_mem _ h1, h2⟩
theorem zk_split_ok {E : zk_E} {z : zk_Z} {v : zk_V} (h : zk_ok E z.1) (hc : zk_cl z.1) (hv : zk_sv z.1.1 v) : ∀ {n : Nat} {lo : Int}, lo ≤ zk_i E v → zk_i E v ≤ lo + n → ∃ N', (N', z.2) ∈ zk_split z v n lo ∧ zk_ok E N' ∧ zk_cl N' ∧ N'.1 = z.1.1
  | 0, lo, h1, h2 => by
    obtain ⟨N', e1, k1⟩ := zk_eqs_ok h (d := zk_vsub v (zk_c lo)) (by rw [zk_vsub_i, zk_c_i]; omega)
    obtain ⟨c1, n1⟩ := zk_eqs_cl hc (zk_vsub_sv hv zk_c_sv) e1
    refine ⟨N', ?_, k1, c1, n1⟩
    unfold zk_split
    rw [e1]
    exact List.mem_cons_self
  | n + 1, lo, h1, h2 => by
    rcases Int.lt_or_eq_of_le h1 with o | o
    · obtain ⟨N', a1, a2⟩ := zk_split_ok h hc hv (n := n) (lo := lo + 1) (by omega) (by omega)
      refine ⟨N', ?_, a2⟩
      unfold zk_split
      split
      · exact List.mem_cons_of_mem _ a1
      · exact a1
    · obtain ⟨N', e1, k1⟩ := zk_eqs_ok h (d := zk_vsub v (zk_c lo)) (by rw [zk_vsub_i, zk_c_i]; omega)
      obtain ⟨c1, n1⟩ := zk_eqs_cl hc (zk_vsub_sv hv zk_c_sv) e1
      refine ⟨N', ?_, k1, c1, n1⟩
      unfold zk_split
      rw [e1]
      exact List.mem_cons_self
/-- a rule is so -/
def zk_Rok (f : zk_Rl) : Prop := ∀ (z : zk_Z) (L : List zk_N), f z = some L → ∀ E : zk_E, zk_ok E z.1 → zk_cl z.1 → (∀ c ∈ z.2.1, zk_cs z.1.1 c) → (∀ q ∈ z.2.2.1, zk_tv z.1.1 q.2) → (∀ t ∈ z.2.2.2, zk_tv z.1.1 t) → ∃ N' ∈ L, ∃ E', zk_ag z.1.1 E E' ∧ zk_ok E' N' ∧ zk_cl N' ∧ z.1.1 ≤ N'.1
theorem zk_head_of {pc : Nat} {an : zk_An} {z zh : zk_Z} {en : zk_Cx} (h : zk_head pc an z = some (en, zh)) : ∃ th, en.1 = pc ∧ en.2.1 = z.1 ∧ zh = (zk_cat2 en.2.2.1 z.1, en.2.2.2.1, en.2.2.2.2.1, en.2.2.2.2.2.1) ∧ zk_fit z.1.1 th z en.2.2.1 en.2.2.2.1 en.2.2.2.2.1 en.2.2.2.2.2.1 = true ∧ zk_sv en.2.2.1.1 en.2.2.2.2.2.2.1 ∧ zk_fitC en.2.2.1 en.2.2.2.1 en.2.2.2.2.1 en.2.2.2.2.2.1 = true := by
  unfold zk_head at h
  split at h
  · rename_i th n B Gs hp lc hth hop
    split at h
    · rename_i F mm G2 hFs hm hG2
      split at h
      · rename_i g
        simp only [Bool.and_eq_true] at g
        cases h
        exact ⟨th, rfl, rfl, rfl, g.1.1, zk_svB_of g.1.2, g.2⟩
      · cases h
    · cases h
  · cases h
set_option maxHeartbeats 2000000 in
/-- WHAT THE WALKING PROGRAM ANSWERS IS SO -/
theorem zk_run_ok (hCT : ∀ K ∈ CT, zk_Kok dC dI cl ad st cid ba ly tab G nw PT l K) (hnw : ∀ w ∈ nw, zk_isNest w) (hG : ∀ w ∈ G, (w.onTables && w.keeps) = true ∨ ∃ ty, w = Cond.arrayClass ty) (hcls : zk_cls cl (G ++ nw)) (hPT : ∀ (i : Nat) (M : zk_M), PT[i]? = some M → zk_Mok G nw cl tab PT M ∧ M.1.cls ≠ "NightLetInLaw") (hRT : ∀ f ∈ RT, zk_Rok f) : ∀ k : Nat, zk_Snd dC dI cl ad st cid ba ly tab G nw PT l (zk_run PT CT RT tab k)
  | 0 => fun d M cx q r z L _ _ h => by cases h
  | k + 1 => by
    have ih := zk_run_ok hCT hnw hG hcls hPT hRT k
    intro d M cx q r z L hM hr hu R cells slots hRk p e s m args below meth c hF E H locs ls stk E0 n0 L0 hAt ha hn hL hsc hC
    unfold zk_run at hu
    simp only at hu
    split at hu
    · exact zk_ex1_ok hRk hCT hnw hG hcls hPT ih hM hr (zk_ex1F_ok hu) hF hAt ha hn hL hsc hC
    · split at hu
      · cases hu
      · rename_i an hget
        have hlp : zk_lp (fun cx' z' => zk_ex1F PT CT tab (zk_run PT CT RT tab k) d M cx' q r z') q.1 an cx z = some L → W p l e R s m args below meth c H locs cells slots (zk_Q cells slots dC dI cl ad st cid ba ly below args s E0 n0 L0) (F0 m q.1 ls stk) := by
          intro hu
          unfold zk_lp at hu
          split at hu
          · rename_i en hfc
            obtain ⟨hen, hpc⟩ := zk_findc_of hfc
            obtain ⟨c1, c2, c3, c4, c5, c5b, c5c, c6⟩ := hC en hen
            split at hu
            · rename_i hbk
              unfold zk_back at hbk
              split at hbk
              · unfold zk_backT at hbk
                simp only [Bool.and_eq_true] at hbk
                obtain ⟨⟨b1, b2⟩, b3⟩ := hbk
                obtain ⟨k1, k2⟩ := zk_dfit_ok hAt c5c.1 c5c.2 c2 rfl b1 c5b
                have m1 := zk_n2_ok hAt.1.1 b2
                have m2 := zk_n2_ok hAt.1.1 b3
                rw [zk_vsub_i, zk_vsub_i, zk_c_i, zk_ds_i] at m2
                rw [zk_ds_i] at m1
                rw [← hpc]
                exact c6 _ H locs ls stk k2 k1 (by omega)
              · unfold zk_backP at hbk
                split at hbk
                · rename_i th hth
                  simp only [Bool.and_eq_true] at hbk
                  obtain ⟨⟨b1, b2⟩, b3⟩ := hbk
                  obtain ⟨k1, k2⟩ := zk_fit_ok hAt c1 c2 rfl b1 c5b
                  have m1 := zk_n2_ok hAt.1.1 b2
                  have m2 := zk_n2_ok hAt.1.1 b3
                  rw [zk_vsub_i, zk_vsub_i, zk_c_i, zk_sb_i] at m2
                  rw [zk_sb_i] at m1
                  rw [← hpc]
                  exact c6 _ H locs ls stk zk_eh_ag k1 (by omega)
                · cases hbk
            · cases hu
          · split at hu
            · rename_i en zh hhd
              obtain ⟨th, h1, h2, h3, h4, h5, h6⟩ := zk_head_of hhd
              subst h3
              have key : ∀ (μ : Nat) (E2 : zk_E) (H2 : Heap) (locs2 : List Loc) (ls2 : Array Slot) (stk2 : List Value), zk_ag z.1.1 E E2 → zk_At dC dI cl ad st cid ba ly M.2.2.1 s.heap E2 (zk_cat2 en.2.2.1 z.1, en.2.2.2.1, en.2.2.2.2.1, en.2.2.2.2.2.1) H2 locs2 ls2 stk2 → z.1.1 ≤ en.2.2.1.1 → (zk_i E2 en.2.2.2.2.2.2.1).toNat ≤ μ → W p l e R s m args below meth c H2 locs2 cells slots (zk_Q cells slots dC dI cl ad st cid ba ly below args s E0 n0 L0) (F0 m q.1 ls2 stk2) := by
                intro μ
                induction μ using Nat.strongRecOn with
                | ind μ ihμ =>
                  intro E2 H2 locs2 ls2 stk2 b1 b2 b3 b4
                  refine zk_ex1_ok hRk hCT hnw hG hcls hPT ih hM hr (zk_ex1F_ok hu) hF b2 (zk_ag_tr ha b1 hn) (Nat.le_trans hn b3) hL hsc fun en' hen' => ?_
                  rcases List.mem_cons.mp hen' with rfl | hen'
                  · refine ⟨by rw [h2]; exact zk_ok_ag hAt.1.1 hAt.1.2.1 b1, by rw [h2]; exact hAt.1.2.1, by rw [h2]; exact b3, Nat.le_refl _, h5, h6, by rw [h2]; exact ⟨b2.1.1, b2.1.2.1⟩, fun E3 H3 locs3 ls3 stk3 g1 g2 g3 => ?_⟩
                    rw [h1]
                    rw [h2] at g1 g2
                    exact ihμ (zk_i E3 en'.2.2.2.2.2.2.1).toNat (by omega) E3 H3 locs3 ls3 stk3 (zk_ag_tr b1 g1 (Nat.le_refl _)) g2 b3 (Nat.le_refl _)
                  · exact zk_HC_to hC b1 b3 en' hen'
              obtain ⟨k1, k2⟩ := zk_fit_ok hAt hAt.1.1 hAt.1.2.1 rfl h4 h6
              exact key _ _ H locs ls stk zk_eh_ag k1 k2 (Nat.le_refl _)
            · cases hu
        split at hu
        · exact hlp hu
        · split at hu
          · split at hu
            · split at hu
              · exact hlp hu
              · exact zk_ex1_ok hRk hCT hnw hG hcls hPT ih hM hr (zk_ex1F_ok hu) hF hAt ha hn hL hsc hC
            · cases hu
          · cases hu
        · split at hu
          · rename_i u us hmods
            split at hu
            · rename_i at_ v n hres hlen
              split at hu
              · rename_i g
                simp only [Bool.and_eq_true] at g
                have g1 := zk_n2_ok hAt.1.1 g.1.1
                have g2 := zk_n2_ok hAt.1.1 g.1.2
                rw [zk_vsub_i, zk_c_i] at g1 g2
                have hle : u.2.2 - u.2.1 = (n : Int) := hlen
                obtain ⟨N', s1, s2, s3, s4⟩ := zk_split_ok (z := z) hAt.1.1 hAt.1.2.1 (zk_svB_of g.2) (n := n) (lo := u.2.1) (by omega) (by omega)
                obtain ⟨x, x1, x2⟩ := zk_all_at hu _ s1
                refine zk_ex1_ok hRk hCT hnw hG hcls hPT ih hM hr (zk_ex1F_ok x1) hF (E := E) ⟨zk_wd_to hAt.1 zk_ag_rf s2 s3 (Nat.le_of_eq s4.symm), zk_fr_to hAt.2.1 zk_ag_rf (Nat.le_of_eq s4.symm), hAt.2.2⟩ ha (by show n0 ≤ N'.1; omega) (fun X hX => hL X (x2 X hX)) hsc ?_
                exact zk_HC_to hC zk_ag_rf (Nat.le_of_eq s4.symm)
              · cases hu
            · cases hu
          · cases hu
        · split at hu
          · rename_i r' hr'
            split at hu
            · rename_i f hf
              rw [zk_get_eq] at hf
              split at hu
              · rename_i Ls hLs
                obtain ⟨N', s1, E', s2, s3, s4, s5⟩ := hRT f (List.mem_of_getElem? hf) z Ls hLs E hAt.1.1 hAt.1.2.1 hAt.1.2.2.1 hAt.2.1.1 hAt.2.1.2.1
                obtain ⟨x, x1, x2⟩ := zk_all_at hu _ s1
                exact zk_ex1_ok hRk hCT hnw hG hcls hPT ih hM hr (zk_ex1F_ok x1) hF (E := E') ⟨zk_wd_to hAt.1 s2 s3 s4 s5, zk_fr_to hAt.2.1 s2 s5, hAt.2.2⟩ (zk_ag_tr ha s2 hn) (Nat.le_trans hn s5) (fun X hX => hL X (x2 X hX)) hsc (zk_HC_to hC s2 s5)
              · cases hu
            · cases hu
          · cases hu
        · cases hu
end ZP
end
