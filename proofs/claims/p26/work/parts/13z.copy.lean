noncomputable section
/-! a row copied into a row -/
def zk_csum : List zk_T → Nat
  | [] => 0
  | t :: l => (match Nat.beq t.1 1 with
    | true => 2
    | false => 1) + zk_csum l
/-- the string constant's indexOf -/
def zk_ixf (z : zk_Z) : Option (List (Option Nat × zk_Z)) := match z.2.2.2 with
  | a :: t :: r => match Nat.beq a.1 0 && Nat.beq t.1 4 && Nat.beq t.2.1 7 && Nat.ble (zk_csum r) 8 with
    | true => some [(none, (zk_addG (zk_new z.1 (-1) 5).2 (86, [], [a.2.2, (zk_new z.1 (-1) 5).1]), z.2.1, z.2.2.1, (0, 0, (zk_new z.1 (-1) 5).1) :: r))]
    | false => none
  | _ => none
def zk_cpq (z : zk_Z) : Option (List (Option Nat × zk_Z)) := match z.2.2.2 with
  | n :: dp :: t1 :: sp :: t0 :: r => match zk_row z.2.1 t0, zk_row z.2.1 t1 with
    | some (k0, kd0, len0, a0), some (k1, kd1, len1, a1) => match Nat.beq n.1 0 && Nat.beq dp.1 0 && Nat.beq sp.1 0 && Nat.beq kd0 kd1 && (Nat.beq kd0 1 || Nat.beq kd0 2) && zk_n2 z.1 n.2.2 && zk_n2 z.1 dp.2.2 && zk_n2 z.1 sp.2.2 && zk_n2 z.1 (zk_vsub (zk_vsub (zk_c (Int.ofNat len0)) sp.2.2) n.2.2) && zk_n2 z.1 (zk_vsub (zk_vsub (zk_c (Int.ofNat len1)) dp.2.2) n.2.2) && Nat.ble (zk_csum r) 8, zk_eb a0 z.1.2.2.2, zk_eb a1 z.1.2.2.2 with
      | true, some b0, some b1 => some [(none, (zk_addG (zk_addG (zk_next z.1) (3, [z.1.1], [zk_c (zk_min b0.1 b1.1), zk_c (zk_max b0.2 b1.2)])) (9, [z.1.1, a0, a1], [sp.2.2, dp.2.2, n.2.2]), zk_put (kd1, len1, [(0, z.1.1, [], 0)]) z.2.1 k1, z.2.2.1, r))]
      | _, _, _ => none
    | _, _ => none
  | _ => none
theorem zk_cpq_n {z : zk_Z} {L : List (Option Nat × zk_Z)} (h : zk_cpq z = some L) : ∀ u ∈ L, u.1 = none := by
  unfold zk_cpq at h
  split at h
  · split at h
    · split at h
      · cases h
        intro u hu
        rw [List.mem_singleton.mp hu]
      · cases h
    · cases h
  · cases h
theorem zk_newA_ok {E : zk_E} {N : zk_N} (h : zk_ok E N) (hs : zk_cl N) {f : Nat → Int} {lo hi : Int} (hf : ∀ j, lo ≤ f j ∧ f j ≤ hi) : ∃ E', zk_ag N.1 E E' ∧ zk_ok E' (zk_addG (zk_next N) (3, [N.1], [zk_c lo, zk_c hi])) ∧ zk_cl (zk_addG (zk_next N) (3, [N.1], [zk_c lo, zk_c hi])) ∧ E'.2 N.1 = f := by
  have hag := zk_setA_ag (E := E) (n := N.1) (x := f)
  refine ⟨zk_setA E N.1 f, hag, zk_addG_ok (zk_next_ok (zk_ok_ag h hs hag)) ?_, zk_addG_cl (zk_next_cl hs) ⟨fun y hy => by rw [List.mem_singleton.mp hy]; exact Nat.lt_succ_self _, fun v hv => ?_⟩, zk_setA_at⟩
  · simp only [List.map_cons, List.map_nil, zk_S, zk_c_i]
    intro j
    rw [zk_setA_at]
    exact hf j
  · simp only [List.mem_cons, List.not_mem_nil, or_false] at hv
    rcases hv with rfl | rfl <;> exact zk_c_sv
theorem zk_idx {x : Int} (h0 : 0 ≤ x) (h1 : x < 2 ^ 31) : ¬ Int32.ofInt x < 0 ∧ (Int32.ofInt x).toNatClampNeg = x.toNat := by
  refine ⟨fun q => ?_, Int32.toNatClampNeg_ofInt_of_le (by omega) (by omega)⟩
  rw [Int32.lt_iff_toInt_lt, Int32.toInt_ofInt_of_le (by omega) (by omega)] at q
  have : (0 : Int32).toInt = 0 := by decide
  omega
theorem zk_csum_eq0 (E : zk_E) (ad st : Nat → Nat) : ∀ (sk : List zk_T), ((sk.map (zk_v E ad st)).map fun v => v.category).sum = zk_csum sk
  | [] => rfl
  | t :: l => by
    simp only [List.map_cons, List.sum_cons, zk_csum]
    rw [zk_csum_eq0 E ad st l, zk_cat]
    by_cases h : t.1 = 1
    · rw [if_pos h, h]
    · rw [if_neg h]
      have : Nat.beq t.1 1 = false := by rw [Bool.eq_false_iff]; exact fun g => h (Nat.eq_of_beq_eq_true g)
      rw [this]
section ZC
variable {p : Program} {l : Launch} {e : Env} {R : Room} {s : State} {m : MethodId} {args : Array Value} {below : List Frame} {meth : Method} {c : Code} {cells slots : Nat} {Q : State → Prop}
variable {dC : Nat → ClassId} {dI : Nat → Nat → Nat} {cl : List vw_C} {ad st : Nat → Nat} {cid : zk_CI} {ba : Nat} {ly : List (Nat × Nat)} {nL : Nat} {E : zk_E} {H : Heap} {locs : List Loc} {ls : Array Slot} {stk : List Value}
variable {cc : ByteArray} {z : zk_Z} {L : List (Option Nat × zk_Z)} {own : String}
set_option maxHeartbeats 1000000 in
theorem zk_cpq_ok (hx : p.tables.exec = Jvm.exec) (hb : c.code = cc) (hml : c.maxLocals = nL) {pc i : Nat} (hd : decode cc pc = .ok (.invokestatic i, 3)) (hown : s.vm.findClass own = some m.cls) (hlink : (Cond.methodLink own i arraycopyName).before args s = true) (hnat : (Cond.native arraycopyName).before args s = true) (hstat : (Cond.static arraycopyName).before args s = true) (hini : (Cond.initialized "java/lang/System").before args s = true) (hen : zk_env dC dI cl cid ly s) (hf1 : 1 ≤ R.frames) (hlo : 64 ≤ R.locals)
    (h : zk_At dC dI cl ad st cid ba ly nL s.heap E z H locs ls stk) (he : zk_cpq z = some L) (hg : ∀ r ∈ L, zk_go (zk_W p l e R s m args below meth c cells slots Q) (zk_At dC dI cl ad st cid ba ly nL s.heap) E z.1.1 r.2 (pc + 3)) : W p l e R s m args below meth c H locs cells slots Q (F0 m pc ls stk) := by
  obtain ⟨N, hp, lc, sk⟩ := z
  have hok := h.1.1
  have hcl := h.1.2.1
  have hsv := h.2.1.2.1
  have hstk := h.2.1.2.2.2
  unfold zk_cpq at he
  simp only at he hok hcl hsv hstk
  split at he
  · rename_i n dp t1 sp t0 r
    split at he
    · rename_i k0 kd0 len0 a0 k1 kd1 len1 a1 hr0 hr1
      split at he
      · rename_i b0 b1 g hb0 hb1
        simp only [Bool.and_eq_true, Bool.or_eq_true] at g
        obtain ⟨⟨⟨⟨⟨⟨⟨⟨⟨⟨g1, g2⟩, g3⟩, g4⟩, g5⟩, g6⟩, g7⟩, g8⟩, g9⟩, g10⟩, g11⟩ := g
        have g1 := Nat.eq_of_beq_eq_true g1
        have g2 := Nat.eq_of_beq_eq_true g2
        have g3 := Nat.eq_of_beq_eq_true g3
        have g4 := Nat.eq_of_beq_eq_true g4
        have g6 := zk_n2_ok hok g6
        have g7 := zk_n2_ok hok g7
        have g8 := zk_n2_ok hok g8
        have g9 := zk_n2_ok hok g9
        have g10 := zk_n2_ok hok g10
        have g11 := Nat.ble_eq.mp g11
        rw [zk_vsub_i, zk_vsub_i, zk_c_i] at g9 g10
        cases he
        obtain ⟨c0, hs1, hs2, hck0, hx1, hx2, hx3, hx0, hx5, hx9⟩ := zk_row_of hr0
        obtain ⟨c1, ht1, ht2, hck1, hk1, hk2, hk3, hk0, hk5, hk9⟩ := zk_row_of hr1
        have hcs0 := h.1.2.2.1 _ (List.mem_of_getElem? hck0)
        have hcs1 := h.1.2.2.1 _ (List.mem_of_getElem? hck1)
        have ha0 : a0 < N.1 := by rw [← hx3]; exact hcs0.2 (by rw [hx1]; exact hx0) (by rw [hx1]; exact hx5) (by rw [hx1]; exact hx9)
        have ha1 : a1 < N.1 := by rw [← hk3]; exact hcs1.2 (by rw [hk1]; exact hk0) (by rw [hk1]; exact hk5) (by rw [hk1]; exact hk9)
        have hl0 := zk_ly_at h.1.2.2.2.1 hck0 (by rw [hx1]; exact hx9)
        have hl1 := zk_ly_at h.1.2.2.2.1 hck1 (by rw [hk1]; exact hk9)
        have hn0 : len0 < 2 ^ 31 := by rw [← hx2]; exact (hen.2 _ _ hl0).1
        have hn1 : len1 < 2 ^ 31 := by rw [← hk2]; exact (hen.2 _ _ hl1).1
        have hQ0 := (hen.2 _ _ hl0).2 (by show c0.1 ≠ 0; rw [hx1]; exact hx0)
        have hQ1 := (hen.2 _ _ hl1).2 (by show c1.1 ≠ 0; rw [hk1]; exact hk0)
        simp only [hx1, g4] at hQ0
        simp only [hk1] at hQ1
        have hKK : va_K (dC, dI) cl [(cid.1 k0, zk_ty kd1), (cid.1 k1, zk_ty kd1)] s := ⟨hen.1.1, fun j q hq => by
          match j, hq with
          | 0, hq => cases hq; exact hQ0
          | 1, hq => cases hq; exact hQ1
          | j + 2, hq => simp at hq⟩
        have e0 : (Int.ofNat len0 : Int) = (len0 : Int) := rfl
        have e1 : (Int.ofNat len1 : Int) = (len1 : Int) := rfl
        rw [e0] at g9
        rw [e1] at g10
        obtain ⟨n1, n2⟩ := zk_idx (x := zk_i E n.2.2) g6 (by omega)
        obtain ⟨d1, d2⟩ := zk_idx (x := zk_i E dp.2.2) g7 (by omega)
        obtain ⟨s1, s2⟩ := zk_idx (x := zk_i E sp.2.2) g8 (by omega)
        have h4 : (Int32.ofInt (zk_i E sp.2.2)).toNatClampNeg + (Int32.ofInt (zk_i E n.2.2)).toNatClampNeg ≤ len0 := by rw [n2, s2]; omega
        have h5 : (Int32.ofInt (zk_i E dp.2.2)).toNatClampNeg + (Int32.ofInt (zk_i E n.2.2)).toNatClampNeg ≤ len1 := by rw [n2, d2]; omega
        have hvn : zk_v E ad st n = .int (Int32.ofInt (zk_i E n.2.2)) := by simp only [zk_v, g1]
        have hvd : zk_v E ad st dp = .int (Int32.ofInt (zk_i E dp.2.2)) := by simp only [zk_v, g2]
        have hvs : zk_v E ad st sp = .int (Int32.ofInt (zk_i E sp.2.2)) := by simp only [zk_v, g3]
        have hv0 : zk_v E ad st t0 = .ref (ad k0) := by simp only [zk_v, hs1, hs2]
        have hv1 : zk_v E ad st t1 = .ref (ad k1) := by simp only [zk_v, ht1, ht2]
        have hws0 := zk_ws_0 (E := E) (ad := ad) (st := st) (cid := cid) hck0
        have hws1 := zk_ws_0 (E := E) (ad := ad) (st := st) (cid := cid) hck1
        have q0 := fun j => zk_eb_ok hok hb0 j
        have q1 := fun j => zk_eb_ok hok hb1 j
        generalize hspN : (Int32.ofInt (zk_i E sp.2.2)).toNatClampNeg = spN at *
        generalize hdpN : (Int32.ofInt (zk_i E dp.2.2)).toNatClampNeg = dpN at *
        generalize hnN : (Int32.ofInt (zk_i E n.2.2)).toNatClampNeg = nN at *
        obtain ⟨E', w1, w2, w3, w4⟩ := zk_newA_ok hok hcl (f := va_cpy (E.2 a0) (E.2 a1) spN dpN nN) (lo := zk_min b0.1 b1.1) (hi := zk_max b0.2 b1.2) (fun j => by
          have m1 := zk_min_le b0.1 b1.1
          have m2 := zk_le_max b0.2 b1.2
          unfold va_cpy
          split
          · have := q0 (spN + (j - dpN)); omega
          · have := q1 j; omega)
        have w2 := zk_addG_ok w2 (g := (9, [N.1, a0, a1], [sp.2.2, dp.2.2, n.2.2])) (by
          have i1 := zk_i_ag w1 (hsv sp (by simp))
          have i2 := zk_i_ag w1 (hsv dp (by simp))
          have i3 := zk_i_ag w1 (hsv n (by simp))
          simp only [List.map_cons, List.map_nil, zq_6, zq_7, zq_8, zq_9, zq_20, zq_21, zq_22, zq_25, zq_26, zq_28, zq_30, zq_40, zq_51, zq_52, zq_53, zq_54, zq_55, zq_64, zq_65, zq_68, zq_72, zq_73, zq_85, zq_74, zq_75, zq_76, zq_71, zq_86, zq_87, zq_80, zq_41, zq_42, zq_43, zq_94, zq_95, zq_47, zq_48, zq_96, zq_97, zq_88, zq_89, zq_90, zq_93, zq_61, zq_62, zq_1, zq_2, zq_3, zq_4, zq_5, w4, (w1 a0 ha0).2, (w1 a1 ha1).2, i1, i2, i3]
          rw [← n2, ← d2, ← s2]
          rfl)
        have w3 := zk_addG_cl w3 (g := (9, [N.1, a0, a1], [sp.2.2, dp.2.2, n.2.2])) ⟨fun b hb => by
          show b < N.1 + 1
          simp only [List.mem_cons, List.not_mem_nil, or_false] at hb
          rcases hb with rfl | rfl | rfl
          · exact Nat.lt_succ_self _
          · exact Nat.lt_succ_of_lt ha0
          · exact Nat.lt_succ_of_lt ha1, fun v hv => by
          refine zk_sv_le (n := N.1) (Nat.le_succ _) ?_
          simp only [List.mem_cons, List.not_mem_nil, or_false] at hv
          rcases hv with rfl | rfl | rfl
          · exact hsv sp (by simp)
          · exact hsv dp (by simp)
          · exact hsv n (by simp)⟩
        have go : ∀ (H1 : Heap) (locs1 : List Loc), va_P (dC, dI) cl ((zk_ws E ad st cid 0 hp).set k1 (ad k1, zk_ce E' ad st cid k1 (kd1, len1, [(0, N.1, [], 0)]))) H1 → va_D (fun q => ba ≤ q) ((zk_ws E ad st cid 0 hp).set k1 (ad k1, zk_ce E' ad st cid k1 (kd1, len1, [(0, N.1, [], 0)]))) → va_S (fun q => ba ≤ q) s.heap H1 locs1 → W p l e R s m args below meth c H1 locs1 cells slots Q (F0 m (pc + 3) ls (r.map (zk_v E ad st))) := by
          intro H1 locs1 hP hD hS
          have hwd := zk_wd_set h.1 w1 w2 w3 (Nat.le_succ _) hck1 (by rw [hk1]) (by rw [hk2]) ⟨fun u hu => by rw [List.mem_singleton.mp hu]; exact fun q hq => absurd hq List.not_mem_nil, fun _ _ _ => Nat.lt_succ_self _⟩ hP hD
          have hfr := zk_fr_to h.2.1 w1 (Nat.le_succ N.1)
          have e1 : r.map (zk_v E ad st) = r.map (zk_v E' ad st) := List.map_congr_left fun u hu => (zk_v_ag w1 (hsv u (by simp [hu]))).symm
          rw [e1]
          exact hg _ List.mem_cons_self E' H1 locs1 ls _ w1 (Nat.le_succ _) ⟨hwd, ⟨hfr.1, fun u hu => hfr.2.1 u (by simp [hu]), hfr.2.2.1, rfl⟩, hS⟩
        have hlocs : ((r.map (zk_v E ad st)).map fun v => v.category).sum + (nativeFrameWords "java/lang/System" "arraycopy" 5 + 11) ≤ R.locals := by
          rw [zk_csum_eq0]
          have : nativeFrameWords "java/lang/System" "arraycopy" 5 = 7 := by decide
          omega
        have hmls : c.maxLocals = ls.size := by rw [hml]; exact h.2.1.2.2.1.1.symm
        rw [hstk, List.map_cons, List.map_cons, List.map_cons, List.map_cons, List.map_cons, hvn, hvd, hvs, hv0, hv1]
        rcases g5 with g5 | g5
        · have g5 := Nat.eq_of_beq_eq_true g5
          have kd1e : kd1 = 1 := by omega
          have ce0 : zk_ce E ad st cid k0 c0 = .inl (cid.1 k0, len0, .inl fun j => Int32.ofInt (E.2 a0 j)) := by
            unfold zk_ce; rw [hx1, g5]; simp only [hx2, hx3]
          have ce1 : zk_ce E ad st cid k1 c1 = .inl (cid.1 k1, len1, .inl fun j => Int32.ofInt (E.2 a1 j)) := by
            unfold zk_ce; rw [hk1, kd1e]; simp only [hk2, hk3]
          rw [ce0] at hws0
          rw [ce1] at hws1
          refine va_copyi hx hb hmls hown hlink hnat hstat hini hKK h.1.2.2.2.2.1 h.1.2.2.2.2.2 h.2.2 k0 k1 0 1 hws0 hws1 rfl rfl (by rw [kd1e]; rfl) s1 d1 n1 (by rw [hspN, hnN]; exact h4) (by rw [hdpN, hnN]; exact h5) (fun j _ => by rw [kd1e]; rfl) hf1 hlocs hd fun H1 locs1 hP hD hS => ?_
          have ec : zk_ce E' ad st cid k1 (kd1, len1, [(0, N.1, [], 0)]) = .inl (cid.1 k1, len1, .inl (va_cpy (fun j => Int32.ofInt (E.2 a0 j)) (fun j => Int32.ofInt (E.2 a1 j)) (Int32.ofInt (zk_i E sp.2.2)).toNatClampNeg (Int32.ofInt (zk_i E dp.2.2)).toNatClampNeg (Int32.ofInt (zk_i E n.2.2)).toNatClampNeg)) := by
            rw [hspN, hdpN, hnN]
            unfold zk_ce
            rw [kd1e]
            simp only [zk_hd]
            rw [w4]
            congr 4
            funext j
            unfold va_cpy
            split <;> rfl
          rw [← ec] at hP hD
          exact go H1 locs1 hP hD hS
        · have g5 := Nat.eq_of_beq_eq_true g5
          have kd1e : kd1 = 2 := by omega
          have ce0 : zk_ce E ad st cid k0 c0 = .inl (cid.1 k0, len0, .inr (.inl fun j => Int64.ofInt (E.2 a0 j))) := by
            unfold zk_ce; rw [hx1, g5]; simp only [hx2, hx3]
          have ce1 : zk_ce E ad st cid k1 c1 = .inl (cid.1 k1, len1, .inr (.inl fun j => Int64.ofInt (E.2 a1 j))) := by
            unfold zk_ce; rw [hk1, kd1e]; simp only [hk2, hk3]
          rw [ce0] at hws0
          rw [ce1] at hws1
          refine va_copyl hx hb hmls hown hlink hnat hstat hini hKK h.1.2.2.2.2.1 h.1.2.2.2.2.2 h.2.2 k0 k1 0 1 hws0 hws1 rfl rfl (by rw [kd1e]; rfl) s1 d1 n1 (by rw [hspN, hnN]; exact h4) (by rw [hdpN, hnN]; exact h5) (fun j _ => by rw [kd1e]; rfl) hf1 hlocs hd fun H1 locs1 hP hD hS => ?_
          have ec : zk_ce E' ad st cid k1 (kd1, len1, [(0, N.1, [], 0)]) = .inl (cid.1 k1, len1, .inr (.inl (va_cpy (fun j => Int64.ofInt (E.2 a0 j)) (fun j => Int64.ofInt (E.2 a1 j)) (Int32.ofInt (zk_i E sp.2.2)).toNatClampNeg (Int32.ofInt (zk_i E dp.2.2)).toNatClampNeg (Int32.ofInt (zk_i E n.2.2)).toNatClampNeg))) := by
            rw [hspN, hdpN, hnN]
            unfold zk_ce
            rw [kd1e]
            simp only [zk_hd]
            rw [w4]
            congr 5
            funext j
            unfold va_cpy
            split <;> rfl
          rw [← ec] at hP hD
          exact go H1 locs1 hP hD hS
      · cases he
    · cases he
  · cases he
end ZC
end
