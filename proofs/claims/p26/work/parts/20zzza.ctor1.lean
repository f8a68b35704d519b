noncomputable section
/-! a constructor's own putfield; a row of references written -/
def zb_pv (d : String) (x : zk_T) : Bool := match parseFieldDescriptor d with
  | some .int => Nat.beq x.1 0
  | some .boolean => Nat.beq x.1 0 && (zk_eqv x.2.2 (zk_c 0) || zk_eqv x.2.2 (zk_c 1))
  | some (.object _) => Nat.beq x.1 2 || Nat.beq x.1 3
  | some (.array _) => Nat.beq x.1 2 || Nat.beq x.1 3
  | _ => false
theorem zb_pv_ok {E : zk_E} {ad st : Nat → Nat} {d : String} {x : zk_T} (h : zb_pv d x = true) {ty : FieldType} (hd : parseFieldDescriptor d = some ty) : narrow ty (zk_v E ad st x) = zk_v E ad st x ∧ fits ty (zk_v E ad st x) = true := by
  unfold zb_pv at h
  rw [hd] at h
  have hint : x.1 = 0 → zk_v E ad st x = .int (Int32.ofInt (zk_i E x.2.2)) := fun e => by simp only [zk_v, e]
  have hrf : (Nat.beq x.1 2 || Nat.beq x.1 3) = true → zk_v E ad st x = .null ∨ zk_v E ad st x = .ref (ad x.2.1) := fun e => by
    simp only [Bool.or_eq_true] at e
    rcases e with e | e
    · have e := Nat.eq_of_beq_eq_true e
      left; simp only [zk_v, e]
    · have e := Nat.eq_of_beq_eq_true e
      right; simp only [zk_v, e]
  split at h
  · rename_i e
    cases e
    rw [hint (Nat.eq_of_beq_eq_true h)]
    exact ⟨rfl, rfl⟩
  · rename_i e
    cases e
    simp only [Bool.and_eq_true, Bool.or_eq_true] at h
    rw [hint (Nat.eq_of_beq_eq_true h.1)]
    rcases h.2 with g | g
    · rw [zk_eqv_of g, zk_c_i]; exact ⟨by decide, by decide⟩
    · rw [zk_eqv_of g, zk_c_i]; exact ⟨by decide, by decide⟩
  · rename_i e
    cases e
    rcases hrf h with g | g <;> rw [g] <;> exact ⟨rfl, rfl⟩
  · rename_i e
    cases e
    rcases hrf h with g | g <;> rw [g] <;> exact ⟨rfl, rfl⟩
  · cases h
def zb_putf (cl : List vw_C) (mn : String) (q : zk_I) (z : zb_Z) : Option zb_Z := match z.1.2.2.2, zk_get cl q.2.2.2.2.1 with
  | x :: t :: r, some w => match Nat.beq t.1 3, zk_get z.1.2.1 t.2.1 with
    | true, some c => match Nat.beq c.1 0 && Nat.beq c.2.1 q.2.2.2.2.1 && Nat.blt q.2.2.2.2.2.1 c.2.2.length && zb_pv (w.2.1 q.2.2.2.2.2.1).2.2.1 x && (!(w.2.1 q.2.2.2.2.2.1).2.2.2 || decide (mn = "<init>")) with
      | true => some ((z.1.1, zk_put (0, c.2.1, zk_put x c.2.2 q.2.2.2.2.2.1) z.1.2.1 t.2.1, z.1.2.2.1, r), z.2)
      | false => none
    | _, _ => none
  | _, _ => none
def zb_aast (cl : List vw_C) (z : zb_Z) : Option zb_Z := match z.1.2.2.2 with
  | x :: i :: t :: r => match Nat.beq t.1 3 && Nat.beq x.1 3, zb_n i, zk_get z.1.2.1 t.2.1, zk_get z.1.2.1 x.2.1 with
    | true, some n, some c, some v => match Nat.beq c.1 5 && Nat.blt n c.2.1 && Nat.beq c.2.1 c.2.2.length && Nat.beq v.1 0, zk_get cl v.2.1 with
      | true, some w => match decide (w.1 = "NightLetIn$Shelf") with
        | true => some ((z.1.1, zk_put (5, c.2.1, zk_put x c.2.2 n) z.1.2.1 t.2.1, z.1.2.2.1, r), z.2)
        | false => none
      | _, _ => none
    | _, _, _, _ => none
  | _ => none
theorem zb_putf_mono {cl : List vw_C} {mn : String} {q : zk_I} {z z' : zb_Z} (h : zb_putf cl mn q z = some z') : z'.2 = z.2 ∧ z'.1.1 = z.1.1 := by
  unfold zb_putf at h
  split at h
  · split at h
    · split at h
      · cases h; exact ⟨rfl, rfl⟩
      · cases h
    · cases h
  · cases h
theorem zb_aast_mono {cl : List vw_C} {z z' : zb_Z} (h : zb_aast cl z = some z') : z'.2 = z.2 ∧ z'.1.1 = z.1.1 := by
  unfold zb_aast at h
  split at h
  · split at h
    · split at h
      · split at h
        · cases h; exact ⟨rfl, rfl⟩
        · cases h
      · cases h
    · cases h
  · cases h
section ZBP
variable {p : Program} {l : Launch} {e : Env} {R : Room} {s : State} {m : MethodId} {args : Array Value} {below : List Frame} {meth : Method} {c : Code} {Q : State → Prop}
variable {dC : Nat → ClassId} {dI : Nat → Nat → Nat} {cl : List vw_C} {st : Nat → Nat} {cid : zk_CI} {ba : Nat} {ly : List (Nat × Nat)} {nL : Nat} {E : zk_E} {as : List Nat} {z z' : zb_Z} {H : Heap} {locs : List Loc} {ls : Array Slot} {stk : List Value}
variable {cc : ByteArray} {q : zk_I} {own mn : String} {tb : List Jvm.Cond} {tab : zk_Tab}
set_option maxHeartbeats 1000000 in
theorem zb_putf_ok (hx : p.tables.exec = Jvm.exec) (hb : c.code = cc) (hown : s.vm.findClass own = some m.cls) (hts : ∀ w ∈ tb, w.before args s = true) (hd : decode cc q.1 = .ok (q.2.1, q.2.2.1)) {i : Nat} (hi : q.2.1 = .putfield i) (hk : zk_kE own tb cl tab q) (hkB : zb_kB own tb cl q) (hcls : zk_cls cl tb) (hen : zk_env dC dI cl cid ly s) (hnm : mn = "<init>" → meth.name = "<init>")
    (h : zb_At dC dI cl st cid ba ly nL s.heap E as z.1 H locs ls stk) (he : zb_putf cl mn q z = some z')
    (kk : ∀ (H' : Heap) (locs' : List Loc) (stk' : List Value), zb_At dC dI cl st cid ba ly nL s.heap E as z'.1 H' locs' ls stk' → W p l e R s m args below meth c H' locs' z'.2.1 z'.2.2 Q (F0 m (q.1 + q.2.2.1) ls stk')) : W p l e R s m args below meth c H locs z.2.1 z.2.2 Q (F0 m q.1 ls stk) := by
  obtain ⟨pc, ins, len, ann, qa, qb, qc⟩ := q
  unfold zb_putf at he
  unfold zk_kE at hk
  unfold zb_kB at hkB
  simp only at he hk hkB hd kk hi ⊢
  subst hi
  simp only at hk hkB
  obtain ⟨rfl, rr, hr1, hr2, hr3, hr4, -⟩ := hk
  have hat := h.2
  split at he
  · rename_i x t r w hsk hw
    rw [zk_get_eq] at hw
    cases hw.symm.trans hr1
    split at he
    · rename_i cc' h3 hc
      have h3 := Nat.eq_of_beq_eq_true h3
      rw [zk_get_eq] at hc
      split at he
      · rename_i g
        simp only [Bool.and_eq_true, Bool.or_eq_true] at g
        obtain ⟨⟨⟨⟨g1, g2⟩, g3⟩, g4⟩, g5⟩ := g
        have g1 := Nat.eq_of_beq_eq_true g1
        have g2 := Nat.eq_of_beq_eq_true g2
        have g3 := Nat.blt_eq.mp g3
        cases he
        have hws := zk_ws_0 (E := E) (ad := zb_ad as) (st := st) (cid := cid) hc
        have ec : zk_ce E (zb_ad as) st cid t.2.1 cc' = .inr (qa, cc'.2.2.map (zk_v E (zb_ad as) st)) := by unfold zk_ce; rw [g1]; simp only [g2]
        rw [ec] at hws
        have hvt : zk_v E (zb_ad as) st t = .ref (zb_ad as t.2.1) := by simp only [zk_v, h3]
        have hxs : zk_tv z.1.1.1 x := hat.2.1.2.1 x (by rw [hsk]; simp)
        obtain ⟨cw, ⟨ty, hty⟩, hnm2⟩ := hcls _ _ hr1
        have hfit := zb_pv_ok (E := E) (ad := zb_ad as) (st := st) g4 (hty qb hr2)
        rw [hat.2.1.2.2.2, hsk, List.map_cons, List.map_cons, hvt]
        have fin : ∀ (H1 : Heap) (locs1 : List Loc), va_P (dC, dI) cl ((zk_ws E (zb_ad as) st cid 0 z.1.2.1).set t.2.1 (zb_ad as t.2.1, .inr (qa, (cc'.2.2.map (zk_v E (zb_ad as) st)).set qb (zk_v E (zb_ad as) st x)))) H1 → va_D (fun q => ba ≤ q) ((zk_ws E (zb_ad as) st cid 0 z.1.2.1).set t.2.1 (zb_ad as t.2.1, .inr (qa, (cc'.2.2.map (zk_v E (zb_ad as) st)).set qb (zk_v E (zb_ad as) st x)))) → va_S (fun q => ba ≤ q) s.heap H1 locs1 → W p l e R s m args below meth c H1 locs1 z.2.1 z.2.2 Q (F0 m (pc + 3) ls (r.map (zk_v E (zb_ad as) st))) := by
          intro H1 locs1 hP hD hS
          have ec2 : zk_ce E (zb_ad as) st cid t.2.1 (0, cc'.2.1, zk_put x cc'.2.2 qb) = .inr (qa, (cc'.2.2.map (zk_v E (zb_ad as) st)).set qb (zk_v E (zb_ad as) st x)) := by
            unfold zk_ce
            simp only [g2, zk_put_eq, List.map_set]
          rw [← ec2] at hP hD
          have hcs := hat.1.2.2.1 _ (List.mem_of_getElem? hc)
          have hs2 : zk_cs z.1.1.1 (0, cc'.2.1, zk_put x cc'.2.2 qb) := ⟨fun u hu => by
            rw [zk_put_eq] at hu
            rcases List.mem_or_eq_of_mem_set hu with h1 | h1
            · exact hcs.1 u h1
            · rw [h1]; exact hxs, fun a => absurd rfl a⟩
          have hwd := zk_wd_set hat.1 zk_ag_rf hat.1.1 hat.1.2.1 (Nat.le_refl _) (c' := (0, cc'.2.1, zk_put x cc'.2.2 qb)) hc (by rw [g1]) rfl hs2 hP hD
          exact kk H1 locs1 _ ⟨by rw [zk_put_eq, List.length_set]; exact h.1, hwd, ⟨hat.2.1.1, fun u hu => hat.2.1.2.1 u (by rw [hsk]; simp [hu]), hat.2.1.2.2.1, rfl⟩, hS⟩
        by_cases hf : (rr.2.1 qb).2.2.2 = true
        · have hn : mn = "<init>" := by
            rcases g5 with g5 | g5
            · rw [hf] at g5; cases g5
            · exact of_decide_eq_true g5
          exact va_putF hx hb hts cw ty hty hnm2 hown hen.1 hat.1.2.2.2.2.1 hat.1.2.2.2.2.2 hat.2.2 t.2.1 hws hr1 qb hr2 (hts _ hr4) (fun x hx => by rw [hr3] at hx; exact hx) hf (hnm hn) (hr3.trans (hkB _ hr1)) (hty qb hr2) hfit.1 hfit.2 (by rw [List.length_map]; exact g3) hd fun H1 locs1 hP hD hS => fin H1 locs1 hP hD hS
        · exact va_put hx hb hts cw ty hty hnm2 hown hen.1 hat.1.2.2.2.2.1 hat.1.2.2.2.2.2 hat.2.2 t.2.1 hws hr1 qb hr2 (hts _ hr4) (fun x hx => by rw [hr3] at hx; exact hx) (Bool.eq_false_iff.mpr hf) (hty qb hr2) hfit.1 hfit.2 (by rw [List.length_map]; exact g3) hd fun H1 locs1 hP hD hS => fin H1 locs1 hP hD hS
      · cases he
    · cases he
  · cases he
set_option maxHeartbeats 1000000 in
theorem zb_aast_ok (hx : p.tables.exec = Jvm.exec) (hb : c.code = cc) (hd : decode cc q.1 = .ok (q.2.1, q.2.2.1)) (hi : q.2.1 = .aastore) (hkB : zb_kB own tb cl q) (hen : zk_env dC dI cl cid ly s)
    (h : zb_At dC dI cl st cid ba ly nL s.heap E as z.1 H locs ls stk) (he : zb_aast cl z = some z')
    (kk : ∀ (H' : Heap) (locs' : List Loc) (stk' : List Value), zb_At dC dI cl st cid ba ly nL s.heap E as z'.1 H' locs' ls stk' → W p l e R s m args below meth c H' locs' z'.2.1 z'.2.2 Q (F0 m (q.1 + q.2.2.1) ls stk')) : W p l e R s m args below meth c H locs z.2.1 z.2.2 Q (F0 m q.1 ls stk) := by
  obtain ⟨pc, ins, len, ann, qa, qb, qc⟩ := q
  unfold zb_aast at he
  unfold zb_kB at hkB
  simp only at he hkB hd kk hi ⊢
  subst hi
  simp only at hkB
  subst hkB
  have hat := h.2
  split at he
  · rename_i x i t r hsk
    split at he
    · rename_i n cc' v g0 hn hc hv
      simp only [Bool.and_eq_true] at g0
      have ht3 := Nat.eq_of_beq_eq_true g0.1
      have hx3 := Nat.eq_of_beq_eq_true g0.2
      rw [zk_get_eq] at hc hv
      split at he
      · rename_i w g hw
        simp only [Bool.and_eq_true] at g
        obtain ⟨⟨⟨g1, g2⟩, g3⟩, g4⟩ := g
        have g1 := Nat.eq_of_beq_eq_true g1
        have g2 := Nat.blt_eq.mp g2
        have g3 := Nat.eq_of_beq_eq_true g3
        have g4 := Nat.eq_of_beq_eq_true g4
        rw [zk_get_eq] at hw
        split at he
        · rename_i g5
          have g5 := of_decide_eq_true g5
          cases he
          obtain ⟨n1, n2⟩ := zb_n_ok (E := E) (ad := zb_ad as) (st := st) hn
          obtain ⟨i1, i2⟩ := zk_idx (x := (n : Int)) (by omega) (by omega)
          rw [Int.toNat_natCast] at i2
          have hlk := zk_ly_at hat.1.2.2.2.1 hc (by rw [g1]; decide)
          have hKk := zk_env_K hen hlk (by show cc'.1 ≠ 0; rw [g1]; decide)
          have hws := zk_ws_0 (E := E) (ad := zb_ad as) (st := st) (cid := cid) hc
          have ec : zk_ce E (zb_ad as) st cid t.2.1 cc' = .inl (cid.1 t.2.1, cc'.2.1, .inr (.inr (.inr (.inr fun j => zk_rq (zb_ad as) (cc'.2.2.getD j (2, 0, [], 0)))))) := by simp only [zk_ce, g1]
          rw [ec] at hws
          have hwv := zk_ws_0 (E := E) (ad := zb_ad as) (st := st) (cid := cid) hv
          have ev : zk_ce E (zb_ad as) st cid x.2.1 v = .inr (v.2.1, v.2.2.map (zk_v E (zb_ad as) st)) := by simp only [zk_ce, g4]
          rw [ev] at hwv
          have hvt : zk_v E (zb_ad as) st t = .ref (zb_ad as t.2.1) := by simp only [zk_v, ht3]
          have hvx : zk_v E (zb_ad as) st x = .ref (zb_ad as x.2.1) := by simp only [zk_v, hx3]
          have hxs : zk_tv z.1.1.1 x := hat.2.1.2.1 x (by rw [hsk]; simp)
          rw [hat.2.1.2.2.2, hsk, List.map_cons, List.map_cons, List.map_cons, hvt, hvx, n1]
          refine va_astq hx hb hKk hat.1.2.2.2.2.1 hat.1.2.2.2.2.2 hat.2.2 t.2.1 0 x.2.1 v.2.1 (r := w) hws (by rw [g5]; simp only [g1]; rfl) hwv hw (vp_in_iff.mpr (by rw [Int32.toInt_ofInt_of_le (by omega) (by omega)]; omega)) hd fun H1 locs1 hP hD hS => ?_
          have ec2 : zk_ce E (zb_ad as) st cid t.2.1 (5, cc'.2.1, zk_put x cc'.2.2 n) = .inl (cid.1 t.2.1, cc'.2.1, .inr (.inr (.inr (.inr (va_up (fun j => zk_rq (zb_ad as) (cc'.2.2.getD j (2, 0, [], 0))) (Int32.ofInt n).toNatClampNeg (some (zb_ad as x.2.1))))))) := by
            simp only [zk_ce]
            rw [i2]
            congr 7
            funext j
            simp only [va_up, zk_put_eq, List.getD_eq_getElem?_getD, List.getElem?_set]
            by_cases hj : n = j
            · subst hj
              rw [if_pos rfl, if_pos (by omega), if_pos rfl]
              simp only [Option.getD_some, zk_rq, hx3]
            · rw [if_neg hj, if_neg (fun e => hj e.symm)]
          rw [← ec2] at hP hD
          have hcs := hat.1.2.2.1 _ (List.mem_of_getElem? hc)
          have hs2 : zk_cs z.1.1.1 (5, cc'.2.1, zk_put x cc'.2.2 n) := ⟨fun u hu => by
            rw [zk_put_eq] at hu
            rcases List.mem_or_eq_of_mem_set hu with h1 | h1
            · exact hcs.1 u h1
            · rw [h1]; exact hxs, fun _ a => absurd rfl a⟩
          have hwd := zk_wd_set hat.1 zk_ag_rf hat.1.1 hat.1.2.1 (Nat.le_refl _) (c' := (5, cc'.2.1, zk_put x cc'.2.2 n)) hc (by rw [g1]) rfl hs2 hP hD
          exact kk H1 locs1 _ ⟨by rw [zk_put_eq, List.length_set]; exact h.1, hwd, ⟨hat.2.1.1, fun u hu => hat.2.1.2.1 u (by rw [hsk]; simp [hu]), hat.2.1.2.2.1, rfl⟩, hS⟩
        · cases he
      · cases he
    · cases he
  · cases he
end ZBP
end
