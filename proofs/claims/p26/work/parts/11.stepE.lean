noncomputable section
/-- the row that a value names: its cell, its kind, its length, its symbol -/
def zk_row (hp : List zk_C) (t : zk_T) : Option (Nat × Nat × Nat × Nat) := match t.1 with
  | 3 => match zk_get hp t.2.1 with
    | some c => match Nat.beq c.1 0 || Nat.beq c.1 5 || Nat.beq c.1 9 with
      | true => none
      | false => some (t.2.1, c.1, c.2.1, zk_hd c.2.2)
    | none => none
  | _ => none
def zk_load (tab : zk_Tab) (kd tg : Nat) (z : zk_Z) : Option (List (Option Nat × zk_Z)) := match zk_i1 z.2.2.2 with
  | some (v, t :: r) => match zk_row z.2.1 t with
    | some (_, kd', n, a) => match Nat.beq kd' kd && zk_ix z.1 v n with
      | true => match zk_rd z.1 a v with
        | some w => some [(none, (w.2, z.2.1, z.2.2.1, (tg, 0, w.1) :: r))]
        | none => none
      | false => none
    | none => match Nat.beq kd 1 && Nat.beq t.1 4, zk_get tab t.2.1 with
      | true, some q => match zk_tr z.1 q.2.2 v with
        | some w => some [(none, (w.2, z.2.1, z.2.2.1, (0, 0, w.1) :: r))]
        | none => none
      | _, _ => none
  | _ => none
/-- what a row of a kind keeps of a value -/
def zk_kept (kd : Nat) (N : zk_N) (x : zk_V) : zk_V × zk_N := match kd with
  | 1 => zk_norm N x
  | 3 => zk_cutto N (-128) 127 x
  | 4 => zk_cutto N (-32768) 32767 x
  | _ => (x, N)
def zk_store (kd : Nat) (z : zk_Z) (x v : zk_V) (t : zk_T) (r : List zk_T) : Option (List (Option Nat × zk_Z)) := match zk_row z.2.1 t with
  | some (k, kd', n, a) => match Nat.beq kd' kd && zk_ix z.1 v n with
    | true => match zk_wr (zk_kept kd z.1 x).2 a v (zk_kept kd z.1 x).1 with
      | some N' => some [(none, (N', zk_put (kd', n, [(0, (zk_kept kd z.1 x).2.1, [], 0)]) z.2.1 k, z.2.2.1, r))]
      | none => none
    | false => none
  | none => none
def zk_st3 (tg : Nat) : List zk_T → Option (zk_V × zk_V × zk_T × List zk_T)
  | x :: v :: t :: r => match Nat.beq x.1 tg && Nat.beq v.1 0 with
    | true => some (x.2.2, v.2.2, t, r)
    | false => none
  | _ => none
/-- a row of references read: one case a place -/
def zk_pick (z : zk_Z) (v : zk_V) (r : List zk_T) : Int → List zk_T → List (Option Nat × zk_Z)
  | _, [] => []
  | k, u :: l => zk_br z (u :: r) none (zk_eqs z.1 (zk_vsub v (zk_c k))) (zk_pick z v r (k + 1) l)
def zk_allR : List zk_T → Bool
  | [] => true
  | t :: l => (Nat.beq t.1 2 || Nat.beq t.1 3) && zk_allR l
def zk_sE (tab : zk_Tab) (q : zk_I) (z : zk_Z) : Option (List (Option Nat × zk_Z)) := match q.2.1 with
  | .getfield _ => match z.2.2.2 with
    | t :: r => match Nat.beq t.1 3, zk_get z.2.1 t.2.1 with
      | true, some c => match Nat.beq c.1 0 && Nat.beq c.2.1 q.2.2.2.2.1, zk_get c.2.2 q.2.2.2.2.2.1 with
        | true, some v => some [(none, (z.1, z.2.1, z.2.2.1, v :: r))]
        | _, _ => none
      | _, _ => none
    | [] => none
  | .putfield _ => match z.2.2.2 with
    | x :: t :: r => match Nat.beq t.1 3 && Nat.beq x.1 0 && !(zk_eqi q.2.2.2.2.2.2 74), zk_get z.2.1 t.2.1 with
      | true, some c => match Nat.beq c.1 0 && Nat.beq c.2.1 q.2.2.2.2.1 && Nat.blt q.2.2.2.2.2.1 c.2.2.length && (zk_eqi q.2.2.2.2.2.2 0 || zk_eqv x.2.2 (zk_c 0) || zk_eqv x.2.2 (zk_c 1)) with
        | true => some [(none, (z.1, zk_put (0, c.2.1, zk_put (0, 0, x.2.2) c.2.2 q.2.2.2.2.2.1) z.2.1 t.2.1, z.2.2.1, r))]
        | false => none
      | _, _ => none
    | _ => none
  | .getstatic _ => match zk_get tab q.2.2.2.2.1 with
    | some _ => some [(none, (z.1, z.2.1, z.2.2.1, (4, q.2.2.2.2.1, zk_c 0) :: z.2.2.2))]
    | none => none
  | .iaload => zk_load tab 1 0 z
  | .laload => zk_load tab 2 1 z
  | .baload => zk_load tab 3 0 z
  | .saload => zk_load tab 4 0 z
  | .aaload => match zk_i1 z.2.2.2 with
    | some (v, t :: r) => match Nat.beq t.1 3, zk_get z.2.1 t.2.1 with
      | true, some c => match Nat.beq c.1 5 && Nat.beq c.2.1 c.2.2.length && zk_ix z.1 v c.2.1 && zk_allR c.2.2 with
        | true => some (zk_pick z v r 0 c.2.2)
        | false => none
      | _, _ => none
    | _ => none
  | .iastore => match zk_st3 0 z.2.2.2 with
    | some (x, v, t, r) => zk_store 1 z x v t r
    | none => none
  | .lastore => match zk_st3 1 z.2.2.2 with
    | some (x, v, t, r) => zk_store 2 z x v t r
    | none => none
  | .bastore => match zk_st3 0 z.2.2.2 with
    | some (x, v, t, r) => zk_store 3 z x v t r
    | none => none
  | .sastore => match zk_st3 0 z.2.2.2 with
    | some (x, v, t, r) => zk_store 4 z x v t r
    | none => none
  | .arraylength => match z.2.2.2 with
    | t :: r => match zk_row z.2.1 t with
      | some (_, _, n, _) => some [(none, (z.1, z.2.1, z.2.2.1, (0, 0, zk_c (Int.ofNat n)) :: r))]
      | none => match Nat.beq t.1 4, zk_get tab t.2.1 with
        | true, some q => some [(none, (z.1, z.2.1, z.2.2.1, (0, 0, zk_c (Int.ofNat q.2.2.length)) :: r))]
        | _, _ => none
    | [] => none
  | _ => none
/-- the classes whose objects the world holds: their words, the types and names of their fields -/
def zk_cls (cl : List vw_C) (tb : List Jvm.Cond) : Prop := ∀ (i : Nat) (r : vw_C), cl[i]? = some r → (∀ w ∈ u_ws r.1 r.2.1 r.2.2, w ∈ tb) ∧ (∃ ty : Nat → FieldType, ∀ k, k < r.2.2 → parseFieldDescriptor (r.2.1 k).2.2.1 = some (ty k)) ∧ ∀ a, a < r.2.2 → ∀ b, b < r.2.2 → a ≠ b → (r.2.1 a).2.1 ≠ (r.2.1 b).2.1
def zk_env (dC : Nat → ClassId) (dI : Nat → Nat → Nat) (cl : List vw_C) (cid : zk_CI) (ly : List (Nat × Nat)) (s : State) : Prop := va_K (dC, dI) cl [] s ∧ ∀ (k : Nat) (kd : Nat × Nat), ly[k]? = some kd → kd.2 < 2 ^ 31 ∧ (kd.1 ≠ 0 → ArrOfT s (cid.1 k) (zk_ty kd.1) ∧ va_RA s (cid.1 k) (zk_ty kd.1))
def zk_sta (tab : zk_Tab) (st : Nat → Nat) (ba : Nat) (s : State) : Prop := (∀ (k : Nat) (r : String × String × List Int), tab[k]? = some r → r.2.2.length < 2 ^ 31 ∧ va_Z r.1 r.2.1 "[I" (.ref (st k)) (fun q => ba ≤ q) s s.heap ∧ va_T .int (st k) r.2.2.length (fun j => .int (Int32.ofInt (r.2.2.getD j 0))) (fun q => ba ≤ q) s s.heap) ∧ zk_str st ba s
def zk_kE (own : String) (tb : List Jvm.Cond) (cl : List vw_C) (tab : zk_Tab) (q : zk_I) : Prop := match q.2.1 with
  | .getfield i => q.2.2.1 = 3 ∧ ∃ r, cl[q.2.2.2.2.1]? = some r ∧ q.2.2.2.2.2.1 < r.2.2 ∧ (r.2.1 q.2.2.2.2.2.1).1 = r.1 ∧ Cond.fieldLink own i r.1 (r.2.1 q.2.2.2.2.2.1).2.1 (r.2.1 q.2.2.2.2.2.1).2.2.1 ∈ tb
  | .putfield i => q.2.2.1 = 3 ∧ ∃ r, cl[q.2.2.2.2.1]? = some r ∧ q.2.2.2.2.2.1 < r.2.2 ∧ (r.2.1 q.2.2.2.2.2.1).1 = r.1 ∧ Cond.fieldLink own i r.1 (r.2.1 q.2.2.2.2.2.1).2.1 (r.2.1 q.2.2.2.2.2.1).2.2.1 ∈ tb ∧ (q.2.2.2.2.2.2 = 74 ∨ ((r.2.1 q.2.2.2.2.2.1).2.2.2 = false ∧ ((r.2.1 q.2.2.2.2.2.1).2.2.1 = "I" ∨ ((r.2.1 q.2.2.2.2.2.1).2.2.1 = "Z" ∧ q.2.2.2.2.2.2 ≠ 0))))
  | .getstatic i => q.2.2.1 = 3 ∧ ∃ r, tab[q.2.2.2.2.1]? = some r ∧ (Cond.fieldLink own i r.1 r.2.1 "[I" ∈ tb ∨ ∃ host, Cond.fieldLinkNest own i r.1 r.2.1 "[I" host ∈ tb)
  | .iaload => q.2.2.1 = 1
  | .laload => q.2.2.1 = 1
  | .baload => q.2.2.1 = 1
  | .saload => q.2.2.1 = 1
  | .aaload => q.2.2.1 = 1
  | .iastore => q.2.2.1 = 1
  | .lastore => q.2.2.1 = 1
  | .bastore => q.2.2.1 = 1
  | .sastore => q.2.2.1 = 1
  | .arraylength => q.2.2.1 = 1
  | _ => True
theorem zk_env_K {dC : Nat → ClassId} {dI : Nat → Nat → Nat} {cl : List vw_C} {cid : zk_CI} {ly : List (Nat × Nat)} {s : State} (h : zk_env dC dI cl cid ly s) {k : Nat} {kd : Nat × Nat} (hk : ly[k]? = some kd) (h0 : kd.1 ≠ 0) : va_K (dC, dI) cl [(cid.1 k, zk_ty kd.1)] s := by
  refine ⟨h.1.1, fun j q hq => ?_⟩
  cases j with
  | zero => cases hq; exact (h.2 k kd hk).2 h0
  | succ j => simp at hq
section ZE
variable {p : Program} {l : Launch} {e : Env} {R : Room} {s : State} {m : MethodId} {args : Array Value} {below : List Frame} {meth : Method} {c : Code} {cells slots : Nat} {Q : State → Prop}
variable {dC : Nat → ClassId} {dI : Nat → Nat → Nat} {cl : List vw_C} {ad st : Nat → Nat} {cid : zk_CI} {ba : Nat} {ly : List (Nat × Nat)} {nL : Nat} {E : zk_E} {H : Heap} {locs : List Loc} {ls : Array Slot} {stk : List Value}
variable {cc : ByteArray} {q : zk_I} {z : zk_Z} {L : List (Option Nat × zk_Z)} {own : String} {tb : List Jvm.Cond} {tab : zk_Tab}
theorem zk_row_of {hp : List zk_C} {t : zk_T} {k kd n a : Nat} (h : zk_row hp t = some (k, kd, n, a)) : ∃ c : zk_C, t.1 = 3 ∧ t.2.1 = k ∧ hp[k]? = some c ∧ c.1 = kd ∧ c.2.1 = n ∧ zk_hd c.2.2 = a ∧ kd ≠ 0 ∧ kd ≠ 5 ∧ kd ≠ 9 := by
  unfold zk_row at h
  split at h
  · rename_i ht
    split at h
    · rename_i c hc
      split at h
      · cases h
      · rename_i g
        cases h
        simp only [Bool.or_eq_false_iff] at g
        refine ⟨c, ht, rfl, by rw [← zk_get_eq]; exact hc, rfl, rfl, rfl, fun e => ?_, fun e => ?_, fun e => ?_⟩
        · rw [e] at g; exact absurd g.1.1 (by decide)
        · rw [e] at g; exact absurd g.1.2 (by decide)
        · rw [e] at g; exact absurd g.2 (by decide)
    · cases h
  · cases h
theorem zk_ofi {E : zk_E} {v : zk_V} {n : Nat} (hn : n < 2 ^ 31) (h : 0 ≤ zk_i E v ∧ zk_i E v < n) : vp_in (Int32.ofInt (zk_i E v)) n ∧ (Int32.ofInt (zk_i E v)).toNatClampNeg = (zk_i E v).toNat := by
  refine ⟨vp_in_iff.mpr ?_, Int32.toNatClampNeg_ofInt_of_le (by omega) (by omega)⟩
  rw [Int32.toInt_ofInt_of_le (by omega) (by omega)]
  exact h
theorem zk_ly_at {hp : List zk_C} {k : Nat} {c : zk_C} (h : zk_lay hp ly) (hk : hp[k]? = some c) (h9 : c.1 ≠ 9) : ly[k]? = some (c.1, c.2.1) := h k c hk h9
set_option maxHeartbeats 1000000 in
theorem zk_load_ok (hx : p.tables.exec = Jvm.exec) (hb : c.code = cc) {kd tg pc : Nat} {i : Instr} (hd : decode cc pc = .ok (i, 1)) (hi : (kd = 1 ∧ i = .iaload ∧ tg = 0) ∨ (kd = 2 ∧ i = .laload ∧ tg = 1) ∨ (kd = 3 ∧ i = .baload ∧ tg = 0) ∨ (kd = 4 ∧ i = .saload ∧ tg = 0)) (hen : zk_env dC dI cl cid ly s) (hst : zk_sta tab st ba s)
    (h : zk_At dC dI cl ad st cid ba ly nL s.heap E z H locs ls stk) (he : zk_load tab kd tg z = some L) (hg : ∀ r ∈ L, r.1 = none → zk_go (zk_W p l e R s m args below meth c cells slots Q) (zk_At dC dI cl ad st cid ba ly nL s.heap) E z.1.1 r.2 (pc + 1)) : W p l e R s m args below meth c H locs cells slots Q (F0 m pc ls stk) := by
  obtain ⟨N, hp, lc, sk⟩ := z
  have hok := h.1.1
  have hcl := h.1.2.1
  have hsv := h.2.1.2.1
  have hstk := h.2.1.2.2.2
  unfold zk_load at he
  simp only at he hok hcl hsv hstk ⊢
  split at he
  · rename_i v t r hr
    obtain ⟨k0, rfl⟩ := zk_i1_of hr
    have hvs := hsv _ List.mem_cons_self
    split at he
    · rename_i k kd' n a hrow
      split at he
      · rename_i g
        simp only [Bool.and_eq_true] at g
        have hkd := Nat.eq_of_beq_eq_true g.1
        have hix := zk_ix_ok hok g.2
        split at he
        · rename_i w hw
          cases he
          obtain ⟨cc', ht1, ht2, hck, hk1, hk2, hk3, hk0, hk5, hk9⟩ := zk_row_of hrow
          have hcm := List.mem_of_getElem? hck
          have hcs := h.1.2.2.1 _ hcm
          have haN : a < N.1 := by rw [← hk3]; exact hcs.2 (by rw [hk1]; exact hk0) (by rw [hk1]; exact hk5) (by rw [hk1]; exact hk9)
          have hlk := zk_ly_at h.1.2.2.2.1 hck (by rw [hk1]; exact hk9)
          have hn : n < 2 ^ 31 := by rw [← hk2]; exact (hen.2 _ _ hlk).1
          obtain ⟨hin, hcn⟩ := zk_ofi (E := E) (v := v) hn hix
          have hwo := zk_rd_ok hok hcl haN hvs hw
          obtain ⟨E', hP, hX⟩ := zk_push (tg := tg) (k := 0) h hwo (fun u hu => List.mem_cons_of_mem _ (List.mem_cons_of_mem _ hu)) (hg _ List.mem_cons_self rfl)
          have hvt : zk_v E ad st t = .ref (ad k) := by simp only [zk_v, ht1, ht2]
          rw [hstk, List.map_cons, List.map_cons, zk_vi, hvt]
          have hws := zk_ws_0 (E := E) (ad := ad) (st := st) (cid := cid) hck
          have hKk := zk_env_K hen hlk (by show cc'.1 ≠ 0; rw [hk1]; exact hk0)
          simp only [hk1, hkd] at hKk
          have hPw := h.1.2.2.2.2.1
          rcases hi with ⟨e1, e2, e3⟩ | ⟨e1, e2, e3⟩ | ⟨e1, e2, e3⟩ | ⟨e1, e2, e3⟩ <;> subst e1 <;> subst e2 <;> subst e3
          · have hc : zk_ce E ad st cid k cc' = .inl (cid.1 k, n, .inl fun j => Int32.ofInt (E.2 a j)) := by unfold zk_ce; rw [hk1, hkd]; simp only [hk2, hk3]
            rw [hc] at hws
            refine va_iald hx hb hKk hPw k 0 hws rfl hin hd ?_
            rw [hcn]
            rw [zk_vi, hP] at hX
            exact hX
          · have hc : zk_ce E ad st cid k cc' = .inl (cid.1 k, n, .inr (.inl fun j => Int64.ofInt (E.2 a j))) := by unfold zk_ce; rw [hk1, hkd]; simp only [hk2, hk3]
            rw [hc] at hws
            refine va_lald hx hb hKk hPw k 0 hws rfl hin hd ?_
            rw [hcn]
            rw [zk_vl, hP] at hX
            exact hX
          · have hc : zk_ce E ad st cid k cc' = .inl (cid.1 k, n, .inl fun j => Int32.ofInt (E.2 a j)) := by unfold zk_ce; rw [hk1, hkd]; simp only [hk2, hk3]
            rw [hc] at hws
            refine va_bald hx hb hKk hPw k 0 hws rfl hin hd ?_
            rw [hcn]
            rw [zk_vi, hP] at hX
            exact hX
          · have hc : zk_ce E ad st cid k cc' = .inl (cid.1 k, n, .inl fun j => Int32.ofInt (E.2 a j)) := by unfold zk_ce; rw [hk1, hkd]; simp only [hk2, hk3]
            rw [hc] at hws
            refine va_sald hx hb hKk hPw k 0 hws rfl hin hd ?_
            rw [hcn]
            rw [zk_vi, hP] at hX
            exact hX
        · cases he
      · cases he
    · split at he
      · rename_i q g hq
        simp only [Bool.and_eq_true] at g
        have hk1 := Nat.eq_of_beq_eq_true g.1
        have ht4 := Nat.eq_of_beq_eq_true g.2
        split at he
        · rename_i w hw
          cases he
          subst hk1
          rw [zk_get_eq] at hq
          obtain ⟨hlen, hZ, hT⟩ := hst.1 _ _ hq
          obtain ⟨hix, hwo⟩ := zk_tr_ok hok hcl hw
          obtain ⟨hin, hcn⟩ := zk_ofi (E := E) (v := v) hlen hix
          have hvt : zk_v E ad st t = .ref (st t.2.1) := by simp only [zk_v, ht4]
          obtain ⟨E', hP, hX⟩ := zk_push (tg := 0) (k := 0) h hwo (fun u hu => List.mem_cons_of_mem _ (List.mem_cons_of_mem _ hu)) (hg _ List.mem_cons_self rfl)
          rw [hstk, List.map_cons, List.map_cons, zk_vi, hvt]
          rcases hi with ⟨e1, e2, e3⟩ | ⟨e1, e2, e3⟩ | ⟨e1, e2, e3⟩ | ⟨e1, e2, e3⟩
          · subst e2
            refine va_ti hx hb hT h.2.2 hin rfl hd ?_
            rw [hcn]
            rw [zk_vi, hP] at hX
            exact hX
          · cases e1
          · cases e1
          · cases e1
        · cases he
      · cases he
  · cases he
end ZE
end
