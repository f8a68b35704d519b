noncomputable section
/-! arithmetic, conversions -/
def zk_fullL (N : zk_N) : zk_V × zk_N := zk_new N (-9223372036854775808) 9223372036854775807
theorem zk_fullL_ok {E : zk_E} {N : zk_N} (h : zk_ok E N) (hs : zk_cl N) (z : Int64) : zk_to E N (zk_fullL N) fun w => Int64.ofInt w = z :=
  (zk_new_to h hs (w := z.toInt) (by have := Int64.le_toInt z; omega) (by have := Int64.toInt_lt z; omega)).imp fun w e => by rw [e, Int64.ofInt_toInt]
/-- a long of two numbers, told before -/
def zk_lopm (k : Nat) (N : zk_N) (x y : zk_V) : zk_V × zk_N := match zk_find3 k x y N.2.2.2 with
  | some w => (w, N)
  | none => ((zk_fullL N).1, zk_addG (zk_fullL N).2 (k, [], [x, y, (zk_fullL N).1]))
theorem zk_lopm_ok {k : Nat} {E : zk_E} {N : zk_N} (h : zk_ok E N) (hs : zk_cl N) {x y : zk_V} (hx : zk_sv N.1 x) (hy : zk_sv N.1 y) (z : Int64) (hk1 : ∀ w : Int, zk_S k [] [zk_i E x, zk_i E y, w] → Int64.ofInt w = z) (hk2 : ∀ w : Int, Int64.ofInt w = z → zk_S k [] [zk_i E x, zk_i E y, w]) : zk_to E N (zk_lopm k N x y) fun w => Int64.ofInt w = z := by
  unfold zk_lopm
  split
  · rename_i w hw
    have hm := zk_find3_of hw
    refine zk_old_to h hs ((hs.2.2 _ hm).2 w (by simp)) (hk1 _ ?_)
    have := h.2.2 _ hm
    simp only [List.map_cons, List.map_nil] at this
    exact this
  · obtain ⟨E', a1, a2, a3, a4, a5, a6⟩ := zk_fullL_ok h hs z
    refine ⟨E', a1, zk_addG_ok a2 ?_, zk_addG_cl a3 ⟨fun b hb => absurd hb List.not_mem_nil, fun u hu => ?_⟩, a4, a5, a6⟩
    · simp only [List.map_cons, List.map_nil]
      rw [zk_i_ag a1 hx, zk_i_ag a1 hy]
      exact hk2 _ a6
    · simp only [List.mem_cons, List.not_mem_nil, or_false] at hu
      rcases hu with rfl | rfl | rfl
      · exact zk_sv_le a4 hx
      · exact zk_sv_le a4 hy
      · exact a5
/-- surely a long -/
def zk_inL (N : zk_N) (x : zk_V) : Bool := match zk_rng N x with
  | some a => zk_le (-9223372036854775808) a.1 && zk_le a.2 9223372036854775807
  | none => false
theorem zk_inL_ok {E : zk_E} {N : zk_N} (h : zk_ok E N) {x : zk_V} (hx : zk_inL N x = true) : (Int64.ofInt (zk_i E x)).toInt = zk_i E x := by
  unfold zk_inL at hx
  split at hx
  · rename_i a ha
    have hr := zk_rng_ok h ha
    simp only [Bool.and_eq_true] at hx
    have := zk_le_of hx.1
    have := zk_le_of hx.2
    exact Int64.toInt_ofInt_of_le (by omega) (by omega)
  · cases hx
def zk_i2l (N : zk_N) (x : zk_V) : zk_V × zk_N := match zk_in N x with
  | true => (x, N)
  | false => zk_new N (-2147483648) 2147483647
theorem zk_i2l_ok {E : zk_E} {N : zk_N} (h : zk_ok E N) (hs : zk_cl N) {x : zk_V} (hx : zk_sv N.1 x) : zk_to E N (zk_i2l N x) fun w => Int64.ofInt w = (Int32.ofInt (zk_i E x)).toInt64 := by
  have e0 : ∀ y : Int32, y.toInt64 = Int64.ofInt y.toInt := fun y => by rw [← Int64.toInt_inj, Int32.toInt_toInt64, Int64.toInt_ofInt_of_le (by have := Int32.le_toInt y; omega) (by have := Int32.toInt_lt y; omega)]
  unfold zk_i2l
  split
  · rename_i g
    exact zk_old_to h hs hx (by rw [e0, zk_in_ok h g])
  · exact (zk_new_to h hs (w := (Int32.ofInt (zk_i E x)).toInt) (by have := Int32.le_toInt (Int32.ofInt (zk_i E x)); omega) (by have := Int32.toInt_lt (Int32.ofInt (zk_i E x)); omega)).imp fun w e => by rw [e, e0]
def zk_find4 (x : zk_V) : List zk_G → Option zk_V
  | [] => none
  | (4, [], [y, v]) :: l => match zk_eqv y x with
    | true => some v
    | false => zk_find4 x l
  | _ :: l => zk_find4 x l
theorem zk_find4_mem {x v : zk_V} : ∀ {l : List zk_G}, zk_find4 x l = some v → (4, [], [x, v]) ∈ l
  | [], h => by cases h
  | g :: l, h => by
    unfold zk_find4 at h
    split at h
    · rename_i heq
      cases heq
    · rename_i y v' l' heq
      cases heq
      split at h
      · rename_i e
        have e := zk_eqv_of e
        cases h
        rw [e]
        exact List.mem_cons_self
      · exact List.mem_cons_of_mem _ (zk_find4_mem h)
    · rename_i g' l' _ heq
      cases heq
      exact List.mem_cons_of_mem _ (zk_find4_mem h)
def zk_l2i (N : zk_N) (x : zk_V) : zk_V × zk_N := match zk_in N x with
  | true => (x, N)
  | false => match zk_find4 x N.2.2.2 with
    | some v => (v, N)
    | none => ((zk_full N).1, zk_addG (zk_full N).2 (4, [], [x, (zk_full N).1]))
theorem zk_l2i_ok {E : zk_E} {N : zk_N} (h : zk_ok E N) (hs : zk_cl N) {x : zk_V} (hx : zk_sv N.1 x) : zk_to E N (zk_l2i N x) fun w => Int32.ofInt w = (Int64.ofInt (zk_i E x)).toInt32 := by
  unfold zk_l2i
  split
  · rename_i g
    exact zk_old_to h hs hx (by rw [Int64.toInt32_ofInt])
  · split
    · rename_i v hv
      have hm := zk_find4_mem hv
      refine zk_old_to h hs ((hs.2.2 _ hm).2 v (by simp)) ?_
      have := h.2.2 _ hm
      simp only [List.map_cons, List.map_nil, zk_S] at this
      rw [← this, Int32.ofInt_toInt]
    · obtain ⟨E', a, b, c, d, e, f⟩ := zk_new_to h hs (lo := -2147483648) (hi := 2147483647) (w := ((Int64.ofInt (zk_i E x)).toInt32).toInt) (by have := Int32.le_toInt (Int64.ofInt (zk_i E x)).toInt32; omega) (by have := Int32.toInt_lt (Int64.ofInt (zk_i E x)).toInt32; omega)
      refine ⟨E', a, zk_addG_ok b ?_, zk_addG_cl c ⟨fun a ha => absurd ha List.not_mem_nil, fun v hv => ?_⟩, d, e, ?_⟩
      · show ((Int64.ofInt (zk_i E' x)).toInt32).toInt = zk_i E' (zk_full N).1
        rw [zk_i_ag a hx]
        exact f.symm
      · simp only [List.mem_cons, List.not_mem_nil, or_false] at hv
        rcases hv with rfl | rfl
        · exact zk_sv_le d hx
        · exact e
      · show Int32.ofInt (zk_i E' (zk_full N).1) = _
        rw [show zk_i E' (zk_full N).1 = _ from f, Int32.ofInt_toInt]
/-- an int cut to bounds that hold it already, or any int within them -/
def zk_cutto (N : zk_N) (lo hi : Int) (x : zk_V) : zk_V × zk_N := match zk_rng N x with
  | some r => match zk_le lo r.1 && zk_le r.2 hi with
    | true => (x, N)
    | false => zk_new N lo hi
  | none => zk_new N lo hi
theorem zk_cutto_ok {E : zk_E} {N : zk_N} (h : zk_ok E N) (hs : zk_cl N) {lo hi : Int} {x : zk_V} (hx : zk_sv N.1 x) {z : Int32} (h1 : lo ≤ z.toInt) (h2 : z.toInt ≤ hi) (h3 : lo ≤ zk_i E x → zk_i E x ≤ hi → Int32.ofInt (zk_i E x) = z) : zk_is E N (zk_cutto N lo hi x) z := by
  unfold zk_cutto
  split
  · rename_i r hr
    have hb := zk_rng_ok h hr
    split
    · rename_i g
      simp only [Bool.and_eq_true] at g
      have := zk_le_of g.1
      have := zk_le_of g.2
      exact zk_old_ok h hs hx (h3 (by omega) (by omega))
    · exact zk_new_ok h hs h1 h2
  · exact zk_new_ok h hs h1 h2
theorem zk_i2b_e (x : Int) (h1 : -128 ≤ x) (h2 : x ≤ 127) : Int32.ofInt x = (Int32.ofInt x).toInt8.toInt32 := by
  rw [← Int32.toInt_inj, Int8.toInt_toInt32, Int32.toInt_toInt8, Int32.toInt_ofInt_of_le (by omega) (by omega), Int.bmod_eq_of_le (by omega) (by omega)]
theorem zk_i2s_e (x : Int) (h1 : -32768 ≤ x) (h2 : x ≤ 32767) : Int32.ofInt x = (Int32.ofInt x).toInt16.toInt32 := by
  rw [← Int32.toInt_inj, Int16.toInt_toInt32, Int32.toInt_toInt16, Int32.toInt_ofInt_of_le (by omega) (by omega), Int.bmod_eq_of_le (by omega) (by omega)]
/-- an int that comes of two, told -/
def zk_of (o : Int) (N : zk_N) (x y : zk_V) (w : zk_V × zk_N) : zk_V × zk_N := match Nat.blt N.1 w.2.1 with
  | true => (w.1, zk_addG w.2 (80, [], [zk_c o, x, y, w.1]))
  | false => w
theorem zk_of_ok {E : zk_E} {N : zk_N} {o : Int} {x y : zk_V} {w : zk_V × zk_N} {z : Int32} (h1 : zk_sv N.1 x) (h2 : zk_sv N.1 y) (hw : zk_is E N w z) (hz : z = zx_o32 o.toNat (Int32.ofInt (zk_i E x)) (Int32.ofInt (zk_i E y))) : zk_is E N (zk_of o N x y w) z := by
  obtain ⟨E', a1, a2, a3, a4, a5, a6⟩ := hw
  unfold zk_of
  split
  · refine ⟨E', a1, zk_addG_ok a2 ?_, zk_addG_cl a3 ⟨fun b hb => absurd hb List.not_mem_nil, fun v hv => ?_⟩, a4, a5, a6⟩
    · simp only [List.map_cons, List.map_nil, zq_6, zq_7, zq_8, zq_9, zq_20, zq_21, zq_22, zq_25, zq_26, zq_28, zq_30, zq_40, zq_51, zq_52, zq_53, zq_54, zq_55, zq_64, zq_65, zq_68, zq_72, zq_73, zq_85, zq_74, zq_75, zq_76, zq_71, zq_86, zq_87, zq_80, zq_41, zq_42, zq_43, zq_94, zq_95, zq_47, zq_48, zq_96, zq_97, zq_88, zq_89, zq_90, zq_93, zq_61, zq_62, zq_1, zq_2, zq_3, zq_4, zq_5, zq_46, zq_44, zk_c_i]
      rw [zk_i_ag a1 h1, zk_i_ag a1 h2, ← hz]
      exact a6
    · simp only [List.mem_cons, List.not_mem_nil, or_false] at hv
      rcases hv with rfl | rfl | rfl | rfl
      · exact zk_c_sv
      · exact zk_sv_le a4 h1
      · exact zk_sv_le a4 h2
      · exact a5
  · exact ⟨E', a1, a2, a3, a4, a5, a6⟩
/-- two ints, one int -/
def zk_ar (i : Instr) (N : zk_N) (x y : zk_V) : Option (zk_V × zk_N) := match i with
  | .iadd => some (zk_norm N (zk_vadd x y))
  | .isub => some (zk_norm N (zk_vsub x y))
  | .imul => some (zk_of 1 N x y (zk_mul N x y))
  | .iand => some (zk_of 4 N x y (zk_and N x y))
  | .ior => some (zk_of 5 N x y (zk_xor N x y))
  | .ixor => some (zk_xorm N x y)
  | .ishl => some (zk_of 6 N x y (zk_shl N x y))
  | .ishr => some (zk_of 8 N x y (zk_full N))
  | .iushr => some (zk_of 7 N x y (zk_ushr N x y))
  | .idiv => match zk_nz N y && zk_in N y with
    | true => some (zk_of 2 N x y (zk_div N x y))
    | false => none
  | .irem => match zk_nz N y && zk_in N y with
    | true => some (zk_of 3 N x y (zk_rem N x y))
    | false => none
  | _ => none
/-- the same, told before -/
def zk_cutm (k : Nat) (N : zk_N) (lo hi : Int) (x : zk_V) : zk_V × zk_N := match (match zk_rng N x with
    | some r => zk_le lo r.1 && zk_le r.2 hi
    | none => false) with
  | true => (x, N)
  | false => match zk_findk k x N.2.2.2 with
    | some w => (w, N)
    | none => ((zk_new N lo hi).1, zk_addG (zk_new N lo hi).2 (k, [], [x, (zk_new N lo hi).1]))
theorem zk_cutm_ok {k : Nat} {E : zk_E} {N : zk_N} (h : zk_ok E N) (hs : zk_cl N) {lo hi : Int} {x : zk_V} (hx : zk_sv N.1 x) {z : Int32} (h1 : lo ≤ z.toInt) (h2 : z.toInt ≤ hi) (h3 : lo ≤ zk_i E x → zk_i E x ≤ hi → Int32.ofInt (zk_i E x) = z) (hk1 : ∀ w : Int, zk_S k [] [zk_i E x, w] → Int32.ofInt w = z) (hk2 : ∀ w : Int, Int32.ofInt w = z → zk_S k [] [zk_i E x, w]) : zk_is E N (zk_cutm k N lo hi x) z := by
  unfold zk_cutm
  split
  · rename_i g
    split at g
    · rename_i r hr
      have hb := zk_rng_ok h hr
      simp only [Bool.and_eq_true] at g
      have := zk_le_of g.1
      have := zk_le_of g.2
      exact zk_old_ok h hs hx (h3 (by omega) (by omega))
    · cases g
  · split
    · rename_i w hw
      have hm := zk_findk_of hw
      refine zk_old_ok h hs ((hs.2.2 _ hm).2 w (by simp)) (hk1 _ ?_)
      have := h.2.2 _ hm
      simp only [List.map_cons, List.map_nil] at this
      exact this
    · obtain ⟨E', a1, a2, a3, a4, a5, a6⟩ := zk_new_ok h hs h1 h2
      refine ⟨E', a1, zk_addG_ok a2 ?_, zk_addG_cl a3 ⟨fun b hb => absurd hb List.not_mem_nil, fun u hu => ?_⟩, a4, a5, a6⟩
      · simp only [List.map_cons, List.map_nil]
        rw [zk_i_ag a1 hx]
        exact hk2 _ a6
      · simp only [List.mem_cons, List.not_mem_nil, or_false] at hu
        rcases hu with rfl | rfl
        · exact zk_sv_le a4 hx
        · exact a5
def zk_i2c (N : zk_N) (x : zk_V) : zk_V × zk_N := match zk_rng N x with
  | some r => match zk_le 0 r.1 && zk_le r.2 65535 with
    | true => (x, N)
    | false => zk_full N
  | none => zk_full N
theorem zk_i2c_e {x : Int} (h1 : 0 ≤ x) (h2 : x ≤ 65535) : Int32.ofInt x = ((Int32.ofInt x).toUInt32 % 65536).toInt32 := by
  have e : (Int32.ofInt x).toUInt32 % 65536 = (Int32.ofInt x).toUInt32 := by
    rw [← UInt32.toNat_inj, UInt32.toNat_mod]
    refine Nat.mod_eq_of_lt ?_
    have h3 : (Int32.ofInt x).toInt = x := Int32.toInt_ofInt_of_le (by omega) (by omega)
    have h4 := zk_nat (X := Int32.ofInt x) (by omega)
    show (Int32.ofInt x).toBitVec.toNat < 65536
    omega
  rw [e]
  rfl
theorem zk_i2c_ok {E : zk_E} {N : zk_N} (h : zk_ok E N) (hs : zk_cl N) {x : zk_V} (hx : zk_sv N.1 x) : zk_is E N (zk_i2c N x) ((Int32.ofInt (zk_i E x)).toUInt32 % 65536).toInt32 := by
  unfold zk_i2c
  split
  · rename_i r hr
    have hb := zk_rng_ok h hr
    split
    · rename_i g
      simp only [Bool.and_eq_true] at g
      have := zk_le_of g.1
      have := zk_le_of g.2
      exact zk_old_ok h hs hx (zk_i2c_e (by omega) (by omega))
    · exact zk_full_ok h hs _
  · exact zk_full_ok h hs _
/-- one int, one int -/
def zk_un (i : Instr) (N : zk_N) (x : zk_V) : Option (zk_V × zk_N) := match i with
  | .ineg => some (zk_norm N (zk_vmul (-1) x))
  | .i2b => some (zk_cutm 72 N (-128) 127 x)
  | .i2s => some (zk_cutm 73 N (-32768) 32767 x)
  | .i2c => some (zk_i2c N x)
  | _ => none
def zk_sB (q : zk_I) (z : zk_Z) : Option (List (Option Nat × zk_Z)) := match q.2.1 with
  | .i2l => match zk_i1 z.2.2.2 with
    | some (x, r) => some [(none, ((zk_i2l z.1 x).2, z.2.1, z.2.2.1, (1, 0, (zk_i2l z.1 x).1) :: r))]
    | none => none
  | .l2i => match zk_l1 z.2.2.2 with
    | some (x, r) => some [(none, ((zk_l2i z.1 x).2, z.2.1, z.2.2.1, (0, 0, (zk_l2i z.1 x).1) :: r))]
    | none => none
  | .ladd => match zk_l2 z.2.2.2 with
    | some (x, y, r) => some [(none, (z.1, z.2.1, z.2.2.1, (1, 0, zk_vadd x y) :: r))]
    | none => none
  | .land => match zk_l2 z.2.2.2 with
    | some (x, y, r) => some [(none, ((zk_lopm 74 z.1 x y).2, z.2.1, z.2.2.1, (1, 0, (zk_lopm 74 z.1 x y).1) :: r))]
    | none => none
  | .lor => match zk_l2 z.2.2.2 with
    | some (x, y, r) => some [(none, ((zk_lopm 75 z.1 x y).2, z.2.1, z.2.2.1, (1, 0, (zk_lopm 75 z.1 x y).1) :: r))]
    | none => none
  | .lshl => match zk_i1 z.2.2.2 with
    | some (y, r1) => match zk_l1 r1 with
      | some (x, r) => some [(none, ((zk_lopm 76 z.1 x y).2, z.2.1, z.2.2.1, (1, 0, (zk_lopm 76 z.1 x y).1) :: r))]
      | none => none
    | none => none
  | i => match zk_i2 z.2.2.2 with
    | some (x, y, r) => match zk_ar i z.1 x y with
      | some w => some [(none, (w.2, z.2.1, z.2.2.1, (0, 0, w.1) :: r))]
      | none => match zk_un i z.1 y with
        | some w => some [(none, (w.2, z.2.1, z.2.2.1, (0, 0, w.1) :: z.2.2.2.drop 1))]
        | none => none
    | none => match zk_i1 z.2.2.2 with
      | some (y, r) => match zk_un i z.1 y with
        | some w => some [(none, (w.2, z.2.1, z.2.2.1, (0, 0, w.1) :: r))]
        | none => none
      | none => none
section ZB
variable {p : Program} {l : Launch} {e : Env} {R : Room} {s : State} {m : MethodId} {args : Array Value} {below : List Frame} {meth : Method} {c : Code} {cells slots : Nat} {Q : State → Prop}
variable {dC : Nat → ClassId} {dI : Nat → Nat → Nat} {cl : List vw_C} {ad st : Nat → Nat} {cid : zk_CI} {ba : Nat} {ly : List (Nat × Nat)} {nL : Nat} {H0 : Heap} {E : zk_E} {H : Heap} {locs : List Loc} {ls : Array Slot} {stk : List Value}
variable {cc : ByteArray} {q : zk_I} {z : zk_Z} {L : List (Option Nat × zk_Z)}
theorem zk_ar_ok (hx : p.tables.exec = Jvm.exec) (hb : c.code = cc) {i : Instr} {pc len : Nat} (hl : len = 1) (hd : decode cc pc = .ok (i, len)) {N : zk_N} (h : zk_ok E N) (hs : zk_cl N) {x y : zk_V} (h1 : zk_sv N.1 x) (h2 : zk_sv N.1 y) {w : zk_V × zk_N} (hw : zk_ar i N x y = some w) :
    ∃ f : Int32, zk_is E N w f ∧ ∀ rest, W p l e R s m args below meth c H locs cells slots Q (F0 m (pc + len) ls (.int f :: rest)) → W p l e R s m args below meth c H locs cells slots Q (F0 m pc ls (.int (Int32.ofInt (zk_i E y)) :: .int (Int32.ofInt (zk_i E x)) :: rest)) := by
  subst hl
  unfold zk_ar at hw
  split at hw
  · cases hw
    have k0 := zk_norm_ok h hs (zk_vadd_sv h1 h2)
    rw [zk_vadd_i, Int32.ofInt_add] at k0
    exact ⟨_, k0, fun rest k => lv_iadd hx hb hd k⟩
  · cases hw
    have k0 := zk_norm_ok h hs (zk_vsub_sv h1 h2)
    rw [zk_vsub_i, Int32.ofInt_sub] at k0
    exact ⟨_, k0, fun rest k => lv_isub hx hb hd k⟩
  · cases hw
    exact ⟨_, zk_of_ok h1 h2 (zk_mul_ok h hs h1 h2) rfl, fun rest k => lv_imul hx hb hd k⟩
  · cases hw
    exact ⟨_, zk_of_ok h1 h2 (zk_and_ok h hs h1 h2) rfl, fun rest k => lv_iand hx hb hd k⟩
  · cases hw
    exact ⟨_, zk_of_ok h1 h2 (zk_xor_ok h hs).2 rfl, fun rest k => lv_ior hx hb hd k⟩
  · cases hw
    exact ⟨_, zk_xorm_ok h hs h1 h2, fun rest k => lv_ixor hx hb hd k⟩
  · cases hw
    exact ⟨_, zk_of_ok h1 h2 (zk_shl_ok h hs) rfl, fun rest k => lv_ishl hx hb hd k⟩
  · cases hw
    exact ⟨_, zk_of_ok h1 h2 (zk_full_ok h hs _) rfl, fun rest k => lv_ishr hx hb hd k⟩
  · cases hw
    exact ⟨_, zk_of_ok h1 h2 (zk_ushr_ok h hs) rfl, fun rest k => lv_iushr hx hb hd rfl k⟩
  · split at hw
    · rename_i g
      simp only [Bool.and_eq_true] at g
      cases hw
      refine ⟨_, zk_of_ok h1 h2 (zk_div_ok h hs h1 h2) rfl, fun rest k => lv_idiv hx hb hd (fun q => ?_) k⟩
      have := congrArg Int32.toInt q
      rw [zk_in_ok h g.2] at this
      exact zk_nz_ok h g.1 (by simpa using this)
    · cases hw
  · split at hw
    · rename_i g
      simp only [Bool.and_eq_true] at g
      cases hw
      refine ⟨_, zk_of_ok h1 h2 (zk_rem_ok h hs) rfl, fun rest k => lv_irem hx hb hd (fun q => ?_) k⟩
      have := congrArg Int32.toInt q
      rw [zk_in_ok h g.2] at this
      exact zk_nz_ok h g.1 (by simpa using this)
    · cases hw
  · cases hw
theorem zk_un_ok (hx : p.tables.exec = Jvm.exec) (hb : c.code = cc) {i : Instr} {pc len : Nat} (hl : len = 1) (hd : decode cc pc = .ok (i, len)) {N : zk_N} (h : zk_ok E N) (hs : zk_cl N) {x : zk_V} (h1 : zk_sv N.1 x) {w : zk_V × zk_N} (hw : zk_un i N x = some w) :
    ∃ f : Int32, zk_is E N w f ∧ ∀ rest, W p l e R s m args below meth c H locs cells slots Q (F0 m (pc + len) ls (.int f :: rest)) → W p l e R s m args below meth c H locs cells slots Q (F0 m pc ls (.int (Int32.ofInt (zk_i E x)) :: rest)) := by
  subst hl
  unfold zk_un at hw
  split at hw
  · cases hw
    have k0 := zk_norm_ok h hs (zk_vmul_sv (c := -1) h1)
    rw [zk_vmul_i, show (-1 : Int) * zk_i E x = -zk_i E x by omega, Int32.ofInt_neg] at k0
    exact ⟨_, k0, fun rest k => lv_ineg hx hb hd k⟩
  · cases hw
    refine ⟨_, zk_cutm_ok h hs h1 ?_ ?_ (zk_i2b_e _) (fun w hw => by simpa only [zq_6, zq_7, zq_8, zq_9, zq_20, zq_21, zq_22, zq_25, zq_26, zq_28, zq_30, zq_40, zq_51, zq_52, zq_53, zq_54, zq_55, zq_64, zq_65, zq_68, zq_72, zq_73, zq_85, zq_74, zq_75, zq_76, zq_71, zq_86, zq_87, zq_80, zq_41, zq_42, zq_43, zq_94, zq_95, zq_47, zq_48, zq_96, zq_97, zq_88, zq_89, zq_90, zq_93, zq_61, zq_62, zq_1, zq_2, zq_3, zq_4, zq_5, zq_46, zq_44] using hw) (fun w hw => by simpa only [zq_6, zq_7, zq_8, zq_9, zq_20, zq_21, zq_22, zq_25, zq_26, zq_28, zq_30, zq_40, zq_51, zq_52, zq_53, zq_54, zq_55, zq_64, zq_65, zq_68, zq_72, zq_73, zq_85, zq_74, zq_75, zq_76, zq_71, zq_86, zq_87, zq_80, zq_41, zq_42, zq_43, zq_94, zq_95, zq_47, zq_48, zq_96, zq_97, zq_88, zq_89, zq_90, zq_93, zq_61, zq_62, zq_1, zq_2, zq_3, zq_4, zq_5, zq_46, zq_44] using hw), fun rest k => lv_i2b hx hb hd rfl k⟩
    · rw [Int8.toInt_toInt32]; have := Int8.le_toInt (Int32.ofInt (zk_i E x)).toInt8; omega
    · rw [Int8.toInt_toInt32]; have := Int8.toInt_lt (Int32.ofInt (zk_i E x)).toInt8; omega
  · cases hw
    refine ⟨_, zk_cutm_ok h hs h1 ?_ ?_ (zk_i2s_e _) (fun w hw => by simpa only [zq_6, zq_7, zq_8, zq_9, zq_20, zq_21, zq_22, zq_25, zq_26, zq_28, zq_30, zq_40, zq_51, zq_52, zq_53, zq_54, zq_55, zq_64, zq_65, zq_68, zq_72, zq_73, zq_85, zq_74, zq_75, zq_76, zq_71, zq_86, zq_87, zq_80, zq_41, zq_42, zq_43, zq_94, zq_95, zq_47, zq_48, zq_96, zq_97, zq_88, zq_89, zq_90, zq_93, zq_61, zq_62, zq_1, zq_2, zq_3, zq_4, zq_5, zq_46, zq_44] using hw) (fun w hw => by simpa only [zq_6, zq_7, zq_8, zq_9, zq_20, zq_21, zq_22, zq_25, zq_26, zq_28, zq_30, zq_40, zq_51, zq_52, zq_53, zq_54, zq_55, zq_64, zq_65, zq_68, zq_72, zq_73, zq_85, zq_74, zq_75, zq_76, zq_71, zq_86, zq_87, zq_80, zq_41, zq_42, zq_43, zq_94, zq_95, zq_47, zq_48, zq_96, zq_97, zq_88, zq_89, zq_90, zq_93, zq_61, zq_62, zq_1, zq_2, zq_3, zq_4, zq_5, zq_46, zq_44] using hw), fun rest k => lv_i2s hx hb hd rfl k⟩
    · rw [Int16.toInt_toInt32]; have := Int16.le_toInt (Int32.ofInt (zk_i E x)).toInt16; omega
    · rw [Int16.toInt_toInt32]; have := Int16.toInt_lt (Int32.ofInt (zk_i E x)).toInt16; omega
  · cases hw
    exact ⟨_, zk_i2c_ok h hs h1, fun rest k => lv_i2c hx hb hd rfl k⟩
  · cases hw
theorem zk_vi (E : zk_E) (ad st : Nat → Nat) (k : Nat) (v : zk_V) : zk_v E ad st (0, k, v) = .int (Int32.ofInt (zk_i E v)) := rfl
theorem zk_vl (E : zk_E) (ad st : Nat → Nat) (k : Nat) (v : zk_V) : zk_v E ad st (1, k, v) = .long (Int64.ofInt (zk_i E v)) := rfl
set_option maxHeartbeats 2000000 in
theorem zk_sB_ok (hx : p.tables.exec = Jvm.exec) (hb : c.code = cc) (hd : decode cc q.1 = .ok (q.2.1, q.2.2.1)) (hk : q.2.2.1 = 1)
    (h : zk_At dC dI cl ad st cid ba ly nL H0 E z H locs ls stk) (he : zk_sB q z = some L) (hg : ∀ r ∈ L, zk_go (zk_W p l e R s m args below meth c cells slots Q) (zk_At dC dI cl ad st cid ba ly nL H0) E z.1.1 r.2 (zk_tg q r.1)) : W p l e R s m args below meth c H locs cells slots Q (F0 m q.1 ls stk) := by
  obtain ⟨pc, ins, len, ann, qa, qb, qc⟩ := q
  obtain ⟨N, hp, lc, sk⟩ := z
  have hok := h.1.1
  have hcl := h.1.2.1
  have hsv := h.2.1.2.1
  have hstk := h.2.1.2.2.2
  simp only at hk
  unfold zk_sB at he
  simp only at he hd hok hcl hsv hstk ⊢
  split at he
  · split at he
    · rename_i x r hr
      obtain ⟨k, rfl⟩ := zk_i1_of hr
      cases he
      subst hk
      obtain ⟨E', hP, hX⟩ := zk_push (tg := 1) (k := 0) h (zk_i2l_ok hok hcl (hsv _ List.mem_cons_self)) (fun t ht => List.mem_cons_of_mem _ ht) (hg _ List.mem_cons_self)
      rw [zk_vl, hP] at hX
      rw [hstk, List.map_cons, zk_vi]
      exact lv_i2l hx hb hd rfl hX
    · cases he
  · split at he
    · rename_i x r hr
      obtain ⟨k, rfl⟩ := zk_l1_of hr
      cases he
      subst hk
      obtain ⟨E', hP, hX⟩ := zk_push (tg := 0) (k := 0) h (zk_l2i_ok hok hcl (hsv _ List.mem_cons_self)) (fun t ht => List.mem_cons_of_mem _ ht) (hg _ List.mem_cons_self)
      rw [zk_vi, hP] at hX
      rw [hstk, List.map_cons, zk_vl]
      exact lv_l2i hx hb hd rfl hX
    · cases he
  · split at he
    · rename_i x y r hr
      obtain ⟨k, j, rfl⟩ := zk_l2_of hr
      cases he
      subst hk
      obtain ⟨E', hP, hX⟩ := zk_push (tg := 1) (k := 0) (P := fun w => Int64.ofInt w = Int64.ofInt (zk_i E x) + Int64.ofInt (zk_i E y)) h (zk_old_to hok hcl (v := zk_vadd x y) (zk_vadd_sv (hsv _ (by simp : (1, j, x) ∈ _)) (hsv _ List.mem_cons_self)) (by rw [zk_vadd_i, Int64.ofInt_add])) (fun t ht => List.mem_cons_of_mem _ (List.mem_cons_of_mem _ ht)) (hg _ List.mem_cons_self)
      rw [zk_vl, hP] at hX
      rw [hstk, List.map_cons, List.map_cons, zk_vl, zk_vl]
      exact lv_ladd hx hb hd hX
    · cases he
  · split at he
    · rename_i x y r hr
      obtain ⟨k, j, rfl⟩ := zk_l2_of hr
      cases he
      subst hk
      obtain ⟨E', hP, hX⟩ := zk_push (tg := 1) (k := 0) h (zk_lopm_ok (k := 74) hok hcl (hsv (1, j, x) (by simp)) (hsv (1, k, y) (by simp)) (Int64.ofInt (zk_i E x) &&& Int64.ofInt (zk_i E y)) (fun w hw => by simpa only [zq_6, zq_7, zq_8, zq_9, zq_20, zq_21, zq_22, zq_25, zq_26, zq_28, zq_30, zq_40, zq_51, zq_52, zq_53, zq_54, zq_55, zq_64, zq_65, zq_68, zq_72, zq_73, zq_85, zq_74, zq_75, zq_76, zq_71, zq_86, zq_87, zq_80, zq_41, zq_42, zq_43, zq_94, zq_95, zq_47, zq_48, zq_96, zq_97, zq_88, zq_89, zq_90, zq_93, zq_61, zq_62, zq_1, zq_2, zq_3, zq_4, zq_5, zq_46, zq_44] using hw) (fun w hw => by simpa only [zq_6, zq_7, zq_8, zq_9, zq_20, zq_21, zq_22, zq_25, zq_26, zq_28, zq_30, zq_40, zq_51, zq_52, zq_53, zq_54, zq_55, zq_64, zq_65, zq_68, zq_72, zq_73, zq_85, zq_74, zq_75, zq_76, zq_71, zq_86, zq_87, zq_80, zq_41, zq_42, zq_43, zq_94, zq_95, zq_47, zq_48, zq_96, zq_97, zq_88, zq_89, zq_90, zq_93, zq_61, zq_62, zq_1, zq_2, zq_3, zq_4, zq_5, zq_46, zq_44] using hw)) (fun t ht => List.mem_cons_of_mem _ (List.mem_cons_of_mem _ ht)) (hg _ List.mem_cons_self)
      rw [zk_vl, hP] at hX
      rw [hstk, List.map_cons, List.map_cons, zk_vl, zk_vl]
      exact lv_land hx hb hd hX
    · cases he
  · split at he
    · rename_i x y r hr
      obtain ⟨k, j, rfl⟩ := zk_l2_of hr
      cases he
      subst hk
      obtain ⟨E', hP, hX⟩ := zk_push (tg := 1) (k := 0) h (zk_lopm_ok (k := 75) hok hcl (hsv (1, j, x) (by simp)) (hsv (1, k, y) (by simp)) (Int64.ofInt (zk_i E x) ||| Int64.ofInt (zk_i E y)) (fun w hw => by simpa only [zq_6, zq_7, zq_8, zq_9, zq_20, zq_21, zq_22, zq_25, zq_26, zq_28, zq_30, zq_40, zq_51, zq_52, zq_53, zq_54, zq_55, zq_64, zq_65, zq_68, zq_72, zq_73, zq_85, zq_74, zq_75, zq_76, zq_71, zq_86, zq_87, zq_80, zq_41, zq_42, zq_43, zq_94, zq_95, zq_47, zq_48, zq_96, zq_97, zq_88, zq_89, zq_90, zq_93, zq_61, zq_62, zq_1, zq_2, zq_3, zq_4, zq_5, zq_46, zq_44] using hw) (fun w hw => by simpa only [zq_6, zq_7, zq_8, zq_9, zq_20, zq_21, zq_22, zq_25, zq_26, zq_28, zq_30, zq_40, zq_51, zq_52, zq_53, zq_54, zq_55, zq_64, zq_65, zq_68, zq_72, zq_73, zq_85, zq_74, zq_75, zq_76, zq_71, zq_86, zq_87, zq_80, zq_41, zq_42, zq_43, zq_94, zq_95, zq_47, zq_48, zq_96, zq_97, zq_88, zq_89, zq_90, zq_93, zq_61, zq_62, zq_1, zq_2, zq_3, zq_4, zq_5, zq_46, zq_44] using hw)) (fun t ht => List.mem_cons_of_mem _ (List.mem_cons_of_mem _ ht)) (hg _ List.mem_cons_self)
      rw [zk_vl, hP] at hX
      rw [hstk, List.map_cons, List.map_cons, zk_vl, zk_vl]
      exact lv_lor hx hb hd hX
    · cases he
  · split at he
    · rename_i y r1 hr1
      obtain ⟨k, rfl⟩ := zk_i1_of hr1
      split at he
      · rename_i x r hr
        obtain ⟨j, rfl⟩ := zk_l1_of hr
        cases he
        subst hk
        obtain ⟨E', hP, hX⟩ := zk_push (tg := 1) (k := 0) h (zk_lopm_ok (k := 76) hok hcl (hsv (1, j, x) (by simp)) (hsv (0, k, y) (by simp)) (Int64.ofInt (zk_i E x) <<< ((Int32.ofInt (zk_i E y)).toInt64 &&& 63)) (fun w hw => by simpa only [zq_6, zq_7, zq_8, zq_9, zq_20, zq_21, zq_22, zq_25, zq_26, zq_28, zq_30, zq_40, zq_51, zq_52, zq_53, zq_54, zq_55, zq_64, zq_65, zq_68, zq_72, zq_73, zq_85, zq_74, zq_75, zq_76, zq_71, zq_86, zq_87, zq_80, zq_41, zq_42, zq_43, zq_94, zq_95, zq_47, zq_48, zq_96, zq_97, zq_88, zq_89, zq_90, zq_93, zq_61, zq_62, zq_1, zq_2, zq_3, zq_4, zq_5, zq_46, zq_44] using hw) (fun w hw => by simpa only [zq_6, zq_7, zq_8, zq_9, zq_20, zq_21, zq_22, zq_25, zq_26, zq_28, zq_30, zq_40, zq_51, zq_52, zq_53, zq_54, zq_55, zq_64, zq_65, zq_68, zq_72, zq_73, zq_85, zq_74, zq_75, zq_76, zq_71, zq_86, zq_87, zq_80, zq_41, zq_42, zq_43, zq_94, zq_95, zq_47, zq_48, zq_96, zq_97, zq_88, zq_89, zq_90, zq_93, zq_61, zq_62, zq_1, zq_2, zq_3, zq_4, zq_5, zq_46, zq_44] using hw)) (fun t ht => List.mem_cons_of_mem _ (List.mem_cons_of_mem _ ht)) (hg _ List.mem_cons_self)
        rw [zk_vl, hP] at hX
        rw [hstk, List.map_cons, List.map_cons, zk_vi, zk_vl]
        exact lv_lshl hx hb hd rfl hX
      · cases he
    · cases he
  · split at he
    · rename_i x y r hr
      obtain ⟨k, j, rfl⟩ := zk_i2_of hr
      split at he
      · rename_i w hw
        cases he
        obtain ⟨f, hf, hgo⟩ := zk_ar_ok (R := R) (l := l) (p := p) (e := e) (s := s) (m := m) (args := args) (below := below) (meth := meth) (H := H) (locs := locs) (cells := cells) (slots := slots) (Q := Q) (ls := ls) hx hb hk hd hok hcl (hsv _ (by simp : (0, j, x) ∈ _)) (hsv _ List.mem_cons_self) hw
        obtain ⟨E', hP, hX⟩ := zk_push (tg := 0) (k := 0) h hf (fun t ht => List.mem_cons_of_mem _ (List.mem_cons_of_mem _ ht)) (hg _ List.mem_cons_self)
        rw [zk_vi, hP] at hX
        rw [hstk, List.map_cons, List.map_cons, zk_vi, zk_vi]
        exact hgo _ hX
      · split at he
        · rename_i w hw
          cases he
          obtain ⟨f, hf, hgo⟩ := zk_un_ok (R := R) (l := l) (p := p) (e := e) (s := s) (m := m) (args := args) (below := below) (meth := meth) (H := H) (locs := locs) (cells := cells) (slots := slots) (Q := Q) (ls := ls) hx hb hk hd hok hcl (hsv _ List.mem_cons_self) hw
          obtain ⟨E', hP, hX⟩ := zk_push (tg := 0) (k := 0) h hf (fun t ht => List.mem_cons_of_mem _ ht) (hg _ List.mem_cons_self)
          rw [zk_vi, hP] at hX
          rw [hstk, List.map_cons, zk_vi]
          exact hgo _ hX
        · cases he
    · split at he
      · rename_i y r hr
        obtain ⟨k, rfl⟩ := zk_i1_of hr
        split at he
        · rename_i w hw
          cases he
          obtain ⟨f, hf, hgo⟩ := zk_un_ok (R := R) (l := l) (p := p) (e := e) (s := s) (m := m) (args := args) (below := below) (meth := meth) (H := H) (locs := locs) (cells := cells) (slots := slots) (Q := Q) (ls := ls) hx hb hk hd hok hcl (hsv _ List.mem_cons_self) hw
          obtain ⟨E', hP, hX⟩ := zk_push (tg := 0) (k := 0) h hf (fun t ht => List.mem_cons_of_mem _ ht) (hg _ List.mem_cons_self)
          rw [zk_vi, hP] at hX
          rw [hstk, List.map_cons, zk_vi]
          exact hgo _ hX
        · cases he
      · cases he
end ZB
end
