noncomputable section
/-! CONSTRUCTORS: cells that come to be, one behind the other -/
def zb_ad (as : List Nat) : Nat → Nat := fun k => as.getD k 0
def zb_tB (n : Nat) (t : zk_T) : Bool := match Nat.beq t.1 3 with
  | true => Nat.blt t.2.1 n
  | false => true
def zb_cB (n : Nat) (c : zk_C) : Bool := match Nat.beq c.1 0 || Nat.beq c.1 5 with
  | true => c.2.2.all (zb_tB n)
  | false => !(Nat.beq c.1 9)
/-- all references named are of cells that have come to be -/
def zb_clB (n : Nat) (z : zk_Z) : Bool := (z.2.1.all (zb_cB n)) && (z.2.2.1.all fun q => zb_tB n q.2) && z.2.2.2.all (zb_tB n)
theorem zb_ad_old {as : List Nat} {q k : Nat} (h : k < as.length) : zb_ad (as ++ [q]) k = zb_ad as k := by
  unfold zb_ad
  rw [List.getD_eq_getElem?_getD, List.getD_eq_getElem?_getD, List.getElem?_append_left h]
theorem zb_ad_new {as : List Nat} {q : Nat} : zb_ad (as ++ [q]) as.length = q := by
  unfold zb_ad
  rw [List.getD_eq_getElem?_getD, List.getElem?_append_right (Nat.le_refl _)]
  simp
theorem zb_v_app {E : zk_E} {st : Nat → Nat} {as : List Nat} {q : Nat} {t : zk_T} (h : zb_tB as.length t = true) : zk_v E (zb_ad (as ++ [q])) st t = zk_v E (zb_ad as) st t := by
  unfold zk_v
  split
  · rfl
  · rfl
  · rename_i h3
    unfold zb_tB at h
    rw [h3] at h
    rw [zb_ad_old (Nat.blt_eq.mp h)]
  · rfl
  · rfl
theorem zb_ce_app {E : zk_E} {st : Nat → Nat} {cid : zk_CI} {as : List Nat} {q k : Nat} {c : zk_C} (h : zb_cB as.length c = true) : zk_ce E (zb_ad (as ++ [q])) st cid k c = zk_ce E (zb_ad as) st cid k c := by
  unfold zk_ce
  unfold zb_cB at h
  split
  · rename_i h0
    rw [h0] at h
    have h : c.2.2.all (zb_tB as.length) = true := h
    rw [List.map_congr_left fun t ht => zb_v_app (List.all_eq_true.mp h t ht)]
  · rfl
  · rename_i h5
    rw [h5] at h
    have h : c.2.2.all (zb_tB as.length) = true := h
    congr 7
    funext j
    cases hj : c.2.2[j]? with
    | none => rw [List.getD_eq_getElem?_getD, hj]; rfl
    | some t =>
      rw [List.getD_eq_getElem?_getD, hj]
      have ht := List.all_eq_true.mp h t (List.mem_of_getElem? hj)
      simp only [Option.getD_some]
      unfold zk_rq
      split
      · rename_i h3
        unfold zb_tB at ht
        rw [h3] at ht
        rw [zb_ad_old (Nat.blt_eq.mp ht)]
      · rfl
  · rfl
  · rfl
theorem zb_ws_cat {E : zk_E} {ad st : Nat → Nat} {cid : zk_CI} {m : List zk_C} : ∀ (l : List zk_C) (k : Nat), zk_ws E ad st cid k (l ++ m) = zk_ws E ad st cid k l ++ zk_ws E ad st cid (k + l.length) m
  | [], k => by simp [zk_ws]
  | c :: l, k => by
    simp only [List.cons_append, zk_ws, List.length_cons]
    rw [zb_ws_cat l (k + 1), show k + 1 + l.length = k + (l.length + 1) by omega]
theorem zb_ws_eq {E : zk_E} {st : Nat → Nat} {cid : zk_CI} {as : List Nat} {q : Nat} : ∀ (l : List zk_C) (k : Nat), k + l.length ≤ as.length → (∀ c ∈ l, zb_cB as.length c = true) → zk_ws E (zb_ad (as ++ [q])) st cid k l = zk_ws E (zb_ad as) st cid k l
  | [], k, _, _ => rfl
  | c :: l, k, h, hc => by
    rw [List.length_cons] at h
    simp only [zk_ws]
    rw [zb_ws_eq l (k + 1) (by omega) fun d hd => hc d (List.mem_cons_of_mem _ hd), zb_ad_old (by omega), zb_ce_app (hc c List.mem_cons_self)]
theorem zb_ws_app {E : zk_E} {st : Nat → Nat} {cid : zk_CI} {as : List Nat} {q : Nat} {hp : List zk_C} {c : zk_C} (hl : as.length = hp.length) (hc : ∀ d ∈ hp, zb_cB as.length d = true) : zk_ws E (zb_ad (as ++ [q])) st cid 0 (hp ++ [c]) = zk_ws E (zb_ad as) st cid 0 hp ++ [(q, zk_ce E (zb_ad (as ++ [q])) st cid hp.length c)] := by
  rw [zb_ws_cat, zb_ws_eq hp 0 (by omega) hc, Nat.zero_add]
  simp only [zk_ws]
  rw [← hl, zb_ad_new]
section ZBA
variable {dC : Nat → ClassId} {dI : Nat → Nat → Nat} {cl : List vw_C} {st : Nat → Nat} {cid : zk_CI} {ba : Nat} {ly : List (Nat × Nat)}
def zb_At (dC : Nat → ClassId) (dI : Nat → Nat → Nat) (cl : List vw_C) (st : Nat → Nat) (cid : zk_CI) (ba : Nat) (ly : List (Nat × Nat)) (nL : Nat) (H0 : Heap) (E : zk_E) (as : List Nat) (z : zk_Z) (H : Heap) (locs : List Loc) (ls : Array Slot) (stk : List Value) : Prop := as.length = z.2.1.length ∧ zk_At dC dI cl (zb_ad as) st cid ba ly nL H0 E z H locs ls stk
/-- one cell more -/
theorem zb_al {nL : Nat} {H0 : Heap} {E : zk_E} {as : List Nat} {z : zk_Z} {H : Heap} {locs : List Loc} {ls : Array Slot} {stk : List Value} (h : zb_At dC dI cl st cid ba ly nL H0 E as z H locs ls stk) (hB : zb_clB z.2.1.length z = true) {c : zk_C} {q : Nat} {H1 : Heap} {sk' : List zk_T} (hcs : zk_cs z.1.1 c) (hly : ly[z.2.1.length]? = some (c.1, c.2.1))
    (hP : va_P (dC, dI) cl (zk_ws E (zb_ad as) st cid 0 z.2.1 ++ [(q, zk_ce E (zb_ad (as ++ [q])) st cid z.2.1.length c)]) H1) (hD : va_D (fun q => ba ≤ q) (zk_ws E (zb_ad as) st cid 0 z.2.1 ++ [(q, zk_ce E (zb_ad (as ++ [q])) st cid z.2.1.length c)])) (hS : va_S (fun q => ba ≤ q) H0 H1 locs) (hsk : ∀ t ∈ sk', t ∈ z.2.2.2) :
    zb_At dC dI cl st cid ba ly nL H0 E (as ++ [q]) (z.1, z.2.1 ++ [c], z.2.2.1, (3, z.2.1.length, zk_c 0) :: sk') H1 locs ls (.ref q :: sk'.map (zk_v E (zb_ad as) st)) := by
  obtain ⟨hl, ⟨w1, w2, w3, w4, w5, w6⟩, ⟨f1, f2, f3, f4⟩, -⟩ := h
  unfold zb_clB at hB
  simp only [Bool.and_eq_true] at hB
  obtain ⟨⟨b1, b2⟩, b3⟩ := hB
  rw [← hl] at b1 b2 b3
  have hc := fun d hd => List.all_eq_true.mp b1 d hd
  have ew := zb_ws_app (E := E) (st := st) (cid := cid) (q := q) (c := c) hl hc
  refine ⟨by simp [hl], ⟨w1, w2, fun d hd => ?_, fun k d hk h9 => ?_, ?_, ?_⟩, ⟨f1, fun t ht => ?_, ?_, ?_⟩, hS⟩
  · rcases List.mem_append.mp hd with hd | hd
    · exact w3 d hd
    · rw [List.mem_singleton.mp hd]; exact hcs
  · by_cases hk2 : k < z.2.1.length
    · simp only at hk
      rw [List.getElem?_append_left hk2] at hk
      exact w4 k d hk h9
    · simp only at hk
      rw [List.getElem?_append_right (by omega)] at hk
      have hz : k - z.2.1.length < 1 := (List.getElem?_eq_some_iff.mp hk).1
      have ek : k = z.2.1.length := by omega
      subst ek
      rw [Nat.sub_self] at hk
      cases hk
      exact hly
  · simp only
    rw [ew]
    exact hP
  · simp only
    rw [ew]
    exact hD
  · rcases List.mem_cons.mp ht with rfl | ht
    · exact zk_c_sv
    · exact f2 t (hsk t ht)
  · have e : z.2.2.1.map (fun p => (p.1, zk_v E (zb_ad (as ++ [q])) st p.2)) = z.2.2.1.map fun p => (p.1, zk_v E (zb_ad as) st p.2) := List.map_congr_left fun p hp => by rw [zb_v_app (List.all_eq_true.mp b2 p hp)]
    simp only
    rw [e]
    exact f3
  · rw [List.map_cons]
    have e : sk'.map (zk_v E (zb_ad (as ++ [q])) st) = sk'.map (zk_v E (zb_ad as) st) := List.map_congr_left fun t ht => zb_v_app (List.all_eq_true.mp b3 t (hsk t ht))
    rw [e]
    congr 1
    show _ = Value.ref (zb_ad (as ++ [q]) z.2.1.length)
    rw [← hl, zb_ad_new]
end ZBA
/-! rows that make cells -/
def zb_dv (d : String) : Option zk_T := match parseFieldDescriptor d with
  | some .int => some (0, 0, zk_c 0)
  | some .boolean => some (0, 0, zk_c 0)
  | some (.object _) => some (2, 0, zk_c 0)
  | some (.array _) => some (2, 0, zk_c 0)
  | _ => none
def zb_dfs (T : u_T) : Nat → Nat → Option (List zk_T)
  | _, 0 => some []
  | i, n + 1 => match zb_dv (T i).2.2.1, zb_dfs T (i + 1) n with
    | some t, some l => some (t :: l)
    | _, _ => none
theorem zb_dv_ok {E : zk_E} {ad st : Nat → Nat} {d : String} {t : zk_T} (h : zb_dv d = some t) : (∀ ty, parseFieldDescriptor d = some ty → defaultValue ty = zk_v E ad st t) ∧ (t = (0, 0, zk_c 0) ∨ t = (2, 0, zk_c 0)) := by
  unfold zb_dv at h
  split at h <;> cases h <;> (rename_i hp; refine ⟨fun ty hty => ?_, by first | exact Or.inl rfl | exact Or.inr rfl⟩; rw [hp] at hty; cases hty; simp [defaultValue, zk_v, zk_c_i])
theorem zb_dfs_ok {E : zk_E} {ad st : Nat → Nat} {T : u_T} : ∀ {n i : Nat} {l : List zk_T}, zb_dfs T i n = some l → (∀ j, j < n → ∀ ty, parseFieldDescriptor (T (i + j)).2.2.1 = some ty → defaultValue ty = vp_V (l.map (zk_v E ad st)) j) ∧ ∀ t ∈ l, t = (0, 0, zk_c 0) ∨ t = (2, 0, zk_c 0)
  | 0, i, l, h => by
    cases h
    exact ⟨fun j hj => absurd hj (Nat.not_lt_zero _), fun t ht => absurd ht List.not_mem_nil⟩
  | n + 1, i, l, h => by
    unfold zb_dfs at h
    split at h
    · rename_i t l' h1 h2
      cases h
      obtain ⟨a1, a2⟩ := zb_dv_ok (E := E) (ad := ad) (st := st) h1
      obtain ⟨b1, b2⟩ := zb_dfs_ok (E := E) (ad := ad) (st := st) h2
      refine ⟨fun j hj ty hty => ?_, fun u hu => ?_⟩
      · cases j with
        | zero => exact a1 ty hty
        | succ j => exact b1 j (by omega) ty (by rw [show i + 1 + j = i + (j + 1) by omega]; exact hty)
      · rcases List.mem_cons.mp hu with rfl | hu
        · exact a2
        · exact b2 u hu
    · cases h
abbrev zb_Z : Type := zk_Z × Nat × Nat
def zb_add (ly : List (Nat × Nat)) (z : zb_Z) (c : zk_C) (sk : List zk_T) (m : Nat) : Option zb_Z := match zb_clB z.1.2.1.length z.1, zk_get ly z.1.2.1.length with
  | true, some q => match Nat.beq q.1 c.1 && Nat.beq q.2 c.2.1 with
    | true => some ((z.1.1, z.1.2.1 ++ [c], z.1.2.2.1, (3, z.1.2.1.length, zk_c 0) :: sk), z.2.1 + 1, z.2.2 + m)
    | false => none
  | _, _ => none
def zb_n (t : zk_T) : Option Nat := match Nat.beq t.1 0, t.2.2.1, t.2.2.2 with
  | true, [], .ofNat n => match Nat.ble n 10000 with
    | true => some n
    | false => none
  | _, _, _ => none
theorem zb_n_ok {E : zk_E} {ad st : Nat → Nat} {t : zk_T} {n : Nat} (h : zb_n t = some n) : zk_v E ad st t = .int (Int32.ofInt n) ∧ n ≤ 10000 := by
  unfold zb_n at h
  split at h
  · rename_i k h0 hs hv
    split at h
    · rename_i g
      cases h
      have h0 := Nat.eq_of_beq_eq_true h0
      refine ⟨?_, Nat.ble_eq.mp g⟩
      simp only [zk_v, h0]
      have : zk_i E t.2.2 = (n : Int) := by
        unfold zk_i
        rw [hs, hv]
        simp [zk_s]
      rw [this]
    · cases h
  · cases h
def zb_kd : ArrayType → Nat
  | .int => 1
  | .long => 2
  | .byte => 3
  | .short => 4
  | _ => 0
/-- the row symbol 1 is zero -/
def zb_z1 (N : zk_N) : Bool := Nat.blt 1 N.1 && (match zk_eb 1 N.2.2.2 with
  | some b => zk_eqi b.1 0 && zk_eqi b.2 0
  | none => false)
theorem zb_z1_ok {E : zk_E} {N : zk_N} (hok : zk_ok E N) (h : zb_z1 N = true) : 1 < N.1 ∧ E.2 1 = fun _ => 0 := by
  unfold zb_z1 at h
  simp only [Bool.and_eq_true] at h
  obtain ⟨h1, h2⟩ := h
  refine ⟨Nat.blt_eq.mp h1, ?_⟩
  split at h2
  · rename_i b hb
    simp only [Bool.and_eq_true] at h2
    have e1 := zk_eqi_of h2.1
    have e2 := zk_eqi_of h2.2
    funext j
    have := zk_eb_ok hok hb j
    rw [e1, e2] at this
    omega
  · cases h2
def zb_alloc (cl : List vw_C) (ly : List (Nat × Nat)) (q : zk_I) (z : zb_Z) : Option zb_Z := match q.2.1 with
  | .new _ => match zk_get cl q.2.2.2.2.1 with
    | some r => match zb_dfs r.2.1 0 r.2.2 with
      | some fs => zb_add ly z (0, q.2.2.2.2.1, fs) z.1.2.2.2 r.2.2
      | none => none
    | none => none
  | .newarray t => match z.1.2.2.2 with
    | a :: r => match zb_n a, zb_kd t, zb_z1 z.1.1 with
      | some n, k + 1, true => zb_add ly z (k + 1, n, [(0, 1, [], 0)]) r n
      | _, _, _ => none
    | [] => none
  | .anewarray _ => match z.1.2.2.2 with
    | a :: r => match zb_n a with
      | some n => zb_add ly z (5, n, List.replicate n (2, 0, zk_c 0)) r n
      | none => none
    | [] => none
  | _ => none
/-- what the words of such a row say -/
def zb_kB (own : String) (tb : List Jvm.Cond) (cl : List vw_C) (q : zk_I) : Prop := match q.2.1 with
  | .new i => q.2.2.1 = 3 ∧ ∃ r, cl[q.2.2.2.2.1]? = some r ∧ Cond.classLink own i r.1 ∈ tb ∧ Cond.instantiable r.1 r.2.2 ∈ tb ∧ Cond.initialized r.1 ∈ tb
  | .newarray t => q.2.2.1 = 2 ∧ Cond.arrayClass (newarray.typeOf t) ∈ tb
  | .anewarray i => q.2.2.1 = 3 ∧ Cond.classLink own i "NightLetIn$Shelf" ∈ tb
  | .putfield _ => ∀ r, cl[q.2.2.2.2.1]? = some r → r.1 = own
  | .aastore => q.2.2.1 = 1
  | _ => True
theorem zb_add_ok {dC : Nat → ClassId} {dI : Nat → Nat → Nat} {cl : List vw_C} {st : Nat → Nat} {cid : zk_CI} {ba : Nat} {ly : List (Nat × Nat)} {nL : Nat} {H0 : Heap} {E : zk_E} {as : List Nat} {z z' : zb_Z} {H : Heap} {locs : List Loc} {ls : Array Slot} {stk : List Value} (h : zb_At dC dI cl st cid ba ly nL H0 E as z.1 H locs ls stk) {c : zk_C} {sk : List zk_T} {m : Nat} (he : zb_add ly z c sk m = some z') (hcs : zk_cs z.1.1.1 c) (hsk : ∀ t ∈ sk, t ∈ z.1.2.2.2) :
    ly[z.1.2.1.length]? = some (c.1, c.2.1) ∧ z'.2.1 = z.2.1 + 1 ∧ z'.2.2 = z.2.2 + m ∧ z'.1.1 = z.1.1 ∧ ∀ (q : Nat) (H1 : Heap), va_P (dC, dI) cl (zk_ws E (zb_ad as) st cid 0 z.1.2.1 ++ [(q, zk_ce E (zb_ad (as ++ [q])) st cid z.1.2.1.length c)]) H1 → va_D (fun q => ba ≤ q) (zk_ws E (zb_ad as) st cid 0 z.1.2.1 ++ [(q, zk_ce E (zb_ad (as ++ [q])) st cid z.1.2.1.length c)]) → va_S (fun q => ba ≤ q) H0 H1 locs →
      zb_At dC dI cl st cid ba ly nL H0 E (as ++ [q]) z'.1 H1 locs ls (.ref q :: sk.map (zk_v E (zb_ad as) st)) := by
  unfold zb_add at he
  split at he
  · rename_i q hB hly
    split at he
    · rename_i g
      simp only [Bool.and_eq_true] at g
      cases he
      rw [zk_get_eq] at hly
      have e1 := Nat.eq_of_beq_eq_true g.1
      have e2 := Nat.eq_of_beq_eq_true g.2
      have hly2 : ly[z.1.2.1.length]? = some (c.1, c.2.1) := by rw [hly, ← e1, ← e2]
      exact ⟨hly2, rfl, rfl, rfl, fun q H1 hP hD hS => zb_al h hB hcs hly2 hP hD hS hsk⟩
    · cases he
  · cases he
section ZBR
variable {p : Program} {l : Launch} {e : Env} {R : Room} {s : State} {m : MethodId} {args : Array Value} {below : List Frame} {meth : Method} {c : Code} {Q : State → Prop}
variable {dC : Nat → ClassId} {dI : Nat → Nat → Nat} {cl : List vw_C} {st : Nat → Nat} {cid : zk_CI} {ba : Nat} {ly : List (Nat × Nat)} {nL : Nat} {E : zk_E} {as : List Nat} {z z' : zb_Z} {H : Heap} {locs : List Loc} {ls : Array Slot} {stk : List Value}
variable {cc : ByteArray} {q : zk_I} {own : String} {tb : List Jvm.Cond}
theorem zb_rep_none {ad : Nat → Nat} {n j : Nat} : zk_rq ad ((List.replicate n ((2, 0, zk_c 0) : zk_T)).getD j (2, 0, [], 0)) = none := by
  rw [List.getD_eq_getElem?_getD, List.getElem?_replicate]
  split <;> rfl
set_option maxHeartbeats 2000000 in
theorem zb_alloc_ok (hx : p.tables.exec = Jvm.exec) (hb : c.code = cc) (hown : s.vm.findClass own = some m.cls) (hts : ∀ w ∈ tb, w.before args s = true) (hd : decode cc q.1 = .ok (q.2.1, q.2.2.1)) (hk : zb_kB own tb cl q) (hcls : zk_cls cl tb) (hen : zk_env dC dI cl cid ly s) (hba : ∀ q, s.heap.size ≤ q → ba ≤ q) (hAO : va_AO "NightLetIn$Shelf" s)
    (h : zb_At dC dI cl st cid ba ly nL s.heap E as z.1 H locs ls stk) (he : zb_alloc cl ly q z = some z') (hroom : z'.2.1 ≤ R.cells ∧ z'.2.2 ≤ R.slots)
    (kk : ∀ (a : Nat) (H' : Heap) (stk' : List Value), zb_At dC dI cl st cid ba ly nL s.heap E (as ++ [a]) z'.1 H' locs ls stk' → W p l e R s m args below meth c H' locs z'.2.1 z'.2.2 Q (F0 m (q.1 + q.2.2.1) ls stk')) : W p l e R s m args below meth c H locs z.2.1 z.2.2 Q (F0 m q.1 ls stk) := by
  obtain ⟨pc, ins, len, ann, qa, qb, qc⟩ := q
  unfold zb_alloc at he
  unfold zb_kB at hk
  simp only at he hk hd kk ⊢
  have hat := h.2
  obtain ⟨⟨w1, w2, w3, w4, w5, w6⟩, ⟨f1, f2, f3, f4⟩, hS⟩ := hat
  have cons2 : ∀ t ∈ ([] : List zk_T), zk_tv z.1.1.1 t := fun t ht => absurd ht List.not_mem_nil
  split at he
  · obtain ⟨rfl, r, hr, k1, k2, k3⟩ := hk
    split at he
    · rename_i r' hr'
      rw [zk_get_eq] at hr'
      cases hr.symm.trans hr'
      split at he
      · rename_i fs hfs
        obtain ⟨d1, d2⟩ := zb_dfs_ok (E := E) (ad := zb_ad as) (st := st) hfs
        obtain ⟨hly, e1, e2, e3, kA⟩ := zb_add_ok h he ⟨fun t ht => by rcases d2 t ht with rfl | rfl <;> exact zk_c_sv, fun h0 => absurd rfl h0⟩ (fun t ht => ht)
        obtain ⟨g1, ⟨ty, g2⟩, g3⟩ := hcls _ _ hr
        rw [e1, e2] at kk hroom
        refine va_new (c0 := c) (C := r.1) (T := r.2.1) (N := r.2.2) (ci := qa) hx hb hts g1 ty g2 hown (hts _ k1) (hts _ k2) (hts _ k3) hen.1 w5 w6 hS hba hr (fs := fs.map (zk_v E (zb_ad as) st)) (fun j hj => d1 j hj _ (by rw [Nat.zero_add]; exact g2 j hj)) hroom.1 hroom.2 hd fun a H1 hP hD hS1 => ?_
        have ec : zk_ce E (zb_ad (as ++ [a])) st cid z.1.2.1.length (0, qa, fs) = .inr (qa, fs.map (zk_v E (zb_ad as) st)) := by
          unfold zk_ce
          simp only
          rw [List.map_congr_left fun t ht => zb_v_app (by rcases d2 t ht with rfl | rfl <;> rfl)]
        rw [← ec] at hP hD
        have := kk a H1 _ (kA a H1 hP hD hS1)
        rw [← f4] at this
        exact this
      · cases he
    · cases he
  · rename_i t
    obtain ⟨rfl, hk⟩ := hk
    split at he
    · rename_i a r hsk
      split at he
      · rename_i n k hn hkd hz
        obtain ⟨z1, z2⟩ := zb_z1_ok w1 hz
        obtain ⟨n1, n2⟩ := zb_n_ok (E := E) (ad := zb_ad as) (st := st) hn
        obtain ⟨hly, e1, e2, e3, kA⟩ := zb_add_ok h he ⟨fun t ht => by rw [List.mem_singleton.mp ht]; exact fun q hq => absurd hq List.not_mem_nil, fun _ _ _ => z1⟩ (fun t ht => by rw [hsk]; exact List.mem_cons_of_mem _ ht)
        rw [e1, e2] at kk hroom
        obtain ⟨i1, i2⟩ := zk_idx (x := (n : Int)) (by omega) (by omega)
        rw [Int.toNat_natCast] at i2
        obtain ⟨y1, y2⟩ := (hen.2 _ _ hly).2 (Nat.succ_ne_zero k)
        rw [f4, hsk, List.map_cons, n1]
        have fin : ∀ (a' : Nat) (cA : ClassId) (H1 : Heap) (x : vp_A), zk_ce E (zb_ad (as ++ [a'])) st cid z.1.2.1.length (k + 1, n, [(0, 1, [], 0)]) = .inl (cid.1 z.1.2.1.length, x) → cA = cid.1 z.1.2.1.length → va_P (dC, dI) cl (zk_ws E (zb_ad as) st cid 0 z.1.2.1 ++ [(a', .inl (cA, x))]) H1 → va_D (fun q => ba ≤ q) (zk_ws E (zb_ad as) st cid 0 z.1.2.1 ++ [(a', .inl (cA, x))]) → va_S (fun q => ba ≤ q) s.heap H1 locs → W p l e R s m args below meth c H1 locs (z.2.1 + 1) (z.2.2 + n) Q (F0 m (pc + 2) ls (.ref a' :: r.map (zk_v E (zb_ad as) st))) := by
          intro a' cA H1 x ex ecA hP hD hS1
          rw [ecA, ← ex] at hP hD
          exact kk a' H1 _ (kA a' H1 hP hD hS1)
        cases t <;> first
          | (exfalso; cases hkd; done)
          | (cases hkd
             refine va_newa hx hb (hts _ hk) (ty := _) rfl hen.1 w5 w6 hS hba (N' := n) (a0 := (n, .inl fun _ => 0)) (fun cA => rfl) i1 i2 (by simp only [newarray.typeOf, componentBytes]; omega) hroom.1 hroom.2 hd fun a' cA H1 hK hP hD hS1 => ?_
             refine fin a' cA H1 _ (by unfold zk_ce; simp only [zk_hd]; rw [z2]; rfl) ?_ hP hD hS1
             exact Option.some.inj ((hK.2 0 _ rfl).2.symm.trans y2))
          | (cases hkd
             refine va_newa hx hb (hts _ hk) (ty := _) rfl hen.1 w5 w6 hS hba (N' := n) (a0 := (n, .inr (.inl fun _ => 0))) (fun cA => rfl) i1 i2 (by simp only [newarray.typeOf, componentBytes]; omega) hroom.1 hroom.2 hd fun a' cA H1 hK hP hD hS1 => ?_
             refine fin a' cA H1 _ (by unfold zk_ce; simp only [zk_hd]; rw [z2]; rfl) ?_ hP hD hS1
             exact Option.some.inj ((hK.2 0 _ rfl).2.symm.trans y2))
      · cases he
    · cases he
  · obtain ⟨rfl, hk⟩ := hk
    split at he
    · rename_i a r hsk
      split at he
      · rename_i n hn
        obtain ⟨n1, n2⟩ := zb_n_ok (E := E) (ad := zb_ad as) (st := st) hn
        obtain ⟨hly, e1, e2, e3, kA⟩ := zb_add_ok h he ⟨fun t ht => by rw [List.eq_of_mem_replicate ht]; exact zk_c_sv, fun _ h5 => absurd rfl h5⟩ (fun t ht => by rw [hsk]; exact List.mem_cons_of_mem _ ht)
        rw [e1, e2] at kk hroom
        obtain ⟨i1, i2⟩ := zk_idx (x := (n : Int)) (by omega) (by omega)
        rw [Int.toNat_natCast] at i2
        obtain ⟨y1, y2⟩ := (hen.2 _ _ hly).2 (by show (5 : Nat) ≠ 0; decide)
        rw [f4, hsk, List.map_cons, n1]
        refine va_newq (C := "NightLetIn$Shelf") hx hb hown (hts _ hk) hAO hen.1 w5 w6 hS hba (N' := n) i1 i2 (by omega) hroom.1 hroom.2 hd fun a' cA H1 hK hP hD hS1 => ?_
        have ecA : cA = cid.1 z.1.2.1.length := by
          obtain ⟨_, _, _, _, _, h1⟩ := (hK.2 0 _ rfl).2
          obtain ⟨_, _, _, _, _, h2⟩ := y2
          exact Option.some.inj (h1.symm.trans h2)
        have ex : zk_ce E (zb_ad (as ++ [a'])) st cid z.1.2.1.length (5, n, List.replicate n (2, 0, zk_c 0)) = .inl (cid.1 z.1.2.1.length, n, .inr (.inr (.inr (.inr fun _ => none)))) := by
          unfold zk_ce
          simp only [zb_rep_none]
        rw [ecA, ← ex] at hP hD
        exact kk a' H1 _ (kA a' H1 hP hD hS1)
      · cases he
    · cases he
  · cases he
end ZBR
end
