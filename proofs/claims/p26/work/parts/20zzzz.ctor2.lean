noncomputable section
/-! the walk of a constructor -/
def zb_go (rec : List zk_I → zb_Z → Option (Nat × zb_Z)) (q : zk_I) (r : List zk_I) (z : Option zb_Z) : Option (Nat × zb_Z) := match z, r with
  | some z', q' :: r' => match Nat.beq q'.1 (q.1 + q.2.2.1) with
    | true => rec (q' :: r') z'
    | false => none
  | _, _ => none
def zb_isR (pe : Nat) (M : zk_M) : Bool := match zk_from pe M.2.2.2.2.2.1 with
  | q :: _ => match q.2.1 with
    | .return_ => true
    | _ => false
  | [] => false
/-- ends at its return, or where sp says -/
def zb_run (PT : List zk_M) (cl : List vw_C) (ly : List (Nat × Nat)) (tab : zk_Tab) : Nat → Nat → Nat → zk_M → List zk_I → zb_Z → Option (Nat × zb_Z)
  | 0, _, _, _, _, _ => none
  | k + 1, sp, d, M, rest, z => match rest with
    | [] => none
    | q :: r => match Nat.beq q.1 sp with
      | true => some (q.1, z)
      | false => match q.2.1 with
        | .return_ => match z.1.2.2.2 with
          | [] => some (q.1, z)
          | _ => none
        | .new _ => zb_go (zb_run PT cl ly tab k sp d M) q r (zb_alloc cl ly q z)
        | .newarray _ => zb_go (zb_run PT cl ly tab k sp d M) q r (zb_alloc cl ly q z)
        | .anewarray _ => zb_go (zb_run PT cl ly tab k sp d M) q r (zb_alloc cl ly q z)
        | .putfield _ => zb_go (zb_run PT cl ly tab k sp d M) q r (zb_putf cl M.1.name q z)
        | .aastore => zb_go (zb_run PT cl ly tab k sp d M) q r (zb_aast cl z)
        | .invokespecial _ => match z.1.2.2.2, d with
          | t :: sk, d' + 1 => match Nat.beq q.2.2.2.2.2.1 75 with
            | true => match Nat.beq t.1 3 && Nat.ble (zk_csum sk) 8 with
              | true => zb_go (zb_run PT cl ly tab k sp d M) q r (some ((z.1.1, z.1.2.1, z.1.2.2.1, sk), z.2))
              | false => none
            | false => match zk_get PT q.2.2.2.2.1 with
              | some M' => match M'.2.2.2.2.2.1 with
                | q0 :: r0 => match Nat.beq q0.1 0 && Nat.beq t.1 3 && Nat.ble 1 M'.2.2.1 && Nat.ble M'.2.2.1 45 && Nat.ble (zk_csum sk) 8 && zb_clB z.1.2.1.length (z.1.1, [], z.1.2.2.1, t :: sk), zb_run PT cl ly tab k 99999 d' M' (q0 :: r0) ((z.1.1, z.1.2.1, [(0, t)], []), 0, 0) with
                  | true, some (pe, z1) => match z1.1.2.2.2, zb_isR pe M' with
                    | [], true => zb_go (zb_run PT cl ly tab k sp d M) q r (some ((z1.1.1, z1.1.2.1, z.1.2.2.1, sk), z.2.1 + z1.2.1, z.2.2 + z1.2.2))
                    | _, _ => none
                  | _, _ => none
                | [] => none
              | none => none
          | _, _ => none
        | _ => match zk_step M.2.2.1 tab q z.1 with
          | some [(tg, z')] => match Nat.beq z'.2.1.length z.1.2.1.length with
            | true => match tg with
              | none => zb_go (zb_run PT cl ly tab k sp d M) q r (some (z', z.2))
              | some t => match zk_from t M.2.2.2.2.2.1 with
                | [] => none
                | q' :: r' => zb_run PT cl ly tab k sp d M (q' :: r') (z', z.2)
            | false => none
          | _ => none
theorem zb_go_of {rec : List zk_I → zb_Z → Option (Nat × zb_Z)} {q : zk_I} {r : List zk_I} {z : Option zb_Z} {x : Nat × zb_Z} (h : zb_go rec q r z = some x) : ∃ z' q' r', z = some z' ∧ r = q' :: r' ∧ q'.1 = q.1 + q.2.2.1 ∧ rec (q' :: r') z' = some x := by
  unfold zb_go at h
  split at h
  · rename_i z' q' r'
    split at h
    · rename_i g
      exact ⟨z', q', r', rfl, rfl, Nat.eq_of_beq_eq_true g, h⟩
    · cases h
  · cases h
theorem zb_add_mono {ly : List (Nat × Nat)} {z z' : zb_Z} {c : zk_C} {sk : List zk_T} {m : Nat} (h : zb_add ly z c sk m = some z') : z.2.1 ≤ z'.2.1 ∧ z.2.2 ≤ z'.2.2 ∧ z'.1.1 = z.1.1 := by
  unfold zb_add at h
  split at h
  · split at h
    · cases h
      exact ⟨Nat.le_succ _, Nat.le_add_right _ _, rfl⟩
    · cases h
  · cases h
theorem zb_alloc_mono {cl : List vw_C} {ly : List (Nat × Nat)} {q : zk_I} {z z' : zb_Z} (h : zb_alloc cl ly q z = some z') : z.2.1 ≤ z'.2.1 ∧ z.2.2 ≤ z'.2.2 ∧ z'.1.1 = z.1.1 := by
  unfold zb_alloc at h
  split at h
  · split at h
    · split at h
      · exact zb_add_mono h
      · cases h
    · cases h
  · split at h
    · split at h
      · exact zb_add_mono h
      · cases h
    · cases h
  · split at h
    · split at h
      · exact zb_add_mono h
      · cases h
    · cases h
  · cases h
theorem zb_run_mono {PT : List zk_M} {cl : List vw_C} {ly : List (Nat × Nat)} {tab : zk_Tab} : ∀ (k sp d : Nat) (M : zk_M) (rest : List zk_I) (z : zb_Z) (pe : Nat) (z' : zb_Z), zb_run PT cl ly tab k sp d M rest z = some (pe, z') → z.2.1 ≤ z'.2.1 ∧ z.2.2 ≤ z'.2.2
  | 0, sp, d, M, rest, z, pe, z', h => by cases h
  | k + 1, sp, d, M, rest, z, pe, z', h => by
    have ih := zb_run_mono (PT := PT) (cl := cl) (ly := ly) (tab := tab) k
    have al : ∀ {q : zk_I} {r : List zk_I}, zb_go (zb_run PT cl ly tab k sp d M) q r (zb_alloc cl ly q z) = some (pe, z') → z.2.1 ≤ z'.2.1 ∧ z.2.2 ≤ z'.2.2 := by
      intro q r h
      obtain ⟨z1, q', r', h1, h2, h3, h4⟩ := zb_go_of h
      have a := zb_alloc_mono h1
      have b := ih _ _ _ _ _ _ _ h4
      exact ⟨Nat.le_trans a.1 b.1, Nat.le_trans a.2.1 b.2⟩
    unfold zb_run at h
    split at h
    · cases h
    · rename_i q r
      split at h
      · cases h
        exact ⟨Nat.le_refl _, Nat.le_refl _⟩
      · split at h
        · split at h
          · cases h
            exact ⟨Nat.le_refl _, Nat.le_refl _⟩
          · cases h
        · exact al h
        · exact al h
        · exact al h
        · obtain ⟨z1, q', r', h1, h2, h3, h4⟩ := zb_go_of h
          have a := zb_putf_mono h1
          have b := ih _ _ _ _ _ _ _ h4
          rw [a.1] at b
          exact b
        · obtain ⟨z1, q', r', h1, h2, h3, h4⟩ := zb_go_of h
          have a := zb_aast_mono h1
          have b := ih _ _ _ _ _ _ _ h4
          rw [a.1] at b
          exact b
        · split at h
          · split at h
            · split at h
              · obtain ⟨z1, q', r', h1, h2, h3, h4⟩ := zb_go_of h
                cases h1
                have b := ih _ _ _ _ _ _ _ h4
                exact b
              · cases h
            · split at h
              · split at h
                · split at h
                  · split at h
                    · obtain ⟨z1, q', r', h1, h2, h3, h4⟩ := zb_go_of h
                      cases h1
                      have b := ih _ _ _ _ _ _ _ h4
                      exact ⟨Nat.le_trans (Nat.le_add_right _ _) b.1, Nat.le_trans (Nat.le_add_right _ _) b.2⟩
                    · cases h
                  · cases h
                · cases h
              · cases h
          · cases h
        · split at h
          · split at h
            · split at h
              · obtain ⟨z1, q', r', h1, h2, h3, h4⟩ := zb_go_of h
                cases h1
                have b := ih _ _ _ _ _ _ _ h4
                exact b
              · split at h
                · cases h
                · have b := ih _ _ _ _ _ _ _ h
                  exact b
            · cases h
          · cases h
section ZBS
variable {dC : Nat → ClassId} {dI : Nat → Nat → Nat} {cl : List vw_C} {st : Nat → Nat} {cid : zk_CI} {ba : Nat} {ly : List (Nat × Nat)} {tab : zk_Tab} {G nw : List Jvm.Cond} {PT : List zk_M} {l : Launch}
theorem zb_ad_ext {as la : List Nat} {k : Nat} (h : k < as.length) : zb_ad (as ++ la) k = zb_ad as k := by
  unfold zb_ad
  rw [List.getD_eq_getElem?_getD, List.getD_eq_getElem?_getD, List.getElem?_append_left h]
theorem zb_v_ext {E : zk_E} {as la : List Nat} {t : zk_T} (h : zb_tB as.length t = true) : zk_v E (zb_ad (as ++ la)) st t = zk_v E (zb_ad as) st t := by
  unfold zk_v
  split
  · rfl
  · rfl
  · rename_i h3
    unfold zb_tB at h
    rw [h3] at h
    rw [zb_ad_ext (Nat.blt_eq.mp h)]
  · rfl
  · rfl
/-- what the rows of invokespecial say -/
def zb_kI (G nw : List Jvm.Cond) (PT : List zk_M) (own : String) (q : zk_I) : Prop := match q.2.1 with
  | .invokespecial i => q.2.2.1 = 3 ∧ (Nat.beq q.2.2.2.2.2.1 75 = true → Cond.methodLink own i Lib.objectInit ∈ G ∧ Cond.instanceMethod Lib.objectInit ∈ G ∧ Cond.code Lib.objectInit ⟨#[0xb1]⟩ 1 none ∈ G) ∧ (Nat.beq q.2.2.2.2.2.1 75 = false → ∃ M', PT[q.2.2.2.2.1]? = some M' ∧ M'.1.name = "<init>" ∧ Cond.instanceMethod M'.1 ∈ G ∧ Cond.initialized M'.1.cls ∈ G ∧ M'.2.2.2.1 = none ∧ M'.2.2.2.2.1 = 0 ∧ (Cond.methodLink own i M'.1 ∈ G ∨ ∃ host, Cond.methodLinkNest own i M'.1 host ∈ nw))
  | _ => True
def zb_S (dC : Nat → ClassId) (dI : Nat → Nat → Nat) (cl : List vw_C) (st : Nat → Nat) (cid : zk_CI) (ba : Nat) (ly : List (Nat × Nat)) (tab : zk_Tab) (nw : List Jvm.Cond) (s : State) : Prop := zk_S0 dC dI cl st cid ba ly tab nw s ∧ ba ≤ s.heap.size ∧ va_AO "NightLetIn$Shelf" s
def zb_QX (dC : Nat → ClassId) (dI : Nat → Nat → Nat) (cl : List vw_C) (st : Nat → Nat) (cid : zk_CI) (ba : Nat) (ly : List (Nat × Nat)) (E : zk_E) (as : List Nat) (n : Nat) (z' : zk_Z) : Array Value → State → Outcome → State → Prop := fun _ s oc t => (oc = .returned none ∧ ∃ (la : List Nat) (E' : zk_E), zk_ag n E E' ∧ n ≤ z'.1.1 ∧ (as ++ la).length = z'.2.1.length ∧ zk_wd dC dI cl (zb_ad (as ++ la)) st cid ba ly E' z'.1 z'.2.1 t.heap) ∧ va_F (fun q => ba ≤ q) s t
theorem zb_callX {p : Program} {e : Env} {R : Room} {s : State} {m : MethodId} {args : Array Value} {below : List Frame} {meth : Method} {c : Code} {H : Heap} {locs : List Loc} {cells slots mc ms : Nat} {Q : State → Prop} {pc : Nat} {ls : Array Slot} {st0 rest : List Value} {QA : State → Outcome → State → Prop}
    (hr : va_Run p l e R s m args below meth c H locs cells slots mc ms (F0 m pc ls st0) rest QA (fun q => ba ≤ q)) (hS : va_S (fun q => ba ≤ q) s.heap H locs) (hQ : ∀ (s0 : State) (oc : Outcome) (t : State), QA s0 oc t → va_F (fun q => ba ≤ q) s0 t)
    (kk : ∀ (v : Option Value) (s0 t : State) (locs1 : List Loc), s0.heap = H → QA s0 (.returned v) t → va_S (fun q => ba ≤ q) s.heap t.heap locs1 → W p l e R s m args below meth c t.heap locs1 (cells + mc) (slots + ms) Q (F0 m (pc + 3) ls (v.toList ++ rest))) : W p l e R s m args below meth c H locs cells slots Q (F0 m pc ls st0) := by
  intro T hT X
  obtain ⟨v, s0, t, T', L, h0, X', hL, e1, e2, hq, hgo⟩ := hr T hT X
  obtain ⟨hz, hk⟩ := hQ _ _ _ hq
  rw [h0] at hz hk
  obtain ⟨t2, a1, b1⟩ := kk v s0 t (locs ++ L) h0 hq ⟨Nat.le_trans hS.1 hz, fun q h1 h2 => by rw [hk q (Nat.lt_of_lt_of_le h1 hS.1) h2]; exact hS.2.1 q h1 h2, fun q hq => by
    rcases List.mem_append.mp hq with h | h
    · exact hS.2.2 q h
    · exact hL q h⟩ T' e1 X'
  exact ⟨t2, hgo t2 a1, b1⟩
theorem zb_isR_of {M : zk_M} {pe : Nat} (hM : zk_Mok G nw cl tab PT M) (h : zb_isR pe M = true) : decode M.2.1 pe = .ok (.return_, 1) := by
  unfold zb_isR at h
  split at h
  · rename_i q r hfr
    obtain ⟨w1, w2⟩ := zk_from_of hfr
    obtain ⟨hd, -, -, -, kK⟩ := hM.2.2.2 q (w2 q List.mem_cons_self)
    split at h
    · rename_i hi
      unfold zk_kK at kK
      rw [hi] at hd kK
      simp only at kK
      rw [kK, w1] at hd
      exact hd
    · cases h
  · cases h
set_option maxHeartbeats 4000000 in
theorem zb_run_ok (hnw : ∀ w ∈ nw, zk_isNest w) (hG : ∀ w ∈ G, (w.onTables && w.keeps) = true ∨ ∃ ty, w = Cond.arrayClass ty) (hcls : zk_cls cl (G ++ nw)) (hPT : ∀ (i : Nat) (M : zk_M), PT[i]? = some M → M.1.name = "<init>" → (zk_Mok G nw cl tab PT M ∧ M.1.cls ≠ "NightLetInLaw") ∧ ∀ v ∈ M.2.2.2.2.2.1, zb_kB M.1.cls (G ++ nw) cl v ∧ zb_kI G nw PT M.1.cls v) : ∀ (k sp d : Nat) (M : zk_M) (q : zk_I) (r : List zk_I) (z z' : zb_Z) (pe : Nat), zk_Mok G nw cl tab PT M → (∀ v ∈ M.2.2.2.2.2.1, zb_kB M.1.cls (G ++ nw) cl v ∧ zb_kI G nw PT M.1.cls v) → (∀ v ∈ q :: r, v ∈ M.2.2.2.2.2.1) → zb_run PT cl ly tab k sp d M (q :: r) z = some (pe, z') →
    ∀ (R : Room) (p : Program) (e : Env) (s : State) (m : MethodId) (args : Array Value) (below : List Frame) (meth : Method) (c : Code) (Q : State → Prop), d ≤ R.frames → 64 * d ≤ R.locals → z'.2.1 ≤ R.cells → z'.2.2 ≤ R.slots → zk_Fr dC dI cl st cid ba ly tab G nw M p s m args meth c → (M.1.name = "<init>" → meth.name = "<init>") → zb_S dC dI cl st cid ba ly tab nw s →
    ∀ (E : zk_E) (as : List Nat) (H : Heap) (locs : List Loc) (ls : Array Slot) (stk : List Value), zb_At dC dI cl st cid ba ly M.2.2.1 s.heap E as z.1 H locs ls stk →
    (∀ (E' : zk_E) (la : List Nat) (H' : Heap) (locs' : List Loc) (ls' : Array Slot) (stk' : List Value), zk_ag z.1.1.1 E E' → z.1.1.1 ≤ z'.1.1.1 → zb_At dC dI cl st cid ba ly M.2.2.1 s.heap E' (as ++ la) z'.1 H' locs' ls' stk' → W p l e R s m args below meth c H' locs' z'.2.1 z'.2.2 Q (F0 m pe ls' stk')) → W p l e R s m args below meth c H locs z.2.1 z.2.2 Q (F0 m q.1 ls stk)
  | 0, _, _, _, _, _, _, _, _, _, _, _, h => by cases h
  | k + 1, sp, d, M, q, r, z, z', pe, hM, hkb, hr, hu => by
    have ih := zb_run_ok hnw hG hcls hPT k
    intro R p e s m args below meth c Q r1 r2 r3 r4 hF hnm hZ E as H locs ls stk hAt hend
    have hF' := hF
    obtain ⟨hx, hb, hml, hrt, hlk, hown, hts, hS0⟩ := hF'
    have hts2 : ∀ w ∈ G ++ nw, w.before args s = true := fun w hw => by
      rcases List.mem_append.mp hw with h | h
      · exact hts w h
      · rcases hnw w h with ⟨a, i, x, h', rfl⟩ | ⟨a, i, b, n, d, h', rfl⟩
        · exact va_Nw.use rfl (hS0.2.2 _ h)
        · exact va_Nw.use rfl (hS0.2.2 _ h)
    obtain ⟨hd, -, -, hKE, kK⟩ := hM.2.2.2 q (hr q List.mem_cons_self)
    obtain ⟨kB, kI⟩ := hkb q (hr q List.mem_cons_self)
    have fin : z' = z → pe = q.1 → W p l e R s m args below meth c H locs z.2.1 z.2.2 Q (F0 m q.1 ls stk) := by
      intro e1 e2
      subst e1; subst e2
      exact hend E [] H locs ls stk zk_ag_rf (Nat.le_refl _) (by rw [List.append_nil]; exact hAt)
    have al : zb_go (zb_run PT cl ly tab k sp d M) q r (zb_alloc cl ly q z) = some (pe, z') → W p l e R s m args below meth c H locs z.2.1 z.2.2 Q (F0 m q.1 ls stk) := by
      intro h
      obtain ⟨z1, q', r', h1, h2, h3, h4⟩ := zb_go_of h
      subst h2
      have hm := zb_run_mono _ _ _ _ _ _ _ _ h4
      have hN := (zb_alloc_mono h1).2.2
      refine zb_alloc_ok hx hb hown hts2 hd kB hcls hS0.1 (fun x hx => Nat.le_trans hZ.2.1 hx) hZ.2.2 hAt h1 ⟨Nat.le_trans hm.1 r3, Nat.le_trans hm.2 r4⟩ fun a H' stk' hAt' => ?_
      have := ih sp d M q' r' z1 z' pe hM hkb (fun v hv => hr v (List.mem_cons_of_mem _ hv)) h4 R p e s m args below meth c Q r1 r2 r3 r4 hF hnm hZ E (as ++ [a]) H' locs ls stk' hAt' (fun E' la H'' locs' ls' stk'' b1 b2 b3 => by
        rw [hN] at b1 b2
        rw [List.append_assoc] at b3
        exact hend E' _ H'' locs' ls' stk'' b1 b2 b3)
      rw [h3] at this
      exact this
    unfold zb_run at hu
    simp only at hu
    split at hu
    · cases hu
      exact fin rfl rfl
    · split at hu
      · split at hu
        · cases hu
          exact fin rfl rfl
        · cases hu
      · exact al hu
      · exact al hu
      · exact al hu
      · rename_i i hi
        obtain ⟨z1, q', r', h1, h2, h3, h4⟩ := zb_go_of hu
        subst h2
        have hmo := zb_putf_mono h1
        refine zb_putf_ok hx hb hown hts2 hd hi hKE kB hcls hS0.1 hnm hAt h1 fun H' locs' stk' hAt' => ?_
        have := ih sp d M q' r' z1 z' pe hM hkb (fun v hv => hr v (List.mem_cons_of_mem _ hv)) h4 R p e s m args below meth c Q r1 r2 r3 r4 hF hnm hZ E as H' locs' ls stk' hAt' (fun E' la H'' locs'' ls' stk'' b1 b2 b3 => by
          rw [hmo.2] at b1 b2
          exact hend E' _ H'' locs'' ls' stk'' b1 b2 b3)
        rw [h3] at this
        exact this
      · rename_i hi
        obtain ⟨z1, q', r', h1, h2, h3, h4⟩ := zb_go_of hu
        subst h2
        have hmo := zb_aast_mono h1
        refine zb_aast_ok hx hb hd hi kB hS0.1 hAt h1 fun H' locs' stk' hAt' => ?_
        have := ih sp d M q' r' z1 z' pe hM hkb (fun v hv => hr v (List.mem_cons_of_mem _ hv)) h4 R p e s m args below meth c Q r1 r2 r3 r4 hF hnm hZ E as H' locs' ls stk' hAt' (fun E' la H'' locs'' ls' stk'' b1 b2 b3 => by
          rw [hmo.2] at b1 b2
          exact hend E' _ H'' locs'' ls' stk'' b1 b2 b3)
        rw [h3] at this
        exact this
      · rename_i i hi
        unfold zb_kI at kI
        rw [hi] at hd kI
        simp only at kI
        obtain ⟨hl3, kI1, kI2⟩ := kI
        rw [hl3] at hd
        split at hu
        · rename_i t sk d' hsk
          have hstk := hAt.2.2.1.2.2.2
          split at hu
          · rename_i h75
            obtain ⟨c1, c2, c3⟩ := kI1 h75
            split at hu
            · rename_i g
              simp only [Bool.and_eq_true] at g
              have g1 := Nat.eq_of_beq_eq_true g.1
              have g2 := Nat.ble_eq.mp g.2
              obtain ⟨z1, q', r', h1, h2, h3, h4⟩ := zb_go_of hu
              subst h2
              cases h1
              have hvt : zk_v E (zb_ad as) st t = .ref (zb_ad as t.2.1) := by simp only [zk_v, g1]
              have hst2 : stk = .ref (zb_ad as t.2.1) :: sk.map (zk_v E (zb_ad as) st) := by rw [hstk, hsk, List.map_cons, hvt]
              refine W.objInit hx hb hown (hts _ c1) (hts _ c2) (hts _ c3) (g := F0 m q.1 ls stk) rfl (by rw [hml]; exact hAt.2.2.1.2.2.1.1) hst2 hd (by omega) (by rw [zk_csum_eq0]; show 2 * 0 + _ + 12 ≤ _; omega) ?_
              obtain ⟨hl, hwd, ⟨f1, f2, f3, f4⟩, hS⟩ := hAt
              have := ih sp _ M q' r' _ z' pe hM hkb (fun v hv => hr v (List.mem_cons_of_mem _ hv)) h4 R p e s m args below meth c Q r1 r2 r3 r4 hF hnm hZ E as H locs ls (sk.map (zk_v E (zb_ad as) st)) ⟨hl, hwd, ⟨f1, fun u hu => f2 u (by rw [hsk]; exact List.mem_cons_of_mem _ hu), f3, rfl⟩, hS⟩ hend
              rw [h3, hl3] at this
              exact this
            · cases hu
          · rename_i h75
            split at hu
            · rename_i M' hget
              rw [zk_get_eq] at hget
              obtain ⟨M2, c1, c2, c3, c4, c5, c6, c7⟩ := kI2 h75
              cases hget.symm.trans c1
              obtain ⟨hMok2, hkb'⟩ := hPT _ _ hget c2
              have hMok' := hMok2.1
              split at hu
              · rename_i q0 r0 hops
                split at hu
                · rename_i pe1 z1 g hrun
                  simp only [Bool.and_eq_true] at g
                  obtain ⟨⟨⟨⟨⟨g1, g2⟩, g3⟩, g4⟩, g5⟩, g6⟩ := g
                  have g1 := Nat.eq_of_beq_eq_true g1
                  have g2 := Nat.eq_of_beq_eq_true g2
                  have g3 := Nat.ble_eq.mp g3
                  have g4 := Nat.ble_eq.mp g4
                  have g5 := Nat.ble_eq.mp g5
                  split at hu
                  · rename_i hsk1 hret
                    obtain ⟨z2, q', r', h1, h2, h3, h4⟩ := zb_go_of hu
                    subst h2
                    cases h1
                    have hm := zb_run_mono _ _ _ _ _ _ _ _ h4
                    have hdr := zb_isR_of hMok' hret
                    have htv : zk_tv z.1.1.1 t := hAt.2.2.1.2.1 t (by rw [hsk]; exact List.mem_cons_self)
                    have hvt : zk_v E (zb_ad as) st t = .ref (zb_ad as t.2.1) := by simp only [zk_v, g2]
                    have hMet : Met l M'.1 (zk_code M' :: G) { frames := d', cells := z1.2.1, slots := z1.2.2, locals := 64 * d' } (va_Pc ([t].map (zk_v E (zb_ad as) st)) (fun U => zb_S dC dI cl st cid ba ly tab nw U ∧ as.length = z.1.2.1.length ∧ zk_wd dC dI cl (zb_ad as) st cid ba ly E z.1.1 z.1.2.1 U.heap)) (zb_QX dC dI cl st cid ba ly E as z.1.1.1 z1.1) z1.2.1 z1.2.2 (fun q => ba ≤ q) := by
                      refine Met.ofW (cc := M'.2.1) (maxL := M'.2.2.1) (ret := M'.2.2.2.1) hMok'.1 rfl ?_
                      intro p2 e2 s2 m2 args2 below2 meth2 c2' s₁ B hml2 hv
                      obtain ⟨rfl, hS2, hlen2, hwd2⟩ := hv
                      have hts' := atoms_spec (ws := zk_code M' :: G) B.pre
                      have hl := lv_entry ([t].map (zk_v E (zb_ad as) st)) (n := M'.2.2.1) (by
                        rw [zk_slots_eq]
                        have : zk_slots [t] = 1 := by simp only [zk_slots, g2]
                        omega)
                      rw [zk_args_eq] at hl
                      rw [lg_entry_eq]
                      have := ih 99999 d' M' q0 r0 ((z.1.1, z.1.2.1, zk_args 0 [t], []), 0, 0) z1 pe1 hMok' hkb' (by rw [hops]; exact fun v hv => hv) hrun { frames := d', cells := z1.2.1, slots := z1.2.2, locals := 64 * d' } p2 e2 s2 m2 _ below2 meth2 c2' (MQ below2 (zb_QX dC dI cl st cid ba ly E as z.1.1.1 z1.1) ([t].map (zk_v E (zb_ad as) st)).toArray s2 z1.2.1 z1.2.2 (fun q => ba ≤ q)) (Nat.le_refl _) (Nat.le_refl _) (Nat.le_refl _) (Nat.le_refl _) ⟨B.exec, B.bytes, hml2, B.returns, B.notSynchronized, findClass_of_methodNamed B.named, fun w hw => hts' w (List.mem_cons_of_mem _ hw), hS2.1⟩ (fun _ => (name_of_methodNamed B.named B.method).1.trans c2) hS2 E as s2.heap [] _ [] ⟨hlen2, hwd2, ⟨zk_args_sv (fun u hu => by rw [List.mem_singleton.mp hu]; exact htv), fun u hu => absurd hu List.not_mem_nil, hl, rfl⟩, va_S.rf⟩ (fun E' la H' locs' ls' stk' b1 b2 b3 => by
                        have e0 := b3.2.2.1.2.2.2
                        rw [hsk1, List.map_nil] at e0
                        rw [e0]
                        have hlk2 : meth2.locks = false := B.notSynchronized
                        exact W.vret B.exec B.bytes (by rw [B.returns, c5]) (fun t2 ht2 _ => ⟨⟨rfl, la, E', b1, b2, b3.1, by rw [ht2]; exact b3.2.1⟩, b3.2.2.2.F ht2⟩) b3.2.2.2.2.2 hdr)
                      rw [g1] at this
                      exact this
                    rw [List.map_cons, List.map_nil, hvt] at hMet
                    have hst2 : stk = ([] : List Value).reverse ++ .ref (zb_ad as t.2.1) :: sk.map (zk_v E (zb_ad as) st) := by rw [hstk, hsk, List.map_cons, hvt]; rfl
                    have hPre : PreS s H (va_Pc [.ref (zb_ad as t.2.1)] (fun U => zb_S dC dI cl st cid ba ly tab nw U ∧ as.length = z.1.2.1.length ∧ zk_wd dC dI cl (zb_ad as) st cid ba ly E z.1.1 z.1.2.1 U.heap)) (.ref (zb_ad as t.2.1) :: []) := ⟨fun a U g mk h => ⟨h.1, ⟨zk_S0_call hnw h.2.1.1, h.2.1.2.1, va_AO.moved (u := U) (U := U.calling g mk a) (Vm.Alike.refl U.vm) h.2.1.2.2⟩, h.2.2⟩, fun U hU hW => ⟨rfl, ⟨zk_S0_mv hnw hS0 hW fun a h1 h2 => by rw [hU]; exact hAt.2.2.2.2.1 a h1 h2, by rw [hU]; exact Nat.le_trans hZ.2.1 hAt.2.2.2.1, va_AO.moved hW.alike hZ.2.2⟩, hAt.1, by rw [hU]; exact hAt.2.1⟩⟩
                    have hroom : 2 * (F0 m q.1 ls stk).monitorRoom + ((sk.map (zk_v E (zb_ad as) st)).map fun v => v.category).sum ≤ 8 := lv_room (by rw [zk_csum_eq0]; exact g5)
                    have hR : ({ frames := d', cells := z1.2.1, slots := z1.2.2, locals := 64 * d' } : Room).frames + 1 ≤ R.frames ∧ 8 + (M'.2.2.1 + 11) + ({ frames := d', cells := z1.2.1, slots := z1.2.2, locals := 64 * d' } : Room).locals ≤ R.locals := ⟨r1, by show 8 + (M'.2.2.1 + 11) + 64 * d' ≤ R.locals; omega⟩
                    have hcode : zk_code M' = Cond.code M'.1 M'.2.1 M'.2.2.1 none := by unfold zk_code; rw [c5]
                    have hcells : z.2.1 + z1.2.1 ≤ R.cells ∧ z.2.2 + z1.2.2 ≤ R.slots := ⟨Nat.le_trans hm.1 r3, Nat.le_trans hm.2 r4⟩
                    have hds := hMok'.2.2.1
                    rw [c6] at hds
                    have hrun2 : va_Run p l e R s m args below meth c H locs z.2.1 z.2.2 z1.2.1 z1.2.2 (F0 m q.1 ls stk) (sk.map (zk_v E (zb_ad as) st)) (zb_QX dC dI cl st cid ba ly E as z.1.1.1 z1.1 (Value.ref (zb_ad as t.2.1) :: []).toArray) (fun q => ba ≤ q) := by
                      rcases c7 with c7 | ⟨host, c7⟩
                      · exact va_runI (bytes := M'.2.1) (maxL := M'.2.2.1) (Ts := G) (own := M.1.cls) (As := []) ⟨hx, hb, hml, hown, hts⟩ hMet ⟨callB_of (ret := none) 0 hts (zk_goodIn hG (hMok'.2.1 hMok2.2)) (by rw [hcode]) rfl rfl (hts _ c4) (hts _ c7) hds hR, c2, hts _ c3⟩ hPre rfl rfl hAt.2.2.1.2.2.1.1 hst2 hroom hd hcells
                      · exact va_runIN (bytes := M'.2.1) (maxL := M'.2.2.1) (Ts := G) (own := M.1.cls) (As := []) (host := host) ⟨hx, hb, hml, hown, hts⟩ hMet ⟨va_cnB (ret := none) 0 hts (zk_goodIn hG (hMok'.2.1 hMok2.2)) (by rw [hcode]) rfl rfl (hS0.2.2 _ c7) (hts _ c4) hds hR, c2, hts _ c3⟩ hPre rfl rfl hAt.2.2.1.2.2.1.1 hst2 hroom hd hcells
                    refine zb_callX hrun2 hAt.2.2.2 (fun _ _ _ h => h.2) fun v s0 t2 locs1 h0 hQ hS1 => ?_
                    obtain ⟨⟨e1, la, E', b1, b2, b3, b4⟩, -⟩ := hQ
                    cases e1
                    have hfr := zk_fr_to hAt.2.2.1 b1 b2
                    unfold zb_clB at g6
                    simp only [Bool.and_eq_true] at g6
                    obtain ⟨⟨-, k2⟩, k3⟩ := g6
                    rw [← hAt.1] at k2 k3
                    have em : sk.map (zk_v E (zb_ad as) st) = sk.map (zk_v E' (zb_ad (as ++ la)) st) := List.map_congr_left fun u hu => by
                      rw [zb_v_ext (List.all_eq_true.mp k3 u (List.mem_cons_of_mem _ hu)), zk_v_ag b1 (hAt.2.2.1.2.1 u (by rw [hsk]; exact List.mem_cons_of_mem _ hu))]
                    have el : z.1.2.2.1.map (fun x => (x.1, zk_v E' (zb_ad as) st x.2)) = z.1.2.2.1.map fun x => (x.1, zk_v E' (zb_ad (as ++ la)) st x.2) := List.map_congr_left fun x hx => by
                      rw [zb_v_ext (List.all_eq_true.mp k2 x hx)]
                    have hfl := hfr.2.2.1
                    rw [el] at hfl
                    have := ih sp (d' + 1) M q' r' _ z' pe hM hkb (fun v hv => hr v (List.mem_cons_of_mem _ hv)) h4 R p e s m args below meth c Q r1 r2 r3 r4 hF hnm hZ E' (as ++ la) t2.heap locs1 ls (sk.map (zk_v E (zb_ad as) st)) ⟨b3, b4, ⟨hfr.1, fun u hu => hfr.2.1 u (by rw [hsk]; exact List.mem_cons_of_mem _ hu), hfl, em⟩, hS1⟩ (fun E2 la2 H2 locs2 ls2 stk2 y1 y2 y3 => hend E2 (la ++ la2) H2 locs2 ls2 stk2 (zk_ag_tr b1 y1 b2) (Nat.le_trans b2 y2) (by rw [← List.append_assoc]; exact y3))
                    rw [h3, hl3] at this
                    exact this
                  · cases hu
                · cases hu
              · cases hu
            · cases hu
        · cases hu
      · split at hu
        · rename_i tg z1 hs
          split at hu
          · rename_i hlen
            have hlen := Nat.eq_of_beq_eq_true hlen
            refine zk_step_ok hnw hcls hM (hr q List.mem_cons_self) hs hF hAt.2 fun u huL => ?_
            rw [List.mem_singleton] at huL
            subst huL
            intro E' H' locs' ls' stk' a1 a2 a3
            have hAt1 : zb_At dC dI cl st cid ba ly M.2.2.1 s.heap E' as z1 H' locs' ls' stk' := ⟨by rw [hlen]; exact hAt.1, a3⟩
            have nx : ∀ (q' : zk_I) (r' : List zk_I), (∀ v ∈ q' :: r', v ∈ M.2.2.2.2.2.1) → zb_run PT cl ly tab k sp d M (q' :: r') (z1, z.2) = some (pe, z') → W p l e R s m args below meth c H' locs' z.2.1 z.2.2 Q (F0 m q'.1 ls' stk') := fun q' r' hr' h4 => ih sp d M q' r' (z1, z.2) z' pe hM hkb hr' h4 R p e s m args below meth c Q r1 r2 r3 r4 hF hnm hZ E' as H' locs' ls' stk' hAt1 fun E2 la H2 locs2 ls2 stk2 b1 b2 b3 => hend E2 la H2 locs2 ls2 stk2 (zk_ag_tr a1 b1 a2) (Nat.le_trans a2 b2) b3
            split at hu
            · obtain ⟨z2, q', r', h1, h2, h3, h4⟩ := zb_go_of hu
              subst h2
              cases h1
              have := nx q' r' (fun v hv => hr v (List.mem_cons_of_mem _ hv)) h4
              rw [h3] at this
              exact this
            · rename_i t
              split at hu
              · cases hu
              · rename_i q' r' hfr
                obtain ⟨w1, w2⟩ := zk_from_of hfr
                have := nx q' r' w2 hu
                rw [w1] at this
                exact this
          · cases hu
        · cases hu
end ZBS
end
