noncomputable section
/-! FROM THE LAW'S ENTRY TO ITS END, for any tables -/
def zk_rz2 : zk_Rl := fun z => match zb_z1 z.1 with
  | true => some [zk_addGs z.1 zl_g8]
  | false => none
theorem zk_rz2_ok : zk_Rok zk_rz2 := by
  intro z L hz E h hc hcs hl hs
  unfold zk_rz2 at hz
  split at hz
  · rename_i e
    cases hz
    have hz1 : zk_rz1 z = some [zk_addGs z.1 zl_g] := by
      unfold zk_rz1
      rw [e]
    obtain ⟨N', s1, E', s2, s3, s4, s5⟩ := zk_rz1_ok z _ hz1 E h hc hcs hl hs
    rw [List.mem_singleton.mp s1] at s3 s4 s5
    have h1 := (zb_z1_ok h e).1
    obtain ⟨b1, b2⟩ := zk_addGs_ok s3 s4 (L := [(8, [1, 1], [])]) (fun g hg => by
      rw [List.mem_singleton.mp hg]
      refine ⟨?_, fun a ha => ?_, fun v hv => absurd hv List.not_mem_nil⟩
      · simp only [List.map_cons, List.map_nil, zq_8]
      · simp only [List.mem_cons, List.not_mem_nil, or_false, or_self] at ha
        rw [ha]
        exact h1)
    exact ⟨_, List.mem_cons_self, E', s2, b1, b2, s5⟩
  · cases hz
section ZT
variable {dC : Nat → ClassId} {dI : Nat → Nat → Nat} {cl : List vw_C} {st : Nat → Nat} {cid : zk_CI} {ba : Nat} {ly : List (Nat × Nat)} {tab : zk_Tab} {G nw : List Jvm.Cond} {PT : List zk_M} {CT : List zk_K} {RT : List zk_Rl} {l : Launch}
theorem zl_top (hCT : ∀ ad : Nat → Nat, ∀ K ∈ CT, zk_Kok dC dI cl ad st cid ba ly tab G nw PT l K) (hnw : ∀ w ∈ nw, zk_isNest w) (hG : ∀ w ∈ G, (w.onTables && w.keeps) = true ∨ ∃ ty, w = Cond.arrayClass ty) (hcls : zk_cls cl (G ++ nw)) (hPT : ∀ (i : Nat) (M : zk_M), PT[i]? = some M → zk_Mok G nw cl tab PT M ∧ M.1.cls ≠ "NightLetInLaw") (hRT : ∀ f ∈ RT, zk_Rok f)
    (hPTc : ∀ (i : Nat) (M : zk_M), PT[i]? = some M → M.1.name = "<init>" → (zk_Mok G nw cl tab PT M ∧ M.1.cls ≠ "NightLetInLaw") ∧ ∀ v ∈ M.2.2.2.2.2.1, zb_kB M.1.cls (G ++ nw) cl v ∧ zb_kI G nw PT M.1.cls v)
    {M : zk_M} (hM : zk_Mok G nw cl tab PT M) (hkb : ∀ v ∈ M.2.2.2.2.2.1, zb_kB M.1.cls (G ++ nw) cl v ∧ zb_kI G nw PT M.1.cls v) (hnI : M.1.name ≠ "<init>") (hq0 : (match M.2.2.2.2.2.1 with
      | q :: _ => Nat.beq q.1 0
      | [] => false) = true)
    {N0 : zk_N} {en : zk_Cx} {thf : zk_Z → zk_Th} {k : Nat}
    (hA : zl_entry en thf (zb_run PT cl ly tab 1000 18 10 M M.2.2.2.2.2.1 ((N0, [], [(0, (4, 9, zk_c 0))], []), 0, 0)) = true)
    (hC : (zk_fitC en.2.2.1 en.2.2.2.1 en.2.2.2.2.1 en.2.2.2.2.2.1 && zk_svB en.2.2.1.1 en.2.2.2.2.2.2.1) = true)
    (hB : zl_G PT CT tab 200 M [en] (zk_run PT CT RT tab k) (zk_from 18 M.2.2.2.2.2.1) (zk_cat2 en.2.2.1 en.2.1, en.2.2.2.1, en.2.2.2.2.1, en.2.2.2.2.2.1))
    (hen1 : en.1 = 18) (henN : en.2.1 = (8, N0.2)) (hN0 : N0.1 = 2) (hcN0 : zk_cl N0)
    {p : Program} {e : Env} {R : Room} {s : State} {m : MethodId} {args : Array Value} {below : List Frame} {meth : Method} {c : Code} {Q : State → Prop} (hF : zk_Fr dC dI cl st cid ba ly tab G nw M p s m args meth c) (hZ : zb_S dC dI cl st cid ba ly tab nw s)
    (hR1 : 200 ≤ R.frames) (hR2 : 12800 ≤ R.locals) (hR3 : 600000 ≤ R.cells) (hR4 : 7302250 ≤ R.slots)
    {E0 : zk_E} {ls : Array Slot} (hAt : zb_At dC dI cl st cid ba ly M.2.2.1 s.heap E0 [] (N0, [], [(0, (4, 9, zk_c 0))], []) s.heap [] ls []) (hsc : zk_scr st ba M s E0 2)
    (hQ : ∀ (ad : Nat → Nat) (L : List zk_Ex) (t : State), (∀ X ∈ L, zl_one X = true) → zk_Q 600000 7302250 dC dI cl ad st cid ba ly below args s E0 2 L t → Q t) : W p l e R s m args below meth c s.heap [] 0 0 Q (F0 m 0 ls []) := by
  simp only [Bool.and_eq_true] at hC
  obtain ⟨hC1, hC2⟩ := hC
  obtain ⟨q, r, L, e1, e2, e3⟩ := hB
  obtain ⟨w1, w2⟩ := zk_from_of e1
  cases hrw : M.2.2.2.2.2.1 with
  | nil =>
    rw [hrw] at hq0
    cases hq0
  | cons q0 r0 =>
    rw [hrw] at hq0 hA
    have hq0 := Nat.eq_of_beq_eq_true hq0
    cases hzb : zb_run PT cl ly tab 1000 18 10 M (q0 :: r0) ((N0, [], [(0, (4, 9, zk_c 0))], []), 0, 0) with
    | none =>
      rw [hzb] at hA
      cases hA
    | some x =>
      rw [hzb] at hA
      obtain ⟨pe, z'⟩ := x
      unfold zl_entry at hA
      simp only at hA
      split at hA
      case h_2 => cases hA
      rename_i NR hrel
      simp only [Bool.and_eq_true] at hA
      obtain ⟨⟨⟨⟨a1, a2⟩, a3⟩, a4⟩, a5⟩ := hA
      have a1 := Nat.eq_of_beq_eq_true a1
      have a4 := Nat.ble_eq.mp a4
      have a5 := Nat.ble_eq.mp a5
      have hrun := zb_run_ok (l := l) hnw hG hcls hPTc 1000 18 10 M q0 r0 _ z' pe hM hkb (fun v hv => by rw [hrw]; exact hv) hzb R p e s m args below meth c Q (by omega) (by omega) (by omega) (by omega) hF (fun h => absurd h hnI) hZ E0 [] s.heap [] ls [] hAt (fun E' la H' locs' ls' stk' b1 b2 b3 => by
        refine W.widen (k := 600000) (n := 7302250) a4 a5 ?_
        have hAt2 := b3.2
        have hrz : zk_rz2 z'.1 = some [zk_addGs z'.1.1 zl_g8] := by
          unfold zk_rz2
          rw [a2]
        obtain ⟨N', s1, E'', s2, s3, s4, s5⟩ := zk_rz2_ok z'.1 _ hrz E' hAt2.1.1 hAt2.1.2.1 hAt2.1.2.2.1 hAt2.2.1.1 hAt2.2.1.2.1
        rw [List.mem_singleton.mp s1] at s3 s4 s5
        have hAt3 : zk_At dC dI cl (zb_ad ([] ++ la)) st cid ba ly M.2.2.1 s.heap E'' (zk_addGs z'.1.1 zl_g8, z'.1.2) H' locs' ls' stk' := ⟨zk_wd_to hAt2.1 s2 s3 s4 s5, zk_fr_to hAt2.2.1 s2 s5, hAt2.2.2⟩
        obtain ⟨N2, r1, E3, r2, r3, r4, r5⟩ := zk_rel_ok (zk_addGs z'.1.1 zl_g8, z'.1.2) _ hrel E'' hAt3.1.1 hAt3.1.2.1 hAt3.1.2.2.1 hAt3.2.1.1 hAt3.2.1.2.1
        rw [List.mem_singleton.mp r1] at r3 r4 r5
        have hAt4 : zk_At dC dI cl (zb_ad ([] ++ la)) st cid ba ly M.2.2.1 s.heap E3 (NR, z'.1.2) H' locs' ls' stk' := ⟨zk_wd_to hAt3.1 r2 r3 r4 r5, zk_fr_to hAt3.2.1 r2 r5, hAt3.2.2⟩
        have hag : zk_ag 2 E0 E3 := by
          have b1' : zk_ag 2 E0 E' := by
            have := b1
            simp only [hN0] at this
            exact this
          have b2' : 2 ≤ z'.1.1.1 := by
            have := b2
            simp only [hN0] at this
            exact this
          exact zk_ag_tr (zk_ag_tr b1' s2 b2') r2 b2'
        have hokN : zk_ok E3 N0 := zk_ok_ag hAt.2.1.1 hcN0 (by rw [hN0]; exact hag)
        have hok2 : zk_ok E3 en.2.1 := by
          rw [henN]
          exact hokN
        have hcl2 : zk_cl en.2.1 := by
          rw [henN]
          refine ⟨fun q hq => Nat.lt_of_lt_of_le (hcN0.1 q hq) (by rw [hN0]; exact Nat.le_of_ble_eq_true rfl), fun f hf => zk_sv_le (by rw [hN0]; exact Nat.le_of_ble_eq_true rfl) (hcN0.2.1 f hf), fun g hg => ⟨fun b hb => Nat.lt_of_lt_of_le ((hcN0.2.2 g hg).1 b hb) (by rw [hN0]; exact Nat.le_of_ble_eq_true rfl), fun v hv => zk_sv_le (by rw [hN0]; exact Nat.le_of_ble_eq_true rfl) ((hcN0.2.2 g hg).2 v hv)⟩⟩
        have hlp := zl_loop (hCT (zb_ad ([] ++ la))) hnw hG hcls hPT hRT (k := k) (d := 200) hM w2 (hen1.trans w1.symm) e2 hC2 hC1 (R := R) (cells := 600000) (slots := 7302250) ⟨hR1, by omega, hR3, hR4⟩ hF (p := p) (e := e) (below := below) hAt4 hok2 hcl2 a3 hag (by rw [henN]; exact Nat.le_of_ble_eq_true rfl) hsc
        rw [w1] at hlp
        rw [a1]
        intro T hT X
        obtain ⟨t, t1, t2⟩ := hlp T hT X
        exact ⟨t, t1, hQ _ L t e3 t2⟩)
      rw [hq0] at hrun
      exact hrun
end ZT
/-! what the start's words say -/
theorem zl_hA {s : State} : ∀ a : Nat, a < s.heap.size → ¬ (fun q : Nat => s.heap.size ≤ q) a := fun _ ha => Nat.not_le.mpr ha
def zl_te (t : Jvm.Term) (F : List Jvm.Cond) : Nat → List Int → Bool
  | _, [] => true
  | j, v :: l => zk_el (Cond.eq (.elem t (.int (Int32.ofNat j))) (.int (Int32.ofInt v))) F && zl_te t F (j + 1) l
theorem zl_te_of {t : Jvm.Term} {F : List Jvm.Cond} : ∀ {l : List Int} {k : Nat}, zl_te t F k l = true → ∀ j, j < l.length → Cond.eq (.elem t (.int (Int32.ofNat (k + j)))) (.int (Int32.ofInt (l.getD j 0))) ∈ F
  | [], _, _, j, hj => absurd hj (Nat.not_lt_zero _)
  | v :: l, k, h, j, hj => by
    unfold zl_te at h
    simp only [Bool.and_eq_true] at h
    cases j with
    | zero => exact zk_el_of h.1
    | succ j =>
      have := zl_te_of h.2 j (by simpa using hj)
      rw [show k + 1 + j = k + (j + 1) by omega] at this
      exact this
def zl_tw (T F : List Jvm.Cond) (r : String × String × List Int) : Bool :=
  zk_el (Cond.laysStatic r.1 r.2.1 "[I") T && zk_el (Cond.initialized r.1) T && zk_el (Cond.arrayOf (.static r.1 r.2.1 "[I") .int) F && zk_el (Cond.eq (.length (.static r.1 r.2.1 "[I")) (.int (Int32.ofNat r.2.2.length))) F && zl_te (.static r.1 r.2.1 "[I") F 0 r.2.2 && Nat.blt r.2.2.length 2147483648
theorem zl_tab_of {s : State} {A : Array Value} {T F : List Jvm.Cond} (hT : ∀ w ∈ T, w.before A s = true) (hF : ∀ w ∈ F, w.before A s = true) {r : String × String × List Int} (h : zl_tw T F r = true) : ∃ t : Nat, r.2.2.length < 2 ^ 31 ∧ va_Z r.1 r.2.1 "[I" (.ref t) (fun q => s.heap.size ≤ q) s s.heap ∧ va_T .int t r.2.2.length (fun j => .int (Int32.ofInt (r.2.2.getD j 0))) (fun q => s.heap.size ≤ q) s s.heap := by
  unfold zl_tw at h
  simp only [Bool.and_eq_true] at h
  obtain ⟨⟨⟨⟨⟨h1, h2⟩, h3⟩, h4⟩, h5⟩, h6⟩ := h
  have hN : r.2.2.length < 2 ^ 31 := Nat.blt_eq.mp h6
  obtain ⟨t, t1, t2⟩ := va_Tof (f := fun j => .int (Int32.ofInt (r.2.2.getD j 0))) (A := fun q => s.heap.size ≤ q) hN (hF _ (zk_el_of h3)) (va_eqt (hF _ (zk_el_of h4))) (fun j hj => by
    have := zl_te_of h5 j hj
    rw [Nat.zero_add] at this
    exact va_eqt (hF _ this)) zl_hA
  exact ⟨t, hN, va_Zof (hT _ (zk_el_of h1)) (hT _ (zk_el_of h2)) t1 zl_hA, t2⟩
def zl_kt : Jvm.Term := .string "NightLetIn$Reader" 57
def zl_kf : Jvm.Term := .field zl_kt "java/lang/String" "value" "[B"
def zl_sw (T F : List Jvm.Cond) : Bool :=
  zk_el (Cond.stringRef "NightLetIn$Reader" 57 "abltnd") T && zk_el (Cond.laysStatic "java/lang/String" "COMPACT_STRINGS" "Z") T && zk_el (Cond.initialized "java/lang/String") T && zk_el (Cond.eq (.static "java/lang/String" "COMPACT_STRINGS" "Z") (.int 1)) F &&
  zk_el (Cond.exactly zl_kt "java/lang/String") F && zk_el (Cond.eq (.field zl_kt "java/lang/String" "coder" "B") (.int 0)) F && zk_el (Cond.arrayOf zl_kf .byte) F && zk_el (Cond.eq (.length zl_kf) (.int 6)) F && zl_te zl_kf F 0 [97, 98, 108, 116, 110, 100]
theorem zl_str_of {s : State} {A : Array Value} {T F : List Jvm.Cond} (hT : ∀ w ∈ T, w.before A s = true) (hF : ∀ w ∈ F, w.before A s = true) (h : zl_sw T F = true) : ∃ a v : Nat, vk_R "NightLetIn$Reader" 57 "abltnd" a s ∧ vk_S 1 [6] [[97, 98, 108, 116, 110, 100]] (fun _ => a) (fun _ => v) (fun q => s.heap.size ≤ q) s s.heap ∧ va_Z "java/lang/String" "COMPACT_STRINGS" "Z" (.int 1) (fun q => s.heap.size ≤ q) s s.heap := by
  unfold zl_sw at h
  simp only [Bool.and_eq_true] at h
  obtain ⟨⟨⟨⟨⟨⟨⟨⟨h1, h2⟩, h3⟩, h4⟩, h5⟩, h6⟩, h7⟩, h8⟩, h9⟩ := h
  have e0 : ∀ i : Nat, i < 1 → i = 0 := fun i hi => by omega
  obtain ⟨adK, adV, k1, k2⟩ := vk_Sof (args := A) (s := s) (N := 1) (tm := fun _ => zl_kt) (len := [6]) (byt := [[97, 98, 108, 116, 110, 100]]) (A := fun q => s.heap.size ≤ q)
    (fun i hi => by rw [e0 i hi]; exact (by decide : (6 : Nat) < 2 ^ 31)) (fun i hi => hF _ (zk_el_of h5)) (fun i hi => hF _ (zk_el_of h6)) (fun i hi => hF _ (zk_el_of h7)) (fun i hi => by rw [e0 i hi]; exact hF _ (zk_el_of h8))
    (fun i hi j hj => by
      rw [e0 i hi] at hj ⊢
      have hj6 : j < 6 := hj
      have g := hF _ (zl_te_of h9 j hj6)
      rw [Nat.zero_add] at g
      have e : Int32.ofInt (([97, 98, 108, 116, 110, 100] : List Int).getD j 0) = (([[97, 98, 108, 116, 110, 100]] : List (List Int32)).getD 0 []).getD j 0 := by
        match j, hj6 with
        | 0, _ => rfl
        | 1, _ => rfl
        | 2, _ => rfl
        | 3, _ => rfl
        | 4, _ => rfl
        | 5, _ => rfl
        | n + 6, h => exact absurd h (by omega)
      rw [e] at g
      exact g)
    (fun i j hi hj hne => absurd ((e0 i hi).trans (e0 j hj).symm) hne) zl_hA
  refine ⟨adK 0, adV 0, vk_R.of (hT _ (zk_el_of h1)) (k2 0 (by decide)), ⟨fun i hi => ?_, fun i j hi hj _ => (e0 i hi).trans (e0 j hj).symm⟩, va_Zof (hT _ (zk_el_of h2)) (hT _ (zk_el_of h3)) (va_eqi (hF _ (zk_el_of h4))) zl_hA⟩
  rw [e0 i hi]
  exact k1.1 0 (by decide)
/-- the tables and the string, the script's place and length -/
theorem zl_sta_of {s : State} {A : Array Value} {T F : List Jvm.Cond} (hT : ∀ w ∈ T, w.before A s = true) (hF : ∀ w ∈ F, w.before A s = true) {tab : zk_Tab} (h1 : tab.all (zl_tw T F) = true) (h2 : zl_sw T F = true) (h3 : tab.length ≤ 7) (b L : Nat) : ∃ st : Nat → Nat, st 9 = b ∧ st 10 = L ∧ zk_sta tab st s.heap.size s := by
  obtain ⟨a, v, k1, k2, k3⟩ := zl_str_of hT hF h2
  have hc : ∀ k : Nat, ∃ t : Nat, ∀ r, tab[k]? = some r → r.2.2.length < 2 ^ 31 ∧ va_Z r.1 r.2.1 "[I" (.ref t) (fun q => s.heap.size ≤ q) s s.heap ∧ va_T .int t r.2.2.length (fun j => .int (Int32.ofInt (r.2.2.getD j 0))) (fun q => s.heap.size ≤ q) s s.heap := by
    intro k
    cases hk : tab[k]? with
    | none => exact ⟨0, fun r hr => by cases hr⟩
    | some r =>
      obtain ⟨t, ht⟩ := zl_tab_of hT hF (List.all_eq_true.mp h1 r (List.mem_of_getElem? hk))
      exact ⟨t, fun r' hr => by cases hr; exact ht⟩
  refine ⟨fun k => if k = 7 then a else if k = 8 then v else if k = 9 then b else if k = 10 then L else Classical.choose (hc k), rfl, rfl, fun k r hr => ?_, k1, k2, k3⟩
  have hk : k < 7 := Nat.lt_of_lt_of_le (List.getElem?_eq_some_iff.mp hr).1 h3
  have := Classical.choose_spec (hc k) r hr
  simp only [if_neg (show k ≠ 7 by omega), if_neg (show k ≠ 8 by omega), if_neg (show k ≠ 9 by omega), if_neg (show k ≠ 10 by omega)]
  exact this
theorem zl_ar1 {s : State} {A : Array Value} {ty : FieldType} (hty : ∀ C, ty ≠ .object C) (h : (Cond.arrayClass ty).before A s = true) : ∃ cA : ClassId, ArrOfT s cA ty ∧ va_RA s cA ty := by
  obtain ⟨cA, kA, comp, h1, h2, h3⟩ := Cond.arrayClass_spec h
  refine ⟨cA, fun n z => ⟨(fun k h => by cases h), kA, h2, comp, h3⟩, ?_⟩
  cases ty with
  | object C => exact absurd rfl (hty C)
  | _ => exact h1
theorem zl_ar2 {s : State} {A : Array Value} {C : String} (h : (Cond.arrayOver (.object C)).before A s = true) : ∃ cA : ClassId, ArrOfT s cA (.object C) ∧ va_RA s cA (.object C) := by
  obtain ⟨comp, c, k, h1, h2, h3, h4, h5⟩ := Cond.arrayOver_spec h
  exact ⟨c, fun n z => ⟨(fun k h => by cases h), k, h3, comp, h4⟩, k, comp, h3, h4, h1, h5⟩
theorem zl_arr_of {s : State} {A : Array Value} {T : List Jvm.Cond} (hT : ∀ w ∈ T, w.before A s = true) {ly : List (Nat × Nat)} (h : (zk_el (Cond.arrayClass .int) T && zk_el (Cond.arrayClass .long) T && zk_el (Cond.arrayClass .byte) T && zk_el (Cond.arrayClass .short) T && zk_el (Cond.arrayOver (.object "NightLetIn$Shelf")) T && ly.all fun kd => Nat.blt kd.2 2147483648 && Nat.ble kd.1 5) = true) : ∃ cid : zk_CI, ∀ (k : Nat) (kd : Nat × Nat), ly[k]? = some kd → kd.2 < 2 ^ 31 ∧ (kd.1 ≠ 0 → ArrOfT s (cid.1 k) (zk_ty kd.1) ∧ va_RA s (cid.1 k) (zk_ty kd.1)) := by
  simp only [Bool.and_eq_true] at h
  obtain ⟨⟨⟨⟨⟨h1, h2⟩, h3⟩, h4⟩, h5⟩, h6⟩ := h
  obtain ⟨c1, k1⟩ := zl_ar1 (ty := .int) (fun C h => by cases h) (hT _ (zk_el_of h1))
  obtain ⟨c2, k2⟩ := zl_ar1 (ty := .long) (fun C h => by cases h) (hT _ (zk_el_of h2))
  obtain ⟨c3, k3⟩ := zl_ar1 (ty := .byte) (fun C h => by cases h) (hT _ (zk_el_of h3))
  obtain ⟨c4, k4⟩ := zl_ar1 (ty := .short) (fun C h => by cases h) (hT _ (zk_el_of h4))
  obtain ⟨c5, k5⟩ := zl_ar2 (hT _ (zk_el_of h5))
  refine ⟨(fun k => match (ly.getD k (0, 0)).1 with
    | 2 => c2
    | 3 => c3
    | 4 => c4
    | 5 => c5
    | _ => c1, fun _ => .inr (0, [])), fun k kd hk => ?_⟩
  have g := List.all_eq_true.mp h6 kd (List.mem_of_getElem? hk)
  simp only [Bool.and_eq_true] at g
  have g1 : kd.2 < 2147483648 := Nat.blt_eq.mp g.1
  have g2 := Nat.ble_eq.mp g.2
  refine ⟨g1, fun h0 => ?_⟩
  simp only [List.getD_eq_getElem?_getD, hk, Option.getD_some]
  obtain ⟨x, y⟩ := kd
  simp only at g2 h0 ⊢
  match x, g2, h0 with
  | 0, _, h0 => exact absurd rfl h0
  | 1, _, _ => exact k1
  | 2, _, _ => exact k2
  | 3, _, _ => exact k3
  | 4, _, _ => exact k4
  | 5, _, _ => exact k5
  | n + 6, h, _ => exact absurd h (by omega)
theorem zl_known_of {s : State} {A : Array Value} {tb T : List Jvm.Cond} {cl : List vw_C} (hcls : zk_cls cl tb) (htb : ∀ w ∈ tb, w.before A s = true) (hT : ∀ w ∈ T, w.before A s = true) (h : (cl.all fun r => zk_el (Cond.instantiable r.1 r.2.2) T) = true) : ∃ (dC : Nat → ClassId) (dI : Nat → Nat → Nat), ∀ (k : Nat) (q : vw_C), cl[k]? = some q → u_Kn s q.1 q.2.1 q.2.2 (dC k) (dI k) := by
  have hc : ∀ k : Nat, ∃ x : ClassId × (Nat → Nat), ∀ q : vw_C, cl[k]? = some q → u_Kn s q.1 q.2.1 q.2.2 x.1 x.2 := by
    intro k
    cases hk : cl[k]? with
    | none => exact ⟨(0, fun _ => 0), fun q hq => by cases hq⟩
    | some q =>
      obtain ⟨cC, iS, hh⟩ := u_known (C := q.1) (T := q.2.1) (N := q.2.2) (n := q.2.2) htb (hcls k q hk).1 (hT _ (zk_el_of (List.all_eq_true.mp h q (List.mem_of_getElem? hk))))
      exact ⟨(cC, iS), fun q' hq => by cases hq; exact hh⟩
  exact ⟨fun k => (Classical.choose (hc k)).1, fun k => (Classical.choose (hc k)).2, fun k q hq => Classical.choose_spec (hc k) q hq⟩
end
