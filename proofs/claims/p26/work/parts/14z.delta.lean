noncomputable section
/-! A STATE, AND WHAT CHANGED SINCE: symbols that no list names stand for themselves -/
def zk_lkI (th : zk_Th) (s : Nat) : zk_V := zk_look (zk_y s) th.1 s
def zk_lkA (th : zk_Th) (a : Nat) : Nat := zk_look a th.2 a
def zk_dsl (th : zk_Th) (z : Int) : List (Nat × Int) → zk_V
  | [] => zk_c z
  | q :: l => zk_vadd (zk_vmul q.2 (zk_lkI th q.1)) (zk_dsl th z l)
def zk_ds (th : zk_Th) (v : zk_V) : zk_V := zk_dsl th v.2 v.1
def zk_eD (th : zk_Th) (E : zk_E) : zk_E := (fun s => zk_i E (zk_lkI th s), fun a => E.2 (zk_lkA th a))
theorem zk_dsl_i {th : zk_Th} {E : zk_E} {z : Int} : ∀ {l : List (Nat × Int)}, zk_i E (zk_dsl th z l) = zk_s (zk_eD th E) l + z
  | [] => by simp [zk_dsl, zk_c_i, zk_s]
  | q :: l => by
    simp only [zk_dsl, zk_s]
    rw [zk_vadd_i, zk_vmul_i, zk_dsl_i]
    have : (zk_eD th E).1 q.1 = zk_i E (zk_lkI th q.1) := rfl
    rw [this]
    omega
theorem zk_ds_i {th : zk_Th} {E : zk_E} {v : zk_V} : zk_i E (zk_ds th v) = zk_i (zk_eD th E) v := zk_dsl_i
def zk_nI (th : zk_Th) (s : Nat) : Bool := th.1.all fun q => !(Nat.beq q.1 s)
def zk_nA (th : zk_Th) (a : Nat) : Bool := th.2.all fun q => !(Nat.beq q.1 a)
theorem zk_look_no {α : Type} {d : α} : ∀ {l : List (Nat × α)} {s : Nat}, (l.all fun q => !(Nat.beq q.1 s)) = true → zk_look d l s = d
  | [], _, _ => rfl
  | q :: l, s, h => by
    rw [List.all_cons, Bool.and_eq_true] at h
    rw [zk_look_cons]
    split
    · rename_i e
      have := h.1
      rw [e] at this
      cases this
    · exact zk_look_no h.2
theorem zk_eD_I {th : zk_Th} {E : zk_E} {s : Nat} (h : zk_nI th s = true) : (zk_eD th E).1 s = E.1 s := by
  show zk_i E (zk_lkI th s) = E.1 s
  unfold zk_lkI
  rw [zk_look_no h, zk_y_i]
theorem zk_eD_A {th : zk_Th} {E : zk_E} {a : Nat} (h : zk_nA th a = true) : (zk_eD th E).2 a = E.2 a := by
  show E.2 (zk_lkA th a) = E.2 a
  unfold zk_lkA
  rw [zk_look_no h]
theorem zk_eD_ag {th : zk_Th} {E : zk_E} {nb : Nat} (h1 : (th.1.all fun q => Nat.ble nb q.1) = true) (h2 : (th.2.all fun q => Nat.ble nb q.1) = true) : zk_ag nb E (zk_eD th E) := fun k hk => by
  refine ⟨zk_eD_I (List.all_eq_true.mpr fun q hq => ?_), zk_eD_A (List.all_eq_true.mpr fun q hq => ?_)⟩
  · have := Nat.ble_eq.mp (List.all_eq_true.mp h1 q hq)
    rw [Bool.not_eq_true', Bool.eq_false_iff]
    intro e
    have := Nat.eq_of_beq_eq_true e
    omega
  · have := Nat.ble_eq.mp (List.all_eq_true.mp h2 q hq)
    rw [Bool.not_eq_true', Bool.eq_false_iff]
    intro e
    have := Nat.eq_of_beq_eq_true e
    omega
def zk_nV (th : zk_Th) (v : zk_V) : Bool := v.1.all fun q => zk_nI th q.1
theorem zk_nS {th : zk_Th} {E : zk_E} : ∀ {l : List (Nat × Int)}, (l.all fun q => zk_nI th q.1) = true → zk_s (zk_eD th E) l = zk_s E l
  | [], _ => rfl
  | q :: l, h => by
    rw [List.all_cons, Bool.and_eq_true] at h
    simp only [zk_s]
    rw [zk_eD_I h.1, zk_nS h.2]
theorem zk_nV_i {th : zk_Th} {E : zk_E} {v : zk_V} (h : zk_nV th v = true) : zk_i (zk_eD th E) v = zk_i E v := by
  unfold zk_i
  rw [zk_nS h]
def zk_nC (th : zk_Th) (c : zk_C) : Bool := match Nat.beq c.1 0 with
  | true => c.2.2.all fun t => zk_nV th t.2.2
  | false => Nat.beq c.1 5 || Nat.beq c.1 9 || zk_nA th (zk_hd c.2.2)
theorem zk_nC_of {th : zk_Th} {E : zk_E} {ad st : Nat → Nat} {cid : zk_CI} {k : Nat} {c : zk_C} (h : zk_nC th c = true) : zk_ce (zk_eD th E) ad st cid k c = zk_ce E ad st cid k c := by
  have hA : c.1 ≠ 0 → c.1 ≠ 5 → c.1 ≠ 9 → (zk_eD th E).2 (zk_hd c.2.2) = E.2 (zk_hd c.2.2) := fun h0 h5 h9 => by
    unfold zk_nC at h
    split at h
    · rename_i e; exact absurd (Nat.eq_of_beq_eq_true e) h0
    · simp only [Bool.or_eq_true] at h
      rcases h with (h | h) | h
      · exact absurd (Nat.eq_of_beq_eq_true h) h5
      · exact absurd (Nat.eq_of_beq_eq_true h) h9
      · exact zk_eD_A h
  unfold zk_ce
  split
  · rename_i h0
    unfold zk_nC at h
    rw [h0] at h
    have h : (c.2.2.all fun t => zk_nV th t.2.2) = true := h
    rw [List.map_congr_left fun t ht => ?_]
    unfold zk_v
    rw [zk_nV_i (List.all_eq_true.mp h t ht)]
  · rename_i h2
    rw [hA (by omega) (by omega) (by omega)]
  · rfl
  · rfl
  · rename_i h0 h2 h5 h9
    rw [hA (fun q => h0 q) (fun q => h5 q) (fun q => h9 q)]
def zk_teD (N : zk_N) (th : zk_Th) (t t' : zk_T) : Bool := Nat.beq t.1 t'.1 && (Nat.beq t.2.1 t'.2.1 || !(zk_isr t.1)) && (zk_eqE N (zk_ds th t.2.2) t'.2.2 || zk_isr t.1 || Nat.beq t.1 2)
theorem zk_teD_of {N : zk_N} {th : zk_Th} {E : zk_E} (hok : zk_ok E N) {ad st : Nat → Nat} {t t' : zk_T} (h : zk_teD N th t t' = true) : zk_v (zk_eD th E) ad st t = zk_v E ad st t' := by
  unfold zk_teD at h
  simp only [Bool.and_eq_true, Bool.or_eq_true] at h
  obtain ⟨⟨h1, h2⟩, h3⟩ := h
  have h1 := Nat.eq_of_beq_eq_true h1
  have key : zk_isr t.1 = false → Nat.beq t.1 2 = false → zk_i (zk_eD th E) t.2.2 = zk_i E t'.2.2 := by
    intro a b
    rcases h3 with (h3 | h3) | h3
    · rw [← zk_ds_i, zk_eqE_of hok h3]
    · rw [a] at h3; cases h3
    · rw [b] at h3; cases h3
  have key2 : zk_isr t.1 = true → t.2.1 = t'.2.1 := by
    intro a
    rcases h2 with h2 | h2
    · exact Nat.eq_of_beq_eq_true h2
    · rw [a] at h2; cases h2
  unfold zk_v
  rw [← h1]
  split
  · rename_i e; rw [key (by rw [e]; rfl) (by rw [e]; rfl)]
  · rename_i e; rw [key (by rw [e]; rfl) (by rw [e]; rfl)]
  · rename_i e; rw [key2 (by rw [e]; rfl)]
  · rename_i e; rw [key2 (by rw [e]; rfl)]
  · rfl
def zk_teDs (N : zk_N) (th : zk_Th) : List zk_T → List zk_T → Bool
  | [], [] => true
  | t :: l, t' :: l' => zk_teD N th t t' && zk_teDs N th l l'
  | _, _ => false
theorem zk_teDs_of {N : zk_N} {th : zk_Th} {E : zk_E} (hok : zk_ok E N) {ad st : Nat → Nat} : ∀ {l l' : List zk_T}, zk_teDs N th l l' = true → l.map (zk_v (zk_eD th E) ad st) = l'.map (zk_v E ad st)
  | [], [], _ => rfl
  | t :: l, t' :: l', h => by
    unfold zk_teDs at h
    simp only [Bool.and_eq_true] at h
    rw [List.map_cons, List.map_cons, zk_teD_of hok h.1, zk_teDs_of hok h.2]
  | [], _ :: _, h => by cases h
  | _ :: _, [], h => by cases h
/-- a cell that changed: an object, or a row of numbers -/
def zk_ceD (N : zk_N) (th : zk_Th) (c c' : zk_C) : Bool := Nat.beq c.1 c'.1 && Nat.beq c.2.1 c'.2.1 && (match c.1 with
  | 0 => zk_teDs N th c.2.2 c'.2.2
  | 5 => false
  | 9 => true
  | _ => Nat.beq (zk_lkA th (zk_hd c.2.2)) (zk_hd c'.2.2))
theorem zk_ceD_of {N : zk_N} {th : zk_Th} {E : zk_E} (hok : zk_ok E N) {ad st : Nat → Nat} {cid : zk_CI} {k : Nat} {c c' : zk_C} (h : zk_ceD N th c c' = true) : zk_ce (zk_eD th E) ad st cid k c = zk_ce E ad st cid k c' ∧ (c.1, c.2.1) = (c'.1, c'.2.1) := by
  unfold zk_ceD at h
  simp only [Bool.and_eq_true] at h
  obtain ⟨⟨h1, h2⟩, h3⟩ := h
  have h1 := Nat.eq_of_beq_eq_true h1
  have h2 := Nat.eq_of_beq_eq_true h2
  refine ⟨?_, by rw [h1, h2]⟩
  unfold zk_ce
  rw [← h1, ← h2]
  split
  · rename_i e
    rw [e] at h3
    rw [zk_teDs_of hok h3]
  · rename_i e
    rw [e] at h3
    have h3 := Nat.eq_of_beq_eq_true h3
    show _ = Sum.inl (cid.1 k, c.2.1, Sum.inr (Sum.inl fun j => Int64.ofInt (E.2 (zk_hd c'.2.2) j)))
    rw [← h3]
    rfl
  · rename_i e
    rw [e] at h3
    cases h3
  · rfl
  · rename_i e1 e2 e3 e4
    split at h3
    · rename_i e; exact absurd e e1
    · rename_i e; exact absurd e e3
    · rename_i e; exact absurd e e4
    · have h3 := Nat.eq_of_beq_eq_true h3
      show _ = Sum.inl (cid.1 k, c.2.1, Sum.inl fun j => Int32.ofInt (E.2 (zk_hd c'.2.2) j))
      rw [← h3]
      rfl
def zk_ceDs (N : zk_N) (th : zk_Th) : List zk_C → List zk_C → Bool
  | [], [] => true
  | c :: l, c' :: l' => (match zk_cid c c' with
    | true => zk_nC th c
    | false => zk_ceD N th c c') && zk_ceDs N th l l'
  | _, _ => false
theorem zk_ceDs_of {N : zk_N} {th : zk_Th} {E : zk_E} (hok : zk_ok E N) {ad st : Nat → Nat} {cid : zk_CI} : ∀ {l l' : List zk_C} {k : Nat}, zk_ceDs N th l l' = true → zk_ws (zk_eD th E) ad st cid k l = zk_ws E ad st cid k l' ∧ l.map (fun c => (c.1, c.2.1)) = l'.map (fun c => (c.1, c.2.1))
  | [], [], _, _ => ⟨rfl, rfl⟩
  | c :: l, c' :: l', k, h => by
    unfold zk_ceDs at h
    simp only [Bool.and_eq_true] at h
    have h12 : zk_ce (zk_eD th E) ad st cid k c = zk_ce E ad st cid k c' ∧ (c.1, c.2.1) = (c'.1, c'.2.1) := by
      have g := h.1
      split at g
      · rename_i e
        have e := zk_cid_of e
        subst e
        exact ⟨zk_nC_of g, rfl⟩
      · exact zk_ceD_of hok g
    obtain ⟨h1, h2⟩ := h12
    obtain ⟨h3, h4⟩ := zk_ceDs_of hok (E := E) (ad := ad) (st := st) (cid := cid) (k := k + 1) h.2
    exact ⟨by unfold zk_ws; rw [h1, h3], by rw [List.map_cons, List.map_cons, h2, h4]⟩
  | [], _ :: _, _, h => by cases h
  | _ :: _, [], _, h => by cases h
def zk_mD (th : zk_Th) (g : zk_G) : zk_G := (g.1, g.2.1.map (zk_lkA th), g.2.2.map (zk_ds th))
def zk_okD3 (th : zk_Th) (N : zk_N) : zk_G → Bool
  | (3, [a], [([], lo), ([], hi)]) => match zk_eb (zk_lkA th a) N.2.2.2 with
    | some b => zk_le lo b.1 && zk_le b.2 hi
    | none => false
  | _ => false
def zk_okD (th : zk_Th) (N : zk_N) (g : zk_G) : Bool := match Nat.beq g.1 3 with
  | true => zk_okD3 th N g
  | false => N.2.2.2.any (zk_eqG (zk_mD th g)) || (zk_ok6 N (zk_mD th g) || N.2.2.2.any (zk_eqGE N (zk_mD th g)))
theorem zk_mD_i {th : zk_Th} {E : zk_E} {g : zk_G} (h : zk_S g.1 ((zk_mD th g).2.1.map E.2) ((zk_mD th g).2.2.map (zk_i E))) : zk_S g.1 (g.2.1.map (zk_eD th E).2) (g.2.2.map (zk_i (zk_eD th E))) := by
  have e1 : (zk_mD th g).2.1.map E.2 = g.2.1.map (zk_eD th E).2 := by
    unfold zk_mD
    rw [List.map_map]
    rfl
  have e2 : (zk_mD th g).2.2.map (zk_i E) = g.2.2.map (zk_i (zk_eD th E)) := by
    unfold zk_mD
    rw [List.map_map]
    exact List.map_congr_left fun v _ => zk_ds_i
  rw [e1, e2] at h
  exact h
theorem zk_okD3_of {th : zk_Th} {E : zk_E} {N : zk_N} (h : zk_ok E N) {g : zk_G} (hg : zk_okD3 th N g = true) : zk_S g.1 (g.2.1.map (zk_eD th E).2) (g.2.2.map (zk_i (zk_eD th E))) := by
  unfold zk_okD3 at hg
  split at hg
  · rename_i a lo hi
    split at hg
    · rename_i b hb
      simp only [Bool.and_eq_true] at hg
      have h1 := zk_le_of hg.1
      have h2 := zk_le_of hg.2
      simp only [List.map_cons, List.map_nil, zk_S]
      intro j
      have := zk_eb_ok h hb j
      rw [zk_i_nil (x := (([], lo) : zk_V)) rfl, zk_i_nil (x := (([], hi) : zk_V)) rfl]
      show lo ≤ E.2 (zk_lkA th a) j ∧ E.2 (zk_lkA th a) j ≤ hi
      omega
    · cases hg
  · cases hg
theorem zk_okD_of {th : zk_Th} {E : zk_E} {N : zk_N} (h : zk_ok E N) {g : zk_G} (hg : zk_okD th N g = true) : zk_S g.1 (g.2.1.map (zk_eD th E).2) (g.2.2.map (zk_i (zk_eD th E))) := by
  unfold zk_okD at hg
  split at hg
  · exact zk_okD3_of h hg
  · rw [Bool.or_eq_true] at hg
    rcases hg with hg | hg
    · obtain ⟨g', h1, h2⟩ := List.any_eq_true.mp hg
      have h3 := h.2.2 g' h1
      rw [← zk_eqG_of h2] at h3
      exact zk_mD_i h3
    rw [Bool.or_eq_true] at hg
    rcases hg with hg | hg
    · exact zk_mD_i (zk_ok6_of (g := zk_mD th g) h hg)
    obtain ⟨g', h1, h2⟩ := List.any_eq_true.mp hg
    unfold zk_eqGE at h2
    simp only [Bool.and_eq_true] at h2
    have h3 := h.2.2 g' h1
    have e1 : g.1 = g'.1 := Nat.eq_of_beq_eq_true h2.1.1
    have e2 := zk_eqNs_of h2.1.2
    have e3 := zk_eqEs_of h h2.2
    refine zk_mD_i ?_
    rw [e1, e2, e3]
    exact h3
def zk_dfN (nb : Nat) (th : zk_Th) (N : zk_N) (w : zk_New) : Bool :=
  (w.2.1.all fun q => zk_nI th q.1 || (zk_n2 N (zk_vsub (zk_lkI th q.1) (zk_c q.2.1)) && zk_n2 N (zk_vsub (zk_c q.2.2) (zk_lkI th q.1)))) && (w.2.2.1.all fun f => zk_nV th f || zk_n2 N (zk_ds th f)) &&
  (w.2.2.2.all fun g => ((g.2.1.all (zk_nA th)) && (g.2.2.all (zk_nV th))) || zk_okD th N g) && (th.1.all fun q => Nat.ble nb q.1) && (th.2.all fun q => Nat.ble nb q.1)
theorem zk_dfN_ok {nb : Nat} {th : zk_Th} {E : zk_E} {N N0 : zk_N} {w : zk_New} (h : zk_ok E N) (h0 : zk_ok E (zk_cat2 w N0)) (hc : zk_cl N0) (hn : N0.1 = nb) (hf : zk_dfN nb th N w = true) : zk_ok (zk_eD th E) (zk_cat2 w N0) ∧ zk_ag nb E (zk_eD th E) := by
  unfold zk_dfN at hf
  simp only [Bool.and_eq_true] at hf
  obtain ⟨⟨⟨⟨f1, f2⟩, f3⟩, f4⟩, f5⟩ := hf
  have hag : zk_ag nb E (zk_eD th E) := zk_eD_ag f4 f5
  have k0 : zk_ok (zk_eD th E) N0 := zk_ok_ag ⟨fun q hq => h0.1 q (List.mem_append_right _ hq), fun f hf => h0.2.1 f (List.mem_append_right _ hf), fun g hg => h0.2.2 g (List.mem_append_right _ hg)⟩ hc (by rw [hn]; exact hag)
  refine ⟨⟨fun q hq => ?_, fun f hf => ?_, fun g hg => ?_⟩, hag⟩
  · rcases List.mem_append.mp hq with hq' | hq'
    · have a := List.all_eq_true.mp f1 q hq'
      simp only [Bool.or_eq_true, Bool.and_eq_true] at a
      rcases a with a | a
      · rw [zk_eD_I a]
        exact h0.1 q hq
      · have a1 := zk_n2_ok h a.1
        have a2 := zk_n2_ok h a.2
        rw [zk_vsub_i, zk_c_i] at a1 a2
        show q.2.1 ≤ zk_i E (zk_lkI th q.1) ∧ zk_i E (zk_lkI th q.1) ≤ q.2.2
        omega
    · exact k0.1 q hq'
  · rcases List.mem_append.mp hf with hf' | hf'
    · have a := List.all_eq_true.mp f2 f hf'
      simp only [Bool.or_eq_true] at a
      rcases a with a | a
      · rw [zk_nV_i a]
        exact h0.2.1 f hf
      · rw [← zk_ds_i]
        exact zk_n2_ok h a
    · exact k0.2.1 f hf'
  · rcases List.mem_append.mp hg with hg' | hg'
    · have a := List.all_eq_true.mp f3 g hg'
      simp only [Bool.or_eq_true, Bool.and_eq_true] at a
      rcases a with a | a
      · have e1 : g.2.1.map (zk_eD th E).2 = g.2.1.map E.2 := List.map_congr_left fun b hb => zk_eD_A (List.all_eq_true.mp a.1 b hb)
        have e2 : g.2.2.map (zk_i (zk_eD th E)) = g.2.2.map (zk_i E) := List.map_congr_left fun v hv => zk_nV_i (List.all_eq_true.mp a.2 v hv)
        rw [e1, e2]
        exact h0.2.2 g hg
      · exact zk_okD_of h a
    · exact k0.2.2 g hg'
def zk_dfL (N : zk_N) (th : zk_Th) (lc lh : List (Nat × zk_T)) : Bool := lh.all fun q => match zk_loc q.1 lc with
  | some t => zk_teD N th q.2 t
  | none => false
def zk_dfit (nb : Nat) (th : zk_Th) (z : zk_Z) (w : zk_New) (hh : List zk_C) (lh : List (Nat × zk_T)) (sh : List zk_T) : Bool :=
  zk_dfN nb th z.1 w && zk_ceDs z.1 th hh z.2.1 && zk_dfL z.1 th z.2.2.1 lh && zk_teDs z.1 th sh z.2.2.2
theorem zk_dfit_ok {dC : Nat → ClassId} {dI : Nat → Nat → Nat} {cl : List vw_C} {ad st : Nat → Nat} {cid : zk_CI} {ba : Nat} {ly : List (Nat × Nat)} {nL : Nat} {H0 : Heap} {E : zk_E} {H : Heap} {locs : List Loc} {ls : Array Slot} {stk : List Value} {nb : Nat} {th : zk_Th} {z : zk_Z} {w : zk_New} {hh : List zk_C} {lh : List (Nat × zk_T)} {sh : List zk_T} {N0 : zk_N}
    (h : zk_At dC dI cl ad st cid ba ly nL H0 E z H locs ls stk) (h0 : zk_ok E (zk_cat2 w N0)) (hcw : zk_cl (zk_cat2 w N0)) (hc : zk_cl N0) (hn : N0.1 = nb) (hf : zk_dfit nb th z w hh lh sh = true) (hfc : zk_fitC w hh lh sh = true) : zk_At dC dI cl ad st cid ba ly nL H0 (zk_eD th E) (zk_cat2 w N0, hh, lh, sh) H locs ls stk ∧ zk_ag nb E (zk_eD th E) := by
  unfold zk_dfit at hf
  unfold zk_fitC at hfc
  simp only [Bool.and_eq_true] at hf hfc
  obtain ⟨⟨⟨f1, f2⟩, f3⟩, f4⟩ := hf
  obtain ⟨⟨f5, f6⟩, f7⟩ := hfc
  obtain ⟨⟨a1, a2, a3, a4, a5, a6⟩, ⟨b1, b2, b3, b4⟩, hS⟩ := h
  obtain ⟨k1, k3⟩ := zk_dfN_ok a1 h0 hc hn f1
  obtain ⟨e1, e2⟩ := zk_ceDs_of a1 (E := E) (ad := ad) (st := st) (cid := cid) (k := 0) f2
  refine ⟨⟨⟨k1, hcw, fun c hcm => zk_csB_of (List.all_eq_true.mp f5 c hcm), zk_lay_map a4 e2, by rw [e1]; exact a5, by rw [e1]; exact a6⟩, ⟨fun q hq => zk_svB_of (List.all_eq_true.mp f6 q hq), fun t ht => zk_svB_of (List.all_eq_true.mp f7 t ht), ⟨b3.1, b3.2.1, fun q hq => ?_⟩, ?_⟩, hS⟩, k3⟩
  · obtain ⟨r, hr, rfl⟩ := List.mem_map.mp hq
    have g := List.all_eq_true.mp f3 r hr
    split at g
    · rename_i t ht
      rw [zk_teD_of a1 (E := E) (ad := ad) (st := st) g]
      exact zk_loc_at b3 ht
    · cases g
  · rw [b4, zk_teDs_of a1 f4]
/-- what changed -/
def zk_dtT : zk_Th → List zk_T → List zk_T → zk_Th
  | th, t :: l, t' :: l' => match zk_tid t t' with
    | true => zk_dtT th l l'
    | false => match t.2.2.1 with
      | [q] => match zk_eqv t.2.2 (zk_y q.1) with
        | true => zk_dtT ((q.1, t'.2.2) :: th.1, th.2) l l'
        | false => zk_dtT th l l'
      | _ => zk_dtT th l l'
  | th, _, _ => th
def zk_dtC : zk_Th → List zk_C → List zk_C → zk_Th
  | th, c :: l, c' :: l' => match zk_cid c c' with
    | true => zk_dtC th l l'
    | false => match Nat.beq c.1 0 with
      | true => zk_dtC (zk_dtT th c.2.2 c'.2.2) l l'
      | false => zk_dtC (th.1, (zk_hd c.2.2, zk_hd c'.2.2) :: th.2) l l'
  | th, _, _ => th
def zk_dtL : zk_Th → List (Nat × zk_T) → List (Nat × zk_T) → zk_Th
  | th, [], _ => th
  | th, q :: l, lc => match zk_loc q.1 lc with
    | some t => zk_dtL (zk_dtT th [q.2] [t]) l lc
    | none => zk_dtL th l lc
/-- what a row is known to hold -/
def zk_rdv (N : zk_N) (a : Nat) (i : zk_V) : List zk_G → Option zk_V
  | [] => none
  | g :: l => match Nat.beq g.1 1 with
    | true => match g.2 with
      | ([b], [j, v]) => match Nat.beq a b && zk_eqE N i j with
        | true => some v
        | false => zk_rdv N a i l
      | _ => zk_rdv N a i l
    | false => zk_rdv N a i l
/-- numbers that facts alone name: what they are now -/
def zk_dtG (N : zk_N) : zk_Th → List zk_G → zk_Th
  | th, [] => th
  | th, g :: l => match Nat.beq g.1 1 with
    | true => match g.2 with
      | ([a], [i, ([q], _)]) => match zk_nA th a && zk_nV th i with
        | true => zk_dtG N th l
        | false => match zk_rdv N (zk_lkA th a) (zk_ds th i) N.2.2.2 with
          | some v => match zk_eqv v (zk_y q.1) with
            | true => zk_dtG N th l
            | false => zk_dtG N ((q.1, v) :: th.1, th.2) l
          | none => zk_dtG N th l
      | _ => zk_dtG N th l
    | false => zk_dtG N th l
end
