noncomputable section
/-! ONE STATE WITHIN ANOTHER: symbols from nb on of the wider one stand for sums and rows of the narrower -/
noncomputable def zk_look {α : Type} (d : α) (l : List (Nat × α)) (s : Nat) : α := List.rec (motive := fun _ => α) d (fun q _ ih => Bool.rec (motive := fun _ => α) ih q.2 (Nat.beq q.1 s)) l
theorem zk_look_cons {α : Type} (d : α) (q : Nat × α) (l : List (Nat × α)) (s : Nat) : zk_look d (q :: l) s = (match Nat.beq q.1 s with | true => q.2 | false => zk_look d l s) := by
  show Bool.rec (motive := fun _ => α) (zk_look d l s) q.2 (Nat.beq q.1 s) = _
  cases Nat.beq q.1 s <;> rfl
abbrev zk_Th : Type := List (Nat × zk_V) × List (Nat × Nat)
def zk_sbI (nb : Nat) (th : zk_Th) (s : Nat) : zk_V := match Nat.blt s nb with
  | true => zk_y s
  | false => zk_look (zk_c 0) th.1 s
def zk_sbA (nb : Nat) (th : zk_Th) (a : Nat) : Nat := match Nat.blt a nb with
  | true => a
  | false => zk_look 0 th.2 a
def zk_sbl (nb : Nat) (th : zk_Th) (z : Int) : List (Nat × Int) → zk_V
  | [] => zk_c z
  | q :: l => zk_vadd (zk_vmul q.2 (zk_sbI nb th q.1)) (zk_sbl nb th z l)
def zk_sb (nb : Nat) (th : zk_Th) (v : zk_V) : zk_V := zk_sbl nb th v.2 v.1
def zk_eh (nb : Nat) (th : zk_Th) (E : zk_E) : zk_E := (fun s => zk_i E (zk_sbI nb th s), fun a => E.2 (zk_sbA nb th a))
theorem zk_eh_ag {nb : Nat} {th : zk_Th} {E : zk_E} : zk_ag nb E (zk_eh nb th E) := fun k hk => by
  have hb : Nat.blt k nb = true := Nat.blt_eq.mpr hk
  refine ⟨?_, ?_⟩
  · show zk_i E (zk_sbI nb th k) = E.1 k
    unfold zk_sbI
    rw [hb]
    exact zk_y_i E k
  · show E.2 (zk_sbA nb th k) = E.2 k
    unfold zk_sbA
    rw [hb]
theorem zk_sbl_i {nb : Nat} {th : zk_Th} {E : zk_E} {z : Int} : ∀ {l : List (Nat × Int)}, zk_i E (zk_sbl nb th z l) = zk_s (zk_eh nb th E) l + z
  | [] => by simp [zk_sbl, zk_c_i, zk_s]
  | q :: l => by
    simp only [zk_sbl, zk_s]
    rw [zk_vadd_i, zk_vmul_i, zk_sbl_i]
    show q.2 * zk_i E (zk_sbI nb th q.1) + _ = q.2 * (zk_eh nb th E).1 q.1 + _ + z
    have : (zk_eh nb th E).1 q.1 = zk_i E (zk_sbI nb th q.1) := rfl
    rw [this]
    omega
theorem zk_sb_i {nb : Nat} {th : zk_Th} {E : zk_E} {v : zk_V} : zk_i E (zk_sb nb th v) = zk_i (zk_eh nb th E) v := zk_sbl_i
def zk_svB (n : Nat) (v : zk_V) : Bool := v.1.all fun q => Nat.blt q.1 n
theorem zk_svB_of {n : Nat} {v : zk_V} (h : zk_svB n v = true) : zk_sv n v := fun q hq => Nat.blt_eq.mp (List.all_eq_true.mp h q hq)
def zk_isr (n : Nat) : Bool := Nat.beq n 3 || Nat.beq n 4
/-- t of the wider state is t' of the narrower -/
def zk_low (nb : Nat) (v : zk_V) : Bool := match v.1 with
  | [] => true
  | [q] => Nat.blt q.1 nb
  | _ => false
theorem zk_low_of {nb : Nat} {v : zk_V} (h : zk_low nb v = true) : zk_sv nb v := by
  unfold zk_low at h
  intro q hq
  split at h
  · rename_i e
    rw [e] at hq
    cases hq
  · rename_i r e
    rw [e] at hq
    rw [List.mem_singleton.mp hq]
    exact Nat.blt_eq.mp h
  · cases h
def zk_teq (nb : Nat) (th : zk_Th) (t t' : zk_T) : Bool := Nat.beq t.1 t'.1 && (Nat.beq t.2.1 t'.2.1 || !(zk_isr t.1)) && ((zk_low nb t.2.2 && zk_eqv t.2.2 t'.2.2) || zk_eqv (zk_sb nb th t.2.2) t'.2.2 || zk_isr t.1 || Nat.beq t.1 2)
theorem zk_teq_of {nb : Nat} {th : zk_Th} {E : zk_E} {ad st : Nat → Nat} {t t' : zk_T} (h : zk_teq nb th t t' = true) : zk_v (zk_eh nb th E) ad st t = zk_v E ad st t' := by
  unfold zk_teq at h
  simp only [Bool.and_eq_true, Bool.or_eq_true] at h
  obtain ⟨⟨h1, h2⟩, h3⟩ := h
  have h1 := Nat.eq_of_beq_eq_true h1
  have key : zk_isr t.1 = false → Nat.beq t.1 2 = false → zk_i (zk_eh nb th E) t.2.2 = zk_i E t'.2.2 := by
    intro a b
    rcases h3 with ((h3 | h3) | h3) | h3
    · rw [← zk_eqv_of h3.2]
      exact zk_i_ag zk_eh_ag (zk_low_of h3.1)
    · rw [← zk_sb_i, zk_eqv_of h3]
    · rw [a] at h3; cases h3
    · rw [b] at h3; cases h3
  have key2 : zk_isr t.1 = true → t.2.1 = t'.2.1 := by
    intro a
    rcases h2 with h2 | h2
    · exact Nat.eq_of_beq_eq_true h2
    · rw [a] at h2; cases h2
  unfold zk_v
  rw [← h1]
  split
  · rename_i e; rw [key (by rw [e]; rfl) (by rw [e]; rfl)]
  · rename_i e; rw [key (by rw [e]; rfl) (by rw [e]; rfl)]
  · rename_i e; rw [key2 (by rw [e]; rfl)]
  · rename_i e; rw [key2 (by rw [e]; rfl)]
  · rfl
def zk_teqs (nb : Nat) (th : zk_Th) : List zk_T → List zk_T → Bool
  | [], [] => true
  | t :: l, t' :: l' => zk_teq nb th t t' && zk_teqs nb th l l'
  | _, _ => false
theorem zk_teqs_of {nb : Nat} {th : zk_Th} {E : zk_E} {ad st : Nat → Nat} : ∀ {l l' : List zk_T}, zk_teqs nb th l l' = true → l.map (zk_v (zk_eh nb th E) ad st) = l'.map (zk_v E ad st)
  | [], [], _ => rfl
  | t :: l, t' :: l', h => by
    unfold zk_teqs at h
    simp only [Bool.and_eq_true] at h
    rw [List.map_cons, List.map_cons, zk_teq_of h.1, zk_teqs_of h.2]
  | [], _ :: _, h => by cases h
  | _ :: _, [], h => by cases h
def zk_ceq (nb : Nat) (th : zk_Th) (c c' : zk_C) : Bool := Nat.beq c.1 c'.1 && Nat.beq c.2.1 c'.2.1 && (match c.1 with
  | 0 => zk_teqs nb th c.2.2 c'.2.2
  | 5 => zk_teqs nb th c.2.2 c'.2.2
  | 9 => true
  | _ => Nat.beq (zk_sbA nb th (zk_hd c.2.2)) (zk_hd c'.2.2))
theorem zk_rq_of {nb : Nat} {th : zk_Th} {ad : Nat → Nat} {t t' : zk_T} (h : zk_teq nb th t t' = true) : zk_rq ad t = zk_rq ad t' := by
  unfold zk_teq at h
  simp only [Bool.and_eq_true, Bool.or_eq_true] at h
  obtain ⟨⟨h1, h2⟩, -⟩ := h
  have h1 := Nat.eq_of_beq_eq_true h1
  unfold zk_rq
  rw [← h1]
  split
  · rename_i e
    rcases h2 with h2 | h2
    · rw [Nat.eq_of_beq_eq_true h2]
    · rw [e] at h2; cases h2
  · rfl
theorem zk_rqs_of {nb : Nat} {th : zk_Th} {ad : Nat → Nat} {d : zk_T} : ∀ {l l' : List zk_T}, zk_teqs nb th l l' = true → ∀ j : Nat, zk_rq ad (l.getD j d) = zk_rq ad (l'.getD j d)
  | [], [], _, _ => rfl
  | t :: l, t' :: l', h, j => by
    unfold zk_teqs at h
    simp only [Bool.and_eq_true] at h
    cases j with
    | zero => simpa using zk_rq_of h.1
    | succ j => simpa using zk_rqs_of h.2 j
  | [], _ :: _, h, _ => by cases h
  | _ :: _, [], h, _ => by cases h
theorem zk_ceq_of {nb : Nat} {th : zk_Th} {E : zk_E} {ad st : Nat → Nat} {cid : zk_CI} {k : Nat} {c c' : zk_C} (h : zk_ceq nb th c c' = true) : zk_ce (zk_eh nb th E) ad st cid k c = zk_ce E ad st cid k c' ∧ (c.1, c.2.1) = (c'.1, c'.2.1) := by
  unfold zk_ceq at h
  simp only [Bool.and_eq_true] at h
  obtain ⟨⟨h1, h2⟩, h3⟩ := h
  have h1 := Nat.eq_of_beq_eq_true h1
  have h2 := Nat.eq_of_beq_eq_true h2
  refine ⟨?_, by rw [h1, h2]⟩
  unfold zk_ce
  rw [← h1, ← h2]
  split
  · rename_i e
    rw [e] at h3
    rw [zk_teqs_of h3]
  · rename_i e
    rw [e] at h3
    have h3 := Nat.eq_of_beq_eq_true h3
    show _ = Sum.inl (cid.1 k, c.2.1, Sum.inr (Sum.inl fun j => Int64.ofInt (E.2 (zk_hd c'.2.2) j)))
    rw [← h3]
    rfl
  · rename_i e
    rw [e] at h3
    have := zk_rqs_of (ad := ad) (d := (2, 0, [], 0)) h3
    rw [funext this]
  · rfl
  · rename_i e1 e2 e3 e4
    split at h3
    · rename_i e; exact absurd e e1
    · rename_i e; exact absurd e e3
    · rename_i e; exact absurd e e4
    · have h3 := Nat.eq_of_beq_eq_true h3
      show _ = Sum.inl (cid.1 k, c.2.1, Sum.inl fun j => Int32.ofInt (E.2 (zk_hd c'.2.2) j))
      rw [← h3]
      rfl
/-! the same cell in both: told by closed terms, which the kernel keeps -/
def zk_tid (t t' : zk_T) : Bool := Nat.beq t.1 t'.1 && Nat.beq t.2.1 t'.2.1 && zk_eqv t.2.2 t'.2.2
theorem zk_tid_of {t t' : zk_T} (h : zk_tid t t' = true) : t = t' := by
  unfold zk_tid at h
  simp only [Bool.and_eq_true] at h
  obtain ⟨a, b, c⟩ := t
  obtain ⟨a', b', c'⟩ := t'
  have e1 := Nat.eq_of_beq_eq_true h.1.1
  have e2 := Nat.eq_of_beq_eq_true h.1.2
  have e3 := zk_eqv_of h.2
  simp only at e1 e2 e3
  rw [e1, e2, e3]
def zk_tids : List zk_T → List zk_T → Bool
  | [], [] => true
  | t :: l, t' :: l' => zk_tid t t' && zk_tids l l'
  | _, _ => false
theorem zk_tids_of : ∀ {l l' : List zk_T}, zk_tids l l' = true → l = l'
  | [], [], _ => rfl
  | t :: l, t' :: l', h => by
    unfold zk_tids at h
    simp only [Bool.and_eq_true] at h
    rw [zk_tid_of h.1, zk_tids_of h.2]
  | [], _ :: _, h => by cases h
  | _ :: _, [], h => by cases h
def zk_cid (c c' : zk_C) : Bool := Nat.beq c.1 c'.1 && Nat.beq c.2.1 c'.2.1 && zk_tids c.2.2 c'.2.2
theorem zk_cid_of {c c' : zk_C} (h : zk_cid c c' = true) : c = c' := by
  unfold zk_cid at h
  simp only [Bool.and_eq_true] at h
  obtain ⟨a, b, l⟩ := c
  obtain ⟨a', b', l'⟩ := c'
  have e1 := Nat.eq_of_beq_eq_true h.1.1
  have e2 := Nat.eq_of_beq_eq_true h.1.2
  have e3 := zk_tids_of h.2
  simp only at e1 e2 e3
  rw [e1, e2, e3]
def zk_mxN (a b : Nat) : Nat := match Nat.ble a b with
  | true => b
  | false => a
theorem zk_mxN_le {a b n : Nat} (h : zk_mxN a b ≤ n) : a ≤ n ∧ b ≤ n := by
  unfold zk_mxN at h
  split at h
  · rename_i g
    have := Nat.ble_eq.mp g
    omega
  · rename_i g
    have : ¬ a ≤ b := fun q => by rw [Nat.ble_eq.mpr q] at g; cases g
    omega
def zk_vmx : List (Nat × Int) → Nat
  | [] => 0
  | q :: l => zk_mxN (q.1 + 1) (zk_vmx l)
theorem zk_vmx_of {n : Nat} : ∀ {l : List (Nat × Int)}, zk_vmx l ≤ n → ∀ q ∈ l, q.1 < n
  | [], _, q, hq => by cases hq
  | r :: l, h, q, hq => by
    unfold zk_vmx at h
    obtain ⟨h1, h2⟩ := zk_mxN_le h
    rcases List.mem_cons.mp hq with rfl | hq
    · omega
    · exact zk_vmx_of h2 q hq
def zk_tmx : List zk_T → Nat
  | [] => 0
  | t :: l => zk_mxN (zk_vmx t.2.2.1) (zk_tmx l)
theorem zk_tmx_of {n : Nat} : ∀ {l : List zk_T}, zk_tmx l ≤ n → ∀ t ∈ l, zk_tv n t
  | [], _, t, ht => by cases ht
  | r :: l, h, t, ht => by
    unfold zk_tmx at h
    obtain ⟨h1, h2⟩ := zk_mxN_le h
    rcases List.mem_cons.mp ht with rfl | ht
    · exact fun q hq => zk_vmx_of h1 q hq
    · exact zk_tmx_of h2 t ht
def zk_cmx (c : zk_C) : Nat := zk_mxN (zk_hd c.2.2 + 1) (zk_tmx c.2.2)
theorem zk_cmx_of {n : Nat} {c : zk_C} (h : zk_cmx c ≤ n) : zk_cs n c := by
  obtain ⟨h1, h2⟩ := zk_mxN_le h
  exact ⟨fun t ht => zk_tmx_of h2 t ht, fun _ _ _ => by omega⟩
def zk_ceqs (nb : Nat) (th : zk_Th) : List zk_C → List zk_C → Bool
  | [], [] => true
  | c :: l, c' :: l' => ((zk_cid c c' && Nat.ble (zk_cmx c) nb) || zk_ceq nb th c c') && zk_ceqs nb th l l'
  | _, _ => false
theorem zk_ceqs_of {nb : Nat} {th : zk_Th} {E : zk_E} {ad st : Nat → Nat} {cid : zk_CI} : ∀ {l l' : List zk_C} {k : Nat}, zk_ceqs nb th l l' = true → zk_ws (zk_eh nb th E) ad st cid k l = zk_ws E ad st cid k l' ∧ l.map (fun c => (c.1, c.2.1)) = l'.map (fun c => (c.1, c.2.1))
  | [], [], _, _ => ⟨rfl, rfl⟩
  | c :: l, c' :: l', k, h => by
    unfold zk_ceqs at h
    simp only [Bool.and_eq_true, Bool.or_eq_true] at h
    have h12 : zk_ce (zk_eh nb th E) ad st cid k c = zk_ce E ad st cid k c' ∧ (c.1, c.2.1) = (c'.1, c'.2.1) := by
      rcases h.1 with g | g
      · have e := zk_cid_of g.1
        subst e
        exact ⟨zk_ce_ag zk_eh_ag (zk_cmx_of (Nat.ble_eq.mp g.2)), rfl⟩
      · exact zk_ceq_of (E := E) (ad := ad) (st := st) (cid := cid) (k := k) g
    obtain ⟨h1, h2⟩ := h12
    obtain ⟨h3, h4⟩ := zk_ceqs_of (E := E) (ad := ad) (st := st) (cid := cid) (k := k + 1) h.2
    exact ⟨by unfold zk_ws; rw [h1, h3], by rw [List.map_cons, List.map_cons, h2, h4]⟩
  | [], _ :: _, _, h => by cases h
  | _ :: _, [], _, h => by cases h
/-- a wider state's news: its next symbol, bounds, sums, facts beyond those of N0 -/
abbrev zk_New : Type := Nat × zk_B × List zk_V × List zk_G
def zk_cat2 (w : zk_New) (N0 : zk_N) : zk_N := (w.1, w.2.1 ++ N0.2.1, w.2.2.1 ++ N0.2.2.1, w.2.2.2 ++ N0.2.2.2)
/-- the same fact -/
def zk_eqNs : List Nat → List Nat → Bool
  | [], [] => true
  | a :: l, b :: r => Nat.beq a b && zk_eqNs l r
  | _, _ => false
theorem zk_eqNs_of : ∀ {l r : List Nat}, zk_eqNs l r = true → l = r
  | [], [], _ => rfl
  | a :: l, b :: r, h => by
    unfold zk_eqNs at h
    simp only [Bool.and_eq_true] at h
    rw [Nat.eq_of_beq_eq_true h.1, zk_eqNs_of h.2]
  | [], _ :: _, h => by cases h
  | _ :: _, [], h => by cases h
def zk_eqVs : List zk_V → List zk_V → Bool
  | [], [] => true
  | a :: l, b :: r => zk_eqv a b && zk_eqVs l r
  | _, _ => false
theorem zk_eqVs_of : ∀ {l r : List zk_V}, zk_eqVs l r = true → l = r
  | [], [], _ => rfl
  | a :: l, b :: r, h => by
    unfold zk_eqVs at h
    simp only [Bool.and_eq_true] at h
    rw [zk_eqv_of h.1, zk_eqVs_of h.2]
  | [], _ :: _, h => by cases h
  | _ :: _, [], h => by cases h
def zk_eqG (g g' : zk_G) : Bool := Nat.beq g.1 g'.1 && zk_eqNs g.2.1 g'.2.1 && zk_eqVs g.2.2 g'.2.2
theorem zk_eqG_of {g g' : zk_G} (h : zk_eqG g g' = true) : g = g' := by
  unfold zk_eqG at h
  simp only [Bool.and_eq_true] at h
  exact Prod.ext (Nat.eq_of_beq_eq_true h.1.1) (Prod.ext (zk_eqNs_of h.1.2) (zk_eqVs_of h.2))
/-- the same fact, as far as numbers are known to be the same -/
def zk_eqE (N : zk_N) (a b : zk_V) : Bool := zk_eqv a b || (zk_n2 N (zk_vsub a b) && zk_n2 N (zk_vsub b a))
theorem zk_eqE_of {E : zk_E} {N : zk_N} (h : zk_ok E N) {a b : zk_V} (he : zk_eqE N a b = true) : zk_i E a = zk_i E b := by
  unfold zk_eqE at he
  simp only [Bool.or_eq_true, Bool.and_eq_true] at he
  rcases he with he | he
  · rw [zk_eqv_of he]
  · have h1 := zk_n2_ok h he.1
    have h2 := zk_n2_ok h he.2
    rw [zk_vsub_i] at h1 h2
    omega
def zk_eqEs (N : zk_N) : List zk_V → List zk_V → Bool
  | [], [] => true
  | a :: l, b :: r => zk_eqE N a b && zk_eqEs N l r
  | _, _ => false
theorem zk_eqEs_of {E : zk_E} {N : zk_N} (h : zk_ok E N) : ∀ {l r : List zk_V}, zk_eqEs N l r = true → l.map (zk_i E) = r.map (zk_i E)
  | [], [], _ => rfl
  | a :: l, b :: r, he => by
    unfold zk_eqEs at he
    simp only [Bool.and_eq_true] at he
    rw [List.map_cons, List.map_cons, zk_eqE_of h he.1, zk_eqEs_of h he.2]
  | [], _ :: _, he => by cases he
  | _ :: _, [], he => by cases he
def zk_eqGE (N : zk_N) (g g' : zk_G) : Bool := Nat.beq g.1 g'.1 && zk_eqNs g.2.1 g'.2.1 && zk_eqEs N g.2.2 g'.2.2
/-- a fact of the wider state told in the narrower one's symbols -/
def zk_mG (nb : Nat) (th : zk_Th) (g : zk_G) : zk_G := (g.1, g.2.1.map (zk_sbA nb th), g.2.2.map (zk_sb nb th))
end
