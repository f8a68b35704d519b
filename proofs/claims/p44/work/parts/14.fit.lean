/-! ONE STATE WITHIN ANOTHER: symbols from nb on of the wider one stand for sums and rows of the narrower -/
def zk_look {α : Type} (d : α) : List (Nat × α) → Nat → α
  | [], _ => d
  | q :: l, s => match Nat.beq q.1 s with
    | true => q.2
    | false => zk_look d l s
abbrev zk_Th : Type := List (Nat × zk_V) × List (Nat × Nat)
def zk_sbI (nb : Nat) (th : zk_Th) (s : Nat) : zk_V := match Nat.blt s nb with
  | true => zk_y s
  | false => zk_look (zk_c 0) th.1 s
def zk_sbA (nb : Nat) (th : zk_Th) (a : Nat) : Nat := match Nat.blt a nb with
  | true => a
  | false => zk_look 0 th.2 a
def zk_sbl (nb : Nat) (th : zk_Th) (z : Int) : List (Nat × Int) → zk_V
  | [] => zk_c z
  | q :: l => zk_vadd (zk_vmul q.2 (zk_sbI nb th q.1)) (zk_sbl nb th z l)
def zk_sb (nb : Nat) (th : zk_Th) (v : zk_V) : zk_V := zk_sbl nb th v.2 v.1
def zk_eh (nb : Nat) (th : zk_Th) (E : zk_E) : zk_E := (fun s => zk_i E (zk_sbI nb th s), fun a => E.2 (zk_sbA nb th a))
theorem zk_eh_ag {nb : Nat} {th : zk_Th} {E : zk_E} : zk_ag nb E (zk_eh nb th E) := fun k hk => by
  have hb : Nat.blt k nb = true := Nat.blt_eq.mpr hk
  refine ⟨?_, ?_⟩
  · show zk_i E (zk_sbI nb th k) = E.1 k
    unfold zk_sbI
    rw [hb]
    exact zk_y_i E k
  · show E.2 (zk_sbA nb th k) = E.2 k
    unfold zk_sbA
    rw [hb]
theorem zk_sbl_i {nb : Nat} {th : zk_Th} {E : zk_E} {z : Int} : ∀ {l : List (Nat × Int)}, zk_i E (zk_sbl nb th z l) = zk_s (zk_eh nb th E) l + z
  | [] => by simp [zk_sbl, zk_c_i, zk_s]
  | q :: l => by
    simp only [zk_sbl, zk_s]
    rw [zk_vadd_i, zk_vmul_i, zk_sbl_i]
    show q.2 * zk_i E (zk_sbI nb th q.1) + _ = q.2 * (zk_eh nb th E).1 q.1 + _ + z
    have : (zk_eh nb th E).1 q.1 = zk_i E (zk_sbI nb th q.1) := rfl
    rw [this]
    omega
theorem zk_sb_i {nb : Nat} {th : zk_Th} {E : zk_E} {v : zk_V} : zk_i E (zk_sb nb th v) = zk_i (zk_eh nb th E) v := zk_sbl_i
def zk_svB (n : Nat) (v : zk_V) : Bool := v.1.all fun q => Nat.blt q.1 n
theorem zk_svB_of {n : Nat} {v : zk_V} (h : zk_svB n v = true) : zk_sv n v := fun q hq => Nat.blt_eq.mp (List.all_eq_true.mp h q hq)
def zk_isr (n : Nat) : Bool := Nat.beq n 3 || Nat.beq n 4
/-- t of the wider state is t' of the narrower -/
def zk_low (nb : Nat) (v : zk_V) : Bool := match v.1 with
  | [] => true
  | [q] => Nat.blt q.1 nb
  | _ => false
theorem zk_low_of {nb : Nat} {v : zk_V} (h : zk_low nb v = true) : zk_sv nb v := by
  unfold zk_low at h
  intro q hq
  split at h
  · rename_i e
    rw [e] at hq
    cases hq
  · rename_i r e
    rw [e] at hq
    rw [List.mem_singleton.mp hq]
    exact Nat.blt_eq.mp h
  · cases h
def zk_teq (nb : Nat) (th : zk_Th) (t t' : zk_T) : Bool := Nat.beq t.1 t'.1 && (Nat.beq t.2.1 t'.2.1 || !(zk_isr t.1)) && ((zk_low nb t.2.2 && zk_eqv t.2.2 t'.2.2) || zk_eqv (zk_sb nb th t.2.2) t'.2.2 || zk_isr t.1 || Nat.beq t.1 2)
theorem zk_teq_of {nb : Nat} {th : zk_Th} {E : zk_E} {ad st : Nat → Nat} {t t' : zk_T} (h : zk_teq nb th t t' = true) : zk_v (zk_eh nb th E) ad st t = zk_v E ad st t' := by
  unfold zk_teq at h
  simp only [Bool.and_eq_true, Bool.or_eq_true] at h
  obtain ⟨⟨h1, h2⟩, h3⟩ := h
  have h1 := Nat.eq_of_beq_eq_true h1
  have key : zk_isr t.1 = false → Nat.beq t.1 2 = false → zk_i (zk_eh nb th E) t.2.2 = zk_i E t'.2.2 := by
    intro a b
    rcases h3 with ((h3 | h3) | h3) | h3
    · rw [← zk_eqv_of h3.2]
      exact zk_i_ag zk_eh_ag (zk_low_of h3.1)
    · rw [← zk_sb_i, zk_eqv_of h3]
    · rw [a] at h3; cases h3
    · rw [b] at h3; cases h3
  have key2 : zk_isr t.1 = true → t.2.1 = t'.2.1 := by
    intro a
    rcases h2 with h2 | h2
    · exact Nat.eq_of_beq_eq_true h2
    · rw [a] at h2; cases h2
  unfold zk_v
  rw [← h1]
  split
  · rename_i e; rw [key (by rw [e]; rfl) (by rw [e]; rfl)]
  · rename_i e; rw [key (by rw [e]; rfl) (by rw [e]; rfl)]
  · rename_i e; rw [key2 (by rw [e]; rfl)]
  · rename_i e; rw [key2 (by rw [e]; rfl)]
  · rfl
def zk_teqs (nb : Nat) (th : zk_Th) : List zk_T → List zk_T → Bool
  | [], [] => true
  | t :: l, t' :: l' => zk_teq nb th t t' && zk_teqs nb th l l'
  | _, _ => false
theorem zk_teqs_of {nb : Nat} {th : zk_Th} {E : zk_E} {ad st : Nat → Nat} : ∀ {l l' : List zk_T}, zk_teqs nb th l l' = true → l.map (zk_v (zk_eh nb th E) ad st) = l'.map (zk_v E ad st)
  | [], [], _ => rfl
  | t :: l, t' :: l', h => by
    unfold zk_teqs at h
    simp only [Bool.and_eq_true] at h
    rw [List.map_cons, List.map_cons, zk_teq_of h.1, zk_teqs_of h.2]
  | [], _ :: _, h => by cases h
  | _ :: _, [], h => by cases h
def zk_ceq (nb : Nat) (th : zk_Th) (c c' : zk_C) : Bool := Nat.beq c.1 c'.1 && Nat.beq c.2.1 c'.2.1 && (match c.1 with
  | 0 => zk_teqs nb th c.2.2 c'.2.2
  | 5 => zk_teqs nb th c.2.2 c'.2.2
  | 9 => true
  | _ => Nat.beq (zk_sbA nb th (zk_hd c.2.2)) (zk_hd c'.2.2))
theorem zk_rq_of {nb : Nat} {th : zk_Th} {ad : Nat → Nat} {t t' : zk_T} (h : zk_teq nb th t t' = true) : zk_rq ad t = zk_rq ad t' := by
  unfold zk_teq at h
  simp only [Bool.and_eq_true, Bool.or_eq_true] at h
  obtain ⟨⟨h1, h2⟩, -⟩ := h
  have h1 := Nat.eq_of_beq_eq_true h1
  unfold zk_rq
  rw [← h1]
  split
  · rename_i e
    rcases h2 with h2 | h2
    · rw [Nat.eq_of_beq_eq_true h2]
    · rw [e] at h2; cases h2
  · rfl
theorem zk_rqs_of {nb : Nat} {th : zk_Th} {ad : Nat → Nat} {d : zk_T} : ∀ {l l' : List zk_T}, zk_teqs nb th l l' = true → ∀ j : Nat, zk_rq ad (l.getD j d) = zk_rq ad (l'.getD j d)
  | [], [], _, _ => rfl
  | t :: l, t' :: l', h, j => by
    unfold zk_teqs at h
    simp only [Bool.and_eq_true] at h
    cases j with
    | zero => simpa using zk_rq_of h.1
    | succ j => simpa using zk_rqs_of h.2 j
  | [], _ :: _, h, _ => by cases h
  | _ :: _, [], h, _ => by cases h
theorem zk_ceq_of {nb : Nat} {th : zk_Th} {E : zk_E} {ad st : Nat → Nat} {cid : zk_CI} {k : Nat} {c c' : zk_C} (h : zk_ceq nb th c c' = true) : zk_ce (zk_eh nb th E) ad st cid k c = zk_ce E ad st cid k c' ∧ (c.1, c.2.1) = (c'.1, c'.2.1) := by
  unfold zk_ceq at h
  simp only [Bool.and_eq_true] at h
  obtain ⟨⟨h1, h2⟩, h3⟩ := h
  have h1 := Nat.eq_of_beq_eq_true h1
  have h2 := Nat.eq_of_beq_eq_true h2
  refine ⟨?_, by rw [h1, h2]⟩
  unfold zk_ce
  rw [← h1, ← h2]
  split
  · rename_i e
    rw [e] at h3
    rw [zk_teqs_of h3]
  · rename_i e
    rw [e] at h3
    have h3 := Nat.eq_of_beq_eq_true h3
    show _ = Sum.inl (cid.1 k, c.2.1, Sum.inr (Sum.inl fun j => Int64.ofInt (E.2 (zk_hd c'.2.2) j)))
    rw [← h3]
    rfl
  · rename_i e
    rw [e] at h3
    have := zk_rqs_of (ad := ad) (d := (2, 0, [], 0)) h3
    rw [funext this]
  · rfl
  · rename_i e1 e2 e3 e4
    split at h3
    · rename_i e; exact absurd e e1
    · rename_i e; exact absurd e e3
    · rename_i e; exact absurd e e4
    · have h3 := Nat.eq_of_beq_eq_true h3
      show _ = Sum.inl (cid.1 k, c.2.1, Sum.inl fun j => Int32.ofInt (E.2 (zk_hd c'.2.2) j))
      rw [← h3]
      rfl
/-! the same cell in both: told by closed terms, which the kernel keeps -/
def zk_tid (t t' : zk_T) : Bool := Nat.beq t.1 t'.1 && Nat.beq t.2.1 t'.2.1 && zk_eqv t.2.2 t'.2.2
theorem zk_tid_of {t t' : zk_T} (h : zk_tid t t' = true) : t = t' := by
  unfold zk_tid at h
  simp only [Bool.and_eq_true] at h
  obtain ⟨a, b, c⟩ := t
  obtain ⟨a', b', c'⟩ := t'
  have e1 := Nat.eq_of_beq_eq_true h.1.1
  have e2 := Nat.eq_of_beq_eq_true h.1.2
  have e3 := zk_eqv_of h.2
  simp only at e1 e2 e3
  rw [e1, e2, e3]
def zk_tids : List zk_T → List zk_T → Bool
  | [], [] => true
  | t :: l, t' :: l' => zk_tid t t' && zk_tids l l'
  | _, _ => false
theorem zk_tids_of : ∀ {l l' : List zk_T}, zk_tids l l' = true → l = l'
  | [], [], _ => rfl
  | t :: l, t' :: l', h => by
    unfold zk_tids at h
    simp only [Bool.and_eq_true] at h
    rw [zk_tid_of h.1, zk_tids_of h.2]
  | [], _ :: _, h => by cases h
  | _ :: _, [], h => by cases h
def zk_cid (c c' : zk_C) : Bool := Nat.beq c.1 c'.1 && Nat.beq c.2.1 c'.2.1 && zk_tids c.2.2 c'.2.2
theorem zk_cid_of {c c' : zk_C} (h : zk_cid c c' = true) : c = c' := by
  unfold zk_cid at h
  simp only [Bool.and_eq_true] at h
  obtain ⟨a, b, l⟩ := c
  obtain ⟨a', b', l'⟩ := c'
  have e1 := Nat.eq_of_beq_eq_true h.1.1
  have e2 := Nat.eq_of_beq_eq_true h.1.2
  have e3 := zk_tids_of h.2
  simp only at e1 e2 e3
  rw [e1, e2, e3]
def zk_mxN (a b : Nat) : Nat := match Nat.ble a b with
  | true => b
  | false => a
theorem zk_mxN_le {a b n : Nat} (h : zk_mxN a b ≤ n) : a ≤ n ∧ b ≤ n := by
  unfold zk_mxN at h
  split at h
  · rename_i g
    have := Nat.ble_eq.mp g
    omega
  · rename_i g
    have : ¬ a ≤ b := fun q => by rw [Nat.ble_eq.mpr q] at g; cases g
    omega
def zk_vmx : List (Nat × Int) → Nat
  | [] => 0
  | q :: l => zk_mxN (q.1 + 1) (zk_vmx l)
theorem zk_vmx_of {n : Nat} : ∀ {l : List (Nat × Int)}, zk_vmx l ≤ n → ∀ q ∈ l, q.1 < n
  | [], _, q, hq => by cases hq
  | r :: l, h, q, hq => by
    unfold zk_vmx at h
    obtain ⟨h1, h2⟩ := zk_mxN_le h
    rcases List.mem_cons.mp hq with rfl | hq
    · omega
    · exact zk_vmx_of h2 q hq
def zk_tmx : List zk_T → Nat
  | [] => 0
  | t :: l => zk_mxN (zk_vmx t.2.2.1) (zk_tmx l)
theorem zk_tmx_of {n : Nat} : ∀ {l : List zk_T}, zk_tmx l ≤ n → ∀ t ∈ l, zk_tv n t
  | [], _, t, ht => by cases ht
  | r :: l, h, t, ht => by
    unfold zk_tmx at h
    obtain ⟨h1, h2⟩ := zk_mxN_le h
    rcases List.mem_cons.mp ht with rfl | ht
    · exact fun q hq => zk_vmx_of h1 q hq
    · exact zk_tmx_of h2 t ht
def zk_cmx (c : zk_C) : Nat := zk_mxN (zk_hd c.2.2 + 1) (zk_tmx c.2.2)
theorem zk_cmx_of {n : Nat} {c : zk_C} (h : zk_cmx c ≤ n) : zk_cs n c := by
  obtain ⟨h1, h2⟩ := zk_mxN_le h
  exact ⟨fun t ht => zk_tmx_of h2 t ht, fun _ _ _ => by omega⟩
def zk_ceqs (nb : Nat) (th : zk_Th) : List zk_C → List zk_C → Bool
  | [], [] => true
  | c :: l, c' :: l' => ((zk_cid c c' && Nat.ble (zk_cmx c) nb) || zk_ceq nb th c c') && zk_ceqs nb th l l'
  | _, _ => false
theorem zk_ceqs_of {nb : Nat} {th : zk_Th} {E : zk_E} {ad st : Nat → Nat} {cid : zk_CI} : ∀ {l l' : List zk_C} {k : Nat}, zk_ceqs nb th l l' = true → zk_ws (zk_eh nb th E) ad st cid k l = zk_ws E ad st cid k l' ∧ l.map (fun c => (c.1, c.2.1)) = l'.map (fun c => (c.1, c.2.1))
  | [], [], _, _ => ⟨rfl, rfl⟩
  | c :: l, c' :: l', k, h => by
    unfold zk_ceqs at h
    simp only [Bool.and_eq_true, Bool.or_eq_true] at h
    have h12 : zk_ce (zk_eh nb th E) ad st cid k c = zk_ce E ad st cid k c' ∧ (c.1, c.2.1) = (c'.1, c'.2.1) := by
      rcases h.1 with g | g
      · have e := zk_cid_of g.1
        subst e
        exact ⟨zk_ce_ag zk_eh_ag (zk_cmx_of (Nat.ble_eq.mp g.2)), rfl⟩
      · exact zk_ceq_of (E := E) (ad := ad) (st := st) (cid := cid) (k := k) g
    obtain ⟨h1, h2⟩ := h12
    obtain ⟨h3, h4⟩ := zk_ceqs_of (E := E) (ad := ad) (st := st) (cid := cid) (k := k + 1) h.2
    exact ⟨by unfold zk_ws; rw [h1, h3], by rw [List.map_cons, List.map_cons, h2, h4]⟩
  | [], _ :: _, _, h => by cases h
  | _ :: _, [], _, h => by cases h
/-- a wider state's news: its next symbol, bounds, sums, facts beyond those of N0 -/
abbrev zk_New : Type := Nat × zk_B × List zk_V × List zk_G
def zk_cat2 (w : zk_New) (N0 : zk_N) : zk_N := (w.1, w.2.1 ++ N0.2.1, w.2.2.1 ++ N0.2.2.1, w.2.2.2 ++ N0.2.2.2)
/-- the same fact -/
def zk_eqNs : List Nat → List Nat → Bool
  | [], [] => true
  | a :: l, b :: r => Nat.beq a b && zk_eqNs l r
  | _, _ => false
theorem zk_eqNs_of : ∀ {l r : List Nat}, zk_eqNs l r = true → l = r
  | [], [], _ => rfl
  | a :: l, b :: r, h => by
    unfold zk_eqNs at h
    simp only [Bool.and_eq_true] at h
    rw [Nat.eq_of_beq_eq_true h.1, zk_eqNs_of h.2]
  | [], _ :: _, h => by cases h
  | _ :: _, [], h => by cases h
def zk_eqVs : List zk_V → List zk_V → Bool
  | [], [] => true
  | a :: l, b :: r => zk_eqv a b && zk_eqVs l r
  | _, _ => false
theorem zk_eqVs_of : ∀ {l r : List zk_V}, zk_eqVs l r = true → l = r
  | [], [], _ => rfl
  | a :: l, b :: r, h => by
    unfold zk_eqVs at h
    simp only [Bool.and_eq_true] at h
    rw [zk_eqv_of h.1, zk_eqVs_of h.2]
  | [], _ :: _, h => by cases h
  | _ :: _, [], h => by cases h
def zk_eqG (g g' : zk_G) : Bool := Nat.beq g.1 g'.1 && zk_eqNs g.2.1 g'.2.1 && zk_eqVs g.2.2 g'.2.2
theorem zk_eqG_of {g g' : zk_G} (h : zk_eqG g g' = true) : g = g' := by
  unfold zk_eqG at h
  simp only [Bool.and_eq_true] at h
  exact Prod.ext (Nat.eq_of_beq_eq_true h.1.1) (Prod.ext (zk_eqNs_of h.1.2) (zk_eqVs_of h.2))
/-- the same fact, as far as numbers are known to be the same -/
def zk_eqE (N : zk_N) (a b : zk_V) : Bool := zk_eqv a b || (zk_n2 N (zk_vsub a b) && zk_n2 N (zk_vsub b a))
theorem zk_eqE_of {E : zk_E} {N : zk_N} (h : zk_ok E N) {a b : zk_V} (he : zk_eqE N a b = true) : zk_i E a = zk_i E b := by
  unfold zk_eqE at he
  simp only [Bool.or_eq_true, Bool.and_eq_true] at he
  rcases he with he | he
  · rw [zk_eqv_of he]
  · have h1 := zk_n2_ok h he.1
    have h2 := zk_n2_ok h he.2
    rw [zk_vsub_i] at h1 h2
    omega
def zk_eqEs (N : zk_N) : List zk_V → List zk_V → Bool
  | [], [] => true
  | a :: l, b :: r => zk_eqE N a b && zk_eqEs N l r
  | _, _ => false
theorem zk_eqEs_of {E : zk_E} {N : zk_N} (h : zk_ok E N) : ∀ {l r : List zk_V}, zk_eqEs N l r = true → l.map (zk_i E) = r.map (zk_i E)
  | [], [], _ => rfl
  | a :: l, b :: r, he => by
    unfold zk_eqEs at he
    simp only [Bool.and_eq_true] at he
    rw [List.map_cons, List.map_cons, zk_eqE_of h he.1, zk_eqEs_of h he.2]
  | [], _ :: _, he => by cases he
  | _ :: _, [], he => by cases he
def zk_eqGE (N : zk_N) (g g' : zk_G) : Bool := Nat.beq g.1 g'.1 && zk_eqNs g.2.1 g'.2.1 && zk_eqEs N g.2.2 g'.2.2
/-- a fact of the wider state told in the narrower one's symbols -/
def zk_mG (nb : Nat) (th : zk_Th) (g : zk_G) : zk_G := (g.1, g.2.1.map (zk_sbA nb th), g.2.2.map (zk_sb nb th))
/-- what follows if a number is a number: it is not, or it follows -/
def zk_ok6 (N : zk_N) (g : zk_G) : Bool := match Nat.beq g.1 61 with
  | true => match g.2 with
    | ([], [h, c, x, y]) => zk_nz N (zk_vsub h c) || zk_eqE N x y
    | _ => false
  | false => match Nat.beq g.1 62 with
    | true => match g.2 with
      | ([], [h, c, x]) => zk_nz N (zk_vsub h c) || zk_n2 N x || N.2.2.2.any fun g' => Nat.beq g'.1 62 && (match g'.2 with
        | ([], [h', c', x']) => zk_eqE N h h' && zk_eqE N c c' && zk_n2 N (zk_vsub x x')
        | _ => false)
      | _ => false
    | false => match Nat.beq g.1 64 with
      | true => match g.2 with
        | ([_], [a, b]) => zk_n2 N (zk_vsub a b)
        | _ => false
      | false => match Nat.beq g.1 65 with
        | true => match g.2 with
          | ([f, f'], [_, _]) => Nat.beq f f'
          | _ => false
        | false => match Nat.beq g.1 68 with
          | true => match g.2 with
            | ([_, _], [_, _, n]) => zk_n2 N (zk_vsub (zk_c 0) n)
            | _ => false
          | false => match Nat.beq g.1 85 with
            | true => match g.2 with
              | ([], [v, a, b, r]) => (zk_eqE N r (zk_c 1) && zk_n2 N (zk_vsub v a) && zk_n2 N (zk_vsub b v)) || (zk_eqE N r (zk_c 0) && (zk_n2 N (zk_vsub (zk_vsub a v) (zk_c 1)) || zk_n2 N (zk_vsub (zk_vsub v b) (zk_c 1))))
              | _ => false
            | false => false
theorem zk_ok6_of {E : zk_E} {N : zk_N} (h : zk_ok E N) {g : zk_G} (hg : zk_ok6 N g = true) : zk_S g.1 (g.2.1.map E.2) (g.2.2.map (zk_i E)) := by
  obtain ⟨k, rs, vs⟩ := g
  unfold zk_ok6 at hg
  simp only at hg ⊢
  split at hg
  · rename_i hk
    have hk := Nat.eq_of_beq_eq_true hk
    subst hk
    split at hg
    · rename_i heq
      cases heq
      simp only [List.map_cons, List.map_nil, zk_S, zx_S]
      simp only [Bool.or_eq_true] at hg
      intro e
      rcases hg with hg | hg
      · have := zk_nz_ok h hg
        rw [zk_vsub_i] at this
        omega
      · exact zk_eqE_of h hg
    · cases hg
  · split at hg
    · rename_i hk
      have hk := Nat.eq_of_beq_eq_true hk
      subst hk
      split at hg
      · rename_i heq
        cases heq
        simp only [List.map_cons, List.map_nil, zk_S, zx_S]
        simp only [Bool.or_eq_true, List.any_eq_true] at hg
        intro e
        rcases hg with (hg | hg) | ⟨g', hg1, hg2⟩
        · have := zk_nz_ok h hg
          rw [zk_vsub_i] at this
          omega
        · exact zk_n2_ok h hg
        · obtain ⟨k', rs', vs'⟩ := g'
          simp only [Bool.and_eq_true] at hg2
          obtain ⟨hk', hg2⟩ := hg2
          have hk' := Nat.eq_of_beq_eq_true hk'
          subst hk'
          split at hg2
          · rename_i heq
            cases heq
            simp only [Bool.and_eq_true] at hg2
            have t := h.2.2 _ hg1
            simp only [List.map_cons, List.map_nil, zk_S, zx_S] at t
            have t1 := zk_eqE_of h hg2.1.1
            have t2 := zk_eqE_of h hg2.1.2
            have t3 := zk_n2_ok h hg2.2
            rw [zk_vsub_i] at t3
            have := t (by omega)
            omega
          · cases hg2
      · cases hg
    · split at hg
      · rename_i hk
        have hk := Nat.eq_of_beq_eq_true hk
        subst hk
        split at hg
        · rename_i heq
          cases heq
          have := zk_n2_ok h hg
          rw [zk_vsub_i] at this
          simp only [List.map_cons, List.map_nil, zk_S, zx_S]
          intro j h1 h2
          omega
        · cases hg
      · split at hg
        · rename_i hk
          have hk := Nat.eq_of_beq_eq_true hk
          subst hk
          split at hg
          · rename_i heq
            cases heq
            have := Nat.eq_of_beq_eq_true hg
            subst this
            simp only [List.map_cons, List.map_nil, zk_S, zx_S]
            intro j _
            trivial
          · cases hg
        · split at hg
          · rename_i hk
            have hk := Nat.eq_of_beq_eq_true hk
            subst hk
            split at hg
            · rename_i heq
              cases heq
              have := zk_n2_ok h hg
              rw [zk_vsub_i, zk_c_i] at this
              simp only [List.map_cons, List.map_nil, zk_S, zx_S]
              intro j h1
              omega
            · cases hg
          · split at hg
            · rename_i hk
              have hk := Nat.eq_of_beq_eq_true hk
              subst hk
              split at hg
              · rename_i heq
                cases heq
                simp only [List.map_cons, List.map_nil, zk_S, zx_S]
                simp only [Bool.or_eq_true, Bool.and_eq_true] at hg
                rcases hg with ⟨⟨g1, g2⟩, g3⟩ | ⟨g1, g2⟩
                · have g1 := zk_eqE_of h g1
                  have g2 := zk_n2_ok h g2
                  have g3 := zk_n2_ok h g3
                  rw [zk_c_i] at g1
                  rw [zk_vsub_i] at g2 g3
                  rw [g1, if_pos ⟨by omega, by omega⟩]
                · have g1 := zk_eqE_of h g1
                  rw [zk_c_i] at g1
                  rw [g1, if_neg ?_]
                  rintro ⟨k1, k2⟩
                  rcases g2 with g2 | g2
                  · have g2 := zk_n2_ok h g2
                    rw [zk_vsub_i, zk_vsub_i, zk_c_i] at g2
                    omega
                  · have g2 := zk_n2_ok h g2
                    rw [zk_vsub_i, zk_vsub_i, zk_c_i] at g2
                    omega
              · cases hg
            · cases hg
def zk_okG3 (nb : Nat) (th : zk_Th) (N : zk_N) : zk_G → Bool
  | (3, [a], [([], lo), ([], hi)]) => match zk_eb (zk_sbA nb th a) N.2.2.2 with
    | some b => zk_le lo b.1 && zk_le b.2 hi
    | none => false
  | _ => false
def zk_okG (nb : Nat) (th : zk_Th) (N : zk_N) (g : zk_G) : Bool := match Nat.beq g.1 3 with
  | true => zk_okG3 nb th N g
  | false => zk_ok6 N (zk_mG nb th g) || N.2.2.2.any (zk_eqGE N (zk_mG nb th g))
def zk_fitN (nb : Nat) (th : zk_Th) (N : zk_N) (w : zk_New) : Bool :=
  (w.2.1.all fun q => zk_n2 N (zk_vsub (zk_sbI nb th q.1) (zk_c q.2.1)) && zk_n2 N (zk_vsub (zk_c q.2.2) (zk_sbI nb th q.1)) && Nat.blt q.1 w.1) && (w.2.2.1.all fun f => zk_n2 N (zk_sb nb th f) && zk_svB w.1 f) &&
  (w.2.2.2.all fun g => zk_okG nb th N g && (g.2.1.all fun a => Nat.blt a w.1) && (g.2.2.all fun v => zk_svB w.1 v)) && Nat.ble nb w.1
theorem zk_mG_i {nb : Nat} {th : zk_Th} {E : zk_E} {g : zk_G} (h : zk_S g.1 ((zk_mG nb th g).2.1.map E.2) ((zk_mG nb th g).2.2.map (zk_i E))) : zk_S g.1 (g.2.1.map (zk_eh nb th E).2) (g.2.2.map (zk_i (zk_eh nb th E))) := by
  have e1 : (zk_mG nb th g).2.1.map E.2 = g.2.1.map (zk_eh nb th E).2 := by
    unfold zk_mG
    rw [List.map_map]
    rfl
  have e2 : (zk_mG nb th g).2.2.map (zk_i E) = g.2.2.map (zk_i (zk_eh nb th E)) := by
    unfold zk_mG
    rw [List.map_map]
    exact List.map_congr_left fun v _ => zk_sb_i
  rw [e1, e2] at h
  exact h
theorem zk_okG3_of {nb : Nat} {th : zk_Th} {E : zk_E} {N : zk_N} (h : zk_ok E N) {g : zk_G} (hg : zk_okG3 nb th N g = true) : zk_S g.1 (g.2.1.map (zk_eh nb th E).2) (g.2.2.map (zk_i (zk_eh nb th E))) := by
  unfold zk_okG3 at hg
  split at hg
  · rename_i a lo hi
    split at hg
    · rename_i b hb
      simp only [Bool.and_eq_true] at hg
      have h1 := zk_le_of hg.1
      have h2 := zk_le_of hg.2
      simp only [List.map_cons, List.map_nil, zk_S]
      intro j
      have := zk_eb_ok h hb j
      rw [zk_i_nil (x := (([], lo) : zk_V)) rfl, zk_i_nil (x := (([], hi) : zk_V)) rfl]
      show lo ≤ E.2 (zk_sbA nb th a) j ∧ E.2 (zk_sbA nb th a) j ≤ hi
      omega
    · cases hg
  · cases hg
theorem zk_okG_of {nb : Nat} {th : zk_Th} {E : zk_E} {N : zk_N} (h : zk_ok E N) {g : zk_G} (hg : zk_okG nb th N g = true) : zk_S g.1 (g.2.1.map (zk_eh nb th E).2) (g.2.2.map (zk_i (zk_eh nb th E))) := by
  unfold zk_okG at hg
  split at hg
  · exact zk_okG3_of h hg
  · rw [Bool.or_eq_true] at hg
    rcases hg with hg | hg
    · exact zk_mG_i (zk_ok6_of (g := zk_mG nb th g) h hg)
    obtain ⟨g', h1, h2⟩ := List.any_eq_true.mp hg
    unfold zk_eqGE at h2
    simp only [Bool.and_eq_true] at h2
    have h3 := h.2.2 g' h1
    have e1 : g.1 = g'.1 := Nat.eq_of_beq_eq_true h2.1.1
    have e2 := zk_eqNs_of h2.1.2
    have e3 := zk_eqEs_of h h2.2
    refine zk_mG_i ?_
    rw [e1, e2, e3]
    exact h3
theorem zk_fitN_ok {nb : Nat} {th : zk_Th} {E : zk_E} {N N0 : zk_N} {w : zk_New} (h : zk_ok E N) (h0 : zk_ok E N0) (hc : zk_cl N0) (hn : N0.1 = nb) (hf : zk_fitN nb th N w = true) : zk_ok (zk_eh nb th E) (zk_cat2 w N0) ∧ zk_cl (zk_cat2 w N0) ∧ nb ≤ w.1 := by
  unfold zk_fitN at hf
  simp only [Bool.and_eq_true] at hf
  obtain ⟨⟨⟨f1, f2⟩, f3⟩, f4⟩ := hf
  have f4 := Nat.ble_eq.mp f4
  have k0 : zk_ok (zk_eh nb th E) N0 := zk_ok_ag h0 hc (by rw [hn]; exact zk_eh_ag)
  have c0 : zk_cl N0 := hc
  refine ⟨⟨fun q hq => ?_, fun f hf => ?_, fun g hg => ?_⟩, ⟨fun q hq => ?_, fun f hf => ?_, fun g hg => ?_⟩, f4⟩
  · rcases List.mem_append.mp hq with hq | hq
    · have a := List.all_eq_true.mp f1 q hq
      simp only [Bool.and_eq_true] at a
      have a1 := zk_n2_ok h a.1.1
      have a2 := zk_n2_ok h a.1.2
      rw [zk_vsub_i, zk_c_i] at a1 a2
      show q.2.1 ≤ zk_i E (zk_sbI nb th q.1) ∧ zk_i E (zk_sbI nb th q.1) ≤ q.2.2
      omega
    · exact k0.1 q hq
  · rcases List.mem_append.mp hf with hf | hf
    · have a := List.all_eq_true.mp f2 f hf
      simp only [Bool.and_eq_true] at a
      have a1 := zk_n2_ok h a.1
      rw [zk_sb_i] at a1
      exact a1
    · exact k0.2.1 f hf
  · rcases List.mem_append.mp hg with hg | hg
    · have a := List.all_eq_true.mp f3 g hg
      simp only [Bool.and_eq_true] at a
      exact zk_okG_of h a.1.1
    · exact k0.2.2 g hg
  · rcases List.mem_append.mp hq with hq | hq
    · have a := List.all_eq_true.mp f1 q hq
      simp only [Bool.and_eq_true] at a
      exact Nat.blt_eq.mp a.2
    · exact Nat.lt_of_lt_of_le (c0.1 q hq) (by show N0.1 ≤ w.1; omega)
  · rcases List.mem_append.mp hf with hf | hf
    · have a := List.all_eq_true.mp f2 f hf
      simp only [Bool.and_eq_true] at a
      exact zk_svB_of a.2
    · exact zk_sv_le (by show N0.1 ≤ w.1; omega) (c0.2.1 f hf)
  · rcases List.mem_append.mp hg with hg | hg
    · have a := List.all_eq_true.mp f3 g hg
      simp only [Bool.and_eq_true] at a
      exact ⟨fun b hb => Nat.blt_eq.mp (List.all_eq_true.mp a.1.2 b hb), fun v hv => zk_svB_of (List.all_eq_true.mp a.2 v hv)⟩
    · exact ⟨fun b hb => Nat.lt_of_lt_of_le ((c0.2.2 g hg).1 b hb) (by show N0.1 ≤ w.1; omega), fun v hv => zk_sv_le (by show N0.1 ≤ w.1; omega) ((c0.2.2 g hg).2 v hv)⟩
def zk_csB (n : Nat) (c : zk_C) : Bool := (c.2.2.all fun t => zk_svB n t.2.2) && (Nat.beq c.1 0 || Nat.beq c.1 5 || Nat.beq c.1 9 || Nat.blt (zk_hd c.2.2) n)
theorem zk_csB_of {n : Nat} {c : zk_C} (h : zk_csB n c = true) : zk_cs n c := by
  unfold zk_csB at h
  simp only [Bool.and_eq_true, Bool.or_eq_true] at h
  refine ⟨fun t ht => zk_svB_of (List.all_eq_true.mp h.1 t ht), fun a b d => ?_⟩
  rcases h.2 with ((e | e) | e) | e
  · exact absurd (Nat.eq_of_beq_eq_true e) a
  · exact absurd (Nat.eq_of_beq_eq_true e) b
  · exact absurd (Nat.eq_of_beq_eq_true e) d
  · exact Nat.blt_eq.mp e
def zk_fitL (nb : Nat) (th : zk_Th) (lc : List (Nat × zk_T)) (lh : List (Nat × zk_T)) : Bool := lh.all fun q => match zk_loc q.1 lc with
  | some t => zk_teq nb th q.2 t
  | none => false
/-- the wider state tells of its own symbols alone -/
def zk_fitC (w : zk_New) (hh : List zk_C) (lh : List (Nat × zk_T)) (sh : List zk_T) : Bool := (hh.all fun c => zk_csB w.1 c) && (lh.all fun q => zk_svB w.1 q.2.2.2) && (sh.all fun t => zk_svB w.1 t.2.2)
/-- the state z within the state of news w over N0, cells hh, locals lh, stack sh -/
def zk_fit (nb : Nat) (th : zk_Th) (z : zk_Z) (w : zk_New) (hh : List zk_C) (lh : List (Nat × zk_T)) (sh : List zk_T) : Bool :=
  zk_fitN nb th z.1 w && zk_ceqs nb th hh z.2.1 && zk_fitL nb th z.2.2.1 lh && zk_teqs nb th sh z.2.2.2
theorem zk_fit_ok {dC : Nat → ClassId} {dI : Nat → Nat → Nat} {cl : List vw_C} {ad st : Nat → Nat} {cid : zk_CI} {ba : Nat} {ly : List (Nat × Nat)} {nL : Nat} {H0 : Heap} {E : zk_E} {H : Heap} {locs : List Loc} {ls : Array Slot} {stk : List Value} {nb : Nat} {th : zk_Th} {z : zk_Z} {w : zk_New} {hh : List zk_C} {lh : List (Nat × zk_T)} {sh : List zk_T} {N0 : zk_N}
    (h : zk_At dC dI cl ad st cid ba ly nL H0 E z H locs ls stk) (h0 : zk_ok E N0) (hc : zk_cl N0) (hn : N0.1 = nb) (hf : zk_fit nb th z w hh lh sh = true) (hfc : zk_fitC w hh lh sh = true) : zk_At dC dI cl ad st cid ba ly nL H0 (zk_eh nb th E) (zk_cat2 w N0, hh, lh, sh) H locs ls stk ∧ nb ≤ w.1 := by
  unfold zk_fit at hf
  unfold zk_fitC at hfc
  simp only [Bool.and_eq_true] at hf hfc
  obtain ⟨⟨⟨f1, f2⟩, f3⟩, f4⟩ := hf
  obtain ⟨⟨f5, f6⟩, f7⟩ := hfc
  obtain ⟨⟨a1, a2, a3, a4, a5, a6⟩, ⟨b1, b2, b3, b4⟩, hS⟩ := h
  obtain ⟨k1, k2, k3⟩ := zk_fitN_ok a1 h0 hc hn f1
  obtain ⟨e1, e2⟩ := zk_ceqs_of (E := E) (ad := ad) (st := st) (cid := cid) (k := 0) f2
  refine ⟨⟨⟨k1, k2, fun c hcm => zk_csB_of (List.all_eq_true.mp f5 c hcm), zk_lay_map a4 e2, by rw [e1]; exact a5, by rw [e1]; exact a6⟩, ⟨fun q hq => zk_svB_of (List.all_eq_true.mp f6 q hq), fun t ht => zk_svB_of (List.all_eq_true.mp f7 t ht), ⟨b3.1, b3.2.1, fun q hq => ?_⟩, ?_⟩, hS⟩, k3⟩
  · obtain ⟨r, hr, rfl⟩ := List.mem_map.mp hq
    have g := List.all_eq_true.mp f3 r hr
    split at g
    · rename_i t ht
      rw [zk_teq_of (E := E) (ad := ad) (st := st) g]
      exact zk_loc_at b3 ht
    · cases g
  · rw [b4, zk_teqs_of f4]
