noncomputable section
/-! THE READER OF TEXTS -/
/-- one rule behind another -/
def zk_bnd (g : zk_N → Option (List zk_N)) : List zk_N → Option (List zk_N)
  | [] => some []
  | N :: l => match g N, zk_bnd g l with
    | some a, some b => some (a ++ b)
    | _, _ => none
theorem zk_bnd_of {g : zk_N → Option (List zk_N)} : ∀ {l L : List zk_N}, zk_bnd g l = some L → ∀ N ∈ l, ∃ a, g N = some a ∧ ∀ x ∈ a, x ∈ L
  | [], L, _, N, h => (List.not_mem_nil h).elim
  | M :: l, L, hL, N, h => by
    unfold zk_bnd at hL
    split at hL
    · rename_i a b ha hb
      cases hL
      rcases List.mem_cons.mp h with rfl | h
      · exact ⟨a, ha, fun x hx => List.mem_append_left _ hx⟩
      · obtain ⟨a', h1, h2⟩ := zk_bnd_of hb N h
        exact ⟨a', h1, fun x hx => List.mem_append_right _ (h2 x hx)⟩
    · cases hL
def zk_thn (f g : zk_Rl) : zk_Rl := fun z => match f z with
  | some L => zk_bnd (fun N => g (N, z.2)) L
  | none => none
theorem zk_thn_ok {f g : zk_Rl} (hf : zk_Rok f) (hg : zk_Rok g) : zk_Rok (zk_thn f g) := by
  intro z L hz E h hc hcs hl hs
  unfold zk_thn at hz
  split at hz
  · rename_i L1 h1
    obtain ⟨N1, m1, E1, a1, k1, c1, n1⟩ := hf z L1 h1 E h hc hcs hl hs
    obtain ⟨a, ha, hL⟩ := zk_bnd_of hz N1 m1
    obtain ⟨N2, m2, E2, a2, k2, c2, n2⟩ := hg (N1, z.2) a ha E1 k1 c1 (fun c hcm => zk_cs_le n1 (hcs c hcm)) (fun q hq => zk_tv_le n1 (hl q hq)) (fun t ht => zk_tv_le n1 (hs t ht))
    exact ⟨N2, hL _ m2, E2, zk_ag_tr a1 a2 n1, k2, c2, Nat.le_trans n1 n2⟩
  · cases hz
/-- what a row was made of: the row before it, below which place they are the same, what was laid there -/
def zk_cre (g : Nat) : List zk_G → Option (Nat × zk_V × Option zk_V)
  | [] => none
  | (2, [g', f], [i, x]) :: l => match Nat.beq g' g with
    | true => some (f, i, some x)
    | false => zk_cre g l
  | (26, [g', f], [m]) :: l => match Nat.beq g' g && !(Nat.beq f g) with
    | true => some (f, m, none)
    | false => zk_cre g l
  | _ :: l => zk_cre g l
theorem zk_cre_of {E : zk_E} {N : zk_N} (h : zk_ok E N) (hc : zk_cl N) {g : Nat} {r : Nat × zk_V × Option zk_V} : ∀ {l : List zk_G}, (∀ a ∈ l, a ∈ N.2.2.2) → zk_cre g l = some r → (∀ j : Nat, (j : Int) < zk_i E r.2.1 → E.2 g j = E.2 r.1 j) ∧ (∀ x, r.2.2 = some x → E.2 g (zk_i E r.2.1).toNat = zk_i E x) ∧ g < N.1 ∧ r.1 < N.1 ∧ zk_sv N.1 r.2.1
  | [], _, hr => by cases hr
  | a :: l, hs, hr => by
    unfold zk_cre at hr
    split at hr
    · rename_i heq
      cases heq
    · rename_i g' f i x l' heq
      cases heq
      split at hr
      · rename_i e
        have e := Nat.eq_of_beq_eq_true e
        subst e
        injection hr with hr
        subst hr
        have hm := hs _ List.mem_cons_self
        have q : E.2 g' = fun j => if j = (zk_i E i).toNat then zk_i E x else E.2 f j := h.2.2 _ hm
        have cc := hc.2.2 _ hm
        refine ⟨fun j hj => ?_, fun y hy => ?_, cc.1 g' (by simp), cc.1 f (by simp), cc.2 i (by simp)⟩
        · have hj : (j : Int) < zk_i E i := hj
          rw [q]
          exact if_neg (by omega)
        · cases hy
          rw [q]
          exact if_pos rfl
      · exact zk_cre_of h hc (fun b hb => hs b (List.mem_cons_of_mem _ hb)) hr
    · rename_i g' f m l' heq
      cases heq
      split at hr
      · rename_i e
        simp only [Bool.and_eq_true] at e
        have e := Nat.eq_of_beq_eq_true e.1
        subst e
        injection hr with hr
        subst hr
        have hm := hs _ List.mem_cons_self
        have q : ∀ j : Nat, (j : Int) < zk_i E m → E.2 g' j = E.2 f j := h.2.2 _ hm
        have cc := hc.2.2 _ hm
        exact ⟨q, fun x hx => by (cases hx), cc.1 g' (by simp), cc.1 f (by simp), cc.2 m (by simp)⟩
      · exact zk_cre_of h hc (fun b hb => hs b (List.mem_cons_of_mem _ hb)) hr
    · rename_i heq
      cases heq
      exact zk_cre_of h hc (fun b hb => hs b (List.mem_cons_of_mem _ hb)) hr
/-- the rows that a row is the same as below c -/
def zk_chn (N : zk_N) (c : zk_V) : Nat → Nat → List Nat
  | 0, _ => []
  | k + 1, g => match zk_cre g N.2.2.2 with
    | some r => match zk_n2 N (zk_vsub r.2.1 c) with
      | true => r.1 :: zk_chn N c k r.1
      | false => []
    | none => []
theorem zk_chn_of {E : zk_E} {N : zk_N} (h : zk_ok E N) (hc : zk_cl N) {c : zk_V} : ∀ {k g : Nat}, ∀ f ∈ zk_chn N c k g, (∀ j : Nat, (j : Int) < zk_i E c → E.2 g j = E.2 f j) ∧ f < N.1
  | 0, g, f, hf => (List.not_mem_nil hf).elim
  | k + 1, g, f, hf => by
    unfold zk_chn at hf
    split at hf
    · rename_i r hr
      obtain ⟨q1, -, q3, q4, -⟩ := zk_cre_of h hc (fun a ha => ha) hr
      split at hf
      · rename_i e
        have e := zk_n2_ok h e
        rw [zk_vsub_i] at e
        rcases List.mem_cons.mp hf with rfl | hf
        · exact ⟨fun j hj => q1 j (by omega), q4⟩
        · obtain ⟨p1, p2⟩ := zk_chn_of h hc f hf
          exact ⟨fun j hj => by rw [q1 j (by omega), p1 j hj], p2⟩
      · cases hf
    · cases hf
/-- the row in field j told as what it is the same as below cf -/
def zk_rag (j : Nat) (cf : zk_Z → Option zk_V) : zk_Rl := fun z => match zk_rowf z j, cf z with
  | some g, some c => match zk_svB z.1.1 c with
    | true => some [zk_addGs z.1 ((26, [g, g], [c]) :: (zk_chn z.1 c 6 g).map fun f => (26, [g, f], [c]))]
    | false => none
  | _, _ => none
theorem zk_rag_ok (j : Nat) (cf : zk_Z → Option zk_V) : zk_Rok (zk_rag j cf) := by
  refine zk_Rs_ok fun z L hz E h hc hcs hl hs => ?_
  unfold zk_rag at hz
  split at hz
  · rename_i g c hg hcf
    have hgl := zk_rowf_lt hcs hg
    split at hz
    · rename_i e
      cases hz
      have hcv := zk_svB_of e
      obtain ⟨k1, k2⟩ := zk_addGs_ok h hc (L := (26, [g, g], [c]) :: (zk_chn z.1 c 6 g).map fun f => (26, [g, f], [c])) (fun x hx => by
        rcases List.mem_cons.mp hx with rfl | hx
        · refine ⟨?_, zk_rs2 hgl hgl, fun v hv => by rw [List.mem_singleton.mp hv]; exact hcv⟩
          show ∀ j : Nat, (j : Int) < zk_i E c → E.2 g j = E.2 g j
          exact fun _ _ => rfl
        · obtain ⟨f, hf, rfl⟩ := List.mem_map.mp hx
          obtain ⟨p1, p2⟩ := zk_chn_of h hc f hf
          refine ⟨?_, zk_rs2 hgl p2, fun v hv => by rw [List.mem_singleton.mp hv]; exact hcv⟩
          show ∀ j : Nat, (j : Int) < zk_i E c → E.2 g j = E.2 f j
          exact p1)
      exact ⟨_, List.mem_cons_self, k1, k2, rfl⟩
    · cases hz
  · cases hz
/-- texts told of newer rows -/
def zk_tsg (N : zk_N) (a w fa fw : Nat) (ma mw : zk_V) : zk_G → List zk_G
  | (20, [f, f'], [lo, hi]) => match Nat.beq f fa && Nat.beq f' fw && zk_n2 N (zk_vsub ma hi) && zk_n2 N (zk_vsub mw hi) with
    | true => [(20, [a, w], [lo, hi])]
    | false => []
  | _ => []
/-- a text that ends at i -/
def zk_eat (N : zk_N) (fa fw : Nat) (i : zk_V) : List zk_G → Option zk_V
  | [] => none
  | (20, [f, f'], [lo, hi]) :: l => match Nat.beq f fa && Nat.beq f' fw && zk_eqE N hi i with
    | true => some lo
    | false => zk_eat N fa fw i l
  | _ :: l => zk_eat N fa fw i l
theorem zk_eat_of {E : zk_E} {N : zk_N} (h : zk_ok E N) (hc : zk_cl N) {fa fw : Nat} {i lo : zk_V} : ∀ {l : List zk_G}, (∀ a ∈ l, a ∈ N.2.2.2) → zk_eat N fa fw i l = some lo → zx_seg (E.2 fa) (E.2 fw) (zk_i E lo) (zk_i E i) ∧ zk_sv N.1 lo
  | [], _, hr => by cases hr
  | a :: l, hs, hr => by
    unfold zk_eat at hr
    split at hr
    · rename_i heq
      cases heq
    · rename_i f f' lo' hi l' heq
      cases heq
      split at hr
      · rename_i e
        simp only [Bool.and_eq_true] at e
        obtain ⟨⟨e1, e2⟩, e3⟩ := e
        have e1 := Nat.eq_of_beq_eq_true e1
        have e2 := Nat.eq_of_beq_eq_true e2
        have e3 := zk_eqE_of h e3
        subst e1; subst e2
        injection hr with hr
        subst hr
        have hm := hs _ List.mem_cons_self
        have q : zx_seg (E.2 f) (E.2 f') (zk_i E lo') (zk_i E hi) := h.2.2 _ hm
        rw [e3] at q
        exact ⟨q, (hc.2.2 _ hm).2 lo' (by simp)⟩
      · exact zk_eat_of h hc (fun b hb => hs b (List.mem_cons_of_mem _ hb)) hr
    · rename_i heq
      cases heq
      exact zk_eat_of h hc (fun b hb => hs b (List.mem_cons_of_mem _ hb)) hr
/-- a text that the last step ends: x at i, with v -/
def zk_nsg (N : zk_N) (a w fa fw : Nat) (i x v : zk_V) : List zk_G := match zk_n2 N i with
  | false => []
  | true => match zk_bt N x 1 1 || (zk_bt N x 2 2 && zk_bt N v 0 5) with
    | true => [(20, [a, w], [i, zk_vadd i (zk_c 1)])]
    | false => match zk_eat N fa fw i N.2.2.2 with
      | none => []
      | some lo => match zk_bt N x 3 4 with
        | true => [(20, [a, w], [lo, zk_vadd i (zk_c 1)])]
        | false => match zk_n2 N (zk_vsub (zk_c 0) x) || zk_n2 N (zk_vsub x (zk_c 5)) with
          | false => []
          | true => match zk_eat N fa fw lo N.2.2.2 with
            | some lo2 => [(20, [a, w], [lo2, zk_vadd i (zk_c 1)])]
            | none => []
def zk_rT : zk_Rl := fun z => match zk_rowf z 26, zk_rowf z 27 with
  | some a, some w => match zk_cre a z.1.2.2.2, zk_cre w z.1.2.2.2 with
    | some ra, some rw' => some [zk_addGs z.1 ((match ra.2.2, rw'.2.2 with
        | some x, some v => match zk_eqE z.1 ra.2.1 rw'.2.1 with
          | true => zk_nsg z.1 a w ra.1 rw'.1 ra.2.1 x v
          | false => []
        | _, _ => []) ++ zk_fm (zk_tsg z.1 a w ra.1 rw'.1 ra.2.1 rw'.2.1) z.1.2.2.2)]
    | _, _ => some [z.1]
  | _, _ => none
theorem zk_seg_good {E : zk_E} {N : zk_N} {a w : Nat} {lo hi : zk_V} (ha : a < N.1) (hw : w < N.1) (hlo : zk_sv N.1 lo) (hhi : zk_sv N.1 hi) (h : zx_seg (E.2 a) (E.2 w) (zk_i E lo) (zk_i E hi)) : zk_good E N (20, [a, w], [lo, hi]) := ⟨h, zk_rs2 ha hw, zk_vs2 hlo hhi⟩
theorem zk_nsg_ok {E : zk_E} {N : zk_N} (h : zk_ok E N) (hc : zk_cl N) {a w fa fw : Nat} {i i' x v : zk_V} (ha : a < N.1) (hw : w < N.1) (hi : zk_sv N.1 i) (h1 : ∀ j : Nat, (j : Int) < zk_i E i → E.2 a j = E.2 fa j) (h2 : ∀ j : Nat, (j : Int) < zk_i E i' → E.2 w j = E.2 fw j) (h3 : E.2 a (zk_i E i).toNat = zk_i E x) (h4 : E.2 w (zk_i E i').toNat = zk_i E v) (hii : zk_i E i = zk_i E i') : ∀ g ∈ zk_nsg N a w fa fw i x v, zk_good E N g := by
  intro g hg
  unfold zk_nsg at hg
  have e1 : zk_i E (zk_vadd i (zk_c 1)) = zk_i E i + 1 := by rw [zk_vadd_i, zk_c_i]
  have s1 : zk_sv N.1 (zk_vadd i (zk_c 1)) := zk_vadd_sv hi zk_c_sv
  rw [← hii] at h2 h4
  split at hg
  · cases hg
  · rename_i e0
    have e0 := zk_n2_ok h e0
    split at hg
    · rename_i e
      rw [List.mem_singleton.mp hg]
      refine zk_seg_good ha hw hi s1 ?_
      rw [e1]
      refine zx_seg_push e0 ?_
      simp only [Bool.or_eq_true, Bool.and_eq_true] at e
      rw [h3, h4]
      rcases e with e | e
      · have := zk_bt_of h e
        exact Or.inl (by omega)
      · have q1 := zk_bt_of h e.1
        have q2 := zk_bt_of h e.2
        exact Or.inr ⟨by omega, q2⟩
    · split at hg
      · cases hg
      · rename_i lo hlo
        obtain ⟨q1, q2⟩ := zk_eat_of h hc (fun a ha => ha) hlo
        have q1 := zx_seg_ext q1 (Int.le_refl _) h1 h2
        split at hg
        · rename_i e
          rw [List.mem_singleton.mp hg]
          refine zk_seg_good ha hw q2 s1 ?_
          rw [e1]
          have := zk_bt_of h e
          exact zx_seg_un q1 (by rw [h3]; exact this)
        · split at hg
          · cases hg
          · rename_i e
            split at hg
            · rename_i lo2 hlo2
              obtain ⟨p1, p2⟩ := zk_eat_of h hc (fun a ha => ha) hlo2
              have p1 := zx_seg_ext p1 q1.2.1 h1 h2
              rw [List.mem_singleton.mp hg]
              refine zk_seg_good ha hw p2 s1 ?_
              rw [e1]
              refine zx_seg_bin p1 q1 ?_
              rw [h3]
              simp only [Bool.or_eq_true] at e
              rcases e with e | e
              · have := zk_n2_ok h e
                rw [zk_vsub_i, zk_c_i] at this
                exact Or.inl (by omega)
              · have := zk_n2_ok h e
                rw [zk_vsub_i, zk_c_i] at this
                exact Or.inr (by omega)
            · cases hg
theorem zk_rT_ok : zk_Rok zk_rT := by
  refine zk_Rs_ok fun z L hz E h hc hcs hl hs => ?_
  unfold zk_rT at hz
  split at hz
  · rename_i a w ha hw
    have la := zk_rowf_lt hcs ha
    have lw := zk_rowf_lt hcs hw
    split at hz
    · rename_i ra rw' hra hrw
      cases hz
      obtain ⟨a1, a2, a3, a4, a5⟩ := zk_cre_of h hc (fun a ha => ha) hra
      obtain ⟨b1, b2, b3, b4, b5⟩ := zk_cre_of h hc (fun a ha => ha) hrw
      refine ⟨_, List.mem_cons_self, ?_⟩
      rw [← and_assoc]
      refine ⟨zk_addGs_ok h hc fun g hg => ?_, rfl⟩
      rcases List.mem_append.mp hg with hg | hg
      · split at hg
        · rename_i x v hx hv
          split at hg
          · rename_i e
            exact zk_nsg_ok h hc la lw a5 a1 b1 (a2 x hx) (b2 v hv) (zk_eqE_of h e) g hg
          · cases hg
        · cases hg
      · obtain ⟨g0, hg0, hd⟩ := zk_fm_mem hg
        unfold zk_tsg at hd
        split at hd
        · rename_i f f' lo hi
          split at hd
          · rename_i e
            simp only [Bool.and_eq_true] at e
            obtain ⟨⟨⟨e1, e2⟩, e3⟩, e4⟩ := e
            have e1 := Nat.eq_of_beq_eq_true e1
            have e2 := Nat.eq_of_beq_eq_true e2
            have e3 := zk_n2_ok h e3
            have e4 := zk_n2_ok h e4
            rw [zk_vsub_i] at e3 e4
            subst e1; subst e2
            rw [List.mem_singleton.mp hd]
            obtain ⟨s1, s2, s3⟩ := zk_old_good h hc hg0
            have s1 : zx_seg (E.2 ra.1) (E.2 rw'.1) (zk_i E lo) (zk_i E hi) := s1
            exact zk_seg_good la lw (s3 lo (by simp)) (s3 hi (by simp)) (zx_seg_ext s1 (Int.le_refl _) (fun j hj => a1 j (by omega)) (fun j hj => b1 j (by omega)))
          · cases hd
        · cases hd
    · cases hz
      exact ⟨z.1, List.mem_cons_self, h, hc, rfl⟩
  · cases hz
end
