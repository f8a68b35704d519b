noncomputable section
/-! CONTRACTS ARE SO -/
theorem zk_Met_imp {l : Launch} {y : MethodName} {ws : List Jvm.Cond} {rm : Room} {Pc Pc' : Array Value → State → Prop} {Qc Qc' : Array Value → State → Outcome → State → Prop} {mc ms : Nat} {fr : Addr → Prop} (h : Met l y ws rm Pc Qc mc ms fr) (hp : ∀ a s, Pc' a s → Pc a s) (hq : ∀ a s o t, Qc a s o t → Qc' a s o t) : Met l y ws rm Pc' Qc' mc ms fr := by
  intro p e ha hc hk s m args below hf happ hP hK
  obtain ⟨n, o, h1, h2, h3, h4, h5⟩ := h p e ha hc hk s m args below hf happ (hp _ _ hP) hK
  exact ⟨n, o, h1, h2, h3, hq _ _ _ _ h4, h5⟩
theorem zk_look_l {α : Type} {d : α} {l2 : List (Nat × α)} {s : Nat} (h : ∀ q ∈ l2, q.1 ≠ s) : ∀ {l : List (Nat × α)}, zk_look d (l ++ l2) s = zk_look d l s
  | [] => by
    show zk_look d l2 s = d
    induction l2 with
    | nil => rfl
    | cons q l ih =>
      rw [zk_look_cons]
      have : Nat.beq q.1 s = false := by rw [Bool.eq_false_iff]; exact fun g => h q List.mem_cons_self (Nat.eq_of_beq_eq_true g)
      rw [this]
      exact ih fun r hr => h r (List.mem_cons_of_mem _ hr)
  | q :: l => by
    show zk_look d (q :: (l ++ l2)) s = _
    rw [zk_look_cons, zk_look_cons, zk_look_l h]
theorem zk_look_r {α : Type} {d : α} {l2 : List (Nat × α)} {s : Nat} : ∀ {l : List (Nat × α)}, (∀ q ∈ l, q.1 ≠ s) → zk_look d (l ++ l2) s = zk_look d l2 s
  | [], _ => rfl
  | q :: l, h => by
    show zk_look d (q :: (l ++ l2)) s = _
    rw [zk_look_cons]
    have : Nat.beq q.1 s = false := by rw [Bool.eq_false_iff]; exact fun g => h q List.mem_cons_self (Nat.eq_of_beq_eq_true g)
    rw [this]
    exact zk_look_r fun r hr => h r (List.mem_cons_of_mem _ hr)
theorem zk_look_P {α : Type} {d : α} {P : α → Prop} {s : Nat} (hd : P d) : ∀ {l : List (Nat × α)}, (∀ q ∈ l, P q.2) → P (zk_look d l s)
  | [], _ => hd
  | q :: l, h => by
    rw [zk_look_cons]
    split
    · exact h q List.mem_cons_self
    · exact zk_look_P hd fun r hr => h r (List.mem_cons_of_mem _ hr)
theorem zk_rgs_k {α : Type} {f : Nat → α} : ∀ {m a b : Nat}, ∀ q ∈ zk_rgs f a b m, a ≤ q.1
  | 0, _, _, q, h => by cases h
  | m + 1, a, b, q, h => by
    unfold zk_rgs at h
    rcases List.mem_cons.mp h with rfl | h
    · exact Nat.le_refl _
    · have := zk_rgs_k q h; omega
theorem zk_rgs_at {α : Type} {f : Nat → α} {d : α} : ∀ {m a b i : Nat}, i < m → zk_look d (zk_rgs f a b m) (a + i) = f (b + i)
  | 0, _, _, i, h => by omega
  | m + 1, a, b, i, h => by
    unfold zk_rgs
    rw [zk_look_cons]
    dsimp only
    cases i with
    | zero =>
      have : Nat.beq a (a + 0) = true := Nat.beq_refl a
      rw [this]
      rfl
    | succ i =>
      have : Nat.beq a (a + (i + 1)) = false := by rw [Bool.eq_false_iff]; exact fun g => by have := Nat.eq_of_beq_eq_true g; omega
      simp only [this]
      have e := zk_rgs_at (f := f) (d := d) (m := m) (a := a + 1) (b := b + 1) (i := i) (by omega)
      rw [show a + (i + 1) = a + 1 + i by omega, e, show b + 1 + i = b + (i + 1) by omega]
theorem zk_cat2_0 (w : zk_New) : zk_cat2 w (0, [], [], []) = w := by simp [zk_cat2]
theorem zk_clB_of {n : Nat} {w : zk_New} (h : zk_clB n w = true) : (∀ q ∈ w.2.1, q.1 < n) ∧ (∀ f ∈ w.2.2.1, zk_sv n f) ∧ ∀ g ∈ w.2.2.2, (∀ a ∈ g.2.1, a < n) ∧ ∀ v ∈ g.2.2, zk_sv n v := by
  unfold zk_clB at h
  simp only [Bool.and_eq_true] at h
  refine ⟨fun q hq => Nat.blt_eq.mp (List.all_eq_true.mp h.1.1 q hq), fun f hf => zk_svB_of (List.all_eq_true.mp h.1.2 f hf), fun g hg => ?_⟩
  have := List.all_eq_true.mp h.2 g hg
  simp only [Bool.and_eq_true] at this
  exact ⟨fun a ha => Nat.blt_eq.mp (List.all_eq_true.mp this.1 a ha), fun v hv => zk_svB_of (List.all_eq_true.mp this.2 v hv)⟩
theorem zk_kB_mem {nE n : Nat} : ∀ {l : zk_B} {q : Nat × Int × Int}, q ∈ zk_kB nE n l → ∃ q0 ∈ l, nE ≤ q0.1 ∧ q = (n + (q0.1 - nE), q0.2)
  | [], q, h => by cases h
  | r :: l, q, h => by
    unfold zk_kB at h
    split at h
    · rename_i g
      rcases List.mem_cons.mp h with rfl | h
      · exact ⟨r, List.mem_cons_self, Nat.ble_eq.mp g, rfl⟩
      · obtain ⟨q0, a, b⟩ := zk_kB_mem h
        exact ⟨q0, List.mem_cons_of_mem _ a, b⟩
    · obtain ⟨q0, a, b⟩ := zk_kB_mem h
      exact ⟨q0, List.mem_cons_of_mem _ a, b⟩
section ZK
variable {dC : Nat → ClassId} {dI : Nat → Nat → Nat} {cl : List vw_C} {ad st : Nat → Nat} {cid : zk_CI} {ba : Nat} {ly : List (Nat × Nat)} {tab : zk_Tab} {G nw : List Jvm.Cond} {PT : List zk_M} {l : Launch}
/-- the env of the caller that goes on behind a contract -/
def zk_Ek (n nE : Nat) (E E' : zk_E) : zk_E := (fun s => if s < n then E.1 s else E'.1 (s - n + nE), fun a => if a < n then E.2 a else E'.2 (a - n + nE))
theorem zk_Ek_ag {n nE : Nat} {E E' : zk_E} : zk_ag n E (zk_Ek n nE E E') := fun k hk => ⟨by simp only [zk_Ek]; rw [if_pos hk], by simp only [zk_Ek]; rw [if_pos hk]⟩
theorem zk_Ek_eh {n nE m : Nat} {E E' : zk_E} {th : zk_Th} (h1 : ∀ q ∈ th.1, q.1 < nE ∧ zk_sv n q.2) (h2 : ∀ q ∈ th.2, q.1 < nE ∧ q.2 < n) (h0 : 0 < n) (ha : zk_ag nE (zk_eh 0 th E) E') : zk_ag (nE + m) E' (zk_eh 0 (zk_th2 th nE n m) (zk_Ek n nE E E')) := by
  intro k hk
  have hb : Nat.blt k 0 = false := by rw [Bool.eq_false_iff]; exact fun g => absurd (Nat.blt_eq.mp g) (Nat.not_lt_zero k)
  by_cases hlt : k < nE
  · obtain ⟨a1, a2⟩ := ha k hlt
    refine ⟨?_, ?_⟩
    · rw [a1]
      show zk_i (zk_Ek n nE E E') (zk_sbI 0 (zk_th2 th nE n m) k) = zk_i E (zk_sbI 0 th k)
      have e : zk_sbI 0 (zk_th2 th nE n m) k = zk_sbI 0 th k := by
        unfold zk_sbI
        rw [hb]
        exact zk_look_l fun q hq => by have := zk_rgs_k q hq; omega
      rw [e]
      refine zk_i_ag zk_Ek_ag ?_
      unfold zk_sbI
      rw [hb]
      exact zk_look_P (P := fun v => zk_sv n v) zk_c_sv fun q hq => (h1 q hq).2
    · rw [a2]
      show (zk_Ek n nE E E').2 (zk_sbA 0 (zk_th2 th nE n m) k) = E.2 (zk_sbA 0 th k)
      have e : zk_sbA 0 (zk_th2 th nE n m) k = zk_sbA 0 th k := by
        unfold zk_sbA
        rw [hb]
        exact zk_look_l fun q hq => by have := zk_rgs_k q hq; omega
      rw [e]
      refine (zk_Ek_ag _ ?_).2
      unfold zk_sbA
      rw [hb]
      exact zk_look_P (P := fun v => v < n) h0 fun q hq => (h2 q hq).2
  · obtain ⟨i, rfl⟩ : ∃ i, k = nE + i := ⟨k - nE, by omega⟩
    refine ⟨?_, ?_⟩
    · show zk_i (zk_Ek n nE E E') (zk_sbI 0 (zk_th2 th nE n m) (nE + i)) = E'.1 (nE + i)
      have e : zk_sbI 0 (zk_th2 th nE n m) (nE + i) = zk_y (n + i) := by
        unfold zk_sbI
        rw [hb]
        show zk_look (zk_c 0) (th.1 ++ zk_rgs zk_y nE n m) (nE + i) = _
        rw [zk_look_r fun q hq => by have := (h1 q hq).1; omega]
        exact zk_rgs_at (by omega)
      rw [e, zk_y_i]
      simp only [zk_Ek]
      rw [if_neg (by omega), show n + i - n + nE = nE + i by omega]
    · show (zk_Ek n nE E E').2 (zk_sbA 0 (zk_th2 th nE n m) (nE + i)) = E'.2 (nE + i)
      have e : zk_sbA 0 (zk_th2 th nE n m) (nE + i) = n + i := by
        unfold zk_sbA
        rw [hb]
        show zk_look 0 (th.2 ++ zk_rgs (fun k => k) nE n m) (nE + i) = _
        rw [zk_look_r fun q hq => by have := (h2 q hq).1; omega]
        exact zk_rgs_at (by omega)
      rw [e]
      simp only [zk_Ek]
      rw [if_neg (by omega), show n + i - n + nE = nE + i by omega]
theorem zk_ce_ho {E : zk_E} {ad st : Nat → Nat} {ci : Nat → ClassId} {h1 h2 : Nat → va_E} {k : Nat} {c : zk_C} (h9 : c.1 ≠ 9) : zk_ce E ad st (ci, h1) k c = zk_ce E ad st (ci, h2) k c := by
  unfold zk_ce
  split
  · rfl
  · rfl
  · rfl
  · rename_i e; exact absurd e h9
  · rfl
theorem zk_kfc_at {th : zk_Th} : ∀ {l l' : List zk_C}, zk_kfc th l l' = true → l.length = l'.length ∧ ∀ (k : Nat) (c c' : zk_C), l[k]? = some c → l'[k]? = some c' → c.1 = 9 ∨ zk_ceq 0 th c c' = true
  | [], [], _ => ⟨rfl, fun k c c' h => by simp at h⟩
  | d :: l, d' :: l', h => by
    unfold zk_kfc at h
    simp only [Bool.and_eq_true] at h
    obtain ⟨h1, h2⟩ := h
    obtain ⟨i1, i2⟩ := zk_kfc_at h2
    refine ⟨by simp [i1], fun k c c' a b => ?_⟩
    cases k with
    | zero =>
      simp only [List.getElem?_cons_zero, Option.some.injEq] at a b
      subst a; subst b
      split at h1
      · rename_i e; exact Or.inl (Nat.eq_of_beq_eq_true e)
      · exact Or.inr h1
    | succ k =>
      rw [List.getElem?_cons_succ] at a b
      exact i2 k c c' a b
  | [], _ :: _, h => by cases h
  | _ :: _, [], h => by cases h
theorem zk_mrg_at {n : Nat} {th : zk_Th} : ∀ {lk lx l r : List zk_C}, zk_mrg n th lk lx l = some r → lk.length = l.length ∧ lx.length = l.length ∧ r.length = l.length ∧ ∀ (k : Nat) (cK cx c m : zk_C), lk[k]? = some cK → lx[k]? = some cx → l[k]? = some c → r[k]? = some m → (cK = cx ∧ m = c) ∨ (cx.1 ≠ 9 ∧ m = zk_kCc th cx ∧ zk_cs n m)
  | [], [], [], r, h => by
    cases h
    exact ⟨rfl, rfl, rfl, fun k cK cx c m h => by simp at h⟩
  | k0 :: lk, x0 :: lx, c0 :: l, r, h => by
    unfold zk_mrg at h
    split at h
    · rename_i r' hr
      obtain ⟨i1, i2, i3, i4⟩ := zk_mrg_at hr
      have key : ∀ m0, ((k0 = x0 ∧ m0 = c0) ∨ (x0.1 ≠ 9 ∧ m0 = zk_kCc th x0 ∧ zk_cs n m0)) → r = m0 :: r' → (k0 :: lk).length = (c0 :: l).length ∧ (x0 :: lx).length = (c0 :: l).length ∧ r.length = (c0 :: l).length ∧ ∀ (k : Nat) (cK cx c m : zk_C), (k0 :: lk)[k]? = some cK → (x0 :: lx)[k]? = some cx → (c0 :: l)[k]? = some c → r[k]? = some m → (cK = cx ∧ m = c) ∨ (cx.1 ≠ 9 ∧ m = zk_kCc th cx ∧ zk_cs n m) := by
        intro m0 h0 e
        subst e
        refine ⟨by simp [i1], by simp [i2], by simp [i3], fun k cK cx c m a1 a2 a3 a4 => ?_⟩
        cases k with
        | zero =>
          simp only [List.getElem?_cons_zero, Option.some.injEq] at a1 a2 a3 a4
          subst a1; subst a2; subst a3; subst a4
          exact h0
        | succ k =>
          rw [List.getElem?_cons_succ] at a1 a2 a3 a4
          exact i4 k cK cx c m a1 a2 a3 a4
      split at h
      · rename_i g
        injection h with h
        exact key c0 (Or.inl ⟨zk_cid_of g, rfl⟩) h.symm
      · split at h
        · rename_i g
          simp only [Bool.and_eq_true, Bool.not_eq_true'] at g
          injection h with h
          refine key _ (Or.inr ⟨fun e => ?_, rfl, zk_csB_of g.2⟩) h.symm
          rw [e] at g
          exact absurd g.1 (by decide)
        · cases h
    · cases h
  | [], [], _ :: _, r, h => by cases h
  | [], _ :: _, _, r, h => by cases h
  | _ :: _, [], _, r, h => by cases h
  | _ :: _, _ :: _, [], r, h => by cases h
theorem zk_kT_v {th : zk_Th} {E : zk_E} {ad st : Nat → Nat} {t : zk_T} : zk_v (zk_eh 0 th E) ad st t = zk_v E ad st (zk_kT th t) := by
  unfold zk_v zk_kT
  simp only
  split <;> first | rfl | (rw [zk_sb_i])
theorem zk_kCc_ce {th : zk_Th} {E : zk_E} {ad st : Nat → Nat} {cid : zk_CI} {k : Nat} {c : zk_C} : zk_ce (zk_eh 0 th E) ad st cid k c = zk_ce E ad st cid k (zk_kCc th c) := by
  have e0 : (zk_kCc th c).1 = c.1 := rfl
  have e1 : (zk_kCc th c).2.1 = c.2.1 := rfl
  have e2 : ∀ l : List zk_T, l.map (zk_v (zk_eh 0 th E) ad st) = (l.map (zk_kT th)).map (zk_v E ad st) := fun l => by
    rw [List.map_map]
    exact List.map_congr_left fun t _ => zk_kT_v
  have e3 : ∀ (l : List zk_T) (j : Nat), zk_rq ad (l.getD j (2, 0, [], 0)) = zk_rq ad ((l.map (zk_kT th)).getD j (2, 0, [], 0)) := fun l j => by
    rw [List.getD_eq_getElem?_getD, List.getD_eq_getElem?_getD, List.getElem?_map]
    cases l[j]? <;> rfl
  unfold zk_ce
  rw [e0, e1]
  unfold zk_kCc
  split <;> rename_i h
  · simp only [h]
    rw [e2]
    rfl
  · simp only [h]
    rfl
  · simp only [h]
    have : (fun j => zk_rq ad (c.2.2.getD j (2, 0, [], 0))) = fun j => zk_rq ad ((c.2.2.map (zk_kT th)).getD j (2, 0, [], 0)) := funext fun j => e3 c.2.2 j
    rw [this]
    rfl
  · rfl
  · rename_i g0 g2 g5
    have b0 : Nat.beq c.1 0 = false := by rw [Bool.eq_false_iff]; exact fun g => g0 (Nat.eq_of_beq_eq_true g)
    have b5 : Nat.beq c.1 5 = false := by rw [Bool.eq_false_iff]; exact fun g => g5 (Nat.eq_of_beq_eq_true g)
    simp only [b0, b5]
    rfl
theorem zk_kex_ok {th : zk_Th} {nE : Nat} {Kc hp : List zk_C} {N NE : zk_N} {x : zk_Kx} {X : zk_Ex} (hX : zk_kex (zk_th2 th nE N.1 (x.1.1 - nE)) nE Kc hp N x = some X) {E E' : zk_E} (hE : zk_ok E N) (hc : zk_cl N) (h1 : ∀ q ∈ th.1, q.1 < nE ∧ zk_sv N.1 q.2) (h2 : ∀ q ∈ th.2, q.1 < nE ∧ q.2 < N.1) (h0 : 0 < N.1) (ha : zk_ag nE (zk_eh 0 th E) E')
    (hKs : ∀ c ∈ Kc, zk_cs nE c) (hps : ∀ c ∈ hp, zk_cs N.1 c) (hpl : zk_lay hp ly) {ho' : Nat → va_E} (hce : ∀ (k : Nat) (cK c : zk_C), Kc[k]? = some cK → hp[k]? = some c → zk_ce (zk_eh 0 th E) ad st (cid.1, ho') k cK = zk_ce E ad st cid k c) {H : Heap} (hw : zk_wd dC dI cl ad st (cid.1, ho') ba ly E' (zk_cat2 x.1 NE) x.2.1 H) (ht : ∀ u, x.2.2 = some u → zk_tv x.1.1 u) :
    zk_ag N.1 E (zk_Ek N.1 nE E E') ∧ N.1 ≤ X.1.1 ∧ x.2.2.map (zk_v E' ad st) = X.2.2.map (zk_v (zk_Ek N.1 nE E E') ad st) ∧ zk_wd dC dI cl ad st cid ba ly (zk_Ek N.1 nE E E') X.1 X.2.1 H ∧ ∀ u, X.2.2 = some u → zk_tv X.1.1 u := by
  unfold zk_kex at hX
  split at hX
  · rename_i hp' g hm
    simp only [Bool.and_eq_true] at g
    obtain ⟨⟨g1, g2⟩, g5⟩ := g
    have g1 := Nat.ble_eq.mp g1
    obtain ⟨b1, b2, b3⟩ := zk_clB_of g2
    simp only at b1 b2 b3
    cases hX
    have hag : zk_ag x.1.1 E' (zk_eh 0 (zk_th2 th nE N.1 (x.1.1 - nE)) (zk_Ek N.1 nE E E')) := by
      have := zk_Ek_eh (m := x.1.1 - nE) h1 h2 h0 ha
      rwa [show nE + (x.1.1 - nE) = x.1.1 by omega] at this
    obtain ⟨w1, w2, w3, w4, w5, w6⟩ := hw
    have w3 : ∀ c ∈ x.2.1, zk_cs x.1.1 c := w3
    have k0 := zk_ok_ag hE hc (zk_Ek_ag (nE := nE) (E' := E'))
    obtain ⟨m1, m2, m3, m4⟩ := zk_mrg_at hm
    have hat : ∀ (k : Nat) (m : zk_C), hp'[k]? = some m → ∃ cK cx c, Kc[k]? = some cK ∧ x.2.1[k]? = some cx ∧ hp[k]? = some c ∧ ((cK = cx ∧ m = c) ∨ (cx.1 ≠ 9 ∧ m = zk_kCc (zk_th2 th nE N.1 (x.1.1 - nE)) cx ∧ zk_cs (N.1 + (x.1.1 - nE)) m)) := by
      intro k m hk
      have hl := (List.getElem?_eq_some_iff.mp hk).1
      have hl1 : k < Kc.length := by omega
      have hl2 : k < x.2.1.length := by omega
      have hl3 : k < hp.length := by omega
      exact ⟨_, _, _, List.getElem?_eq_getElem hl1, List.getElem?_eq_getElem hl2, List.getElem?_eq_getElem hl3, m4 k _ _ _ m (List.getElem?_eq_getElem hl1) (List.getElem?_eq_getElem hl2) (List.getElem?_eq_getElem hl3) hk⟩
    have hws : zk_ws E' ad st (cid.1, ho') 0 x.2.1 = zk_ws (zk_Ek N.1 nE E E') ad st cid 0 hp' := by
      apply List.ext_getElem?
      intro k
      rw [zk_ws_at, zk_ws_at]
      by_cases hk : k < hp'.length
      · obtain ⟨cK, cx, c, q1, q2, q3, q4⟩ := hat k _ (List.getElem?_eq_getElem hk)
        rw [q2, List.getElem?_eq_getElem hk, Option.map_some, Option.map_some]
        congr 2
        rcases q4 with ⟨r1, r2⟩ | ⟨r1, r2, r3⟩
        · rw [r2, ← r1, Nat.zero_add]
          have s1 : zk_ce E' ad st (cid.1, ho') k cK = zk_ce (zk_eh 0 th E) ad st (cid.1, ho') k cK := zk_ce_ag ha (hKs _ (List.mem_of_getElem? q1))
          rw [s1, hce k cK c q1 q3]
          exact (zk_ce_ag zk_Ek_ag (hps _ (List.mem_of_getElem? q3))).symm
        · rw [r2, Nat.zero_add]
          rw [← zk_ce_ag hag (w3 _ (List.mem_of_getElem? q2)), zk_kCc_ce]
          obtain ⟨c1, c2⟩ := cid
          exact zk_ce_ho r1
      · rw [List.getElem?_eq_none (by omega), List.getElem?_eq_none (by omega)]
        rfl
    refine ⟨zk_Ek_ag, Nat.le_add_right _ _, ?_, ⟨⟨fun q hq => ?_, fun f hf => ?_, fun gg hg => ?_⟩, ⟨fun q hq => ?_, fun f hf => ?_, fun gg hg => ?_⟩, fun m hm => ?_, fun k m hk h9 => ?_, ?_, ?_⟩, fun u hu => ?_⟩
    · cases hx : x.2.2 with
      | none => rfl
      | some t =>
        simp only [Option.map_some]
        rw [← zk_kT_v, zk_v_ag hag (ht t hx)]
    · rcases List.mem_append.mp hq with hq | hq
      · obtain ⟨q0, c1, c2, rfl⟩ := zk_kB_mem hq
        have := w1.1 q0 (List.mem_append_left _ c1)
        simp only [zk_Ek]
        rw [if_neg (by omega), show N.1 + (q0.1 - nE) - N.1 + nE = q0.1 by omega]
        exact this
      · exact k0.1 q hq
    · rcases List.mem_append.mp hf with hf | hf
      · obtain ⟨f0, c1, rfl⟩ := List.mem_map.mp hf
        have c2 := w1.2.1 f0 (List.mem_append_left _ c1)
        have c3 : zk_sv x.1.1 f0 := w2.2.1 f0 (List.mem_append_left _ c1)
        rw [zk_sb_i, zk_i_ag hag c3]
        exact c2
      · exact k0.2.1 f hf
    · rcases List.mem_append.mp hg with hg | hg
      · obtain ⟨f0, c1, rfl⟩ := List.mem_map.mp hg
        have c2 := w1.2.2 f0 (List.mem_append_left _ c1)
        have c3 := w2.2.2 f0 (List.mem_append_left _ c1)
        have d1 : (f0.2.1.map (zk_sbA 0 (zk_th2 th nE N.1 (x.1.1 - nE)))).map (zk_Ek N.1 nE E E').2 = f0.2.1.map E'.2 := by
          rw [List.map_map]
          exact List.map_congr_left fun a ha => (hag a (c3.1 a ha)).2
        have d2 : (f0.2.2.map (zk_sb 0 (zk_th2 th nE N.1 (x.1.1 - nE)))).map (zk_i (zk_Ek N.1 nE E E')) = f0.2.2.map (zk_i E') := by
          rw [List.map_map]
          exact List.map_congr_left fun v hv => by
            show zk_i (zk_Ek N.1 nE E E') (zk_sb 0 _ v) = _
            rw [zk_sb_i, zk_i_ag hag (c3.2 v hv)]
        show zk_S f0.1 ((f0.2.1.map (zk_sbA 0 (zk_th2 th nE N.1 (x.1.1 - nE)))).map (zk_Ek N.1 nE E E').2) ((f0.2.2.map (zk_sb 0 (zk_th2 th nE N.1 (x.1.1 - nE)))).map (zk_i (zk_Ek N.1 nE E E')))
        rw [d1, d2]
        exact c2
      · exact k0.2.2 gg hg
    · rcases List.mem_append.mp hq with hq | hq
      · exact b1 q hq
      · exact Nat.lt_of_lt_of_le (hc.1 q hq) (Nat.le_add_right _ _)
    · rcases List.mem_append.mp hf with hf | hf
      · exact b2 f hf
      · exact zk_sv_le (Nat.le_add_right _ _) (hc.2.1 f hf)
    · rcases List.mem_append.mp hg with hg | hg
      · exact b3 gg hg
      · exact ⟨fun b hb => Nat.lt_of_lt_of_le ((hc.2.2 gg hg).1 b hb) (Nat.le_add_right _ _), fun v hv => zk_sv_le (Nat.le_add_right _ _) ((hc.2.2 gg hg).2 v hv)⟩
    · obtain ⟨k, hk⟩ := List.mem_iff_getElem?.mp hm
      obtain ⟨cK, cx, c, q1, q2, q3, q4⟩ := hat k m hk
      rcases q4 with ⟨r1, r2⟩ | ⟨r1, r2, r3⟩
      · rw [r2]; exact zk_cs_le (Nat.le_add_right _ _) (hps _ (List.mem_of_getElem? q3))
      · exact r3
    · obtain ⟨cK, cx, c, q1, q2, q3, q4⟩ := hat k m hk
      rcases q4 with ⟨r1, r2⟩ | ⟨r1, r2, r3⟩
      · rw [r2] at h9 ⊢; exact hpl k c q3 h9
      · rw [r2]; exact w4 k cx q2 r1
    · rw [← hws]
      exact w5
    · rw [← hws]
      exact w6
    · cases hx : x.2.2 with
      | none =>
        rw [hx] at hu
        cases hu
      | some t =>
        rw [hx] at g5 hu
        simp only at g5
        cases hu
        exact zk_svB_of g5
  · cases hX
theorem zk_kexs_at {th : zk_Th} {nE : Nat} {Kc hp : List zk_C} {N : zk_N} : ∀ {xs : List zk_Kx} {L : List zk_Ex}, zk_kexs th nE Kc hp N xs = some L → ∀ x ∈ xs, ∃ X ∈ L, zk_kex (zk_th2 th nE N.1 (x.1.1 - nE)) nE Kc hp N x = some X
  | [], L, _, x, hx => by cases hx
  | y :: l, L, h, x, hx => by
    unfold zk_kexs at h
    split at h
    · rename_i X L' h1 h2
      cases h
      rcases List.mem_cons.mp hx with rfl | hx
      · exact ⟨X, List.mem_cons_self, h1⟩
      · obtain ⟨X', a, b⟩ := zk_kexs_at h2 x hx
        exact ⟨X', List.mem_cons_of_mem _ a, b⟩
    · cases h
/-- a contract holds, whatever lies in the cells that it doesn't tell -/
def zk_Kok (dC : Nat → ClassId) (dI : Nat → Nat → Nat) (cl : List vw_C) (ad st : Nat → Nat) (cid : zk_CI) (ba : Nat) (ly : List (Nat × Nat)) (tab : zk_Tab) (G nw : List Jvm.Cond) (PT : List zk_M) (l : Launch) (K : zk_K) : Prop := ∀ (ho : Nat → va_E) (M : zk_M) (E : zk_E), PT[K.1]? = some M → zk_ok E K.2.2.1 → zk_cl K.2.2.1 →
  Met l M.1 (zk_code M :: G) (zk_rm K.2.1) (va_Pc (K.2.2.2.2.1.map (zk_v E ad st)) (fun U => zk_S0 dC dI cl st (cid.1, ho) ba ly tab nw U ∧ zk_wd dC dI cl ad st (cid.1, ho) ba ly E K.2.2.1 K.2.2.2.1 U.heap)) (zk_QX dC dI cl ad st (cid.1, ho) ba ly E K.2.2.1.1 (K.2.2.2.2.2.map fun x => (zk_cat2 x.1 K.2.2.1, x.2.1, x.2.2))) 0 0 (fun q => ba ≤ q)
theorem zk_kcall_ok {mi d : Nat} {z : zk_Z} {as : List zk_T} {E : zk_E} {M : zk_M} (hM : PT[mi]? = some M) (hE : zk_ok E z.1) (hc : zk_cl z.1) (hps : ∀ c ∈ z.2.1, zk_cs z.1.1 c) (hlay : zk_lay z.2.1 ly) : ∀ {CT : List zk_K} {L : List zk_Ex}, (∀ K ∈ CT, zk_Kok dC dI cl ad st cid ba ly tab G nw PT l K) → zk_kcall mi d z as CT = some L →
    ∃ dk, dk ≤ d ∧ Met l M.1 (zk_code M :: G) (zk_rm dk) (va_Pc (as.map (zk_v E ad st)) (fun U => zk_S0 dC dI cl st cid ba ly tab nw U ∧ zk_wd dC dI cl ad st cid ba ly E z.1 z.2.1 U.heap)) (zk_QX dC dI cl ad st cid ba ly E z.1.1 L) 0 0 (fun q => ba ≤ q)
  | [], L, _, h => by cases h
  | K :: CT, L, hK, h => by
    unfold zk_kcall at h
    split at h
    · rename_i g
      simp only [Bool.and_eq_true] at g
      have g1 := Nat.eq_of_beq_eq_true g.1
      have g2 := Nat.ble_eq.mp g.2
      split at h
      · rename_i f
        generalize zk_mtT 0 (zk_mtC 0 ([], []) K.2.2.2.1 z.2.1) K.2.2.2.2.1 as = th at f h
        unfold zk_kfit at f
        simp only [Bool.and_eq_true] at f
        obtain ⟨⟨⟨⟨⟨⟨f1, f2⟩, f3⟩, f4⟩, f5⟩, f6⟩, f7⟩ := f
        have f7 := Nat.blt_eq.mp f7
        have t1 : ∀ q ∈ th.1, q.1 < K.2.2.1.1 ∧ zk_sv z.1.1 q.2 := fun q hq => by
          have := List.all_eq_true.mp f5 q hq
          simp only [Bool.and_eq_true] at this
          exact ⟨Nat.blt_eq.mp this.1, zk_svB_of this.2⟩
        have t2 : ∀ q ∈ th.2, q.1 < K.2.2.1.1 ∧ q.2 < z.1.1 := fun q hq => by
          have := List.all_eq_true.mp f6 q hq
          simp only [Bool.and_eq_true] at this
          exact ⟨Nat.blt_eq.mp this.1, Nat.blt_eq.mp this.2⟩
        have h00 : zk_ok E (0, [], [], []) := ⟨fun q hq => absurd hq List.not_mem_nil, fun q hq => absurd hq List.not_mem_nil, fun q hq => absurd hq List.not_mem_nil⟩
        have c00 : zk_cl (0, [], [], []) := ⟨fun q hq => absurd hq List.not_mem_nil, fun q hq => absurd hq List.not_mem_nil, fun q hq => absurd hq List.not_mem_nil⟩
        obtain ⟨k1, k2, -⟩ := zk_fitN_ok hE h00 c00 rfl f1
        rw [zk_cat2_0] at k1 k2
        obtain ⟨e1, e2⟩ := zk_kfc_at f2
        have hKs : ∀ c ∈ K.2.2.2.1, zk_cs K.2.2.1.1 c := fun c hcm => zk_csB_of (List.all_eq_true.mp f4 c hcm)
        obtain ⟨ho', hho⟩ : ∃ ho' : Nat → va_E, ∀ (k : Nat) (c : zk_C), z.2.1[k]? = some c → ho' k = zk_ce E ad st cid k c := ⟨fun k => zk_ce E ad st cid k (z.2.1.getD k (0, 0, [])), fun k c hk => by
          show zk_ce E ad st cid k (z.2.1.getD k (0, 0, [])) = _
          rw [List.getD_eq_getElem?_getD, hk]; rfl⟩
        have hce : ∀ (k : Nat) (cK c : zk_C), K.2.2.2.1[k]? = some cK → z.2.1[k]? = some c → zk_ce (zk_eh 0 th E) ad st (cid.1, ho') k cK = zk_ce E ad st cid k c := by
          intro k cK c q1 q2
          by_cases h9 : cK.1 = 9
          · rw [← hho k c q2]
            simp only [zk_ce, h9]
          · rcases e2 k cK c q1 q2 with e | e
            · exact absurd e h9
            · obtain ⟨r1, r2⟩ := zk_ceq_of (E := E) (ad := ad) (st := st) (cid := (cid.1, ho')) (k := k) e
              rw [r1]
              have hc9 : c.1 ≠ 9 := by rw [← (Prod.mk.inj r2).1]; exact h9
              obtain ⟨c1, c2⟩ := cid
              exact zk_ce_ho hc9
        have hws : zk_ws (zk_eh 0 th E) ad st (cid.1, ho') 0 K.2.2.2.1 = zk_ws E ad st cid 0 z.2.1 := by
          apply List.ext_getElem?
          intro k
          rw [zk_ws_at, zk_ws_at]
          by_cases hk : k < z.2.1.length
          · have hk' : k < K.2.2.2.1.length := by omega
            rw [List.getElem?_eq_getElem hk, List.getElem?_eq_getElem hk', Option.map_some, Option.map_some, Nat.zero_add, hce k _ _ (List.getElem?_eq_getElem hk') (List.getElem?_eq_getElem hk)]
          · rw [List.getElem?_eq_none (by omega), List.getElem?_eq_none (by omega)]
            rfl
        have hMet := hK K List.mem_cons_self ho' M (zk_eh 0 th E) (by rw [g1]; exact hM) k1 k2
        refine ⟨K.2.1, g2, zk_Met_imp hMet ?_ ?_⟩
        · rintro a U ⟨p1, p2, p3⟩
          obtain ⟨a1, a2, a3, a4, a5, a6⟩ := p3
          refine ⟨?_, p2, k1, k2, hKs, fun k cK hk h9 => ?_, by rw [hws]; exact a5, by rw [hws]; exact a6⟩
          · rw [zk_teqs_of (E := E) (ad := ad) (st := st) f3]
            exact p1
          · have hk' : k < z.2.1.length := by rw [← e1]; exact (List.getElem?_eq_some_iff.mp hk).1
            rcases e2 k cK _ hk (List.getElem?_eq_getElem hk') with e | e
            · exact absurd e h9
            · obtain ⟨r1, r2⟩ := zk_ceq_of (E := E) (ad := ad) (st := st) (cid := cid) (k := k) e
              rw [r2]
              exact a4 k _ (List.getElem?_eq_getElem hk') (by rw [← (Prod.mk.inj r2).1]; exact h9)
        · rintro a s0 o t ⟨⟨X, hX, E', q1, q2, q3, q4, q5⟩, hF⟩
          obtain ⟨x, hx, rfl⟩ := List.mem_map.mp hX
          obtain ⟨X', hX', hkx⟩ := zk_kexs_at h x hx
          obtain ⟨r1, r2, r3, r4, r5⟩ := zk_kex_ok (ly := ly) (ad := ad) (st := st) (cid := cid) hkx hE hc t1 t2 f7 q1 hKs hps hlay hce q4 q5
          exact ⟨⟨X', hX', _, r1, r2, by rw [q3]; simp only; rw [r3], r4, r5⟩, hF⟩
      · exact zk_kcall_ok hM hE hc hps hlay (fun K' hK' => hK K' (List.mem_cons_of_mem _ hK')) h
    · exact zk_kcall_ok hM hE hc hps hlay (fun K' hK' => hK K' (List.mem_cons_of_mem _ hK')) h
theorem zk_inl_ok {CT : List zk_K} {rec : zk_Rec} (hCT : ∀ K ∈ CT, zk_Kok dC dI cl ad st cid ba ly tab G nw PT l K) (hrec : zk_Snd dC dI cl ad st cid ba ly tab G nw PT l rec) {b d mi : Nat} {M : zk_M} {z : zk_Z} {as : List zk_T} {L : List zk_Ex} (hMi : PT[mi]? = some M) (hM2 : zk_Mok G nw cl tab PT M ∧ M.1.cls ≠ "NightLetInLaw") {q0 : zk_I} {r0 : List zk_I} (hops : M.2.2.2.2.2.1 = q0 :: r0) (h0 : q0.1 = 0) {E : zk_E} (hE : zk_ok E z.1) (hc : zk_cl z.1) (hps : ∀ c ∈ z.2.1, zk_cs z.1.1 c) (hlay : zk_lay z.2.1 ly) (has : ∀ t ∈ as, zk_tv z.1.1 t) (hsl : zk_slots as ≤ M.2.2.1) (h : zk_inl CT rec b d mi M z as = some L) :
    ∃ dk, dk ≤ d ∧ Met l M.1 (zk_code M :: G) (zk_rm dk) (va_Pc (as.map (zk_v E ad st)) (fun U => zk_S0 dC dI cl st cid ba ly tab nw U ∧ zk_wd dC dI cl ad st cid ba ly E z.1 z.2.1 U.heap)) (zk_QX dC dI cl ad st cid ba ly E z.1.1 L) 0 0 (fun q => ba ≤ q) := by
  have hM := hM2.1
  unfold zk_inl at h
  split at h
  · rw [hops] at h
    refine ⟨d, Nat.le_refl _, zk_met (l := l) (d := d) (E := E) (N := z.1) (hp := z.2.1) (as := as) (L := L) hM has hsl fun p' e' s' m' args' below' meth' c' hF' H' locs' ls' stk' hAt' => ?_⟩
    have := hrec d M [] q0 r0 _ L hM (by rw [hops]; exact fun v hv => hv) h (zk_rm d) 0 0 (zk_rk_rm d) p' e' s' m' args' below' meth' c' hF' E H' locs' ls' stk' E z.1.1 L hAt' zk_ag_rf (Nat.le_refl _) (fun X hX => hX) (fun h => absurd h hM2.2) (fun en hen => absurd hen List.not_mem_nil)
    rw [h0] at this
    exact this
  · exact zk_kcall_ok hMi hE hc hps hlay hCT h
end ZK
end
