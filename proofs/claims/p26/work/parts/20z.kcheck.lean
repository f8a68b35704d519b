noncomputable section
/-! CONTRACTS CHECKED -/
def zk_kxth (wE : zk_New) (X : zk_Ex) (x : zk_Kx) : zk_Th := match x.2.2, X.2.2 with
  | some t, some t' => zk_mtT wE.1 (zk_mtC wE.1 ([], []) x.2.1 X.2.1) [t] [t']
  | _, _ => zk_mtC wE.1 ([], []) x.2.1 X.2.1
def zk_kxf (wE : zk_New) (X : zk_Ex) (x : zk_Kx) (th : zk_Th) : Bool := zk_fitN wE.1 th X.1 x.1 && zk_ceqs wE.1 th x.2.1 X.2.1 && (match x.2.2, X.2.2 with
  | none, none => true
  | some t, some t' => zk_teq wE.1 th t t'
  | _, _ => false)
/-- the ends' shapes tell of their own symbols alone -/
def zk_kxc (x : zk_Kx) : Bool := (x.2.1.all fun c => zk_csB x.1.1 c) && (match x.2.2 with
  | none => true
  | some t => zk_svB x.1.1 t.2.2)
def zk_Kb (PT : List zk_M) (CT : List zk_K) (RT : List zk_Rl) (tab : zk_Tab) (f : Nat) (K : zk_K) : Bool := match zk_get PT K.1 with
  | some M => match M.2.2.2.2.2.1 with
    | q0 :: _ => Nat.beq q0.1 0 && Nat.ble (zk_slots K.2.2.2.2.1) M.2.2.1 && (K.2.2.2.2.1.all fun t => zk_svB K.2.2.1.1 t.2.2) && (K.2.2.2.2.2.all zk_kxc) && (match zk_run PT CT RT tab f K.2.1 M [] M.2.2.2.2.2.1 (K.2.2.1, K.2.2.2.1, zk_args 0 K.2.2.2.2.1, []) with
      | some L => L.all fun X => K.2.2.2.2.2.any fun x => zk_kxf K.2.2.1 X x (zk_kxth K.2.2.1 X x)
      | none => false)
    | [] => false
  | none => false
section ZQ
variable {dC : Nat → ClassId} {dI : Nat → Nat → Nat} {cl : List vw_C} {ad st : Nat → Nat} {cid : zk_CI} {ba : Nat} {ly : List (Nat × Nat)} {tab : zk_Tab} {G nw : List Jvm.Cond} {PT : List zk_M} {CT : List zk_K} {RT : List zk_Rl} {l : Launch}
set_option maxHeartbeats 1000000 in
theorem zk_Kb_of (hCT : ∀ K ∈ CT, zk_Kok dC dI cl ad st cid ba ly tab G nw PT l K) (hnw : ∀ w ∈ nw, zk_isNest w) (hG : ∀ w ∈ G, (w.onTables && w.keeps) = true ∨ ∃ ty, w = Cond.arrayClass ty) (hcls : zk_cls cl (G ++ nw)) (hPT : ∀ (i : Nat) (M : zk_M), PT[i]? = some M → zk_Mok G nw cl tab PT M ∧ M.1.cls ≠ "NightLetInLaw") (hRT : ∀ f ∈ RT, zk_Rok f) {f : Nat} {K : zk_K} (h : zk_Kb PT CT RT tab f K = true) : zk_Kok dC dI cl ad st cid ba ly tab G nw PT l K := by
  intro ho M E hM hE hc
  unfold zk_Kb at h
  split at h
  · rename_i M' hget
    rw [zk_get_eq] at hget
    cases hget.symm.trans hM
    split at h
    · rename_i q0 r0 hops
      simp only [Bool.and_eq_true] at h
      obtain ⟨⟨⟨⟨h1, h2⟩, h3⟩, h5⟩, h4⟩ := h
      have h1 := Nat.eq_of_beq_eq_true h1
      have h2 := Nat.ble_eq.mp h2
      have has : ∀ t ∈ K.2.2.2.2.1, zk_tv K.2.2.1.1 t := fun t ht => zk_svB_of (List.all_eq_true.mp h3 t ht)
      split at h4
      · rename_i L hrun
        rw [hops] at hrun
        have hMok2 := hPT _ _ hM
        have hMok := hMok2.1
        have hMet := zk_met (l := l) (d := K.2.1) (E := E) (N := K.2.2.1) (hp := K.2.2.2.1) (as := K.2.2.2.2.1) (L := L) hMok has h2 (dC := dC) (dI := dI) (ad := ad) (st := st) (cid := (cid.1, ho)) (ba := ba) (ly := ly)
          (fun p' e' s' m' args' below' meth' c' hF' H' locs' ls' stk' hAt' => by
            have := zk_run_ok (cid := (cid.1, ho)) hCT hnw hG hcls hPT hRT f K.2.1 M [] q0 r0 _ L hMok (by rw [hops]; exact fun v hv => hv) hrun (zk_rm K.2.1) 0 0 (zk_rk_rm _) p' e' s' m' args' below' meth' c' hF' E H' locs' ls' stk' E K.2.2.1.1 L hAt' zk_ag_rf (Nat.le_refl _) (fun X hX => hX) (fun h => absurd h hMok2.2) (fun en hen => absurd hen List.not_mem_nil)
            rw [h1] at this
            exact this)
        refine zk_Met_imp hMet (fun _ _ g => g) ?_
        rintro a s0 o t ⟨⟨X, hX, E', q1, q2, q3, q4, q5⟩, hF⟩
        obtain ⟨x, hx1, hx2⟩ := List.any_eq_true.mp (List.all_eq_true.mp h4 X hX)
        generalize zk_kxth K.2.2.1 X x = th at hx2
        unfold zk_kxf at hx2
        simp only [Bool.and_eq_true] at hx2
        obtain ⟨⟨f1, f2⟩, f4⟩ := hx2
        have hxc := List.all_eq_true.mp h5 x hx1
        unfold zk_kxc at hxc
        simp only [Bool.and_eq_true] at hxc
        obtain ⟨f3, f5⟩ := hxc
        obtain ⟨w1, w2, w3, w4, w5, w6⟩ := q4
        have k0 := zk_ok_ag hE hc q1
        obtain ⟨k1, k2, k3⟩ := zk_fitN_ok w1 k0 hc rfl f1
        obtain ⟨e1, e2⟩ := zk_ceqs_of (E := E') (ad := ad) (st := st) (cid := (cid.1, ho)) (k := 0) f2
        refine ⟨⟨_, List.mem_map.mpr ⟨x, hx1, rfl⟩, zk_eh K.2.2.1.1 th E', zk_ag_tr q1 zk_eh_ag (Nat.le_refl _), k3, ?_, ⟨k1, k2, fun c hcm => zk_csB_of (List.all_eq_true.mp f3 c hcm), zk_lay_map w4 e2, by rw [e1]; exact w5, by rw [e1]; exact w6⟩, fun u hu => ?_⟩, hF⟩
        · rw [q3]
          simp only
          split at f4
          · rename_i e3 e4
            rw [e3, e4]
            rfl
          · rename_i t1 t2 e3 e4
            rw [e3, e4, Option.map_some, Option.map_some, zk_teq_of (E := E') (ad := ad) (st := st) f4]
          · cases f4
        · simp only at hu
          split at f4
          · rename_i e3 e4
            rw [e3] at hu
            cases hu
          · rename_i t1 t2 e3 e4
            rw [e3] at hu f5
            cases hu
            exact zk_svB_of f5
          · cases f4
      · cases h4
    · cases h
  · cases h
end ZQ
end
