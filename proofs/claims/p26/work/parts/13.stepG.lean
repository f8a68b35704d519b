noncomputable section
section ZG
variable {p : Program} {l : Launch} {e : Env} {R : Room} {s : State} {m : MethodId} {args : Array Value} {below : List Frame} {meth : Method} {c : Code} {cells slots : Nat} {Q : State → Prop}
variable {dC : Nat → ClassId} {dI : Nat → Nat → Nat} {cl : List vw_C} {ad st : Nat → Nat} {cid : zk_CI} {ba : Nat} {ly : List (Nat × Nat)} {nL : Nat} {E : zk_E} {H : Heap} {locs : List Loc} {ls : Array Slot} {stk : List Value}
variable {cc : ByteArray} {q : zk_I} {z : zk_Z} {L : List (Option Nat × zk_Z)} {own : String} {tb : List Jvm.Cond} {tab : zk_Tab}
theorem zk_pick_at {v : zk_V} {r : List zk_T} : ∀ {l : List zk_T} {k : Int} {j : Nat} {u : zk_T} {N' : zk_N}, l[j]? = some u → zk_eqs z.1 (zk_vsub v (zk_c (k + j))) = some N' → (none, (N', z.2.1, z.2.2.1, u :: r)) ∈ zk_pick z v r k l
  | [], k, j, u, N', h, _ => by simp at h
  | a :: l, k, 0, u, N', h, hN => by
    simp at h
    subst h
    unfold zk_pick
    exact zk_br_mem (N := z.1) (by simpa using hN)
  | a :: l, k, j + 1, u, N', h, hN => by
    rw [List.getElem?_cons_succ] at h
    unfold zk_pick
    refine zk_br_sub (zk_pick_at (k := k + 1) h ?_)
    rw [show k + 1 + (j : Int) = k + ((j + 1 : Nat) : Int) by omega]
    exact hN
theorem zk_allR_of : ∀ {l : List zk_T}, zk_allR l = true → ∀ t ∈ l, t.1 = 2 ∨ t.1 = 3
  | [], _, t, ht => by cases ht
  | a :: l, h, t, ht => by
    unfold zk_allR at h
    simp only [Bool.and_eq_true, Bool.or_eq_true] at h
    rcases List.mem_cons.mp ht with rfl | ht
    · rcases h.1 with e | e
      · exact Or.inl (Nat.eq_of_beq_eq_true e)
      · exact Or.inr (Nat.eq_of_beq_eq_true e)
    · exact zk_allR_of h.2 t ht
theorem zk_fit_i (d : String) (ty : FieldType) (hd : parseFieldDescriptor d = some ty) (x : Int32) (h : d = "I" ∨ (d = "Z" ∧ (x = 0 ∨ x = 1))) : narrow ty (.int x) = .int x ∧ fits ty (.int x) = true := by
  rcases h with rfl | ⟨rfl, h⟩
  · have e : parseFieldDescriptor "I" = some .int := by decide +kernel
    cases e.symm.trans hd
    exact ⟨rfl, rfl⟩
  · have e : parseFieldDescriptor "Z" = some .boolean := by decide +kernel
    cases e.symm.trans hd
    rcases h with rfl | rfl <;> exact ⟨by decide, by decide⟩
set_option maxHeartbeats 2000000 in
theorem zk_sE_ok (hx : p.tables.exec = Jvm.exec) (hb : c.code = cc) (hown : s.vm.findClass own = some m.cls) (hts : ∀ w ∈ tb, w.before args s = true) (hd : decode cc q.1 = .ok (q.2.1, q.2.2.1)) (hk : zk_kE own tb cl tab q) (hcls : zk_cls cl tb) (hen : zk_env dC dI cl cid ly s) (hst : zk_sta tab st ba s)
    (h : zk_At dC dI cl ad st cid ba ly nL s.heap E z H locs ls stk) (he : zk_sE tab q z = some L) (hg : ∀ r ∈ L, zk_go (zk_W p l e R s m args below meth c cells slots Q) (zk_At dC dI cl ad st cid ba ly nL s.heap) E z.1.1 r.2 (zk_tg q r.1)) : W p l e R s m args below meth c H locs cells slots Q (F0 m q.1 ls stk) := by
  obtain ⟨pc, ins, len, ann, qa, qb, qc⟩ := q
  unfold zk_sE at he
  unfold zk_kE at hk
  simp only at he hd hk ⊢
  have g0 : len = 1 → ∀ r ∈ L, r.1 = none → zk_go (zk_W p l e R s m args below meth c cells slots Q) (zk_At dC dI cl ad st cid ba ly nL s.heap) E z.1.1 r.2 (pc + 1) := by
    intro hl r hr hn
    have := hg r hr
    rw [hn] at this
    subst hl
    exact this
  split at he <;> simp only at hk
  · rename_i i
    obtain ⟨rfl, rr, hr1, hr2, hr3, hr4⟩ := hk
    obtain ⟨N, hp, lc, sk⟩ := z
    simp only at he
    split at he
    · rename_i t r
      split at he
      · rename_i cc' h3 hc
        have h3 := Nat.eq_of_beq_eq_true h3
        rw [zk_get_eq] at hc
        split at he
        · rename_i v g hv
          simp only [Bool.and_eq_true] at g
          have g1 := Nat.eq_of_beq_eq_true g.1
          have g2 := Nat.eq_of_beq_eq_true g.2
          rw [zk_get_eq] at hv
          cases he
          have hws := zk_ws_0 (E := E) (ad := ad) (st := st) (cid := cid) hc
          have ec : zk_ce E ad st cid t.2.1 cc' = .inr (qa, cc'.2.2.map (zk_v E ad st)) := by unfold zk_ce; rw [g1]; simp only [g2]
          rw [ec] at hws
          have hvt : zk_v E ad st t = .ref (ad t.2.1) := by simp only [zk_v, h3]
          rw [h.2.1.2.2.2, List.map_cons, hvt]
          refine va_get hx hb hts (hcls _ _ hr1).1 hown hen.1 h.1.2.2.2.2.1 t.2.1 hws hr1 qb hr2 (hts _ hr4) (fun x hx => by rw [hr3] at hx; exact hx) (v := zk_v E ad st v) (by rw [List.getElem?_map, hv]; rfl) hd ?_
          have hX := zk_same (r := v :: r) h (fun u hu => by
            rcases List.mem_cons.mp hu with rfl | hu
            · exact (h.1.2.2.1 _ (List.mem_of_getElem? hc)).1 _ (List.mem_of_getElem? hv)
            · exact h.2.1.2.1 u (List.mem_cons_of_mem _ hu)) (hg _ List.mem_cons_self)
          exact hX
        · cases he
      · cases he
    · cases he
  · rename_i i
    obtain ⟨rfl, rr, hr1, hr2, hr3, hr4, hr56⟩ := hk
    obtain ⟨N, hp, lc, sk⟩ := z
    simp only at he
    split at he
    · rename_i x t r
      split at he
      · rename_i cc' h3 hc
        simp only [Bool.and_eq_true] at h3
        have ht3 := Nat.eq_of_beq_eq_true h3.1.1
        have hx0 := Nat.eq_of_beq_eq_true h3.1.2
        obtain ⟨hr5, hr6⟩ := hr56.resolve_left fun e => by
          have h74 := h3.2
          rw [e] at h74
          exact absurd h74 (by decide)
        rw [zk_get_eq] at hc
        split at he
        · rename_i g
          simp only [Bool.and_eq_true, Bool.or_eq_true] at g
          obtain ⟨⟨⟨g1, g2⟩, g3⟩, g4⟩ := g
          have g1 := Nat.eq_of_beq_eq_true g1
          have g2 := Nat.eq_of_beq_eq_true g2
          have g3 := Nat.blt_eq.mp g3
          cases he
          have hws := zk_ws_0 (E := E) (ad := ad) (st := st) (cid := cid) hc
          have ec : zk_ce E ad st cid t.2.1 cc' = .inr (qa, cc'.2.2.map (zk_v E ad st)) := by unfold zk_ce; rw [g1]; simp only [g2]
          rw [ec] at hws
          have hvt : zk_v E ad st t = .ref (ad t.2.1) := by simp only [zk_v, ht3]
          have hvx : zk_v E ad st x = .int (Int32.ofInt (zk_i E x.2.2)) := by simp only [zk_v, hx0]
          have hxs : zk_tv N.1 x := h.2.1.2.1 x (by simp)
          obtain ⟨cw, ⟨ty, hty⟩, hnm⟩ := hcls _ _ hr1
          have hfit := zk_fit_i _ _ (hty qb hr2) (Int32.ofInt (zk_i E x.2.2)) (by
            rcases hr6 with e | ⟨e, e2⟩
            · exact Or.inl e
            · refine Or.inr ⟨e, ?_⟩
              rcases g4 with (g4 | g4) | g4
              · exact absurd (zk_eqi_of g4) e2
              · left; rw [zk_eqv_of g4, zk_c_i]; rfl
              · right; rw [zk_eqv_of g4, zk_c_i]; rfl)
          rw [h.2.1.2.2.2, List.map_cons, List.map_cons, hvt, hvx]
          refine va_put hx hb hts cw ty hty hnm hown hen.1 h.1.2.2.2.2.1 h.1.2.2.2.2.2 h.2.2 t.2.1 hws hr1 qb hr2 (hts _ hr4) (fun x hx => by rw [hr3] at hx; exact hx) hr5 (hty qb hr2) hfit.1 hfit.2 (by rw [List.length_map]; exact g3) hd fun H1 locs1 hP hD hS => ?_
          have ec2 : zk_ce E ad st cid t.2.1 (0, cc'.2.1, zk_put (0, 0, x.2.2) cc'.2.2 qb) = .inr (qa, (cc'.2.2.map (zk_v E ad st)).set qb (.int (Int32.ofInt (zk_i E x.2.2)))) := by
            unfold zk_ce
            simp only [g2, zk_put_eq, List.map_set]
            rfl
          rw [← ec2] at hP hD
          have hcs := h.1.2.2.1 _ (List.mem_of_getElem? hc)
          have hs2 : zk_cs N.1 (0, cc'.2.1, zk_put (0, 0, x.2.2) cc'.2.2 qb) := ⟨fun u hu => by
            rw [zk_put_eq] at hu
            rcases List.mem_or_eq_of_mem_set hu with h1 | h1
            · exact hcs.1 u h1
            · rw [h1]; exact hxs, fun a => absurd rfl a⟩
          have hwd := zk_wd_set h.1 zk_ag_rf h.1.1 h.1.2.1 (Nat.le_refl _) (c' := (0, cc'.2.1, zk_put (0, 0, x.2.2) cc'.2.2 qb)) hc (by rw [g1]) rfl hs2 hP hD
          exact hg _ List.mem_cons_self E H1 locs1 ls _ zk_ag_rf (Nat.le_refl _) ⟨hwd, ⟨h.2.1.1, fun u hu => h.2.1.2.1 u (by simp [hu]), h.2.1.2.2.1, rfl⟩, hS⟩
        · cases he
      · cases he
    · cases he
  · rename_i i
    obtain ⟨rfl, rr, hr1, hr2⟩ := hk
    obtain ⟨N, hp, lc, sk⟩ := z
    simp only at he
    split at he
    · cases he
      obtain ⟨hlen, hZ, hT⟩ := hst.1 _ _ hr1
      have hX := zk_same (r := (4, qa, zk_c 0) :: sk) h (fun u hu => by
        rcases List.mem_cons.mp hu with rfl | hu
        · exact zk_c_sv
        · exact h.2.1.2.1 u hu) (hg _ List.mem_cons_self)
      have hv : zk_v E ad st (4, qa, zk_c 0) = .ref (st qa) := rfl
      rw [List.map_cons, hv, ← h.2.1.2.2.2] at hX
      rcases hr2 with hr2 | ⟨host, hr2⟩
      · exact va_gets hx hb hZ h.2.2 hown (hts _ hr2) (fun x hx => hx) hd hX
      · exact va_getsN hx hb hZ h.2.2 hown (hts _ hr2) (fun x hx => hx) hd hX
    · cases he
  · subst hk
    exact zk_load_ok hx hb hd (Or.inl ⟨rfl, rfl, rfl⟩) hen hst h he (g0 rfl)
  · subst hk
    exact zk_load_ok hx hb hd (Or.inr (Or.inl ⟨rfl, rfl, rfl⟩)) hen hst h he (g0 rfl)
  · subst hk
    exact zk_load_ok hx hb hd (Or.inr (Or.inr (Or.inl ⟨rfl, rfl, rfl⟩))) hen hst h he (g0 rfl)
  · subst hk
    exact zk_load_ok hx hb hd (Or.inr (Or.inr (Or.inr ⟨rfl, rfl, rfl⟩))) hen hst h he (g0 rfl)
  · subst hk
    obtain ⟨N, hp, lc, sk⟩ := z
    simp only at he
    split at he
    · rename_i v t r hr
      obtain ⟨k0, rfl⟩ := zk_i1_of hr
      split at he
      · rename_i cc' h3 hc
        have h3 := Nat.eq_of_beq_eq_true h3
        rw [zk_get_eq] at hc
        split at he
        · rename_i g
          simp only [Bool.and_eq_true] at g
          obtain ⟨⟨⟨g1, g2⟩, g3⟩, g4⟩ := g
          have g1 := Nat.eq_of_beq_eq_true g1
          have g2 := Nat.eq_of_beq_eq_true g2
          injection he with he
          subst he
          have hok := h.1.1
          have hix := zk_ix_ok hok g3
          have hlk := zk_ly_at h.1.2.2.2.1 hc (by rw [g1]; decide)
          obtain ⟨hin, hcn⟩ := zk_ofi (E := E) (v := v) (hen.2 _ _ hlk).1 hix
          have hKk := zk_env_K hen hlk (by show cc'.1 ≠ 0; rw [g1]; decide)
          simp only [g1] at hKk
          have hws := zk_ws_0 (E := E) (ad := ad) (st := st) (cid := cid) hc
          have ec : zk_ce E ad st cid t.2.1 cc' = .inl (cid.1 t.2.1, cc'.2.1, .inr (.inr (.inr (.inr fun j => zk_rq ad (cc'.2.2.getD j (2, 0, [], 0)))))) := by simp only [zk_ce, g1]
          rw [ec] at hws
          have hvt : zk_v E ad st t = .ref (ad t.2.1) := by simp only [zk_v, h3]
          rw [h.2.1.2.2.2, List.map_cons, List.map_cons, hvt, zk_vi]
          refine va_aldq hx hb hKk h.1.2.2.2.2.1 t.2.1 0 hws rfl hin hd ?_
          rw [hcn]
          have hjl : (zk_i E v).toNat < cc'.2.2.length := by omega
          have hj : cc'.2.2[(zk_i E v).toNat]? = some cc'.2.2[(zk_i E v).toNat] := List.getElem?_eq_getElem hjl
          obtain ⟨N', e1, k1⟩ := zk_eqs_ok hok (d := zk_vsub v (zk_c (0 + ((zk_i E v).toNat : Nat)))) (by rw [zk_vsub_i, zk_c_i]; omega)
          obtain ⟨c1, n1⟩ := zk_eqs_cl h.1.2.1 (zk_vsub_sv (h.2.1.2.1 _ List.mem_cons_self) zk_c_sv) e1
          have hm := zk_pick_at (z := (N, hp, lc, (0, k0, v) :: t :: r)) (v := v) (r := r) (k := 0) hj e1
          have hut : zk_tv N.1 cc'.2.2[(zk_i E v).toNat] := (h.1.2.2.1 _ (List.mem_of_getElem? hc)).1 _ (List.getElem_mem hjl)
          have hgoal := hg _ hm E H locs ls ((cc'.2.2[(zk_i E v).toNat] :: r).map (zk_v E ad st)) zk_ag_rf (Nat.le_of_eq n1.symm) ⟨zk_wd_to h.1 zk_ag_rf k1 c1 (Nat.le_of_eq n1.symm), ⟨fun u hu => zk_tv_le (Nat.le_of_eq n1.symm) (h.2.1.1 u hu), fun u hu => by
            rcases List.mem_cons.mp hu with rfl | hu
            · exact zk_tv_le (Nat.le_of_eq n1.symm) hut
            · exact zk_tv_le (Nat.le_of_eq n1.symm) (h.2.1.2.1 u (by simp [hu])), h.2.1.2.2.1, rfl⟩, h.2.2⟩
          rw [List.map_cons] at hgoal
          have ev : va_rf (zk_rq ad (cc'.2.2.getD (zk_i E v).toNat (2, 0, [], 0))) = zk_v E ad st cc'.2.2[(zk_i E v).toNat] := by
            rw [List.getD_eq_getElem?_getD, hj, Option.getD_some]
            rcases zk_allR_of g4 _ (List.getElem_mem hjl) with e | e <;> simp [zk_rq, zk_v, e, va_rf]
          rw [ev]
          exact hgoal
        · cases he
      · cases he
    · cases he
  · subst hk
    split at he
    · rename_i x v t r hr
      obtain ⟨k0, j0, hsk⟩ := zk_st3_of hr
      exact zk_store_ok hx hb hd (Or.inl ⟨rfl, rfl, rfl⟩) hen hsk h he (g0 rfl)
    · cases he
  · subst hk
    split at he
    · rename_i x v t r hr
      obtain ⟨k0, j0, hsk⟩ := zk_st3_of hr
      exact zk_store_ok hx hb hd (Or.inr (Or.inl ⟨rfl, rfl, rfl⟩)) hen hsk h he (g0 rfl)
    · cases he
  · subst hk
    split at he
    · rename_i x v t r hr
      obtain ⟨k0, j0, hsk⟩ := zk_st3_of hr
      exact zk_store_ok hx hb hd (Or.inr (Or.inr (Or.inl ⟨rfl, rfl, rfl⟩))) hen hsk h he (g0 rfl)
    · cases he
  · subst hk
    split at he
    · rename_i x v t r hr
      obtain ⟨k0, j0, hsk⟩ := zk_st3_of hr
      exact zk_store_ok hx hb hd (Or.inr (Or.inr (Or.inr ⟨rfl, rfl, rfl⟩))) hen hsk h he (g0 rfl)
    · cases he
  · subst hk
    obtain ⟨N, hp, lc, sk⟩ := z
    simp only at he
    split at he
    · rename_i t r
      have fin : ∀ n : Nat, (none, (N, hp, lc, ((0, 0, zk_c (Int.ofNat n)) : zk_T) :: r)) ∈ L → W p l e R s m args below meth c H locs cells slots Q (F0 m (pc + 1) ls (.int (Int32.ofNat n) :: r.map (zk_v E ad st))) := by
        intro n hm
        have hX := zk_same (r := (0, 0, zk_c (Int.ofNat n)) :: r) h (fun u hu => by
          rcases List.mem_cons.mp hu with rfl | hu
          · exact zk_c_sv
          · exact h.2.1.2.1 u (List.mem_cons_of_mem _ hu)) (hg _ hm)
        rw [List.map_cons, zk_vi, zk_c_i] at hX
        have e : Int32.ofInt (Int.ofNat n) = Int32.ofNat n := by rw [← Int32.ofInt_eq_ofNat]; rfl
        rw [e] at hX
        exact hX
      split at he
      · rename_i k kd n a hrow
        cases he
        obtain ⟨cc', ht1, ht2, hck, hk1, hk2, hk3, hk0, hk5, hk9⟩ := zk_row_of hrow
        have hlk := zk_ly_at h.1.2.2.2.1 hck (by rw [hk1]; exact hk9)
        have hKk := zk_env_K hen hlk (by show cc'.1 ≠ 0; rw [hk1]; exact hk0)
        have hws := zk_ws_0 (E := E) (ad := ad) (st := st) (cid := cid) hck
        have hvt : zk_v E ad st t = .ref (ad k) := by simp only [zk_v, ht1, ht2]
        obtain ⟨x, hx1, hx2⟩ : ∃ x : vp_A, zk_ce E ad st cid k cc' = .inl (cid.1 k, x) ∧ x.1 = n := by
          unfold zk_ce
          split
          · rename_i e; exact absurd e (by rw [hk1]; exact hk0)
          · exact ⟨_, rfl, hk2⟩
          · exact ⟨_, rfl, hk2⟩
          · rename_i e; exact absurd e (by rw [hk1]; exact hk9)
          · exact ⟨_, rfl, hk2⟩
        rw [hx1] at hws
        rw [h.2.1.2.2.2, List.map_cons, hvt]
        refine va_alen hx hb hKk h.1.2.2.2.2.1 k 0 hws (ty := zk_ty cc'.1) rfl (by rw [hx2]) hd ?_
        exact fin n List.mem_cons_self
      · split at he
        · rename_i q g hq
          have ht4 := Nat.eq_of_beq_eq_true g
          rw [zk_get_eq] at hq
          cases he
          obtain ⟨hlen, hZ, hT⟩ := hst.1 _ _ hq
          have hvt : zk_v E ad st t = .ref (st t.2.1) := by simp only [zk_v, ht4]
          rw [h.2.1.2.2.2, List.map_cons, hvt]
          exact va_tlen hx hb hT h.2.2 rfl hd (fin _ List.mem_cons_self)
        · cases he
    · cases he
  · cases he
end ZG
end
