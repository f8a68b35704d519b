noncomputable section
theorem zk_map_set {hp : List zk_C} {k : Nat} {c c' : zk_C} (hk : hp[k]? = some c) (h1 : c'.1 = c.1) (h2 : c'.2.1 = c.2.1) : (hp.set k c').map (fun c => (c.1, c.2.1)) = hp.map (fun c => (c.1, c.2.1)) := by
  apply List.ext_getElem?
  intro i
  rw [List.getElem?_map, List.getElem?_map]
  by_cases e : k = i
  · subst e
    have hl := (List.getElem?_eq_some_iff.mp hk).1
    rw [List.getElem?_set_self hl, hk]
    simp [h1, h2]
  · rw [List.getElem?_set_ne e]
theorem zk_mem_set {hp : List zk_C} {k : Nat} {c' : zk_C} {P : zk_C → Prop} (h : ∀ c ∈ hp, P c) (h' : P c') : ∀ c ∈ hp.set k c', P c := fun c hc => by
  rcases List.mem_or_eq_of_mem_set hc with h1 | h1
  · exact h c h1
  · rw [h1]; exact h'
theorem zk_wd_set {dC : Nat → ClassId} {dI : Nat → Nat → Nat} {cl : List vw_C} {ad st : Nat → Nat} {cid : zk_CI} {ba : Nat} {ly : List (Nat × Nat)} {E E' : zk_E} {N N' : zk_N} {hp : List zk_C} {H H1 : Heap} (h : zk_wd dC dI cl ad st cid ba ly E N hp H) (ha : zk_ag N.1 E E') (ho : zk_ok E' N') (hc : zk_cl N') (hn : N.1 ≤ N'.1) {k : Nat} {c c' : zk_C} (hk : hp[k]? = some c) (h1 : c'.1 = c.1) (h2 : c'.2.1 = c.2.1) (hs : zk_cs N'.1 c')
    (hP : va_P (dC, dI) cl ((zk_ws E ad st cid 0 hp).set k (ad k, zk_ce E' ad st cid k c')) H1) (hD : va_D (fun q => ba ≤ q) ((zk_ws E ad st cid 0 hp).set k (ad k, zk_ce E' ad st cid k c'))) : zk_wd dC dI cl ad st cid ba ly E' N' (zk_put c' hp k) H1 := by
  obtain ⟨_, _, h3, h4, h5, h6⟩ := h
  rw [← zk_ws_ag ha h3, ← zk_ws_put] at hP hD
  rw [zk_put_eq]
  exact ⟨ho, hc, zk_mem_set (fun c hcm => zk_cs_le hn (h3 c hcm)) hs, zk_lay_map h4 (zk_map_set hk h1 h2), hP, hD⟩
theorem zk_upd_e {i : Nat} {w : Int} {f : Nat → Int} : upd (fun j => Int32.ofInt (f j)) i (Int32.ofInt w) = fun j => Int32.ofInt (if j = i then w else f j) := by
  funext j
  unfold upd
  split <;> rfl
theorem zk_updL_e {i : Nat} {w : Int} {f : Nat → Int} : vp_updL (fun j => Int64.ofInt (f j)) i (Int64.ofInt w) = fun j => Int64.ofInt (if j = i then w else f j) := by
  funext j
  unfold vp_updL
  split <;> rfl
section ZF
variable {p : Program} {l : Launch} {e : Env} {R : Room} {s : State} {m : MethodId} {args : Array Value} {below : List Frame} {meth : Method} {c : Code} {cells slots : Nat} {Q : State → Prop}
variable {dC : Nat → ClassId} {dI : Nat → Nat → Nat} {cl : List vw_C} {ad st : Nat → Nat} {cid : zk_CI} {ba : Nat} {ly : List (Nat × Nat)} {nL : Nat} {E : zk_E} {H : Heap} {locs : List Loc} {ls : Array Slot} {stk : List Value}
variable {cc : ByteArray} {q : zk_I} {z : zk_Z} {L : List (Option Nat × zk_Z)} {own : String} {tb : List Jvm.Cond} {tab : zk_Tab}
theorem zk_st3_of {tg : Nat} {sk r : List zk_T} {x v : zk_V} {t : zk_T} (h : zk_st3 tg sk = some (x, v, t, r)) : ∃ k j, sk = (tg, k, x) :: (0, j, v) :: t :: r := by
  unfold zk_st3 at h
  split at h
  · rename_i x' v' t' r'
    split at h
    · rename_i g
      simp only [Bool.and_eq_true] at g
      have e1 := Nat.eq_of_beq_eq_true g.1
      have e2 := Nat.eq_of_beq_eq_true g.2
      cases h
      exact ⟨x'.2.1, v'.2.1, by rw [← e1, ← e2]⟩
    · cases h
  · cases h
set_option maxHeartbeats 1000000 in
theorem zk_store_ok (hx : p.tables.exec = Jvm.exec) (hb : c.code = cc) {kd tg pc : Nat} {i : Instr} (hd : decode cc pc = .ok (i, 1)) (hi : (kd = 1 ∧ i = .iastore ∧ tg = 0) ∨ (kd = 2 ∧ i = .lastore ∧ tg = 1) ∨ (kd = 3 ∧ i = .bastore ∧ tg = 0) ∨ (kd = 4 ∧ i = .sastore ∧ tg = 0)) (hen : zk_env dC dI cl cid ly s) {x v : zk_V} {t : zk_T} {r : List zk_T} {k0 j0 : Nat} (hsk : z.2.2.2 = (tg, k0, x) :: (0, j0, v) :: t :: r)
    (h : zk_At dC dI cl ad st cid ba ly nL s.heap E z H locs ls stk) (he : zk_store kd z x v t r = some L) (hg : ∀ r ∈ L, r.1 = none → zk_go (zk_W p l e R s m args below meth c cells slots Q) (zk_At dC dI cl ad st cid ba ly nL s.heap) E z.1.1 r.2 (pc + 1)) : W p l e R s m args below meth c H locs cells slots Q (F0 m pc ls stk) := by
  obtain ⟨N, hp, lc, sk⟩ := z
  simp only at hsk
  subst hsk
  have hok := h.1.1
  have hcl := h.1.2.1
  have hsv := h.2.1.2.1
  have hstk := h.2.1.2.2.2
  unfold zk_store at he
  simp only at he hok hcl hsv hstk ⊢
  have hxs : zk_sv N.1 x := hsv (tg, k0, x) (by simp)
  have hvs : zk_sv N.1 v := hsv (0, j0, v) (by simp)
  split at he
  · rename_i k kd' n a hrow
    split at he
    · rename_i g
      simp only [Bool.and_eq_true] at g
      have hkd := Nat.eq_of_beq_eq_true g.1
      have hix := zk_ix_ok hok g.2
      split at he
      · rename_i N' hw
        cases he
        obtain ⟨cc', ht1, ht2, hck, hk1, hk2, hk3, hk0, hk5, hk9⟩ := zk_row_of hrow
        have hcm := List.mem_of_getElem? hck
        have hcs := h.1.2.2.1 _ hcm
        have haN : a < N.1 := by rw [← hk3]; exact hcs.2 (by rw [hk1]; exact hk0) (by rw [hk1]; exact hk5) (by rw [hk1]; exact hk9)
        have hlk := zk_ly_at h.1.2.2.2.1 hck (by rw [hk1]; exact hk9)
        have hn : n < 2 ^ 31 := by rw [← hk2]; exact (hen.2 _ _ hlk).1
        obtain ⟨hin, hcn⟩ := zk_ofi (E := E) (v := v) hn hix
        have hKk := zk_env_K hen hlk (by show cc'.1 ≠ 0; rw [hk1]; exact hk0)
        simp only [hk1, hkd] at hKk
        have hvt : zk_v E ad st t = .ref (ad k) := by simp only [zk_v, ht1, ht2]
        have hws := zk_ws_0 (E := E) (ad := ad) (st := st) (cid := cid) hck
        have hPw := h.1.2.2.2.2.1
        have hDw := h.1.2.2.2.2.2
        have fin : ∀ (X : Int → Prop), zk_to E N (zk_kept kd N x) X → ∃ E', zk_ag N.1 E E' ∧ zk_ok E' N' ∧ zk_cl N' ∧ N.1 ≤ N'.1 ∧ zk_cs N'.1 (kd', n, [(0, (zk_kept kd N x).2.1, [], 0)]) ∧ ∃ w, X w ∧ E'.2 (zk_kept kd N x).2.1 = fun j => if j = (zk_i E v).toNat then w else E.2 a j := by
          intro X hX
          obtain ⟨E1, a1, a2, a3, a4, a5, a6⟩ := hX
          obtain ⟨E2, b1, b2, b3, b4, b5⟩ := zk_wr_ok a2 a3 (Nat.lt_of_lt_of_le haN a4) (zk_sv_le a4 hvs) a5 hw
          refine ⟨E2, zk_ag_tr a1 b1 a4, b2, b3, by omega, ⟨fun u hu => ?_, fun _ _ _ => ?_⟩, _, a6, ?_⟩
          · rw [List.mem_singleton.mp hu]
            exact fun q hq => absurd hq List.not_mem_nil
          · show (zk_kept kd N x).2.1 < N'.1
            omega
          · rw [b5, zk_i_ag a1 hvs, (a1 a haN).2]
        have go : ∀ (E' : zk_E) (H1 : Heap) (locs1 : List Loc), zk_ag N.1 E E' → zk_ok E' N' → zk_cl N' → N.1 ≤ N'.1 → zk_cs N'.1 (kd', n, [(0, (zk_kept kd N x).2.1, [], 0)]) → va_P (dC, dI) cl ((zk_ws E ad st cid 0 hp).set k (ad k, zk_ce E' ad st cid k (kd', n, [(0, (zk_kept kd N x).2.1, [], 0)]))) H1 → va_D (fun q => ba ≤ q) ((zk_ws E ad st cid 0 hp).set k (ad k, zk_ce E' ad st cid k (kd', n, [(0, (zk_kept kd N x).2.1, [], 0)]))) → va_S (fun q => ba ≤ q) s.heap H1 locs1 → W p l e R s m args below meth c H1 locs1 cells slots Q (F0 m (pc + 1) ls (r.map (zk_v E ad st))) := by
          intro E' H1 locs1 a1 a2 a3 a4 a5 hP hD hS
          have hwd := zk_wd_set h.1 a1 a2 a3 a4 hck (by rw [hk1]) (by rw [hk2]) a5 hP hD
          have hfr := zk_fr_to h.2.1 a1 a4
          have e1 : r.map (zk_v E ad st) = r.map (zk_v E' ad st) := List.map_congr_left fun u hu => (zk_v_ag a1 (hsv u (by simp [hu]))).symm
          rw [e1]
          exact hg _ List.mem_cons_self rfl E' H1 locs1 ls _ a1 a4 ⟨hwd, ⟨hfr.1, fun u hu => hfr.2.1 u (by simp [hu]), hfr.2.2.1, rfl⟩, hS⟩
        have cei : ∀ E' : zk_E, kd ≠ 2 → zk_ce E' ad st cid k (kd', n, [(0, (zk_kept kd N x).2.1, [], 0)]) = .inl (cid.1 k, n, .inl fun j => Int32.ofInt (E'.2 (zk_kept kd N x).2.1 j)) := by
          intro E' h2
          unfold zk_ce
          split
          · rename_i e; exact absurd e hk0
          · rename_i e; exact absurd e (by show ¬ kd' = 2; omega)
          · rename_i e; exact absurd e hk5
          · rename_i e; exact absurd e hk9
          · rfl
        have ceo : kd ≠ 2 → zk_ce E ad st cid k cc' = .inl (cid.1 k, n, .inl fun j => Int32.ofInt (E.2 a j)) := by
          intro h2
          unfold zk_ce
          split
          · rename_i e; exact absurd e (by rw [hk1]; exact hk0)
          · rename_i e; exact absurd e (by rw [hk1]; omega)
          · rename_i e; exact absurd e (by rw [hk1]; exact hk5)
          · rename_i e; exact absurd e (by rw [hk1]; exact hk9)
          · rw [hk2, hk3]
        rw [hstk, List.map_cons, List.map_cons, List.map_cons, hvt, zk_vi]
        rcases hi with ⟨e1, e2, e3⟩ | ⟨e1, e2, e3⟩ | ⟨e1, e2, e3⟩ | ⟨e1, e2, e3⟩ <;> subst e1 <;> subst e2 <;> subst e3
        · obtain ⟨E', a1, a2, a3, a4, a5, w, hw1, hw2⟩ := fin _ (zk_norm_ok hok hcl hxs)
          rw [ceo (by decide)] at hws
          rw [zk_vi]
          refine va_iast hx hb hKk hPw hDw h.2.2 k 0 hws rfl hin hd fun H1 locs1 hP hD hS => ?_
          rw [hcn] at hP hD
          have ec : zk_ce E' ad st cid k (kd', n, [(0, (zk_kept 1 N x).2.1, [], 0)]) = .inl (cid.1 k, n, .inl (upd (fun j => Int32.ofInt (E.2 a j)) (zk_i E v).toNat (Int32.ofInt (zk_i E x)))) := by
            rw [cei E' (by decide), hw2, ← hw1]
            rw [zk_upd_e]
          rw [← ec] at hP hD
          exact go E' H1 locs1 a1 a2 a3 a4 a5 hP hD hS
        · obtain ⟨E', a1, a2, a3, a4, a5, w, hw1, hw2⟩ := fin (fun w => w = zk_i E x) (zk_old_to hok hcl hxs rfl)
          have ceo2 : zk_ce E ad st cid k cc' = .inl (cid.1 k, n, .inr (.inl fun j => Int64.ofInt (E.2 a j))) := by
            unfold zk_ce; rw [hk1, hkd]; simp only [hk2, hk3]
          rw [ceo2] at hws
          rw [zk_vl]
          refine va_last hx hb hKk hPw hDw h.2.2 k 0 hws rfl hin hd fun H1 locs1 hP hD hS => ?_
          rw [hcn] at hP hD
          have ec : zk_ce E' ad st cid k (kd', n, [(0, (zk_kept 2 N x).2.1, [], 0)]) = .inl (cid.1 k, n, .inr (.inl (vp_updL (fun j => Int64.ofInt (E.2 a j)) (zk_i E v).toNat (Int64.ofInt (zk_i E x))))) := by
            unfold zk_ce
            rw [hkd]
            simp only [zk_hd]
            rw [hw2, ← hw1]
            rw [zk_updL_e]
          rw [← ec] at hP hD
          exact go E' H1 locs1 a1 a2 a3 a4 a5 hP hD hS
        · obtain ⟨E', a1, a2, a3, a4, a5, w, hw1, hw2⟩ := fin _ (zk_cutto_ok hok hcl hxs (lo := -128) (hi := 127) (z := (Int32.ofInt (zk_i E x)).toInt8.toInt32) (by rw [Int8.toInt_toInt32]; have := Int8.le_toInt (Int32.ofInt (zk_i E x)).toInt8; omega) (by rw [Int8.toInt_toInt32]; have := Int8.toInt_lt (Int32.ofInt (zk_i E x)).toInt8; omega) (zk_i2b_e _))
          rw [ceo (by decide)] at hws
          rw [zk_vi]
          refine va_bast hx hb hKk hPw hDw h.2.2 k 0 hws rfl hin hd fun H1 locs1 hP hD hS => ?_
          rw [hcn, vp_nar_byte] at hP hD
          have ec : zk_ce E' ad st cid k (kd', n, [(0, (zk_kept 3 N x).2.1, [], 0)]) = .inl (cid.1 k, n, .inl (upd (fun j => Int32.ofInt (E.2 a j)) (zk_i E v).toNat ((Int32.ofInt (zk_i E x)).toInt8.toInt32))) := by
            rw [cei E' (by decide), hw2, ← hw1]
            rw [zk_upd_e]
          rw [← ec] at hP hD
          exact go E' H1 locs1 a1 a2 a3 a4 a5 hP hD hS
        · obtain ⟨E', a1, a2, a3, a4, a5, w, hw1, hw2⟩ := fin _ (zk_cutto_ok hok hcl hxs (lo := -32768) (hi := 32767) (z := (Int32.ofInt (zk_i E x)).toInt16.toInt32) (by rw [Int16.toInt_toInt32]; have := Int16.le_toInt (Int32.ofInt (zk_i E x)).toInt16; omega) (by rw [Int16.toInt_toInt32]; have := Int16.toInt_lt (Int32.ofInt (zk_i E x)).toInt16; omega) (zk_i2s_e _))
          rw [ceo (by decide)] at hws
          rw [zk_vi]
          refine va_sast hx hb hKk hPw hDw h.2.2 k 0 hws rfl hin hd fun H1 locs1 hP hD hS => ?_
          rw [hcn, vp_nar_short] at hP hD
          have ec : zk_ce E' ad st cid k (kd', n, [(0, (zk_kept 4 N x).2.1, [], 0)]) = .inl (cid.1 k, n, .inl (upd (fun j => Int32.ofInt (E.2 a j)) (zk_i E v).toNat ((Int32.ofInt (zk_i E x)).toInt16.toInt32))) := by
            rw [cei E' (by decide), hw2, ← hw1]
            rw [zk_upd_e]
          rw [← ec] at hP hD
          exact go E' H1 locs1 a1 a2 a3 a4 a5 hP hD hS
      · cases he
    · cases he
  · cases he
end ZF
end
