noncomputable section
theorem zk_keep2_eq {E : zk_E} {ad st : Nat → Nat} {i : Nat} : ∀ (lc : List (Nat × zk_T)), (lc.map fun q => (q.1, zk_v E ad st q.2)).filter (fun q => !(q.1 == i) && (!(q.1 == i + 1) && !(q.1 + 1 == i && q.2.category == 2))) = (lc.filter (fun q => zk_keep i q && !(Nat.beq q.1 (i + 1)))).map fun q => (q.1, zk_v E ad st q.2)
  | [] => rfl
  | q :: l => by
    rw [List.map_cons, List.filter_cons, List.filter_cons, zk_keep2_eq l]
    have e : (!(q.1 == i) && (!(q.1 == i + 1) && !(q.1 + 1 == i && (zk_v E ad st q.2).category == 2))) = (zk_keep i q && !(Nat.beq q.1 (i + 1))) := by
      unfold zk_keep
      rw [zk_cat]
      have a0 : ∀ a b : Nat, Nat.beq a b = (a == b) := fun a b => by rw [Bool.eq_iff_iff, Nat.beq_eq]; simp
      rw [a0, a0, a0, a0]
      by_cases h : q.2.1 = 1
      · simp [h, Bool.and_assoc, Bool.and_comm, Bool.and_left_comm]
      · have h' : (q.2.1 == 1) = false := by simpa using h
        simp [h, h']
    simp only [e]
    split <;> simp
section ZA2
variable {p : Program} {l : Launch} {e : Env} {R : Room} {s : State} {m : MethodId} {args : Array Value} {below : List Frame} {meth : Method} {c : Code} {cells slots : Nat} {Q : State → Prop}
variable {dC : Nat → ClassId} {dI : Nat → Nat → Nat} {cl : List vw_C} {ad st : Nat → Nat} {cid : zk_CI} {ba : Nat} {ly : List (Nat × Nat)} {nL : Nat} {H0 : Heap} {E : zk_E} {H : Heap} {locs : List Loc} {ls : Array Slot} {stk : List Value}
variable {cc : ByteArray} {own : String} {tb : List Jvm.Cond} {q : zk_I} {z : zk_Z} {L : List (Option Nat × zk_Z)}
theorem zk_to2_ok {i : Nat} (h : zk_At dC dI cl ad st cid ba ly nL H0 E z H locs ls stk) (he : zk_to2 nL z i = some L) {X : zk_X} (hg : ∀ r ∈ L, zk_go X (zk_At dC dI cl ad st cid ba ly nL H0) E z.1.1 r.2 (zk_tg q r.1)) : ∃ (x : Int64) (t : zk_T) (r : List zk_T), zk_v E ad st t = .long x ∧ i + 1 < nL ∧ stk = .long x :: r.map (zk_v E ad st) ∧
    ∀ ls', lv_has ls' nL ((i, .long x) :: (z.2.2.1.map fun u => (u.1, zk_v E ad st u.2)).filter (fun q => !(q.1 == i) && (!(q.1 == i + 1) && !(q.1 + 1 == i && q.2.category == 2)))) → X H locs (q.1 + q.2.2.1) ls' (r.map (zk_v E ad st)) := by
  obtain ⟨N, hp, lc, sk⟩ := z
  unfold zk_to2 at he
  simp only at he
  split at he
  · rename_i t r
    split at he
    · rename_i hok
      simp only [Bool.and_eq_true] at hok
      have ht := Nat.eq_of_beq_eq_true hok.1
      cases he
      have ev : zk_v E ad st t = .long (Int64.ofInt (zk_i E t.2.2)) := by simp only [zk_v, ht]
      refine ⟨_, t, r, ev, Nat.blt_eq.mp hok.2, by rw [h.2.1.2.2.2]; simp only [List.map_cons, ev], fun ls' hls => ?_⟩
      refine zk_locs h (zk_filter_sv h.2.1.1 (h.2.1.2.1 _ List.mem_cons_self)) (fun u hu => List.mem_cons_of_mem _ hu) (hg _ List.mem_cons_self) ls' ?_
      rw [zk_keep2_eq] at hls
      rw [List.map_cons, ev]
      exact hls
    · cases he
  · cases he
theorem zk_isI_of {E : zk_E} {ad st : Nat → Nat} {t : zk_T} (h : zk_isI t.1 = true) : zk_v E ad st t = .int (Int32.ofInt (zk_i E t.2.2)) := by
  have ht := Nat.eq_of_beq_eq_true h
  simp only [zk_v, ht]
theorem zk_isL_of {E : zk_E} {ad st : Nat → Nat} {t : zk_T} (h : zk_isL t.1 = true) : zk_v E ad st t = .long (Int64.ofInt (zk_i E t.2.2)) := by
  have ht := Nat.eq_of_beq_eq_true h
  simp only [zk_v, ht]
theorem zk_isR_of {E : zk_E} {ad st : Nat → Nat} {t : zk_T} (h : zk_isR t.1 = true) : zk_v E ad st t = .null ∨ ∃ a, zk_v E ad st t = .ref a := by
  unfold zk_isR at h
  simp only [Bool.and_eq_true, Nat.ble_eq] at h
  unfold zk_v
  split
  · omega
  · omega
  · exact Or.inr ⟨_, rfl⟩
  · exact Or.inr ⟨_, rfl⟩
  · exact Or.inl rfl
theorem zk_one_of {E : zk_E} {ad st : Nat → Nat} {t : zk_T} (h : zk_one t.1 = true) : (zk_v E ad st t).category = 1 := by
  rw [zk_cat, if_neg]
  intro q
  rw [q] at h
  cases h
set_option maxHeartbeats 2000000 in
theorem zk_sA_ok (hx : p.tables.exec = Jvm.exec) (hb : c.code = cc) (hown : s.vm.findClass own = some m.cls) (hts : ∀ w ∈ tb, w.before args s = true) (hd : decode cc q.1 = .ok (q.2.1, q.2.2.1)) (hk : zk_kA own tb q)
    (h : zk_At dC dI cl ad st cid ba ly nL H0 E z H locs ls stk) (he : zk_sA nL q z = some L) (hg : ∀ r ∈ L, zk_go (zk_W p l e R s m args below meth c cells slots Q) (zk_At dC dI cl ad st cid ba ly nL H0) E z.1.1 r.2 (zk_tg q r.1)) : W p l e R s m args below meth c H locs cells slots Q (F0 m q.1 ls stk) := by
  obtain ⟨pc, ins, len, ann, qa, qb, qc⟩ := q
  unfold zk_sA at he
  unfold zk_kA at hk
  simp only at he hk hd ⊢
  have cv : ∀ w : Int, zk_v E ad st (0, 0, zk_c w) = .int (Int32.ofInt w) := fun w => by unfold zk_v; simp only [zk_c_i]
  have cl2 : ∀ w : Int, zk_v E ad st (1, 0, zk_c w) = .long (Int64.ofInt w) := fun w => by unfold zk_v; simp only [zk_c_i]
  split at he <;> simp only at hk
  · obtain ⟨rfl, hk⟩ := hk
    have hX := zk_pu_ok h he zk_c_sv hg
    rw [cv, ← hk] at hX
    exact lv_iconst hx hb hd rfl hX
  · obtain ⟨rfl, hk⟩ := hk
    have hX := zk_pu_ok h he zk_c_sv hg
    rw [cv, ← hk] at hX
    exact lv_bipush hx hb hd rfl hX
  · obtain ⟨rfl, hk⟩ := hk
    have hX := zk_pu_ok h he zk_c_sv hg
    rw [cv, ← hk] at hX
    exact lv_sipush hx hb hd rfl hX
  · obtain ⟨rfl, hk⟩ := hk
    split at he
    · cases he
    · rename_i h79
      have hX := zk_pu_ok h he zk_c_sv hg
      rw [cv] at hX
      exact lv_ldc hx hb hown (hts _ (hk h79)) hd hX
  · obtain ⟨rfl, hk⟩ := hk
    have hX := zk_pu_ok h he zk_c_sv hg
    rw [cv] at hX
    exact lv_ldcw hx hb hown (hts _ hk) hd hX
  · obtain ⟨rfl, hk⟩ := hk
    have hX := zk_pu_ok h he zk_c_sv hg
    rw [cl2, ← hk] at hX
    exact lv_lconst hx hb hd rfl hX
  · obtain ⟨rfl, hk⟩ := hk
    have hX := zk_pu_ok h he zk_c_sv hg
    rw [cl2] at hX
    exact lv_ldc2 hx hb hown (hts _ hk) hd hX
  · obtain rfl := hk
    have hX := zk_pu_ok h he zk_c_sv hg
    exact lv_null hx hb hd hX
  · obtain rfl := hk
    obtain ⟨t, h1, h2, hX⟩ := zk_ld_ok h he hg
    rw [zk_isI_of h1] at h2 hX
    exact lv_iload hx hb hd h2 hX
  · obtain rfl := hk
    obtain ⟨t, h1, h2, hX⟩ := zk_ld_ok h he hg
    rw [zk_isI_of h1] at h2 hX
    exact lv_iload_n hx hb hd rfl h2 hX
  · obtain rfl := hk
    obtain ⟨t, h1, h2, hX⟩ := zk_ld_ok h he hg
    rw [zk_isL_of h1] at h2 hX
    exact lv_lload hx hb hd h2 hX
  · obtain rfl := hk
    obtain ⟨t, h1, h2, hX⟩ := zk_ld_ok h he hg
    rw [zk_isL_of h1] at h2 hX
    exact lv_lload_n hx hb hd rfl h2 hX
  · obtain rfl := hk
    obtain ⟨t, h1, h2, hX⟩ := zk_ld_ok h he hg
    rcases zk_isR_of (E := E) (ad := ad) (st := st) h1 with r | ⟨a, r⟩ <;> rw [r] at h2 hX
    · exact lv_aloadN hx hb hd h2 hX
    · exact lv_aload hx hb hd h2 hX
  · obtain rfl := hk
    obtain ⟨t, h1, h2, hX⟩ := zk_ld_ok h he hg
    rcases zk_isR_of (E := E) (ad := ad) (st := st) h1 with r | ⟨a, r⟩ <;> rw [r] at h2 hX
    · exact lv_aload_nN hx hb hd rfl h2 hX
    · exact lv_aload_n hx hb hd rfl h2 hX
  · obtain rfl := hk
    obtain ⟨t, r, h1, h2, h3, hX⟩ := zk_to1_ok h he hg
    rw [zk_isI_of h1] at h3 hX
    rw [h3]
    exact lv_istore hx hb hd h.2.1.2.2.1 h2 rfl hX
  · obtain rfl := hk
    obtain ⟨t, r, h1, h2, h3, hX⟩ := zk_to1_ok h he hg
    rw [zk_isI_of h1] at h3 hX
    rw [h3]
    exact lv_istore_n hx hb hd rfl h.2.1.2.2.1 h2 rfl hX
  · obtain rfl := hk
    obtain ⟨t, r, h1, h2, h3, hX⟩ := zk_to1_ok h he hg
    rcases zk_isR_of (E := E) (ad := ad) (st := st) h1 with v | ⟨a, v⟩ <;> rw [v] at h3 hX <;> rw [h3]
    · exact lv_astoreN hx hb hd h.2.1.2.2.1 h2 rfl hX
    · exact lv_astore hx hb hd h.2.1.2.2.1 h2 rfl hX
  · obtain rfl := hk
    obtain ⟨t, r, h1, h2, h3, hX⟩ := zk_to1_ok h he hg
    rcases zk_isR_of (E := E) (ad := ad) (st := st) h1 with v | ⟨a, v⟩ <;> rw [v] at h3 hX <;> rw [h3]
    · exact lv_astore_nN hx hb hd rfl h.2.1.2.2.1 h2 rfl hX
    · exact lv_astore_n hx hb hd rfl h.2.1.2.2.1 h2 rfl hX
  · obtain rfl := hk
    obtain ⟨x, t, r, h1, h2, h3, hX⟩ := zk_to2_ok h he hg
    rw [h3]
    exact lv_lstore hx hb hd h.2.1.2.2.1 h2 rfl hX
  · obtain rfl := hk
    obtain ⟨x, t, r, h1, h2, h3, hX⟩ := zk_to2_ok h he hg
    rw [h3]
    exact lv_lstore_n hx hb hd rfl h.2.1.2.2.1 h2 rfl hX
  · rename_i i n
    obtain rfl := hk
    obtain ⟨N, hp, lc, sk⟩ := z
    unfold zk_inc at he
    simp only at he
    split at he
    · rename_i t ht
      split at he
      · rename_i hok
        simp only [Bool.and_eq_true] at hok
        cases he
        have htv : zk_sv N.1 (t.2.2.1, t.2.2.2 + n) := h.2.1.1 _ (zk_loc_mem ht)
        obtain ⟨E', a, b, c, d, e, f⟩ := zk_norm_ok h.1.1 h.1.2.1 htv
        have h' : zk_At dC dI cl ad st cid ba ly nL H0 E' ((zk_norm N (t.2.2.1, t.2.2.2 + n)).2, hp, lc, sk) H locs ls stk := ⟨zk_wd_to h.1 a b c d, zk_fr_to h.2.1 a d, h.2.2⟩
        have ev := zk_isI_of (E := E') (ad := ad) (st := st) hok.1
        have hm := List.mem_map_of_mem (f := fun u : Nat × zk_T => (u.1, zk_v E' ad st u.2)) (zk_loc_mem ht)
        obtain ⟨j, hj⟩ := List.getElem?_of_mem hm
        simp only [ev] at hj
        refine lv_iinc hx hb hd h'.2.1.2.2.1 (k := j) hj rfl (Nat.blt_eq.mp hok.2) rfl fun ls' hls => ?_
        rw [h'.2.1.2.2.2]
        have hv : zk_v E' ad st (0, 0, (zk_norm N (t.2.2.1, t.2.2.2 + n)).1) = .int (Int32.ofInt (zk_i E' t.2.2) + Int32.ofInt n) := by
          have f' : Int32.ofInt (zk_i E' (zk_norm N (t.2.2.1, t.2.2.2 + n)).1) = Int32.ofInt (zk_i E (t.2.2.1, t.2.2.2 + n)) := f
          show Value.int (Int32.ofInt (zk_i E' (zk_norm N (t.2.2.1, t.2.2.2 + n)).1)) = _
          rw [f', zk_i_ag (v := t.2.2) a (show zk_sv N.1 t.2.2 from h.2.1.1 _ (zk_loc_mem ht)), ← Int32.ofInt_add]
          unfold zk_i
          simp only
          rw [Int.add_assoc]
        refine zk_locs h' (zk_filter_sv (i := i) (t := (0, 0, (zk_norm N (t.2.2.1, t.2.2.2 + n)).1)) h'.2.1.1 e) (fun u hu => hu) (fun E2 H2 lo2 ls2 st2 a2 d2 k2 => hg _ List.mem_cons_self E2 H2 lo2 ls2 st2 (zk_ag_tr a a2 d) (Nat.le_trans d d2) k2) ls' ?_
        rw [List.map_cons, hv, ← zk_keep_eq]
        exact hls
      · cases he
    · cases he
  · obtain rfl := hk
    obtain ⟨N, hp, lc, sk⟩ := z
    simp only at he
    split at he
    · rename_i t r
      split at he
      · rename_i hok
        cases he
        rw [h.2.1.2.2.2]
        refine lv_dup hx hb hd (zk_one_of hok) ?_
        exact zk_same h (r := t :: t :: r) (fun u hu => h.2.1.2.1 u (by simpa using hu)) (hg _ List.mem_cons_self)
      · cases he
    · cases he
  · obtain rfl := hk
    obtain ⟨N, hp, lc, sk⟩ := z
    simp only at he
    split at he
    · rename_i t u r
      split at he
      · rename_i hok
        simp only [Bool.and_eq_true] at hok
        cases he
        rw [h.2.1.2.2.2]
        refine lv_dup_x1 hx hb hd (zk_one_of hok.1) (zk_one_of hok.2) ?_
        exact zk_same h (r := t :: u :: t :: r) (fun v hv => h.2.1.2.1 v (by simp only [List.mem_cons] at hv ⊢; rcases hv with a | a | a | a <;> simp [a])) (hg _ List.mem_cons_self)
      · cases he
    · cases he
  · obtain rfl := hk
    obtain ⟨N, hp, lc, sk⟩ := z
    simp only at he
    split at he
    · rename_i t u r
      split at he
      · rename_i hok
        simp only [Bool.and_eq_true] at hok
        cases he
        rw [h.2.1.2.2.2]
        refine lv_dup2_11 hx hb hd (zk_one_of hok.1) (zk_one_of hok.2) ?_
        exact zk_same h (r := t :: u :: t :: u :: r) (fun v hv => h.2.1.2.1 v (by simp only [List.mem_cons] at hv ⊢; rcases hv with a | a | a | a | a <;> simp [a])) (hg _ List.mem_cons_self)
      · cases he
    · cases he
  · obtain rfl := hk
    obtain ⟨N, hp, lc, sk⟩ := z
    simp only at he
    split at he
    · rename_i t r
      split at he
      · rename_i hok
        cases he
        rw [h.2.1.2.2.2]
        refine lv_pop hx hb hd (zk_one_of hok) ?_
        exact zk_same h (r := r) (fun v hv => h.2.1.2.1 v (List.mem_cons_of_mem _ hv)) (hg _ List.mem_cons_self)
      · cases he
    · cases he
  · obtain rfl := hk
    obtain ⟨N, hp, lc, sk⟩ := z
    simp only at he
    split at he
    · rename_i t r
      split at he
      · rename_i hok
        cases he
        rw [h.2.1.2.2.2]
        refine lv_pop2_2 hx hb hd (by rw [zk_isL_of hok]; rfl) ?_
        exact zk_same h (r := r) (fun v hv => h.2.1.2.1 v (List.mem_cons_of_mem _ hv)) (hg _ List.mem_cons_self)
      · cases he
    · cases he
  · obtain ⟨rfl, hk⟩ := hk
    cases he
    refine lv_goto hx hb hd hk ?_
    exact hg _ List.mem_cons_self E H locs ls stk zk_ag_rf (Nat.le_refl _) h
  · cases he
end ZA2
end
