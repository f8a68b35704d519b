noncomputable section
/-! TOLD FUNCTIONS: a turn more; told twice, told alike -/
/-- number, rows read, rows written, told number, how often, parameters, numbers -/
def zk_as90 (N : zk_N) (q : zk_G) : Option (Nat × List Nat × List Nat × zk_V × zk_V × List zk_V × List zk_V) := match zk_as 90 q with
  | some (rs, i :: K :: v) => match zk_le 0 (zk_fci N i) && Nat.ble (zx_dn (zk_fci N i).toNat).1 v.length && Nat.ble (zx_dn (zk_fci N i).toNat).2.1 rs.length with
    | true => some ((zk_fci N i).toNat, zk_tkR (zk_fci N i).toNat rs, zk_tkM (zk_fci N i).toNat rs, i, K, v.take (zx_dn (zk_fci N i).toNat).1, v.drop (zx_dn (zk_fci N i).toNat).1)
    | false => none
  | _ => none
theorem zk_as90_of {E : zk_E} {N : zk_N} (hN : zk_ok E N) {n : Nat} {q : zk_G} (hq : zk_tru E n q) {R M : List Nat} {id : Nat} {i K : zk_V} {P S : List zk_V} (h : zk_as90 N q = some (id, R, M, i, K, P, S)) : zk_i E i = (id : Int) ∧ 0 ≤ zk_i E K ∧ zx_F id (R.map E.2) (P.map (zk_i E)) (zk_i E K).toNat = (S.map (zk_i E), M.map E.2) ∧ P.length = (zx_dn id).1 ∧ M.length = (zx_dn id).2.1 ∧ (∀ a ∈ R, a < n) ∧ (∀ a ∈ M, a < n) ∧ zk_sv n i ∧ zk_sv n K ∧ (∀ v ∈ P, zk_sv n v) ∧ ∀ v ∈ S, zk_sv n v := by
  unfold zk_as90 at h
  split at h
  · rename_i rs' i' K' v' hu
    have e := zk_as_of hu
    subst e
    obtain ⟨h1, h2, h3⟩ := hq
    split at h
    · rename_i hk
      simp only [Bool.and_eq_true] at hk
      obtain ⟨⟨k1, k2⟩, k3⟩ := hk
      have k1 := zk_le_of k1
      have k2 := Nat.le_of_ble_eq_true k2
      have k3 := Nat.le_of_ble_eq_true k3
      cases h
      have hi := zk_fci_i hN k1
      simp only [List.map_cons, zq_6, zq_7, zq_8, zq_9, zq_20, zq_21, zq_22, zq_25, zq_26, zq_28, zq_30, zq_40, zq_51, zq_52, zq_53, zq_54, zq_55, zq_64, zq_65, zq_68, zq_72, zq_73, zq_85, zq_74, zq_75, zq_76, zq_71, zq_86, zq_87, zq_80, zq_41, zq_42, zq_43, zq_94, zq_95, zq_47, zq_48, zq_96, zq_97, zq_88, zq_89, zq_90, zq_93, zq_61, zq_62, zq_1, zq_2, zq_3, zq_4, zq_5, zx_90] at h1
      rw [hi, zk_tkR_i, zk_tkM_i] at h1
      obtain ⟨t1, t2, t3⟩ := h1
      refine ⟨by rw [hi]; omega, t2, by rw [List.map_take, List.map_drop]; exact t3, ?_, ?_, fun a ha => h2 a (List.mem_of_mem_take ha), fun a ha => h2 a (List.mem_of_mem_drop ha), h3 _ (by simp), h3 _ (by simp), fun v hv => h3 v (List.mem_cons_of_mem _ (List.mem_cons_of_mem _ (List.mem_of_mem_take hv))), fun v hv => h3 v (List.mem_cons_of_mem _ (List.mem_cons_of_mem _ (List.mem_of_mem_drop hv)))⟩
      · rw [List.length_take]
        omega
      · unfold zk_tkM
        rw [List.length_drop]
        omega
    · cases h
  · cases h
def zk_ssto (N : zk_N) (id : Nat) (R M : List Nat) (P : List zk_V) (k : zk_V) (S : List zk_V) : List zx_W → List Nat → Option (List Nat)
  | [], M' => some M'
  | w :: l, M' => match zk_b3 N (zk_sev N id R M P k S w.2.1) with
    | 0 => zk_ssto N id R M P k S l M'
    | 1 => match zk_sev N id R M P k S w.2.2.1, zk_sev N id R M P k S w.2.2.2, zk_get M' w.1 with
      | some i, some v, some g => match zk_fst N g i v N.2.2.2 with
        | some f => zk_ssto N id R M P k S l (M'.set w.1 f)
        | none => none
      | _, _, _ => none
    | _ => none
theorem zk_ssto_of {E : zk_E} {N : zk_N} (h : zk_ok E N) (hc : zk_cl N) {id : Nat} {R M : List Nat} {P S : List zk_V} {k : zk_V} : ∀ {ws : List zx_W} {M' M2 : List Nat}, (∀ a ∈ M', a < N.1) → zk_ssto N id R M P k S ws M' = some M2 → zx_sto (zx_G id) (R.map E.2) (M.map E.2) (P.map (zk_i E)) (zk_i E k) (S.map (zk_i E)) ws (M'.map E.2) = M2.map E.2 ∧ M2.length = M'.length ∧ ∀ a ∈ M2, a < N.1
  | [], M', M2, hM, hw => by
    unfold zk_ssto at hw
    cases hw
    exact ⟨rfl, rfl, hM⟩
  | w :: l, M', M2, hM, hw => by
    have hb := zk_b3_of h (o := zk_sev N id R M P k S w.2.1) (z := zx_ev (zx_G id) (R.map E.2) (M.map E.2) (P.map (zk_i E)) (zk_i E k) (S.map (zk_i E)) w.2.1) (fun v hv => zk_sev_of h hv)
    unfold zk_ssto at hw
    unfold zx_sto
    split at hw
    · rename_i h0
      rw [if_pos (hb.1 h0)]
      exact zk_ssto_of h hc hM hw
    · rename_i h1
      rw [if_neg (hb.2 h1)]
      split at hw
      · rename_i i v g e1 e2 e3
        have e1 := zk_sev_of h e1
        have e2 := zk_sev_of h e2
        obtain ⟨e4, e5⟩ := zk_getD_of (f := E.2) (d := fun _ => 0) e3
        split at hw
        · rename_i f hf
          have t1 := zk_fst_of h hf
          have t2 := zk_fst_lt hc hf
          have hM2 : ∀ a ∈ M'.set w.1 f, a < N.1 := fun a ha => by
            rcases List.mem_or_eq_of_mem_set ha with ha | ha
            · exact hM a ha
            · rw [ha]
              exact t2
          obtain ⟨k1, k2, k3⟩ := zk_ssto_of h hc hM2 hw
          refine ⟨?_, by rw [k2, List.length_set], k3⟩
          rw [← k1]
          congr 1
          unfold zx_wr
          rw [e4, ← e1, ← e2, ← t1, List.map_set]
        · cases hw
      · cases hw
    · cases hw
/-- a turn more -/
def zk_s90 (N : zk_N) (q : zk_G) : List zk_G := match zk_as90 N q with
  | some (id, R, M, i, K, P, S) => match zk_eqE N (zk_hd0 S) (zk_c 0) with
    | true => match zk_sevs N id R M P K S (zx_dn id).2.2.2.1, zk_ssto N id R M P K S (zx_dn id).2.2.2.2 M with
      | some s, some M2 => [(90, R ++ M2, i :: zk_vadd K (zk_c 1) :: (P ++ s))]
      | _, _ => []
    | false => []
  | none => []
theorem zk_hd0_i {E : zk_E} {S : List zk_V} : (S.map (zk_i E)).getD 0 0 = zk_i E (zk_hd0 S) := by
  cases S with
  | nil => exact (zk_c_i E 0).symm
  | cons a l => rfl
theorem zk_s90_ok {E : zk_E} {N : zk_N} (hN : zk_ok E N) (hc : zk_cl N) {q : zk_G} (hq : q ∈ N.2.2.2) : ∀ x ∈ zk_s90 N q, zk_tru E N.1 x := by
  have ht := zk_tru_of hN hc q hq
  intro x hx
  unfold zk_s90 at hx
  split at hx
  · rename_i id R M i K P S he
    obtain ⟨t1, t2, t3, t4, t4b, t5, t5b, t6, t7, t8, t9⟩ := zk_as90_of hN ht he
    split at hx
    · rename_i h0
      have h0 := zk_eqE_of hN h0
      rw [zk_c_i] at h0
      split at hx
      · rename_i s M2 hs hm
        have e1 := zk_sevs_of hN hs
        have e2 := zk_sevs_sv hc t8 t9 t7 hs
        obtain ⟨m1, m2, m3⟩ := zk_ssto_of hN hc t5b hm
        rw [List.mem_singleton.mp hx]
        refine ⟨?_, fun a ha => ?_, fun v hv => ?_⟩
        · simp only [List.map_cons, zq_6, zq_7, zq_8, zq_9, zq_20, zq_21, zq_22, zq_25, zq_26, zq_28, zq_30, zq_40, zq_51, zq_52, zq_53, zq_54, zq_55, zq_64, zq_65, zq_68, zq_72, zq_73, zq_85, zq_74, zq_75, zq_76, zq_71, zq_86, zq_87, zq_80, zq_41, zq_42, zq_43, zq_94, zq_95, zq_47, zq_48, zq_96, zq_97, zq_88, zq_89, zq_90, zq_93, zq_61, zq_62, zq_1, zq_2, zq_3, zq_4, zq_5, zx_90, zk_vadd_i, zk_c_i]
          rw [t1, Int.toNat_natCast, List.map_append, List.map_append]
          have el : (zx_dn id).1 = (P.map (zk_i E)).length := by rw [List.length_map, t4]
          have er : (R.map E.2 ++ M2.map E.2).length - (zx_dn id).2.1 = (R.map E.2).length := by
            rw [List.length_append, List.length_map, List.length_map, m2, t4b]
            omega
          rw [List.take_left' el.symm, List.drop_left' el.symm, List.take_left' er.symm, List.drop_left' er.symm]
          refine ⟨by omega, by omega, ?_⟩
          rw [show (zk_i E K + 1).toNat = (zk_i E K).toNat + 1 by omega]
          show (if (zx_F id (R.map E.2) (P.map (zk_i E)) (zk_i E K).toNat).1.getD 0 0 = 0 then ((zx_dn id).2.2.2.1.map (zx_ev (zx_G id) (R.map E.2) (zx_F id (R.map E.2) (P.map (zk_i E)) (zk_i E K).toNat).2 (P.map (zk_i E)) ((zk_i E K).toNat : Int) (zx_F id (R.map E.2) (P.map (zk_i E)) (zk_i E K).toNat).1), zx_sto (zx_G id) (R.map E.2) (zx_F id (R.map E.2) (P.map (zk_i E)) (zk_i E K).toNat).2 (P.map (zk_i E)) ((zk_i E K).toNat : Int) (zx_F id (R.map E.2) (P.map (zk_i E)) (zk_i E K).toNat).1 (zx_dn id).2.2.2.2 (zx_F id (R.map E.2) (P.map (zk_i E)) (zk_i E K).toNat).2) else _) = _
          rw [t3, if_pos (by rw [zk_hd0_i]; exact h0), show (((zk_i E K).toNat : Nat) : Int) = zk_i E K by omega, e1, m1]
        · rcases List.mem_append.mp ha with ha | ha
          · exact t5 a ha
          · exact m3 a ha
        · rcases List.mem_cons.mp hv with rfl | hv
          · exact t6
          · rcases List.mem_cons.mp hv with rfl | hv
            · exact zk_vadd_sv t7 zk_c_sv
            · rcases List.mem_append.mp hv with hv | hv
              · exact t8 v hv
              · exact e2 v hv
      · cases hx
    · cases hx
  · cases hx
/-- expressions that don't ask which turn it is -/
def zk_nk (x : List zx_I) : Bool := x.all fun q => !(Nat.beq q.1 2)
theorem zx_sst_nk {cl : zx_Cl} {R M : List zx_Rw} {P S st : List Int} {k k' : Int} {q : zx_I} (h : Nat.beq q.1 2 = false) : zx_sst cl R M P k S q st = zx_sst cl R M P k' S q st := by
  obtain ⟨op, n, l⟩ := q
  unfold zx_sst
  simp only at h ⊢
  split <;> first | rfl | cases h
theorem zx_evs_nk {cl : zx_Cl} {R M : List zx_Rw} {P S : List Int} {k k' : Int} : ∀ {x : List zx_I} {st : List Int}, zk_nk x = true → zx_evs cl R M P k S x st = zx_evs cl R M P k' S x st
  | [], _, _ => rfl
  | q :: l, st, h => by
    unfold zk_nk at h
    rw [List.all_cons, Bool.and_eq_true] at h
    have hq : Nat.beq q.1 2 = false := by
      have := h.1
      cases hb : Nat.beq q.1 2 with
      | true => rw [hb] at this; cases this
      | false => rfl
    show zx_evs cl R M P k S l (zx_sst cl R M P k S q st) = zx_evs cl R M P k' S l (zx_sst cl R M P k' S q st)
    rw [zx_sst_nk (k' := k') hq]
    exact zx_evs_nk h.2
theorem zx_ev_nk {cl : zx_Cl} {R M : List zx_Rw} {P S : List Int} {k k' : Int} {x : List zx_I} (h : zk_nk x = true) : zx_ev cl R M P k S x = zx_ev cl R M P k' S x := by
  unfold zx_ev
  rw [zx_evs_nk (k' := k') h]
theorem zx_evm_nk {cl : zx_Cl} {R M : List zx_Rw} {P S : List Int} {k k' : Int} : ∀ {l : List (List zx_I)}, l.all zk_nk = true → l.map (zx_ev cl R M P k S) = l.map (zx_ev cl R M P k' S)
  | [], _ => rfl
  | x :: l, h => by
    rw [List.all_cons, Bool.and_eq_true] at h
    rw [List.map_cons, List.map_cons, zx_ev_nk (k' := k') h.1, zx_evm_nk (k' := k') h.2]
def zk_wnk (w : zx_W) : Bool := zk_nk w.2.1 && (zk_nk w.2.2.1 && zk_nk w.2.2.2)
theorem zx_sto_nk {cl : zx_Cl} {R M : List zx_Rw} {P S : List Int} {k k' : Int} : ∀ {ws : List zx_W} {M' : List zx_Rw}, ws.all zk_wnk = true → zx_sto cl R M P k S ws M' = zx_sto cl R M P k' S ws M'
  | [], _, _ => rfl
  | w :: l, M', h => by
    unfold zk_wnk at h
    rw [List.all_cons, Bool.and_eq_true, Bool.and_eq_true, Bool.and_eq_true] at h
    obtain ⟨⟨h1, h2, h3⟩, h4⟩ := h
    unfold zx_sto
    rw [zx_ev_nk (k' := k') h1, zx_ev_nk (k' := k') h2, zx_ev_nk (k' := k') h3, zx_sto_nk (k' := k') h4]
/-- a turn more, so often or less often -/
def zk_s93 (N : zk_N) (q : zk_G) : List zk_G := match zk_as 93 q with
  | some (rs, i :: b :: v) => match zk_le 0 (zk_fci N i) && Nat.ble (zx_dn (zk_fci N i).toNat).1 v.length && Nat.ble (zx_dn (zk_fci N i).toNat).2.1 rs.length && (zx_dn (zk_fci N i).toNat).2.2.2.2.all zk_wnk && (zx_dn (zk_fci N i).toNat).2.2.2.1.all zk_nk && zk_eqE N (zk_hd0 (v.drop (zx_dn (zk_fci N i).toNat).1)) (zk_c 0) with
    | true => match zk_sevs N (zk_fci N i).toNat (zk_tkR (zk_fci N i).toNat rs) (zk_tkM (zk_fci N i).toNat rs) (v.take (zx_dn (zk_fci N i).toNat).1) (zk_c 0) (v.drop (zx_dn (zk_fci N i).toNat).1) (zx_dn (zk_fci N i).toNat).2.2.2.1, zk_ssto N (zk_fci N i).toNat (zk_tkR (zk_fci N i).toNat rs) (zk_tkM (zk_fci N i).toNat rs) (v.take (zx_dn (zk_fci N i).toNat).1) (zk_c 0) (v.drop (zx_dn (zk_fci N i).toNat).1) (zx_dn (zk_fci N i).toNat).2.2.2.2 (zk_tkM (zk_fci N i).toNat rs) with
      | some s, some M2 => [(93, zk_tkR (zk_fci N i).toNat rs ++ M2, i :: zk_vadd b (zk_c 1) :: (v.take (zx_dn (zk_fci N i).toNat).1 ++ s))]
      | _, _ => []
    | false => []
  | _ => []
theorem zk_s93_ok {E : zk_E} {N : zk_N} (hN : zk_ok E N) (hc : zk_cl N) {q : zk_G} (hq : q ∈ N.2.2.2) : ∀ x ∈ zk_s93 N q, zk_tru E N.1 x := by
  have ht := zk_tru_of hN hc q hq
  intro x hx
  unfold zk_s93 at hx
  split at hx
  · rename_i rs i b v hu
    have e := zk_as_of hu
    subst e
    obtain ⟨h1, h2, h3⟩ := ht
    generalize hid : (zk_fci N i).toNat = id at hx
    generalize hP : v.take (zx_dn id).1 = P at hx
    generalize hS : v.drop (zx_dn id).1 = S at hx
    generalize hR : zk_tkR id rs = R at hx
    generalize hM : zk_tkM id rs = M at hx
    split at hx
    · rename_i c
      simp only [Bool.and_eq_true] at c
      obtain ⟨⟨⟨⟨⟨c1, c2⟩, c3⟩, c4⟩, c5⟩, c6⟩ := c
      have c1 := zk_le_of c1
      have c2 := Nat.le_of_ble_eq_true c2
      have c3 := Nat.le_of_ble_eq_true c3
      have c6 := zk_eqE_of hN c6
      rw [zk_c_i] at c6
      have hi := zk_fci_i hN c1
      simp only [List.map_cons, zq_6, zq_7, zq_8, zq_9, zq_20, zq_21, zq_22, zq_25, zq_26, zq_28, zq_30, zq_40, zq_51, zq_52, zq_53, zq_54, zq_55, zq_64, zq_65, zq_68, zq_72, zq_73, zq_85, zq_74, zq_75, zq_76, zq_71, zq_86, zq_87, zq_80, zq_41, zq_42, zq_43, zq_94, zq_95, zq_47, zq_48, zq_96, zq_97, zq_88, zq_89, zq_90, zq_93, zq_61, zq_62, zq_1, zq_2, zq_3, zq_4, zq_5, zx_93] at h1
      rw [hi, hid, zk_tkR_i, zk_tkM_i, ← List.map_take, ← List.map_drop, hP, hS, hR, hM] at h1
      obtain ⟨t1, K, t2, t3⟩ := h1
      have hvP : ∀ w ∈ P, zk_sv N.1 w := fun w hw => by
        rw [← hP] at hw
        exact h3 w (List.mem_cons_of_mem _ (List.mem_cons_of_mem _ (List.mem_of_mem_take hw)))
      have hvS : ∀ w ∈ S, zk_sv N.1 w := fun w hw => by
        rw [← hS] at hw
        exact h3 w (List.mem_cons_of_mem _ (List.mem_cons_of_mem _ (List.mem_of_mem_drop hw)))
      have hvR : ∀ a ∈ R, a < N.1 := fun a ha => by
        rw [← hR] at ha
        exact h2 a (List.mem_of_mem_take ha)
      have hvM : ∀ a ∈ M, a < N.1 := fun a ha => by
        rw [← hM] at ha
        exact h2 a (List.mem_of_mem_drop ha)
      have lP : P.length = (zx_dn id).1 := by
        rw [← hP, List.length_take]
        omega
      have lM : M.length = (zx_dn id).2.1 := by
        rw [← hM]
        unfold zk_tkM
        rw [List.length_drop]
        omega
      split at hx
      · rename_i s M2 hs hm
        have e1 := zk_sevs_of hN hs
        have e2 := zk_sevs_sv hc hvP hvS zk_c_sv hs
        obtain ⟨m1, m2, m3⟩ := zk_ssto_of hN hc hvM hm
        rw [List.mem_singleton.mp hx]
        refine ⟨?_, fun a ha => ?_, fun w hw => ?_⟩
        · simp only [List.map_cons, zq_6, zq_7, zq_8, zq_9, zq_20, zq_21, zq_22, zq_25, zq_26, zq_28, zq_30, zq_40, zq_51, zq_52, zq_53, zq_54, zq_55, zq_64, zq_65, zq_68, zq_72, zq_73, zq_85, zq_74, zq_75, zq_76, zq_71, zq_86, zq_87, zq_80, zq_41, zq_42, zq_43, zq_94, zq_95, zq_47, zq_48, zq_96, zq_97, zq_88, zq_89, zq_90, zq_93, zq_61, zq_62, zq_1, zq_2, zq_3, zq_4, zq_5, zx_93, zk_vadd_i, zk_c_i]
          rw [hi, hid, List.map_append, List.map_append]
          have el : (zx_dn id).1 = (P.map (zk_i E)).length := by rw [List.length_map, lP]
          have er : (R.map E.2 ++ M2.map E.2).length - (zx_dn id).2.1 = (R.map E.2).length := by
            rw [List.length_append, List.length_map, List.length_map, m2, lM]
            omega
          rw [List.take_left' el.symm, List.drop_left' el.symm, List.take_left' er.symm, List.drop_left' er.symm]
          refine ⟨t1, K + 1, by omega, ?_⟩
          show (if (zx_F id (R.map E.2) (P.map (zk_i E)) K).1.getD 0 0 = 0 then ((zx_dn id).2.2.2.1.map (zx_ev (zx_G id) (R.map E.2) (zx_F id (R.map E.2) (P.map (zk_i E)) K).2 (P.map (zk_i E)) (K : Int) (zx_F id (R.map E.2) (P.map (zk_i E)) K).1), zx_sto (zx_G id) (R.map E.2) (zx_F id (R.map E.2) (P.map (zk_i E)) K).2 (P.map (zk_i E)) (K : Int) (zx_F id (R.map E.2) (P.map (zk_i E)) K).1 (zx_dn id).2.2.2.2 (zx_F id (R.map E.2) (P.map (zk_i E)) K).2) else _) = _
          rw [zk_c_i] at e1 m1
          rw [t3, if_pos (by rw [zk_hd0_i]; exact c6), zx_evm_nk (k' := 0) c5, zx_sto_nk (k' := 0) c4, e1, m1]
        · rcases List.mem_append.mp ha with ha | ha
          · exact hvR a ha
          · exact m3 a ha
        · rcases List.mem_cons.mp hw with rfl | hw
          · exact h3 _ (by simp)
          · rcases List.mem_cons.mp hw with rfl | hw
            · exact zk_vadd_sv (h3 _ (by simp)) zk_c_sv
            · rcases List.mem_append.mp hw with hw | hw
              · exact hvP w hw
              · exact e2 w hw
      · cases hx
    · cases hx
  · cases hx
def zk_s9 (N : zk_N) (q : zk_G) : List zk_G := zk_s90 N q ++ zk_s93 N q
def zk_r90 : zk_Rl := zk_nr fun N => some (zk_addGs N (N.2.2.2.flatMap (zk_s9 N)))
theorem zk_r90_ok : zk_Rok zk_r90 := zk_nr_ok fun E n => zk_add_gd (f := fun N => N.2.2.2.flatMap (zk_s9 N)) fun N hN hc hn x hx => by
  obtain ⟨y, hy1, hy2⟩ := List.mem_flatMap.mp hx
  rw [← hn]
  rcases List.mem_append.mp hy2 with hy2 | hy2
  · exact zk_s90_ok hN hc hy1 x hy2
  · exact zk_s93_ok hN hc hy1 x hy2
/-- told twice, told alike -/
def zk_eq2 (p : zk_V × zk_V) (N : zk_N) : Option zk_N := zk_eqs N (zk_vsub p.1 p.2)
def zk_al2 (p : Nat × Nat) (N : zk_N) : Option zk_N := some (zk_addGs N [(8, [p.1, p.2], [])])
def zk_u90 (p q : zk_G) (N : zk_N) : Option zk_N := match zk_as90 N p, zk_as90 N q with
  | some (id, R, M, _, K, P, S), some (id', R', M', _, K', P', S') => match Nat.beq id id' && zk_eqNs R R' && (zk_eqE N K K' || (zk_nz N (zk_hd0 S) && zk_nz N (zk_hd0 S'))) && zk_eqEs N P P' with
    | true => zk_sq (zk_ea zk_eq2 (S.zip S')) (zk_ea zk_al2 ((M.zip M').filter fun p => !(Nat.beq p.1 p.2))) N
    | false => some N
  | _, _ => some N
theorem zk_zip_i {α β : Type} {f : α → β} : ∀ {S S' : List α}, S.map f = S'.map f → ∀ p ∈ S.zip S', f p.1 = f p.2 ∧ p.1 ∈ S ∧ p.2 ∈ S'
  | [], _, _, p, hp => by simp at hp
  | _ :: _, [], _, p, hp => by simp at hp
  | a :: l, b :: r, h, p, hp => by
    simp only [List.map_cons, List.cons.injEq] at h
    rw [List.zip_cons_cons] at hp
    rcases List.mem_cons.mp hp with rfl | hp
    · exact ⟨h.1, List.mem_cons_self, List.mem_cons_self⟩
    · obtain ⟨k1, k2, k3⟩ := zk_zip_i h.2 p hp
      exact ⟨k1, List.mem_cons_of_mem _ k2, List.mem_cons_of_mem _ k3⟩
theorem zk_u90_gd {E : zk_E} {n : Nat} {p q : zk_G} (hp : zk_tru E n p) (hq : zk_tru E n q) : zk_gd E n (zk_u90 p q) := by
  intro N hN hc hn
  unfold zk_u90
  split
  · rename_i id R M i K P S id' R' M' i' K' P' S' e1 e2
    obtain ⟨-, -, t3, -, -, -, t5, -, -, -, t9⟩ := zk_as90_of hN hp e1
    obtain ⟨-, -, s3, -, -, -, s5, -, -, -, s9⟩ := zk_as90_of hN hq e2
    split
    · rename_i c
      simp only [Bool.and_eq_true] at c
      obtain ⟨⟨⟨c1, c2⟩, c3⟩, c4⟩ := c
      have c1 := Nat.eq_of_beq_eq_true c1
      have c2 := zk_eqNs_of c2
      have c4 := zk_eqEs_of hN c4
      subst c1 c2
      have key : (S'.map (zk_i E), M'.map E.2) = (S.map (zk_i E), M.map E.2) := by
        rw [Bool.or_eq_true, Bool.and_eq_true] at c3
        rcases c3 with c3 | ⟨c3, c5⟩
        · have c3 := zk_eqE_of hN c3
          rw [← s3, ← t3, c3, c4]
        · have c3 := zk_nz_ok hN c3
          have c5 := zk_nz_ok hN c5
          rw [← zk_hd0_i] at c3 c5
          rw [c4] at t3
          have c3 : (zx_F id (R.map E.2) (P'.map (zk_i E)) (zk_i E K).toNat).1.getD 0 0 ≠ 0 := by
            rw [t3]
            exact c3
          have c5 : (zx_F id (R.map E.2) (P'.map (zk_i E)) (zk_i E K').toNat).1.getD 0 0 ≠ 0 := by
            rw [s3]
            exact c5
          rw [← t3, ← s3]
          rcases Nat.le_total (zk_i E K).toNat (zk_i E K').toNat with hle | hle
          · have g := zx_it_stay c3 (n := (zk_i E K').toNat - (zk_i E K).toNat)
            rw [Nat.add_sub_cancel' hle] at g
            exact g
          · have g := zx_it_stay c5 (n := (zk_i E K).toNat - (zk_i E K').toNat)
            rw [Nat.add_sub_cancel' hle] at g
            exact g.symm
      have kS := (Prod.mk.injEq _ _ _ _).mp key
      refine zk_sq_gd (zk_ea_gd (f := zk_eq2) (l := S.zip S') fun a ha => ?_) (zk_ea_gd (f := zk_al2) fun a ha => ?_) N hN hc hn
      · obtain ⟨g1, g2, g3⟩ := zk_zip_i kS.1.symm a ha
        intro N1 hN1 hc1 hn1
        obtain ⟨N2, a1, a2⟩ := zk_eqs_ok hN1 (d := zk_vsub a.1 a.2) (by rw [zk_vsub_i]; omega)
        obtain ⟨a3, a4⟩ := zk_eqs_cl hc1 (zk_vsub_sv (by rw [hn1]; exact t9 _ g2) (by rw [hn1]; exact s9 _ g3)) a1
        exact ⟨N2, a1, a2, a3, a4.trans hn1⟩
      · obtain ⟨g1, g2, g3⟩ := zk_zip_i kS.2.symm a (List.mem_filter.mp ha).1
        refine zk_add_gd (f := fun _ => [(8, [a.1, a.2], [])]) fun N1 hN1 hc1 hn1 g hg => ?_
        rw [List.mem_singleton.mp hg]
        refine ⟨?_, fun b hb => ?_, fun v hv => absurd hv List.not_mem_nil⟩
        · simp only [List.map_cons, List.map_nil, zq_6, zq_7, zq_8, zq_9, zq_20, zq_21, zq_22, zq_25, zq_26, zq_28, zq_30, zq_40, zq_51, zq_52, zq_53, zq_54, zq_55, zq_64, zq_65, zq_68, zq_72, zq_73, zq_85, zq_74, zq_75, zq_76, zq_71, zq_86, zq_87, zq_80, zq_41, zq_42, zq_43, zq_94, zq_95, zq_47, zq_48, zq_96, zq_97, zq_88, zq_89, zq_90, zq_93, zq_61, zq_62, zq_1, zq_2, zq_3, zq_4, zq_5]
          exact g1
        · simp only [List.mem_cons, List.not_mem_nil, or_false] at hb
          rcases hb with rfl | rfl
          · exact t5 _ g2
          · exact s5 _ g3
    · exact zk_id_gd N hN hc hn
  · exact zk_id_gd N hN hc hn
def zk_f90 (N : zk_N) : List zk_G := N.2.2.2.filter fun q => Nat.beq q.1 90
def zk_ru90 : zk_Rl := zk_nr (zk_on zk_f90 fun p => zk_on zk_f90 (zk_u90 p))
theorem zk_ru90_ok : zk_Rok zk_ru90 := zk_nr_ok fun E n => zk_on_gd fun N h hc hn p hp => by
  have ht := zk_trs h hc hn p (List.mem_filter.mp hp).1
  exact zk_on_gd fun N' h' hc' hn' q hq => zk_u90_gd ht (zk_trs h' hc' hn' q (List.mem_filter.mp hq).1)
/-- reads of a row that are reads of the row that it lies in, at a place that is a number -/
def zk_xcf (hp : List zk_C) (cX : Nat) (q : Nat × Int) (N : zk_N) : Option zk_N := match zk_row hp (3, cX, [], 0), zk_row hp (3, q.1, [], 0) with
  | some (_, _, _, X), some (_, _, _, e) => match zk_le 0 q.2 && zk_f68 N X e (zk_c q.2) with
    | true => some (zk_addGs N (zk_x1 N X e (zk_c q.2) N.2.2.2))
    | false => some N
  | _, _ => some N
theorem zk_xcf_gd {E : zk_E} {n : Nat} {hp : List zk_C} {cX : Nat} {q : Nat × Int} : zk_gd E n (zk_xcf hp cX q) := by
  intro N hN hc hn
  unfold zk_xcf
  split
  · split
    · rename_i h
      simp only [Bool.and_eq_true] at h
      have h0 := zk_le_of h.1
      obtain ⟨k1, k2, -⟩ := zk_f68_of hN hc h.2
      obtain ⟨b1, b2⟩ := zk_addGs_ok hN hc (fun g hg => zk_x1_tr hN hc zk_c_sv k2 (by rw [zk_c_i]; exact h0) k1 g hg)
      exact ⟨_, rfl, b1, b2, hn⟩
    · exact ⟨N, rfl, hN, hc, hn⟩
  · exact ⟨N, rfl, hN, hc, hn⟩
def zk_rxc (cX : Nat) (L : List (Nat × Int)) : zk_Rl := fun z => match zk_ea (zk_xcf z.2.1 cX) L z.1 with
  | some N => some [N]
  | none => some []
theorem zk_rxc_ok (cX : Nat) (L : List (Nat × Int)) : zk_Rok (zk_rxc cX L) := by
  refine zk_Rs_ok fun z L' hz E h hc hcs hl hs => ?_
  obtain ⟨N', a1, a2, a3, a4⟩ := zk_ea_gd (f := zk_xcf z.2.1 cX) (l := L) (E := E) (n := z.1.1) (fun q _ => zk_xcf_gd) z.1 h hc rfl
  unfold zk_rxc at hz
  rw [a1] at hz
  cases hz
  exact ⟨N', List.mem_cons_self, a2, a3, a4⟩
/-- boys from a row: told by class and by reference -/
theorem zx_cv0_x {cl cl' : zx_Cl} {X e sz N0 P0 : zx_Rw} {M : List zx_Rw} {off i n s z B b k : Int} {S : List Int} (hs : sz s.toNat = z) (r1 : 0 ≤ i + 2 * k → i + 2 * k + 2 ≤ z → X (off + (i + 2 * k)).toNat = e (0 + (i + 2 * k)).toNat) (r2 : 0 ≤ i + 2 * k → i + 2 * k + 2 ≤ z → X (off + (i + 2 * k) + 1).toNat = e (0 + (i + 2 * k) + 1).toNat) : (zx_dn 1).2.2.2.1.map (zx_ev cl [X, sz, N0, P0] M [off, i, n, s, B, b] k S) = (zx_dn 0).2.2.2.1.map (zx_ev cl' [e, N0, P0] M [0, i, n, z, B, b] k S) ∧ ∀ M', zx_sto cl [X, sz, N0, P0] M [off, i, n, s, B, b] k S (zx_dn 1).2.2.2.2 M' = zx_sto cl' [e, N0, P0] M [0, i, n, z, B, b] k S (zx_dn 0).2.2.2.2 M' := by
  by_cases h1 : 0 ≤ i + 2 * k
  · by_cases h2 : i + 2 * k + 2 ≤ z
    · simp [zx_dn, zx_D, zx_f0, zx_f1, zx_ev, zx_evs, zx_sst, zx_op, zx_R, zx_sto, hs, r1 h1 h2, r2 h1 h2]
    · simp [zx_dn, zx_D, zx_f0, zx_f1, zx_ev, zx_evs, zx_sst, zx_op, zx_R, zx_sto, hs, h2]
  · simp [zx_dn, zx_D, zx_f0, zx_f1, zx_ev, zx_evs, zx_sst, zx_op, zx_R, zx_sto, hs, h1]
theorem zx_cv0 {X e sz N0 P0 : zx_Rw} {off i n s z B b : Int} (hX : ∀ j : Nat, j < 60 → X (off.toNat + j) = e j) (ho : 0 ≤ off) (hz : z ≤ 60) (hs : sz s.toNat = z) : ∀ K : Nat, zx_F 1 [X, sz, N0, P0] [off, i, n, s, B, b] K = zx_F 0 [e, N0, P0] [0, i, n, z, B, b] K
  | 0 => rfl
  | K + 1 => by
    have ih := zx_cv0 (X := X) (e := e) (sz := sz) (N0 := N0) (P0 := P0) (off := off) (i := i) (n := n) (s := s) (z := z) (B := B) (b := b) hX ho hz hs K
    have r1 : 0 ≤ i + 2 * (K : Int) → i + 2 * (K : Int) + 2 ≤ z → X (off + (i + 2 * (K : Int))).toNat = e (0 + (i + 2 * (K : Int))).toNat := fun h1 h2 => by
      rw [← hX _ (by omega)]
      congr 1
      omega
    have r2 : 0 ≤ i + 2 * (K : Int) → i + 2 * (K : Int) + 2 ≤ z → X (off + (i + 2 * (K : Int)) + 1).toNat = e (0 + (i + 2 * (K : Int)) + 1).toNat := fun h1 h2 => by
      rw [← hX _ (by omega)]
      congr 1
      omega
    have st := fun (M : List zx_Rw) (S : List Int) => zx_cv0_x (cl := zx_G 1) (cl' := zx_G 0) (N0 := N0) (P0 := P0) (M := M) (S := S) (n := n) (B := B) (b := b) hs r1 r2
    show (if (zx_F 1 [X, sz, N0, P0] [off, i, n, s, B, b] K).1.getD 0 0 = 0 then ((zx_dn 1).2.2.2.1.map (zx_ev (zx_G 1) [X, sz, N0, P0] (zx_F 1 [X, sz, N0, P0] [off, i, n, s, B, b] K).2 [off, i, n, s, B, b] K (zx_F 1 [X, sz, N0, P0] [off, i, n, s, B, b] K).1), zx_sto (zx_G 1) [X, sz, N0, P0] (zx_F 1 [X, sz, N0, P0] [off, i, n, s, B, b] K).2 [off, i, n, s, B, b] K (zx_F 1 [X, sz, N0, P0] [off, i, n, s, B, b] K).1 (zx_dn 1).2.2.2.2 (zx_F 1 [X, sz, N0, P0] [off, i, n, s, B, b] K).2) else zx_F 1 [X, sz, N0, P0] [off, i, n, s, B, b] K) = (if (zx_F 0 [e, N0, P0] [0, i, n, z, B, b] K).1.getD 0 0 = 0 then ((zx_dn 0).2.2.2.1.map (zx_ev (zx_G 0) [e, N0, P0] (zx_F 0 [e, N0, P0] [0, i, n, z, B, b] K).2 [0, i, n, z, B, b] K (zx_F 0 [e, N0, P0] [0, i, n, z, B, b] K).1), zx_sto (zx_G 0) [e, N0, P0] (zx_F 0 [e, N0, P0] [0, i, n, z, B, b] K).2 [0, i, n, z, B, b] K (zx_F 0 [e, N0, P0] [0, i, n, z, B, b] K).1 (zx_dn 0).2.2.2.2 (zx_F 0 [e, N0, P0] [0, i, n, z, B, b] K).2) else zx_F 0 [e, N0, P0] [0, i, n, z, B, b] K)
    rw [ih, (st _ _).1, (st _ _).2]
def zk_cv1 (N : zk_N) (X sz e : Nat) (k : Int) (q : zk_G) : List zk_G := match zk_as90 N q with
  | some (id, [e', N0, P0], M, _, K, [o, i, n, z, B, b], S) => match zk_frd N sz (zk_c k) N.2.2.2 with
    | some w => match Nat.beq id 0 && Nat.beq e e' && zk_eqE N o (zk_c 0) && zk_eqE N w z && zk_n2 N (zk_vsub (zk_c 60) z) && zk_le 0 k && zk_f68 N X e (zk_c (60 * k)) with
      | true => [(90, [X, sz, N0, P0] ++ M, zk_c 1 :: K :: ([zk_c (60 * k), i, n, zk_c k, B, b] ++ S))]
      | false => []
    | none => []
  | _ => []
theorem zk_cv1_ok {E : zk_E} {N : zk_N} (hN : zk_ok E N) (hc : zk_cl N) {X sz e : Nat} {k : Int} (hs : sz < N.1) {q : zk_G} (hq : q ∈ N.2.2.2) : ∀ x ∈ zk_cv1 N X sz e k q, zk_tru E N.1 x := by
  have ht := zk_tru_of hN hc q hq
  intro x hx
  unfold zk_cv1 at hx
  split at hx
  · rename_i id e' N0 P0 M i0 K o i n z B b S he
    obtain ⟨t1, t2, t3, t4, t4b, t5, t5b, t6, t7, t8, t9⟩ := zk_as90_of hN ht he
    split at hx
    · rename_i w hw
      split at hx
      · rename_i c
        simp only [Bool.and_eq_true] at c
        obtain ⟨⟨⟨⟨⟨⟨c1, c2⟩, c3⟩, c4⟩, c5⟩, c6⟩, c7⟩ := c
        have c1 := Nat.eq_of_beq_eq_true c1
        have c2 := Nat.eq_of_beq_eq_true c2
        subst c1 c2
        have c3 := zk_eqE_of hN c3
        have c4 := zk_eqE_of hN c4
        have c5 := zk_n2_ok hN c5
        have c6 := zk_le_of c6
        rw [zk_c_i] at c3
        rw [zk_vsub_i, zk_c_i] at c5
        obtain ⟨d1, d2, -⟩ := zk_f68_of hN hc c7
        have d3 := zk_frd_of hN (fun q hq => hq) hw
        rw [zk_c_i] at d1 d3
        have hM2 : M.length = 2 := t4b
        rw [List.mem_singleton.mp hx]
        refine ⟨?_, fun a ha => ?_, fun v hv => ?_⟩
        · simp only [List.map_cons, List.map_nil, zq_6, zq_7, zq_8, zq_9, zq_20, zq_21, zq_22, zq_25, zq_26, zq_28, zq_30, zq_40, zq_51, zq_52, zq_53, zq_54, zq_55, zq_64, zq_65, zq_68, zq_72, zq_73, zq_85, zq_74, zq_75, zq_76, zq_71, zq_86, zq_87, zq_80, zq_41, zq_42, zq_43, zq_94, zq_95, zq_47, zq_48, zq_96, zq_97, zq_88, zq_89, zq_90, zq_93, zq_61, zq_62, zq_1, zq_2, zq_3, zq_4, zq_5, zx_90, List.cons_append, List.nil_append, zk_c_i]
          refine ⟨by decide, t2, ?_⟩
          show zx_F 1 ((E.2 X :: E.2 sz :: E.2 N0 :: E.2 P0 :: M.map E.2).take ((E.2 X :: E.2 sz :: E.2 N0 :: E.2 P0 :: M.map E.2).length - 2)) [60 * k, zk_i E i, zk_i E n, k, zk_i E B, zk_i E b] (zk_i E K).toNat = (S.map (zk_i E), (E.2 X :: E.2 sz :: E.2 N0 :: E.2 P0 :: M.map E.2).drop ((E.2 X :: E.2 sz :: E.2 N0 :: E.2 P0 :: M.map E.2).length - 2))
          have el : (E.2 X :: E.2 sz :: E.2 N0 :: E.2 P0 :: M.map E.2).length - 2 = 4 := by
            simp [hM2]
          rw [el]
          show zx_F 1 [E.2 X, E.2 sz, E.2 N0, E.2 P0] [60 * k, zk_i E i, zk_i E n, k, zk_i E B, zk_i E b] (zk_i E K).toNat = (S.map (zk_i E), M.map E.2)
          rw [zx_cv0 (e := E.2 e) (z := zk_i E z) d1 (by omega) (by omega) (by rw [d3, c4])]
          simp only [List.map_cons, List.map_nil, c3] at t3
          exact t3
        · simp only [List.mem_cons, List.cons_append, List.nil_append] at ha
          rcases ha with rfl | rfl | rfl | rfl | ha
          · exact d2
          · exact hs
          · exact t5 _ (by simp)
          · exact t5 _ (by simp)
          · exact t5b _ ha
        · simp only [List.mem_cons, List.cons_append, List.nil_append] at hv
          rcases hv with rfl | rfl | rfl | rfl | rfl | rfl | rfl | rfl | hv
          · exact zk_c_sv
          · exact t7
          · exact zk_c_sv
          · exact t8 _ (by simp)
          · exact t8 _ (by simp)
          · exact zk_c_sv
          · exact t8 _ (by simp)
          · exact t8 _ (by simp)
          · exact t9 v hv
      · cases hx
    · cases hx
  · cases hx
def zk_cvf (hp : List zk_C) (cX cS : Nat) (q : Nat × Int) (N : zk_N) : Option zk_N := match zk_row hp (3, cX, [], 0), zk_row hp (3, cS, [], 0), zk_row hp (3, q.1, [], 0) with
  | some (_, _, _, X), some (_, _, _, sz), some (_, _, _, e) => match Nat.blt sz N.1 with
    | true => some (zk_addGs N (N.2.2.2.flatMap (zk_cv1 N X sz e q.2)))
    | false => some N
  | _, _, _ => some N
theorem zk_cvf_gd {E : zk_E} {n : Nat} {hp : List zk_C} {cX cS : Nat} {q : Nat × Int} : zk_gd E n (zk_cvf hp cX cS q) := by
  intro N hN hc hn
  unfold zk_cvf
  split
  · rename_i k1 d1 l1 X k2 d2 l2 sz k3 d3 l3 e e1 e2 e3
    split
    · rename_i h
      obtain ⟨b1, b2⟩ := zk_addGs_ok hN hc (L := N.2.2.2.flatMap (zk_cv1 N X sz e q.2)) (fun g hg => by
        obtain ⟨y, hy1, hy2⟩ := List.mem_flatMap.mp hg
        exact zk_cv1_ok hN hc (Nat.blt_eq.mp h) hy1 g hy2)
      exact ⟨_, rfl, b1, b2, hn⟩
    · exact ⟨N, rfl, hN, hc, hn⟩
  · exact ⟨N, rfl, hN, hc, hn⟩
def zk_rcv (cX cS : Nat) (L : List (Nat × Int)) : zk_Rl := fun z => match zk_ea (zk_cvf z.2.1 cX cS) L z.1 with
  | some N => some [N]
  | none => some []
theorem zk_rcv_ok (cX cS : Nat) (L : List (Nat × Int)) : zk_Rok (zk_rcv cX cS L) := by
  refine zk_Rs_ok fun z L' hz E h hc hcs hl hs => ?_
  obtain ⟨N', a1, a2, a3, a4⟩ := zk_ea_gd (f := zk_cvf z.2.1 cX cS) (l := L) (E := E) (n := z.1.1) (fun q _ => zk_cvf_gd) z.1 h hc rfl
  unfold zk_rcv at hz
  rw [a1] at hz
  cases hz
  exact ⟨N', List.mem_cons_self, a2, a3, a4⟩
/-- a told function worked out where it stands: its rows (cells), its parameters (0: a symbol; 1: a field of a cell) -/
def zk_rinR (hp : List zk_C) : List Nat → Option (List Nat)
  | [] => some []
  | c :: l => match zk_row hp (3, c, [], 0), zk_rinR hp l with
    | some (_, _, _, a), some r => some (a :: r)
    | _, _ => none
def zk_rinV (z : zk_Z) (q : Nat × Nat × Nat) : Option zk_V := match q.1 with
  | 0 => some (zk_y q.2.1)
  | _ => match zk_get z.2.1 q.2.1 with
    | some c => match zk_get c.2.2 q.2.2 with
      | some t => some t.2.2
      | none => none
    | none => none
def zk_rinP (z : zk_Z) : List (Nat × Nat × Nat) → Option (List zk_V)
  | [] => some []
  | q :: l => match zk_rinV z q, zk_rinP z l with
    | some v, some r => some (v :: r)
    | _, _ => none
def zk_rinG (z : zk_Z) (id : Nat) (K : Int) (cs : List Nat) (ps : List (Nat × Nat × Nat)) : Option zk_G := match zk_rinR z.2.1 cs, zk_rinP z ps with
  | some R, some P => match zk_unr z.1 id R P (match zk_le K 5 with
      | true => K.toNat
      | false => 5) with
    | some s => match zk_ok90 z.1 (R, zk_c (Int.ofNat id) :: zk_c K :: (P ++ s)) && (R.all fun a => Nat.blt a z.1.1) && ((P ++ s).all fun v => zk_svB z.1.1 v) with
      | true => some (90, R, zk_c (Int.ofNat id) :: zk_c K :: (P ++ s))
      | false => none
    | none => none
  | _, _ => none
def zk_rin (id : Nat) (K : Int) (cs : List Nat) (ps : List (Nat × Nat × Nat)) : zk_Rl := fun z => match zk_rinG z id K cs ps with
  | some g => some [zk_addGs z.1 [g]]
  | none => some [z.1]
theorem zk_rinG_of {z : zk_Z} {E : zk_E} (h : zk_ok E z.1) {id : Nat} {K : Int} {cs : List Nat} {ps : List (Nat × Nat × Nat)} {g : zk_G} (hg : zk_rinG z id K cs ps = some g) : zk_tru E z.1.1 g := by
  unfold zk_rinG at hg
  split at hg
  · rename_i R P _ _
    split at hg
    · rename_i s _
      split at hg
      · rename_i c
        simp only [Bool.and_eq_true] at c
        obtain ⟨⟨c1, c2⟩, c3⟩ := c
        cases hg
        refine ⟨zk_ok90_of h c1, fun a ha => Nat.blt_eq.mp (List.all_eq_true.mp c2 a ha), fun v hv => ?_⟩
        rcases List.mem_cons.mp hv with rfl | hv
        · exact zk_c_sv
        · rcases List.mem_cons.mp hv with rfl | hv
          · exact zk_c_sv
          · exact zk_svB_of (List.all_eq_true.mp c3 v hv)
      · cases hg
    · cases hg
  · cases hg
theorem zk_rin_ok (id : Nat) (K : Int) (cs : List Nat) (ps : List (Nat × Nat × Nat)) : zk_Rok (zk_rin id K cs ps) := by
  refine zk_Rs_ok fun z L hz E h hc hcs hl hs => ?_
  unfold zk_rin at hz
  split at hz
  · rename_i g hg
    cases hz
    have ht := zk_rinG_of h hg
    obtain ⟨b1, b2⟩ := zk_addGs_ok h hc (L := [g]) (fun x hx => by rw [List.mem_singleton.mp hx]; exact ht)
    exact ⟨_, List.mem_cons_self, b1, b2, rfl⟩
  · cases hz
    exact ⟨_, List.mem_cons_self, h, hc, rfl⟩
end
