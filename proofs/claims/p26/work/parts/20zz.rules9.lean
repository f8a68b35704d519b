noncomputable section
/-! RELATIONS: what is known of two sides, carried over -/
def zk_gd (E : zk_E) (n : Nat) (f : zk_N → Option zk_N) : Prop := ∀ N, zk_ok E N → zk_cl N → N.1 = n → ∃ N', f N = some N' ∧ zk_ok E N' ∧ zk_cl N' ∧ N'.1 = n
theorem zk_id_gd {E : zk_E} {n : Nat} : zk_gd E n some := fun N h hc hn => ⟨N, rfl, h, hc, hn⟩
def zk_sq (f g : zk_N → Option zk_N) (N : zk_N) : Option zk_N := match f N with
  | some N' => g N'
  | none => none
theorem zk_sq_gd {E : zk_E} {n : Nat} {f g : zk_N → Option zk_N} (hf : zk_gd E n f) (hg : zk_gd E n g) : zk_gd E n (zk_sq f g) := fun N h hc hn => by
  obtain ⟨N1, a1, a2, a3, a4⟩ := hf N h hc hn
  obtain ⟨N2, b1, b2, b3, b4⟩ := hg N1 a2 a3 a4
  exact ⟨N2, by unfold zk_sq; rw [a1]; exact b1, b2, b3, b4⟩
noncomputable def zk_ea {α : Type} (f : α → zk_N → Option zk_N) (l : List α) (N : zk_N) : Option zk_N := List.rec (motive := fun _ => zk_N → Option zk_N) some (fun a _ ih N => Option.rec (motive := fun _ => Option zk_N) none ih (f a N)) l N
theorem zk_ea_cons {α : Type} (f : α → zk_N → Option zk_N) (a : α) (l : List α) (N : zk_N) : zk_ea f (a :: l) N = (match f a N with | some N' => zk_ea f l N' | none => none) := by
  show Option.rec (motive := fun _ => Option zk_N) none (zk_ea f l) (f a N) = _
  cases f a N <;> rfl
theorem zk_ea_gd {α : Type} {E : zk_E} {n : Nat} {f : α → zk_N → Option zk_N} : ∀ {l : List α}, (∀ a ∈ l, zk_gd E n (f a)) → zk_gd E n (zk_ea f l)
  | [], _ => zk_id_gd
  | a :: l, h => fun N hN hc hn => by
    obtain ⟨N1, a1, a2, a3, a4⟩ := h a List.mem_cons_self N hN hc hn
    obtain ⟨N2, b1, b2, b3, b4⟩ := zk_ea_gd (fun b hb => h b (List.mem_cons_of_mem _ hb)) N1 a2 a3 a4
    exact ⟨N2, by rw [zk_ea_cons, a1]; exact b1, b2, b3, b4⟩
def zk_on {α : Type} (h : zk_N → List α) (f : α → zk_N → Option zk_N) (N : zk_N) : Option zk_N := zk_ea f (h N) N
theorem zk_on_gd {α : Type} {E : zk_E} {n : Nat} {h : zk_N → List α} {f : α → zk_N → Option zk_N} (hh : ∀ N, zk_ok E N → zk_cl N → N.1 = n → ∀ a ∈ h N, zk_gd E n (f a)) : zk_gd E n (zk_on h f) := fun N hN hc hn => zk_ea_gd (hh N hN hc hn) N hN hc hn
/-- a fact that holds, by symbols below n -/
def zk_tru (E : zk_E) (n : Nat) (q : zk_G) : Prop := zk_S q.1 (q.2.1.map E.2) (q.2.2.map (zk_i E)) ∧ (∀ a ∈ q.2.1, a < n) ∧ ∀ v ∈ q.2.2, zk_sv n v
theorem zk_tru_of {E : zk_E} {N : zk_N} (h : zk_ok E N) (hc : zk_cl N) : ∀ q ∈ N.2.2.2, zk_tru E N.1 q := fun q hq => ⟨h.2.2 q hq, hc.2.2 q hq⟩
theorem zk_add_gd {E : zk_E} {n : Nat} {f : zk_N → List zk_G} (h : ∀ N, zk_ok E N → zk_cl N → N.1 = n → ∀ g ∈ f N, zk_tru E n g) : zk_gd E n (fun N => some (zk_addGs N (f N))) := fun N hN hc hn => by
  obtain ⟨k1, k2⟩ := zk_addGs_ok hN hc (L := f N) (fun g hg => by
    have := h N hN hc hn g hg
    rw [← hn] at this
    exact this)
  exact ⟨_, rfl, k1, k2, hn⟩
/-- the reads alone -/
noncomputable def zk_k1 (l : List zk_G) : List zk_G := List.rec (motive := fun _ => List zk_G) [] (fun g _ ih => Bool.rec (motive := fun _ => List zk_G) ih (g :: ih) (Nat.beq g.1 1)) l
theorem zk_k1_mem {x : zk_G} : ∀ {l : List zk_G}, x ∈ zk_k1 l → x ∈ l
  | [], h => absurd h List.not_mem_nil
  | g :: l, h => by
    have h2 : x ∈ (Bool.rec (motive := fun _ => List zk_G) (zk_k1 l) (g :: zk_k1 l) (Nat.beq g.1 1)) := h
    cases hb : Nat.beq g.1 1 with
    | false =>
      rw [hb] at h2
      exact List.mem_cons_of_mem _ (zk_k1_mem h2)
    | true =>
      rw [hb] at h2
      rcases List.mem_cons.mp h2 with rfl | h3
      · exact List.mem_cons_self
      · exact List.mem_cons_of_mem _ (zk_k1_mem h3)
/-- reads of a row that are reads of another too -/
def zk_cpf (N : zk_N) (c : zk_V → Bool) (g f : Nat) : List zk_G → List zk_G
  | [] => []
  | q :: l => match Nat.beq q.1 1 with
    | true => match q.2 with
      | ([a], [j, w]) => match Nat.beq a g && c j with
        | true => match zk_mem1 f j (zk_k1 N.2.2.2) with
          | some _ => zk_cpf N c g f l
          | none => (1, [f], [j, w]) :: zk_cpf N c g f l
        | false => zk_cpf N c g f l
      | _ => zk_cpf N c g f l
    | false => zk_cpf N c g f l
theorem zk_cpf_of {N : zk_N} {c : zk_V → Bool} {g f : Nat} : ∀ {l : List zk_G} {x : zk_G}, x ∈ zk_cpf N c g f l → ∃ j w, x = (1, [f], [j, w]) ∧ (1, [g], [j, w]) ∈ l ∧ c j = true
  | [], x, h => absurd h List.not_mem_nil
  | q :: l, x, h => by
    have up : (∃ j w, x = (1, [f], [j, w]) ∧ (1, [g], [j, w]) ∈ l ∧ c j = true) → ∃ j w, x = (1, [f], [j, w]) ∧ (1, [g], [j, w]) ∈ q :: l ∧ c j = true := fun ⟨j, w, h1, h2, h3⟩ => ⟨j, w, h1, List.mem_cons_of_mem _ h2, h3⟩
    obtain ⟨k, rs, vs⟩ := q
    unfold zk_cpf at h
    simp only at h
    split at h
    · rename_i hk
      have hk := Nat.eq_of_beq_eq_true hk
      subst hk
      split at h
      · rename_i a j w heq
        cases heq
        split at h
        · rename_i hac
          simp only [Bool.and_eq_true] at hac
          have ha := Nat.eq_of_beq_eq_true hac.1
          subst ha
          split at h
          · exact up (zk_cpf_of h)
          · rcases List.mem_cons.mp h with rfl | h
            · exact ⟨j, w, rfl, List.mem_cons_self, hac.2⟩
            · exact up (zk_cpf_of h)
        · exact up (zk_cpf_of h)
      · exact up (zk_cpf_of h)
    · exact up (zk_cpf_of h)
theorem zk_cpf_tr {E : zk_E} {N : zk_N} (hN : zk_ok E N) (hc : zk_cl N) {c : zk_V → Bool} {g f : Nat} (hf : f < N.1) (h : ∀ j, c j = true → E.2 f (zk_i E j).toNat = E.2 g (zk_i E j).toNat) : ∀ x ∈ zk_cpf N c g f (zk_k1 N.2.2.2), zk_tru E N.1 x := fun x hx => by
  obtain ⟨j, w, rfl, h2, h3⟩ := zk_cpf_of hx
  obtain ⟨t1, -, t3⟩ := zk_tru_of hN hc _ (zk_k1_mem h2)
  refine ⟨?_, fun a ha => by rw [List.mem_singleton.mp ha]; exact hf, t3⟩
  simp only [List.map_cons, List.map_nil, zk_S] at t1 ⊢
  rw [h j h3]
  exact t1
def zk_trq (q : zk_G) (N : zk_N) : Option zk_N := match Nat.beq q.1 2 with
  | true => match q.2 with
    | ([f, g], [i, _]) => some (zk_addGs N (zk_cpf N (fun j => zk_n0 N i && zk_n0 N j && zk_nz N (zk_vsub i j)) g f (zk_k1 N.2.2.2)))
    | _ => some N
  | false => match Nat.beq q.1 9 with
    | true => match q.2 with
      | ([f, g, _], [sp, dp, m]) => some (zk_addGs N (zk_cpf N (fun j => zk_eqv sp dp && zk_n0 N sp && zk_n0 N m && zk_n0 N (zk_vsub j sp) && zk_n0 N (zk_vsub (zk_vsub (zk_vadd sp m) (zk_c 1)) j)) g f (zk_k1 N.2.2.2)))
      | _ => some N
    | false => match Nat.beq q.1 8 with
      | true => match q.2 with
        | ([f, g], []) => some (zk_addGs N (zk_cpf N (fun _ => true) f g (zk_k1 N.2.2.2)))
        | _ => some N
      | false => some N
theorem zk_trq_gd {E : zk_E} {n : Nat} {q : zk_G} (hq : zk_tru E n q) : zk_gd E n (zk_trq q) := by
  intro N hN hc hn
  subst hn
  obtain ⟨k, rs, vs⟩ := q
  obtain ⟨q1, q2, q3⟩ := hq
  simp only at q1 q2 q3
  unfold zk_trq
  simp only
  split
  · rename_i hk
    have hk := Nat.eq_of_beq_eq_true hk
    subst hk
    split
    · rename_i f g i v heq
      cases heq
      refine zk_add_gd (f := fun N => zk_cpf N (fun j => zk_n0 N i && zk_n0 N j && zk_nz N (zk_vsub i j)) g f (zk_k1 N.2.2.2)) (fun N' hN' hc' hn' => ?_) N hN hc rfl
      rw [← hn']
      refine zk_cpf_tr hN' hc' (by rw [hn']; exact q2 f (by simp)) fun j hj => ?_
      simp only [Bool.and_eq_true] at hj
      have a1 := zk_n0_ok hN' hj.1.1
      have a2 := zk_n0_ok hN' hj.1.2
      have a3 := zk_nz_ok hN' hj.2
      rw [zk_vsub_i] at a3
      simp only [List.map_cons, List.map_nil, zk_S] at q1
      rw [q1]
      simp only
      rw [if_neg (by omega)]
    · exact zk_id_gd N hN hc rfl
  · split
    · rename_i hk
      have hk := Nat.eq_of_beq_eq_true hk
      subst hk
      split
      · rename_i f g h sp dp m heq
        cases heq
        refine zk_add_gd (f := fun N => zk_cpf N (fun j => zk_eqv sp dp && zk_n0 N sp && zk_n0 N m && zk_n0 N (zk_vsub j sp) && zk_n0 N (zk_vsub (zk_vsub (zk_vadd sp m) (zk_c 1)) j)) g f (zk_k1 N.2.2.2)) (fun N' hN' hc' hn' => ?_) N hN hc rfl
        rw [← hn']
        refine zk_cpf_tr hN' hc' (by rw [hn']; exact q2 f (by simp)) fun j hj => ?_
        simp only [Bool.and_eq_true] at hj
        obtain ⟨⟨⟨⟨b1, b2⟩, b3⟩, b4⟩, b5⟩ := hj
        have b1 := zk_eqv_of b1
        subst b1
        have a2 := zk_n0_ok hN' b2
        have a3 := zk_n0_ok hN' b3
        have a4 := zk_n0_ok hN' b4
        have a5 := zk_n0_ok hN' b5
        rw [zk_vsub_i] at a4
        rw [zk_vsub_i, zk_vsub_i, zk_vadd_i, zk_c_i] at a5
        simp only [List.map_cons, List.map_nil, zq_6, zq_7, zq_8, zq_9, zq_20, zq_21, zq_22, zq_25, zq_26, zq_28, zq_30, zq_40, zq_51, zq_52, zq_53, zq_54, zq_55, zq_64, zq_65, zq_68, zq_72, zq_73, zq_85, zq_74, zq_75, zq_76, zq_71, zq_86, zq_87, zq_80, zq_41, zq_42, zq_43, zq_94, zq_95, zq_47, zq_48, zq_96, zq_97, zq_88, zq_89, zq_90, zq_93, zq_61, zq_62, zq_1, zq_2, zq_3, zq_4, zq_5] at q1
        rw [q1]
        simp only
        rw [if_pos (by omega), show (zk_i E sp).toNat + ((zk_i E j).toNat - (zk_i E sp).toNat) = (zk_i E j).toNat by omega]
      · exact zk_id_gd N hN hc rfl
    · split
      · rename_i hk
        have hk := Nat.eq_of_beq_eq_true hk
        subst hk
        split
        · rename_i f g heq
          cases heq
          refine zk_add_gd (f := fun N => zk_cpf N (fun _ => true) f g (zk_k1 N.2.2.2)) (fun N' hN' hc' hn' => ?_) N hN hc rfl
          rw [← hn']
          refine zk_cpf_tr hN' hc' (by rw [hn']; exact q2 g (by simp)) fun j hj => ?_
          simp only [List.map_cons, List.map_nil, zq_6, zq_7, zq_8, zq_9, zq_20, zq_21, zq_22, zq_25, zq_26, zq_28, zq_30, zq_40, zq_51, zq_52, zq_53, zq_54, zq_55, zq_64, zq_65, zq_68, zq_72, zq_73, zq_85, zq_74, zq_75, zq_76, zq_71, zq_86, zq_87, zq_80, zq_41, zq_42, zq_43, zq_94, zq_95, zq_47, zq_48, zq_96, zq_97, zq_88, zq_89, zq_90, zq_93, zq_61, zq_62, zq_1, zq_2, zq_3, zq_4, zq_5] at q1
          rw [q1]
        · exact zk_id_gd N hN hc rfl
      · exact zk_id_gd N hN hc rfl
/-- rows alike, written alike -/
def zk_al8 (N : zk_N) (f g : Nat) : Bool := N.2.2.2.any fun q => Nat.beq q.1 8 && (match q.2 with
  | ([a, b], []) => Nat.beq a f && Nat.beq b g
  | _ => false)
theorem zk_al8_of {E : zk_E} {N : zk_N} (h : zk_ok E N) {f g : Nat} (hg : zk_al8 N f g = true) : E.2 f = E.2 g := by
  obtain ⟨⟨k, rs, vs⟩, h1, h2⟩ := List.any_eq_true.mp hg
  simp only [Bool.and_eq_true] at h2
  obtain ⟨hk, h2⟩ := h2
  have hk := Nat.eq_of_beq_eq_true hk
  subst hk
  split at h2
  · rename_i a b heq
    cases heq
    simp only [Bool.and_eq_true] at h2
    have e1 := Nat.eq_of_beq_eq_true h2.1
    have e2 := Nat.eq_of_beq_eq_true h2.2
    subst e1 e2
    have := h.2.2 _ h1
    simp only [List.map_cons, List.map_nil, zq_6, zq_7, zq_8, zq_9, zq_20, zq_21, zq_22, zq_25, zq_26, zq_28, zq_30, zq_40, zq_51, zq_52, zq_53, zq_54, zq_55, zq_64, zq_65, zq_68, zq_72, zq_73, zq_85, zq_74, zq_75, zq_76, zq_71, zq_86, zq_87, zq_80, zq_41, zq_42, zq_43, zq_94, zq_95, zq_47, zq_48, zq_96, zq_97, zq_88, zq_89, zq_90, zq_93, zq_61, zq_62, zq_1, zq_2, zq_3, zq_4, zq_5] at this
    exact this
  · cases h2
def zk_ewf (N : zk_N) (f g : Nat) (i v : zk_V) : List zk_G → List zk_G
  | [] => []
  | q :: l => match Nat.beq q.1 2 with
    | true => match q.2 with
      | ([f', g'], [i', v']) => match zk_eqE N i i' && zk_eqE N v v' && zk_al8 N g g' with
        | true => (8, [f, f'], []) :: zk_ewf N f g i v l
        | false => zk_ewf N f g i v l
      | _ => zk_ewf N f g i v l
    | false => zk_ewf N f g i v l
theorem zk_ewf_of {N : zk_N} {f g : Nat} {i v : zk_V} : ∀ {l : List zk_G} {x : zk_G}, x ∈ zk_ewf N f g i v l → ∃ f' g' i' v', x = (8, [f, f'], []) ∧ (2, [f', g'], [i', v']) ∈ l ∧ zk_al8 N g g' = true ∧ zk_eqE N i i' = true ∧ zk_eqE N v v' = true
  | [], x, h => absurd h List.not_mem_nil
  | q :: l, x, h => by
    have up : (∃ f' g' i' v', x = (8, [f, f'], []) ∧ (2, [f', g'], [i', v']) ∈ l ∧ zk_al8 N g g' = true ∧ zk_eqE N i i' = true ∧ zk_eqE N v v' = true) → ∃ f' g' i' v', x = (8, [f, f'], []) ∧ (2, [f', g'], [i', v']) ∈ q :: l ∧ zk_al8 N g g' = true ∧ zk_eqE N i i' = true ∧ zk_eqE N v v' = true := fun ⟨f', g', i', v', h1, h2, h3⟩ => ⟨f', g', i', v', h1, List.mem_cons_of_mem _ h2, h3⟩
    obtain ⟨k, rs, vs⟩ := q
    unfold zk_ewf at h
    simp only at h
    split at h
    · rename_i hk
      have hk := Nat.eq_of_beq_eq_true hk
      subst hk
      split at h
      · rename_i f' g' i' v' heq
        cases heq
        split at h
        · rename_i hac
          simp only [Bool.and_eq_true] at hac
          rcases List.mem_cons.mp h with rfl | h
          · exact ⟨f', g', i', v', rfl, List.mem_cons_self, hac.2, hac.1.1, hac.1.2⟩
          · exact up (zk_ewf_of h)
        · exact up (zk_ewf_of h)
      · exact up (zk_ewf_of h)
    · exact up (zk_ewf_of h)
def zk_ewq (q : zk_G) (N : zk_N) : Option zk_N := match Nat.beq q.1 2 with
  | true => match q.2 with
    | ([f, g], [i, v]) => some (zk_addGs N (zk_ewf N f g i v N.2.2.2))
    | _ => some N
  | false => some N
theorem zk_ewq_gd {E : zk_E} {n : Nat} {q : zk_G} (hq : zk_tru E n q) : zk_gd E n (zk_ewq q) := by
  intro N hN hc hn
  subst hn
  obtain ⟨k, rs, vs⟩ := q
  obtain ⟨q1, q2, q3⟩ := hq
  simp only at q1 q2 q3
  unfold zk_ewq
  simp only
  split
  · rename_i hk
    have hk := Nat.eq_of_beq_eq_true hk
    subst hk
    split
    · rename_i f g i v heq
      cases heq
      refine zk_add_gd (f := fun N => zk_ewf N f g i v N.2.2.2) (fun N' hN' hc' hn' x hx => ?_) N hN hc rfl
      obtain ⟨f', g', i', v', rfl, h2, h3, h4, h5⟩ := zk_ewf_of hx
      obtain ⟨t1, t2, -⟩ := zk_tru_of hN' hc' _ h2
      have e3 := zk_al8_of hN' h3
      have e4 := zk_eqE_of hN' h4
      have e5 := zk_eqE_of hN' h5
      refine ⟨?_, fun a ha => ?_, fun w hw => absurd hw List.not_mem_nil⟩
      · simp only [List.map_cons, List.map_nil, zq_6, zq_7, zq_8, zq_9, zq_20, zq_21, zq_22, zq_25, zq_26, zq_28, zq_30, zq_40, zq_51, zq_52, zq_53, zq_54, zq_55, zq_64, zq_65, zq_68, zq_72, zq_73, zq_85, zq_74, zq_75, zq_76, zq_71, zq_86, zq_87, zq_80, zq_41, zq_42, zq_43, zq_94, zq_95, zq_47, zq_48, zq_96, zq_97, zq_88, zq_89, zq_90, zq_93, zq_61, zq_62, zq_1, zq_2, zq_3, zq_4, zq_5] at q1 t1 ⊢
        rw [q1, t1, e3, e4, e5]
      · simp only [List.mem_cons, List.not_mem_nil, or_false] at ha
        rcases ha with rfl | rfl
        · exact q2 _ (by simp)
        · rw [← hn']; exact t2 _ (by simp)
    · exact zk_id_gd N hN hc rfl
  · exact zk_id_gd N hN hc rfl
/-- places told by a symbol that is one number -/
def zk_pnf (N : zk_N) (s : Nat) (k : Int) : List zk_G → List zk_G
  | [] => []
  | q :: l => match Nat.beq q.1 1 with
    | true => match q.2 with
      | ([a], [([], k'), w]) => match zk_eqi k k' with
        | true => match zk_mem1 a (zk_y s) (zk_k1 N.2.2.2) with
          | some _ => zk_pnf N s k l
          | none => (1, [a], [zk_y s, w]) :: zk_pnf N s k l
        | false => zk_pnf N s k l
      | _ => zk_pnf N s k l
    | false => zk_pnf N s k l
theorem zk_pnf_of {N : zk_N} {s : Nat} {k : Int} : ∀ {l : List zk_G} {x : zk_G}, x ∈ zk_pnf N s k l → ∃ a w, x = (1, [a], [zk_y s, w]) ∧ (1, [a], [([], k), w]) ∈ l
  | [], x, h => absurd h List.not_mem_nil
  | q :: l, x, h => by
    have up : (∃ a w, x = (1, [a], [zk_y s, w]) ∧ (1, [a], [([], k), w]) ∈ l) → ∃ a w, x = (1, [a], [zk_y s, w]) ∧ (1, [a], [([], k), w]) ∈ q :: l := fun ⟨a, w, h1, h2⟩ => ⟨a, w, h1, List.mem_cons_of_mem _ h2⟩
    obtain ⟨kk, rs, vs⟩ := q
    unfold zk_pnf at h
    simp only at h
    split at h
    · rename_i hk
      have hk := Nat.eq_of_beq_eq_true hk
      subst hk
      split at h
      · rename_i a k' w heq
        cases heq
        split at h
        · rename_i hkk
          have hkk := zk_eqi_of hkk
          subst hkk
          split at h
          · exact up (zk_pnf_of h)
          · rcases List.mem_cons.mp h with rfl | h
            · exact ⟨a, w, rfl, List.mem_cons_self⟩
            · exact up (zk_pnf_of h)
        · exact up (zk_pnf_of h)
      · exact up (zk_pnf_of h)
    · exact up (zk_pnf_of h)
def zk_pnq (q : Nat × Int × Int) (N : zk_N) : Option zk_N := match zk_eqi q.2.1 q.2.2 with
  | true => some (zk_addGs N (zk_pnf N q.1 q.2.1 (zk_k1 N.2.2.2)))
  | false => some N
theorem zk_pnq_gd {E : zk_E} {n : Nat} {q : Nat × Int × Int} (h1 : q.2.1 ≤ E.1 q.1 ∧ E.1 q.1 ≤ q.2.2) (h2 : q.1 < n) : zk_gd E n (zk_pnq q) := by
  intro N hN hc hn
  unfold zk_pnq
  split
  · rename_i e
    have e := zk_eqi_of e
    refine zk_add_gd (f := fun N => zk_pnf N q.1 q.2.1 (zk_k1 N.2.2.2)) (fun N' hN' hc' hn' x hx => ?_) N hN hc hn
    obtain ⟨a, w, rfl, h3⟩ := zk_pnf_of hx
    obtain ⟨t1, t2, t3⟩ := zk_tru_of hN' hc' _ (zk_k1_mem h3)
    rw [hn'] at t2 t3
    refine ⟨?_, t2, fun v hv => ?_⟩
    · simp only [List.map_cons, List.map_nil, zk_S, zk_y_i] at t1 ⊢
      rw [zk_i_nil (x := (([], q.2.1) : zk_V)) rfl] at t1
      rw [show E.1 q.1 = q.2.1 by omega]
      exact t1
    · simp only [List.mem_cons, List.not_mem_nil, or_false] at hv
      rcases hv with rfl | rfl
      · exact zk_y_sv h2
      · exact t3 _ (by simp)
  · exact zk_id_gd N hN hc hn
/-- reads of a value that is another value too -/
def zk_vlf (x y : zk_V) : List zk_G → List zk_G
  | [] => []
  | q :: l => match Nat.beq q.1 1 with
    | true => match q.2 with
      | ([a], [j, w]) => match zk_eqv w x with
        | true => (1, [a], [j, y]) :: zk_vlf x y l
        | false => zk_vlf x y l
      | _ => zk_vlf x y l
    | false => zk_vlf x y l
theorem zk_vlf_of {x y : zk_V} : ∀ {l : List zk_G} {u : zk_G}, u ∈ zk_vlf x y l → ∃ a j, u = (1, [a], [j, y]) ∧ (1, [a], [j, x]) ∈ l
  | [], u, h => absurd h List.not_mem_nil
  | q :: l, u, h => by
    have up : (∃ a j, u = (1, [a], [j, y]) ∧ (1, [a], [j, x]) ∈ l) → ∃ a j, u = (1, [a], [j, y]) ∧ (1, [a], [j, x]) ∈ q :: l := fun ⟨a, j, h1, h2⟩ => ⟨a, j, h1, List.mem_cons_of_mem _ h2⟩
    obtain ⟨kk, rs, vs⟩ := q
    unfold zk_vlf at h
    simp only at h
    split at h
    · rename_i hk
      have hk := Nat.eq_of_beq_eq_true hk
      subst hk
      split at h
      · rename_i a j w heq
        cases heq
        split at h
        · rename_i hw
          have hw := zk_eqv_of hw
          subst hw
          rcases List.mem_cons.mp h with rfl | h
          · exact ⟨a, j, rfl, List.mem_cons_self⟩
          · exact up (zk_vlf_of h)
        · exact up (zk_vlf_of h)
      · exact up (zk_vlf_of h)
    · exact up (zk_vlf_of h)
/-- the same by bounds alone -/
def zk_eqR (N : zk_N) (a b : zk_V) : Bool := match zk_rng N (zk_vsub a b) with
  | some r => zk_eqi r.1 0 && zk_eqi r.2 0
  | none => false
theorem zk_eqR_of {E : zk_E} {N : zk_N} (h : zk_ok E N) {a b : zk_V} (he : zk_eqR N a b = true) : zk_i E a = zk_i E b := by
  unfold zk_eqR at he
  split at he
  · rename_i r hr
    have hb := zk_rng_ok h hr
    simp only [Bool.and_eq_true] at he
    have e1 := zk_eqi_of he.1
    have e2 := zk_eqi_of he.2
    rw [zk_vsub_i] at hb
    omega
  · cases he
/-- what follows, where it follows -/
def zk_imq (q : zk_G) (N : zk_N) : Option zk_N := match Nat.beq q.1 61 with
  | true => match q.2 with
    | ([], [h, c, x, y]) => match zk_eqR N h c with
      | true => match zk_eqs N (zk_vsub x y) with
        | some N' => some (zk_addGs N' ((zk_vlf x y (zk_k1 N'.2.2.2)).filter fun g => !(zk_any (zk_eqG g) (zk_k1 N'.2.2.2))))
        | none => none
      | false => some N
    | _ => some N
  | false => match Nat.beq q.1 62 with
    | true => match q.2 with
      | ([], [h, c, x]) => match zk_eqR N h c with
        | true => zk_asm N x
        | false => some N
      | _ => some N
    | false => some N
theorem zk_imq_gd {E : zk_E} {n : Nat} {q : zk_G} (hq : zk_tru E n q) : zk_gd E n (zk_imq q) := by
  intro N hN hc hn
  subst hn
  obtain ⟨k, rs, vs⟩ := q
  obtain ⟨q1, q2, q3⟩ := hq
  simp only at q1 q2 q3
  unfold zk_imq
  simp only
  split
  · rename_i hk
    have hk := Nat.eq_of_beq_eq_true hk
    subst hk
    split
    · rename_i h c x y heq
      cases heq
      split
      · rename_i he
        simp only [List.map_cons, List.map_nil, zq_6, zq_7, zq_8, zq_9, zq_20, zq_21, zq_22, zq_25, zq_26, zq_28, zq_30, zq_40, zq_51, zq_52, zq_53, zq_54, zq_55, zq_64, zq_65, zq_68, zq_72, zq_73, zq_85, zq_74, zq_75, zq_76, zq_71, zq_86, zq_87, zq_80, zq_41, zq_42, zq_43, zq_94, zq_95, zq_47, zq_48, zq_96, zq_97, zq_88, zq_89, zq_90, zq_93, zq_61, zq_62, zq_1, zq_2, zq_3, zq_4, zq_5] at q1
        have exy := q1 (zk_eqR_of hN he)
        have hx : zk_sv N.1 x := q3 x (by simp)
        have hy : zk_sv N.1 y := q3 y (by simp)
        obtain ⟨N1, a1, a2⟩ := zk_eqs_ok hN (d := zk_vsub x y) (by rw [zk_vsub_i]; omega)
        obtain ⟨a3, a4⟩ := zk_eqs_cl hc (zk_vsub_sv hx hy) a1
        rw [a1]
        simp only
        obtain ⟨b1, b2⟩ := zk_addGs_ok a2 a3 (L := (zk_vlf x y (zk_k1 N1.2.2.2)).filter fun g => !(zk_any (zk_eqG g) (zk_k1 N1.2.2.2))) (fun u hu => by
          obtain ⟨a, j, rfl, h2⟩ := zk_vlf_of (List.mem_filter.mp hu).1
          obtain ⟨t1, t2, t3⟩ := zk_tru_of a2 a3 _ (zk_k1_mem h2)
          refine ⟨?_, t2, fun v hv => ?_⟩
          · simp only [List.map_cons, List.map_nil, zk_S] at t1 ⊢
            rw [t1, exy]
          · simp only [List.mem_cons, List.not_mem_nil, or_false] at hv
            rcases hv with rfl | rfl
            · exact t3 _ (by simp)
            · rw [a4]; exact hy)
        exact ⟨_, rfl, b1, b2, a4⟩
      · exact zk_id_gd N hN hc rfl
    · exact zk_id_gd N hN hc rfl
  · split
    · rename_i hk
      have hk := Nat.eq_of_beq_eq_true hk
      subst hk
      split
      · rename_i h c x heq
        cases heq
        split
        · rename_i he
          simp only [List.map_cons, List.map_nil, zq_6, zq_7, zq_8, zq_9, zq_20, zq_21, zq_22, zq_25, zq_26, zq_28, zq_30, zq_40, zq_51, zq_52, zq_53, zq_54, zq_55, zq_64, zq_65, zq_68, zq_72, zq_73, zq_85, zq_74, zq_75, zq_76, zq_71, zq_86, zq_87, zq_80, zq_41, zq_42, zq_43, zq_94, zq_95, zq_47, zq_48, zq_96, zq_97, zq_88, zq_89, zq_90, zq_93, zq_61, zq_62, zq_1, zq_2, zq_3, zq_4, zq_5] at q1
          have exy := q1 (zk_eqR_of hN he)
          obtain ⟨N1, a1, a2⟩ := zk_asm_ok hN exy
          obtain ⟨a3, a4⟩ := zk_asm_cl hc (q3 x (by simp)) a1
          exact ⟨N1, a1, a2, a3, a4⟩
        · exact zk_id_gd N hN hc rfl
      · exact zk_id_gd N hN hc rfl
    · exact zk_id_gd N hN hc rfl
/-- a known sum, held against all others -/
def zk_agq (f : zk_V) (N : zk_N) : Option zk_N := match zk_n1 N (zk_vsub (zk_c (-1)) f) with
  | true => none
  | false => some (f.1.foldl (zk_rf f) N)
theorem zk_agq_gd {E : zk_E} {n : Nat} {f : zk_V} (h1 : 0 ≤ zk_i E f) (h2 : zk_sv n f) : zk_gd E n (zk_agq f) := by
  intro N hN hc hn
  unfold zk_agq
  split
  · rename_i h
    have := zk_n1_ok hN h
    rw [zk_vsub_i, zk_c_i] at this
    omega
  · obtain ⟨a1, a2⟩ := zk_rfs_cl (d := f) f.1 hc (fun q hq => by rw [hn]; exact h2 q hq)
    exact ⟨_, rfl, zk_rfs_ok h1 f.1 hN, a1, a2.trans hn⟩
/-- a number that is not 0 -/
def zk_neq (q : zk_G) (N : zk_N) : Option zk_N := match Nat.beq q.1 5 with
  | true => match q.2 with
    | ([], [d]) => match zk_eqE N d (zk_c 0) with
      | true => none
      | false => match zk_rng N d with
        | some r => match zk_eqi r.1 0 with
          | true => zk_asm N (zk_vsub d (zk_c 1))
          | false => match zk_eqi r.2 0 with
            | true => zk_asm N (zk_vsub (zk_c (-1)) d)
            | false => some N
        | none => some N
    | _ => some N
  | false => some N
theorem zk_neq_gd {E : zk_E} {n : Nat} {q : zk_G} (hq : zk_tru E n q) : zk_gd E n (zk_neq q) := by
  intro N hN hc hn
  obtain ⟨k, rs, vs⟩ := q
  obtain ⟨q1, q2, q3⟩ := hq
  simp only at q1 q2 q3
  unfold zk_neq
  simp only
  split
  · rename_i hk
    have hk := Nat.eq_of_beq_eq_true hk
    subst hk
    split
    · rename_i d heq
      cases heq
      split
      · rename_i he
        have := zk_eqE_of hN he
        rw [zk_c_i] at this
        simp only [List.map_cons, List.map_nil, zk_S] at q1
        exact absurd this q1
      · simp only [List.map_cons, List.map_nil, zk_S] at q1
        have hd : zk_sv N.1 d := by rw [hn]; exact q3 d (by simp)
        split
        · rename_i r hr
          have hb := zk_rng_ok hN hr
          split
          · rename_i e
            have e := zk_eqi_of e
            obtain ⟨N1, a1, a2⟩ := zk_asm_ok hN (d := zk_vsub d (zk_c 1)) (by rw [zk_vsub_i, zk_c_i]; omega)
            obtain ⟨a3, a4⟩ := zk_asm_cl hc (zk_vsub_sv hd zk_c_sv) a1
            exact ⟨N1, a1, a2, a3, a4.trans hn⟩
          · split
            · rename_i e
              have e := zk_eqi_of e
              obtain ⟨N1, a1, a2⟩ := zk_asm_ok hN (d := zk_vsub (zk_c (-1)) d) (by rw [zk_vsub_i, zk_c_i]; omega)
              obtain ⟨a3, a4⟩ := zk_asm_cl hc (zk_vsub_sv zk_c_sv hd) a1
              exact ⟨N1, a1, a2, a3, a4.trans hn⟩
            · exact zk_id_gd N hN hc hn
        · exact zk_id_gd N hN hc hn
    · exact zk_id_gd N hN hc hn
  · exact zk_id_gd N hN hc hn
/-- the same; of two numbers that are the same the reads alone -/
def zk_imS (q : zk_G) (N : zk_N) : Option zk_N := match Nat.beq q.1 61 with
  | true => match q.2 with
    | ([], [h, c, x, y]) => match zk_eqR N h c with
      | true => some (zk_addGs N ((zk_vlf x y (zk_k1 N.2.2.2)).filter fun g => !(zk_any (zk_eqG g) (zk_k1 N.2.2.2))))
      | false => some N
    | _ => some N
  | false => match Nat.beq q.1 62 with
    | true => match q.2 with
      | ([], [h, c, x]) => match zk_eqR N h c with
        | true => zk_asm N x
        | false => some N
      | _ => some N
    | false => some N
theorem zk_imS_gd {E : zk_E} {n : Nat} {q : zk_G} (hq : zk_tru E n q) : zk_gd E n (zk_imS q) := by
  intro N hN hc hn
  subst hn
  obtain ⟨k, rs, vs⟩ := q
  obtain ⟨q1, q2, q3⟩ := hq
  simp only at q1 q2 q3
  unfold zk_imS
  simp only
  split
  · rename_i hk
    have hk := Nat.eq_of_beq_eq_true hk
    subst hk
    split
    · rename_i h c x y heq
      cases heq
      split
      · rename_i he
        simp only [List.map_cons, List.map_nil, zq_6, zq_7, zq_8, zq_9, zq_20, zq_21, zq_22, zq_25, zq_26, zq_28, zq_30, zq_40, zq_51, zq_52, zq_53, zq_54, zq_55, zq_64, zq_65, zq_68, zq_72, zq_73, zq_85, zq_74, zq_75, zq_76, zq_71, zq_86, zq_87, zq_80, zq_41, zq_42, zq_43, zq_94, zq_95, zq_47, zq_48, zq_96, zq_97, zq_88, zq_89, zq_90, zq_93, zq_61, zq_62, zq_1, zq_2, zq_3, zq_4, zq_5] at q1
        have exy := q1 (zk_eqR_of hN he)
        have hx : zk_sv N.1 x := q3 x (by simp)
        have hy : zk_sv N.1 y := q3 y (by simp)
        obtain ⟨b1, b2⟩ := zk_addGs_ok hN hc (L := (zk_vlf x y (zk_k1 N.2.2.2)).filter fun g => !(zk_any (zk_eqG g) (zk_k1 N.2.2.2))) (fun u hu => by
          obtain ⟨a, j, rfl, h2⟩ := zk_vlf_of (List.mem_filter.mp hu).1
          obtain ⟨t1, t2, t3⟩ := zk_tru_of hN hc _ (zk_k1_mem h2)
          refine ⟨?_, t2, fun v hv => ?_⟩
          · simp only [List.map_cons, List.map_nil, zk_S] at t1 ⊢
            rw [t1, exy]
          · simp only [List.mem_cons, List.not_mem_nil, or_false] at hv
            rcases hv with rfl | rfl
            · exact t3 _ (by simp)
            · exact hy)
        exact ⟨_, rfl, b1, b2, rfl⟩
      · exact zk_id_gd N hN hc rfl
    · exact zk_id_gd N hN hc rfl
  · split
    · rename_i hk
      have hk := Nat.eq_of_beq_eq_true hk
      subst hk
      split
      · rename_i h c x heq
        cases heq
        split
        · rename_i he
          simp only [List.map_cons, List.map_nil, zq_6, zq_7, zq_8, zq_9, zq_20, zq_21, zq_22, zq_25, zq_26, zq_28, zq_30, zq_40, zq_51, zq_52, zq_53, zq_54, zq_55, zq_64, zq_65, zq_68, zq_72, zq_73, zq_85, zq_74, zq_75, zq_76, zq_71, zq_86, zq_87, zq_80, zq_41, zq_42, zq_43, zq_94, zq_95, zq_47, zq_48, zq_96, zq_97, zq_88, zq_89, zq_90, zq_93, zq_61, zq_62, zq_1, zq_2, zq_3, zq_4, zq_5] at q1
          have exy := q1 (zk_eqR_of hN he)
          obtain ⟨N1, a1, a2⟩ := zk_asm_ok hN exy
          obtain ⟨a3, a4⟩ := zk_asm_cl hc (q3 x (by simp)) a1
          exact ⟨N1, a1, a2, a3, a4⟩
        · exact zk_id_gd N hN hc rfl
      · exact zk_id_gd N hN hc rfl
    · exact zk_id_gd N hN hc rfl
/-- facts of some kinds alone (a kind's bit); the others go behind -/
noncomputable def zk_flt (p : zk_G → Bool) (l : List zk_G) : List zk_G := List.rec (motive := fun _ => List zk_G) [] (fun g _ ih => Bool.rec (motive := fun _ => List zk_G) ih (g :: ih) (p g)) l
theorem zk_flt_mem {p : zk_G → Bool} {x : zk_G} : ∀ {l : List zk_G}, x ∈ zk_flt p l → x ∈ l
  | [], h => absurd h List.not_mem_nil
  | g :: l, h => by
    have h2 : x ∈ (Bool.rec (motive := fun _ => List zk_G) (zk_flt p l) (g :: zk_flt p l) (p g)) := h
    cases hb : p g with
    | false =>
      rw [hb] at h2
      exact List.mem_cons_of_mem _ (zk_flt_mem h2)
    | true =>
      rw [hb] at h2
      rcases List.mem_cons.mp h2 with rfl | h3
      · exact List.mem_cons_self
      · exact List.mem_cons_of_mem _ (zk_flt_mem h3)
def zk_kbit (m : Nat) (g : zk_G) : Bool := Nat.beq (Nat.land (Nat.shiftRight m g.1) 1) 1
def zk_lt (m : Nat) (f : zk_N → Option zk_N) (N : zk_N) : Option zk_N := match f (N.1, N.2.1, N.2.2.1, zk_flt (zk_kbit m) N.2.2.2) with
  | some N' => some (N'.1, N'.2.1, N'.2.2.1, N'.2.2.2 ++ zk_flt (fun g => !(zk_kbit m g)) N.2.2.2)
  | none => none
theorem zk_lt_gd {E : zk_E} {n m : Nat} {f : zk_N → Option zk_N} (hf : zk_gd E n f) : zk_gd E n (zk_lt m f) := fun N h hc hn => by
  obtain ⟨N', a1, a2, a3, a4⟩ := hf (N.1, N.2.1, N.2.2.1, zk_flt (zk_kbit m) N.2.2.2) ⟨h.1, h.2.1, fun g hg => h.2.2 g (zk_flt_mem hg)⟩ ⟨hc.1, hc.2.1, fun g hg => hc.2.2 g (zk_flt_mem hg)⟩ hn
  refine ⟨(N'.1, N'.2.1, N'.2.2.1, N'.2.2.2 ++ zk_flt (fun g => !(zk_kbit m g)) N.2.2.2), by unfold zk_lt; rw [a1], ⟨a2.1, a2.2.1, fun g hg => ?_⟩, ⟨a3.1, a3.2.1, fun g hg => ?_⟩, a4⟩
  · rcases List.mem_append.mp hg with hg | hg
    · exact a2.2.2 g hg
    · exact h.2.2 g (zk_flt_mem hg)
  · rcases List.mem_append.mp hg with hg | hg
    · exact a3.2.2 g hg
    · have k := hc.2.2 g (zk_flt_mem hg)
      rw [hn] at k
      show (∀ a ∈ g.2.1, a < N'.1) ∧ ∀ v ∈ g.2.2, zk_sv N'.1 v
      rw [a4]
      exact k
def zk_relN : zk_N → Option zk_N := zk_lt 6917529027641082662 (zk_sq (zk_on (fun N => N.2.2.2) zk_imq) (zk_sq (zk_on (fun N => N.2.2.2.reverse) zk_trq) (zk_sq (zk_on (fun N => N.2.2.2.reverse) zk_ewq) (zk_sq (zk_on (fun N => N.2.1) zk_pnq) (zk_sq (zk_on (fun N => N.2.2.1) zk_agq) (zk_on (fun N => N.2.2.2) zk_neq))))))
theorem zk_relN_gd {E : zk_E} {n : Nat} : zk_gd E n zk_relN := by
  have tr : ∀ N : zk_N, zk_ok E N → zk_cl N → N.1 = n → ∀ q ∈ N.2.2.2, zk_tru E n q := fun N h hc hn q hq => by
    have := zk_tru_of h hc q hq
    rw [hn] at this
    exact this
  refine zk_lt_gd ?_
  refine zk_sq_gd (zk_on_gd fun N h hc hn q hq => zk_imq_gd (tr N h hc hn q hq)) (zk_sq_gd (zk_on_gd fun N h hc hn q hq => zk_trq_gd (tr N h hc hn q (List.mem_reverse.mp hq))) (zk_sq_gd (zk_on_gd fun N h hc hn q hq => zk_ewq_gd (tr N h hc hn q (List.mem_reverse.mp hq))) (zk_sq_gd (zk_on_gd fun N h hc hn q hq => zk_pnq_gd (h.1 q hq) (by rw [← hn]; exact hc.1 q hq)) (zk_sq_gd (zk_on_gd fun N h hc hn f hf => zk_agq_gd (h.2.1 f hf) (by rw [← hn]; exact hc.2.1 f hf)) (zk_on_gd fun N h hc hn q hq => zk_neq_gd (tr N h hc hn q hq))))))
def zk_rel : zk_Rl := fun z => match zk_relN z.1 with
  | some N => some [N]
  | none => some []
theorem zk_rel_ok : zk_Rok zk_rel := by
  refine zk_Rs_ok fun z L hz E h hc hcs hl hs => ?_
  obtain ⟨N', a1, a2, a3, a4⟩ := zk_relN_gd (E := E) (n := z.1.1) z.1 h hc rfl
  unfold zk_rel at hz
  rw [a1] at hz
  cases hz
  exact ⟨N', List.mem_cons_self, a2, a3, a4⟩
/-- the same without sums, rows alike, contradictions -/
def zk_relSN : zk_N → Option zk_N := zk_lt 6917529027641082374 (zk_sq (zk_on (fun N => N.2.2.2) zk_imS) (zk_sq (zk_on (fun N => N.2.2.2.reverse) zk_trq) (zk_on (fun N => N.2.1) zk_pnq)))
theorem zk_relSN_gd {E : zk_E} {n : Nat} : zk_gd E n zk_relSN := by
  have tr : ∀ N : zk_N, zk_ok E N → zk_cl N → N.1 = n → ∀ q ∈ N.2.2.2, zk_tru E n q := fun N h hc hn q hq => by
    have := zk_tru_of h hc q hq
    rw [hn] at this
    exact this
  refine zk_lt_gd ?_
  exact zk_sq_gd (zk_on_gd fun N h hc hn q hq => zk_imS_gd (tr N h hc hn q hq)) (zk_sq_gd (zk_on_gd fun N h hc hn q hq => zk_trq_gd (tr N h hc hn q (List.mem_reverse.mp hq))) (zk_on_gd fun N h hc hn q hq => zk_pnq_gd (h.1 q hq) (by rw [← hn]; exact hc.1 q hq)))
def zk_relS : zk_Rl := fun z => match zk_relSN z.1 with
  | some N => some [N]
  | none => some []
theorem zk_relS_ok : zk_Rok zk_relS := by
  refine zk_Rs_ok fun z L hz E h hc hcs hl hs => ?_
  obtain ⟨N', a1, a2, a3, a4⟩ := zk_relSN_gd (E := E) (n := z.1.1) z.1 h hc rfl
  unfold zk_relS at hz
  rw [a1] at hz
  cases hz
  exact ⟨N', List.mem_cons_self, a2, a3, a4⟩
end
