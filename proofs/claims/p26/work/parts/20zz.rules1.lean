noncomputable section
/-! RULES: facts out of facts -/
def zk_mdl (z : zk_Z) : List zk_T := match zk_get z.2.1 67 with
  | some c => match Nat.beq c.1 0 with
    | true => c.2.2
    | false => []
  | none => []
/-- the row in a field of the model -/
def zk_rowf (z : zk_Z) (j : Nat) : Option Nat := match zk_get (zk_mdl z) j with
  | some t => match zk_row z.2.1 t with
    | some r => some r.2.2.2
    | none => none
  | none => none
/-- the number in a field of the model -/
def zk_intf (z : zk_Z) (j : Nat) : Option zk_V := match zk_get (zk_mdl z) j with
  | some t => match Nat.beq t.1 0 with
    | true => some t.2.2
    | false => none
  | none => none
def zk_locv (z : zk_Z) (i : Nat) : Option zk_V := match zk_loc i z.2.2.1 with
  | some t => match Nat.beq t.1 0 with
    | true => some t.2.2
    | false => none
  | none => none
theorem zk_rowf_lt {z : zk_Z} {j a : Nat} (hc : ∀ c ∈ z.2.1, zk_cs z.1.1 c) (h : zk_rowf z j = some a) : a < z.1.1 := by
  unfold zk_rowf at h
  split at h
  · split at h
    · rename_i r hr
      injection h with h
      obtain ⟨c, -, -, h3, h4, -, h6, h7, h8, h9⟩ := zk_row_of (k := r.1) (kd := r.2.1) (n := r.2.2.1) (a := r.2.2.2) hr
      rw [← h, ← h6]
      exact (hc c (List.mem_of_getElem? h3)).2 (by rw [h4]; exact h7) (by rw [h4]; exact h8) (by rw [h4]; exact h9)
    · cases h
  · cases h
theorem zk_mdl_sv {z : zk_Z} (hc : ∀ c ∈ z.2.1, zk_cs z.1.1 c) : ∀ t ∈ zk_mdl z, zk_tv z.1.1 t := by
  intro t ht
  unfold zk_mdl at ht
  split at ht
  · rename_i c hg
    rw [zk_get_eq] at hg
    split at ht
    · exact (hc c (List.mem_of_getElem? hg)).1 t ht
    · cases ht
  · cases ht
theorem zk_intf_sv {z : zk_Z} {j : Nat} {v : zk_V} (hc : ∀ c ∈ z.2.1, zk_cs z.1.1 c) (h : zk_intf z j = some v) : zk_sv z.1.1 v := by
  unfold zk_intf at h
  split at h
  · rename_i t hg
    rw [zk_get_eq] at hg
    split at h
    · injection h with h
      rw [← h]
      exact zk_mdl_sv hc t (List.mem_of_getElem? hg)
    · cases h
  · cases h
theorem zk_locv_sv {z : zk_Z} {i : Nat} {v : zk_V} (hl : ∀ q ∈ z.2.2.1, zk_tv z.1.1 q.2) (h : zk_locv z i = some v) : zk_sv z.1.1 v := by
  unfold zk_locv at h
  split at h
  · rename_i t hg
    split at h
    · injection h with h
      rw [← h]
      exact hl (i, t) (zk_loc_mem hg)
    · cases h
  · cases h
/-- facts drawn out of each fact -/
def zk_fm {α β : Type} (f : α → List β) : List α → List β
  | [] => []
  | a :: l => match f a with
    | [] => zk_fm f l
    | b :: r => b :: (r ++ zk_fm f l)
theorem zk_fm_mem {α β : Type} {f : α → List β} : ∀ {l : List α} {b : β}, b ∈ zk_fm f l → ∃ a ∈ l, b ∈ f a
  | [], b, h => by cases h
  | a :: l, b, h => by
    unfold zk_fm at h
    have ih : b ∈ zk_fm f l → ∃ a' ∈ a :: l, b ∈ f a' := fun h => by
      obtain ⟨a', h1, h2⟩ := zk_fm_mem h
      exact ⟨a', List.mem_cons_of_mem _ h1, h2⟩
    split at h
    · exact ih h
    · rename_i c r hc
      rcases List.mem_cons.mp h with rfl | h
      · exact ⟨a, List.mem_cons_self, by rw [hc]; exact List.mem_cons_self⟩
      · rcases List.mem_append.mp h with h | h
        · exact ⟨a, List.mem_cons_self, by rw [hc]; exact List.mem_cons_of_mem _ h⟩
        · exact ih h
def zk_addGs (N : zk_N) (L : List zk_G) : zk_N := (N.1, N.2.1, N.2.2.1, L ++ N.2.2.2)
/-- a fact that may be added -/
def zk_good (E : zk_E) (N : zk_N) (g : zk_G) : Prop := zk_S g.1 (g.2.1.map E.2) (g.2.2.map (zk_i E)) ∧ (∀ a ∈ g.2.1, a < N.1) ∧ ∀ v ∈ g.2.2, zk_sv N.1 v
theorem zk_addGs_ok {E : zk_E} {N : zk_N} {L : List zk_G} (h : zk_ok E N) (hc : zk_cl N) (hL : ∀ g ∈ L, zk_good E N g) : zk_ok E (zk_addGs N L) ∧ zk_cl (zk_addGs N L) := by
  refine ⟨⟨h.1, h.2.1, fun g hg => ?_⟩, ⟨hc.1, hc.2.1, fun g hg => ?_⟩⟩
  · rcases List.mem_append.mp hg with hg | hg
    · exact (hL g hg).1
    · exact h.2.2 g hg
  · rcases List.mem_append.mp hg with hg | hg
    · exact (hL g hg).2
    · exact hc.2.2 g hg
theorem zk_old_good {E : zk_E} {N : zk_N} (h : zk_ok E N) (hc : zk_cl N) {g : zk_G} (hg : g ∈ N.2.2.2) : zk_good E N g := ⟨h.2.2 g hg, hc.2.2 g hg⟩
/-- a rule that keeps the symbols -/
def zk_Rs (f : zk_Rl) : Prop := ∀ (z : zk_Z) (L : List zk_N), f z = some L → ∀ E : zk_E, zk_ok E z.1 → zk_cl z.1 → (∀ c ∈ z.2.1, zk_cs z.1.1 c) → (∀ q ∈ z.2.2.1, zk_tv z.1.1 q.2) → (∀ t ∈ z.2.2.2, zk_tv z.1.1 t) → ∃ N' ∈ L, zk_ok E N' ∧ zk_cl N' ∧ N'.1 = z.1.1
theorem zk_Rs_ok {f : zk_Rl} (h : zk_Rs f) : zk_Rok f := fun z L hz E a b c d e => by
  obtain ⟨N', h1, h2, h3, h4⟩ := h z L hz E a b c d e
  exact ⟨N', h1, E, zk_ag_rf, h2, h3, Nat.le_of_eq h4.symm⟩
/-- a read that is known -/
theorem zk_mem1_i {E : zk_E} {N : zk_N} (h : zk_ok E N) {a : Nat} {v w : zk_V} (hm : zk_mem1 a v N.2.2.2 = some w) : E.2 a (zk_i E v).toNat = zk_i E w := by
  have := h.2.2 _ (zk_mem1_of hm)
  simp only [List.map_cons, List.map_nil, zk_S] at this
  exact this
theorem zk_mem1_sv {N : zk_N} (hc : zk_cl N) {a : Nat} {v w : zk_V} (hm : zk_mem1 a v N.2.2.2 = some w) : zk_sv N.1 w := (hc.2.2 _ (zk_mem1_of hm)).2 w (by simp)
/-! a divisor that counts something -/
def zk_cpK (N : zk_N) (f : Nat) (b m : zk_V) : zk_G → Bool
  | (1, [g], [k, w]) => Nat.beq g f && zk_eqE N w b && zk_n2 N k && zk_n2 N (zk_vsub (zk_vsub m k) (zk_c 1))
  | _ => false
def zk_cpP (N : zk_N) (n : zk_V) : zk_G → Bool
  | (40, [f], [b, m, n']) => zk_eqE N n' n && N.2.2.2.any (zk_cpK N f b m)
  | _ => false
def zk_rdiv : zk_Rl := fun z => match z.2.2.2 with
  | t :: _ => match z.1.2.2.2.any (zk_cpP z.1 t.2.2) with
    | true => match zk_asm z.1 (zk_vsub t.2.2 (zk_c 1)) with
      | some N' => some [N']
      | none => none
    | false => none
  | [] => none
theorem zk_cpP_of {E : zk_E} {N : zk_N} (h : zk_ok E N) {n : zk_V} (hn : N.2.2.2.any (zk_cpP N n) = true) : 1 ≤ zk_i E n := by
  obtain ⟨g, hg, hp⟩ := List.any_eq_true.mp hn
  unfold zk_cpP at hp
  split at hp
  · rename_i f b m n'
    simp only [Bool.and_eq_true] at hp
    obtain ⟨hp1, hp2⟩ := hp
    obtain ⟨g2, hg2, hk⟩ := List.any_eq_true.mp hp2
    unfold zk_cpK at hk
    split at hk
    · rename_i g' k w
      simp only [Bool.and_eq_true] at hk
      obtain ⟨⟨⟨k1, k2⟩, k3⟩, k4⟩ := hk
      have k1 := Nat.eq_of_beq_eq_true k1
      subst k1
      have e1 := zk_eqE_of h hp1
      have e2 := zk_eqE_of h k2
      have e3 := zk_n2_ok h k3
      have e4 := zk_n2_ok h k4
      rw [zk_vsub_i, zk_vsub_i, zk_c_i] at e4
      have hS : zk_i E n' = (zx_cn (E.2 g') (zk_i E b) (zk_i E m).toNat : Int) := h.2.2 _ hg
      have hr : E.2 g' (zk_i E k).toNat = zk_i E w := h.2.2 _ hg2
      have := zx_cnt_pos (f := E.2 g') (b := zk_i E b) (m := (zk_i E m).toNat) (k := (zk_i E k).toNat) (by omega) (by rw [hr, e2])
      omega
    · cases hk
  · cases hp
theorem zk_rdiv_ok : zk_Rok zk_rdiv := by
  refine zk_Rs_ok fun z L hz E h hc hcs hl hs => ?_
  unfold zk_rdiv at hz
  split at hz
  · rename_i t r hsk
    split at hz
    · rename_i hp
      have h1 := zk_cpP_of h hp
      split at hz
      · rename_i N' hN
        cases hz
        obtain ⟨N2, e1, k1⟩ := zk_asm_ok h (d := zk_vsub t.2.2 (zk_c 1)) (by rw [zk_vsub_i, zk_c_i]; omega)
        cases hN.symm.trans e1
        have htv : zk_tv z.1.1 t := hs t (by rw [hsk]; exact List.mem_cons_self)
        obtain ⟨c1, n1⟩ := zk_asm_cl hc (zk_vsub_sv htv zk_c_sv) e1
        exact ⟨N', List.mem_cons_self, k1, c1, n1⟩
      · cases hz
    · cases hz
  · cases hz
/-- a count begun: nothing yet (row in field j, what is counted in local i) -/
def zk_rci (j i : Nat) : zk_Rl := fun z => match zk_rowf z j, zk_locv z i with
  | some f, some b => some [zk_addGs z.1 [(40, [f], [b, zk_c 0, zk_c 0])]]
  | _, _ => none
theorem zk_rci_ok (j i : Nat) : zk_Rok (zk_rci j i) := by
  refine zk_Rs_ok fun z L hz E h hc hcs hl hs => ?_
  unfold zk_rci at hz
  split at hz
  · rename_i f b hf hb
    cases hz
    obtain ⟨k1, k2⟩ := zk_addGs_ok h hc (L := [(40, [f], [b, zk_c 0, zk_c 0])]) (fun g hg => by
      rw [List.mem_singleton.mp hg]
      refine ⟨?_, fun a ha => by rw [List.mem_singleton.mp ha]; exact zk_rowf_lt hcs hf, fun v hv => ?_⟩
      · show zk_i E (zk_c 0) = (zx_cn (E.2 f) (zk_i E b) (zk_i E (zk_c 0)).toNat : Int)
        rw [zk_c_i]
        rfl
      · simp only [List.mem_cons, List.not_mem_nil, or_false] at hv
        rcases hv with rfl | rfl | rfl
        · exact zk_locv_sv hl hb
        · exact zk_c_sv
        · exact zk_c_sv)
    exact ⟨_, List.mem_cons_self, k1, k2, rfl⟩
  · cases hz
/-- counts told of one more -/
def zk_dc (N : zk_N) : zk_G → List zk_G
  | (40, [f], [b, k, n]) => match zk_n2 N k, zk_mem1 f k N.2.2.2 with
    | true, some w => match zk_eqE N w b with
      | true => [(40, [f], [b, zk_vadd k (zk_c 1), zk_vadd n (zk_c 1)])]
      | false => match zk_nz N (zk_vsub w b) || zk_nz N (zk_vsub b w) with
        | true => [(40, [f], [b, zk_vadd k (zk_c 1), n])]
        | false => []
    | _, _ => []
  | _ => []
def zk_rcs : zk_Rl := fun z => some [zk_addGs z.1 (zk_fm (zk_dc z.1) z.1.2.2.2)]
theorem zk_dc_ok {E : zk_E} {N : zk_N} (h : zk_ok E N) (hc : zk_cl N) : ∀ g ∈ zk_fm (zk_dc N) N.2.2.2, zk_good E N g := by
  intro g hg
  obtain ⟨g0, hg0, hd⟩ := zk_fm_mem hg
  unfold zk_dc at hd
  split at hd
  · rename_i f b k n
    obtain ⟨s1, s2, s3⟩ := zk_old_good h hc hg0
    have s1 : zk_i E n = (zx_cn (E.2 f) (zk_i E b) (zk_i E k).toNat : Int) := s1
    have hb := s3 b (by simp)
    have hk := s3 k (by simp)
    have hn := s3 n (by simp)
    split at hd
    · rename_i w hk0 hm
      have e0 := zk_n2_ok h hk0
      have er := zk_mem1_i h hm
      have ek : (zk_i E k + 1).toNat = (zk_i E k).toNat + 1 := by omega
      split at hd
      · rename_i e
        have e := zk_eqE_of h e
        rw [List.mem_singleton.mp hd]
        refine ⟨?_, s2, fun v hv => ?_⟩
        · show zk_i E (zk_vadd n (zk_c 1)) = (zx_cn (E.2 f) (zk_i E b) (zk_i E (zk_vadd k (zk_c 1))).toNat : Int)
          rw [zk_vadd_i, zk_vadd_i, zk_c_i, ek]
          unfold zx_cn
          rw [if_pos (by rw [er, e])]
          omega
        · simp only [List.mem_cons, List.not_mem_nil, or_false] at hv
          rcases hv with rfl | rfl | rfl
          · exact hb
          · exact zk_vadd_sv hk zk_c_sv
          · exact zk_vadd_sv hn zk_c_sv
      · split at hd
        · rename_i e
          have e : zk_i E w ≠ zk_i E b := by
            simp only [Bool.or_eq_true] at e
            rcases e with e | e
            · have := zk_nz_ok h e
              rw [zk_vsub_i] at this
              omega
            · have := zk_nz_ok h e
              rw [zk_vsub_i] at this
              omega
          rw [List.mem_singleton.mp hd]
          refine ⟨?_, s2, fun v hv => ?_⟩
          · show zk_i E n = (zx_cn (E.2 f) (zk_i E b) (zk_i E (zk_vadd k (zk_c 1))).toNat : Int)
            rw [zk_vadd_i, zk_c_i, ek]
            unfold zx_cn
            rw [if_neg (by rw [er]; exact e)]
            omega
          · simp only [List.mem_cons, List.not_mem_nil, or_false] at hv
            rcases hv with rfl | rfl | rfl
            · exact hb
            · exact zk_vadd_sv hk zk_c_sv
            · exact hn
        · cases hd
    · cases hd
  · cases hd
theorem zk_rcs_ok : zk_Rok zk_rcs := by
  refine zk_Rs_ok fun z L hz E h hc hcs hl hs => ?_
  cases hz
  obtain ⟨k1, k2⟩ := zk_addGs_ok h hc (zk_dc_ok h hc)
  exact ⟨_, List.mem_cons_self, k1, k2, rfl⟩
end
