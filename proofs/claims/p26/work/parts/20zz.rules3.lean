noncomputable section
/-! TEXTS: steps of the law, lines -/
/-- cases, each with its sums and facts -/
def zk_csg (N : zk_N) : List (List zk_V × List zk_G) → List zk_N
  | [] => []
  | l :: r => match zk_asms N l.1 with
    | some N' => zk_addGs N' l.2 :: zk_csg N r
    | none => zk_csg N r
theorem zk_csg_at {E : zk_E} {N : zk_N} (h : zk_ok E N) (hc : zk_cl N) {l : List zk_V × List zk_G} (hd : ∀ d ∈ l.1, 0 ≤ zk_i E d ∧ zk_sv N.1 d) (hg : ∀ g ∈ l.2, zk_good E N g) : ∀ {r : List (List zk_V × List zk_G)}, l ∈ r → ∃ N' ∈ zk_csg N r, zk_ok E N' ∧ zk_cl N' ∧ N'.1 = N.1
  | a :: r, hl => by
    unfold zk_csg
    rcases List.mem_cons.mp hl with rfl | hl
    · obtain ⟨N2, e2, k2, c2, n2⟩ := zk_asms_ok h hc hd
      rw [e2]
      have hg2 : ∀ g ∈ l.2, zk_good E N2 g := fun g hgm => ⟨(hg g hgm).1, by rw [n2]; exact (hg g hgm).2⟩
      obtain ⟨k3, c3⟩ := zk_addGs_ok k2 c2 hg2
      exact ⟨_, List.mem_cons_self, k3, c3, n2⟩
    · obtain ⟨N2, e2, k2⟩ := zk_csg_at h hc hd hg hl
      split
      · exact ⟨N2, List.mem_cons_of_mem _ e2, k2⟩
      · exact ⟨N2, e2, k2⟩
theorem zk_to_may {E : zk_E} {N : zk_N} {r : zk_V × zk_N} {P : Int → Prop} {L : List zk_N} (h : zk_to E N r P) (k : ∀ E', zk_ag N.1 E E' → zk_ok E' r.2 → zk_cl r.2 → N.1 ≤ r.2.1 → zk_sv r.2.1 r.1 → P (zk_i E' r.1) → ∃ N' ∈ L, ∃ E'', zk_ag r.2.1 E' E'' ∧ zk_ok E'' N' ∧ zk_cl N' ∧ r.2.1 ≤ N'.1) : ∃ N' ∈ L, ∃ E'', zk_ag N.1 E E'' ∧ zk_ok E'' N' ∧ zk_cl N' ∧ N.1 ≤ N'.1 := by
  obtain ⟨E', a, b, c, d, e, f⟩ := h
  obtain ⟨N', h1, E'', h2, h3, h4, h5⟩ := k E' a b c d e f
  exact ⟨N', h1, E'', zk_ag_tr a h2 d, h3, h4, by omega⟩
theorem zk_same_may {E : zk_E} {N : zk_N} {L : List zk_N} (h : ∃ N' ∈ L, zk_ok E N' ∧ zk_cl N' ∧ N'.1 = N.1) : ∃ N' ∈ L, ∃ E'', zk_ag N.1 E E'' ∧ zk_ok E'' N' ∧ zk_cl N' ∧ N.1 ≤ N'.1 := by
  obtain ⟨N', h1, h2, h3, h4⟩ := h
  exact ⟨N', h1, E, zk_ag_rf, h2, h3, Nat.le_of_eq h4.symm⟩
/-- a fact of a kind of these rows, found by a look at its numbers -/
def zk_fnd (k : Nat) (rs : List Nat) (ok : List zk_V → Bool) : List zk_G → Option zk_G
  | [] => none
  | g :: l => match Nat.beq g.1 k && zk_eqNs g.2.1 rs && ok g.2.2 with
    | true => some g
    | false => zk_fnd k rs ok l
theorem zk_fnd_of {k : Nat} {rs : List Nat} {ok : List zk_V → Bool} {g : zk_G} : ∀ {l : List zk_G}, zk_fnd k rs ok l = some g → g ∈ l ∧ g.1 = k ∧ g.2.1 = rs ∧ ok g.2.2 = true
  | [], h => by cases h
  | a :: l, h => by
    unfold zk_fnd at h
    split at h
    · rename_i e
      simp only [Bool.and_eq_true] at e
      injection h with h
      rw [← h]
      exact ⟨List.mem_cons_self, Nat.eq_of_beq_eq_true e.1.1, zk_eqNs_of e.1.2, e.2⟩
    · obtain ⟨h1, h2⟩ := zk_fnd_of h
      exact ⟨List.mem_cons_of_mem _ h1, h2⟩
/-- what is left of a text at its beginning -/
def zk_e21 : zk_G → List zk_G
  | (20, [a, w], [lo, hi]) => [(21, [a, w], [lo, hi, zk_c 0])]
  | _ => []
def zk_r21i : zk_Rl := fun z => some [zk_addGs z.1 (zk_fm zk_e21 z.1.2.2.2)]
theorem zk_r21i_ok : zk_Rok zk_r21i := by
  refine zk_Rs_ok fun z L hz E h hc hcs hl hs => ?_
  cases hz
  obtain ⟨k1, k2⟩ := zk_addGs_ok h hc (L := zk_fm zk_e21 z.1.2.2.2) (fun g hg => by
    obtain ⟨g0, hg0, hd⟩ := zk_fm_mem hg
    unfold zk_e21 at hd
    split at hd
    · rename_i a w lo hi
      obtain ⟨s1, s2, s3⟩ := zk_old_good h hc hg0
      have s1 : zx_seg (E.2 a) (E.2 w) (zk_i E lo) (zk_i E hi) := s1
      rw [List.mem_singleton.mp hd]
      refine ⟨?_, s2, fun v hv => ?_⟩
      · show 0 ≤ zk_i E lo ∧ zk_i E lo ≤ zk_i E hi ∧ 0 ≤ zk_i E (zk_c 0) ∧ zx_dep (E.2 a) (E.2 w) (zk_i E hi - zk_i E lo).toNat (zk_i E lo).toNat (zk_i E (zk_c 0)).toNat = some 1
        rw [zk_c_i]
        exact ⟨s1.1, s1.2.1, Int.le_refl _, s1.2.2 0⟩
      · simp only [List.mem_cons, List.not_mem_nil, or_false] at hv
        rcases hv with rfl | rfl | rfl
        · exact s3 v (by simp)
        · exact s3 v (by simp)
        · exact zk_c_sv
    · cases hd)
  exact ⟨_, List.mem_cons_self, k1, k2, rfl⟩
theorem zx_dep_one {a w : Nat → Int} {k e n : Int} (hk : 0 ≤ k) (hn : 0 ≤ n) (hke : k < e) (h : zx_dep a w (e - k).toNat k.toNat n.toNat = some 1) :
    ((a k.toNat = 1 ∨ (a k.toNat = 2 ∧ 0 ≤ w k.toNat ∧ w k.toNat ≤ 5)) ∧ zx_dep a w (e - (k + 1)).toNat (k + 1).toNat (n + 1).toNat = some 1) ∨
    (3 ≤ a k.toNat ∧ a k.toNat ≤ 4 ∧ 1 ≤ n ∧ zx_dep a w (e - (k + 1)).toNat (k + 1).toNat n.toNat = some 1) ∨
    ((a k.toNat ≤ 0 ∨ 5 ≤ a k.toNat) ∧ 2 ≤ n ∧ zx_dep a w (e - (k + 1)).toNat (k + 1).toNat (n - 1).toNat = some 1) := by
  rw [show (e - k).toNat = (e - (k + 1)).toNat + 1 by omega, zx_dep_s] at h
  have ek : (k + 1).toNat = k.toNat + 1 := by omega
  rw [ek]
  split at h
  · rename_i h1
    left
    exact ⟨Or.inl h1, by rw [show (n + 1).toNat = n.toNat + 1 by omega]; exact h⟩
  · split at h
    · rename_i h1 h2
      split at h
      · rename_i h3
        left
        exact ⟨Or.inr ⟨h2, h3⟩, by rw [show (n + 1).toNat = n.toNat + 1 by omega]; exact h⟩
      · cases h
    · split at h
      · rename_i h1 h2 h3
        split at h
        · right; left
          exact ⟨h3.1, h3.2, by omega, h⟩
        · cases h
      · rename_i h1 h2 h3
        split at h
        · right; right
          exact ⟨by omega, by omega, by rw [show (n - 1).toNat = n.toNat - 1 by omega]; exact h⟩
        · cases h
/-- one step of a text: locals k, e, n -/
def zk_r21s (ja jw lk le ln : Nat) : zk_Rl := fun z => match zk_rowf z ja, zk_rowf z jw, zk_locv z lk, zk_locv z le, zk_locv z ln with
  | some a, some w, some k, some e, some n => match zk_fnd 21 [a, w] (fun vs => zk_eqEs z.1 vs [k, e, n]) z.1.2.2.2, zk_n2 z.1 (zk_vsub (zk_vsub e k) (zk_c 1)), zk_rd z.1 a k with
    | some _, true, some r1 => match zk_rd r1.2 w k with
      | some r2 => some (zk_csg r2.2 [
          (zk_btw r1.1 1 1, [(21, [a, w], [zk_vadd k (zk_c 1), e, zk_vadd n (zk_c 1)])]),
          (zk_btw r1.1 2 2 ++ zk_btw r2.1 0 5, [(21, [a, w], [zk_vadd k (zk_c 1), e, zk_vadd n (zk_c 1)])]),
          (zk_btw r1.1 3 4 ++ [zk_vsub n (zk_c 1)], [(21, [a, w], [zk_vadd k (zk_c 1), e, n])]),
          ([zk_vsub (zk_c 0) r1.1, zk_vsub n (zk_c 2)], [(21, [a, w], [zk_vadd k (zk_c 1), e, zk_vsub n (zk_c 1)])]),
          ([zk_vsub r1.1 (zk_c 5), zk_vsub n (zk_c 2)], [(21, [a, w], [zk_vadd k (zk_c 1), e, zk_vsub n (zk_c 1)])])])
      | none => none
    | _, _, _ => none
  | _, _, _, _, _ => none
theorem zk_one_d {E : zk_E} {n : Nat} {v : zk_V} (h : 0 ≤ zk_i E v) (hv : zk_sv n v) : ∀ d ∈ [v], 0 ≤ zk_i E d ∧ zk_sv n d := fun d hd => by rw [List.mem_singleton.mp hd]; exact ⟨h, hv⟩
set_option maxHeartbeats 2000000 in
theorem zk_r21s_ok (ja jw lk le ln : Nat) : zk_Rok (zk_r21s ja jw lk le ln) := by
  intro z L hz E h hc hcs hl hs
  unfold zk_r21s at hz
  split at hz
  · rename_i a w k e n ha hw hk he hn
    split at hz
    · rename_i g r1 hg hlt hr1
      split at hz
      · rename_i r2 hr2
        cases hz
        obtain ⟨g1, g2, g3, g4⟩ := zk_fnd_of hg
        have hgs := h.2.2 g g1
        rw [g2, g3, zk_eqEs_of h g4] at hgs
        have hS : 0 ≤ zk_i E k ∧ zk_i E k ≤ zk_i E e ∧ 0 ≤ zk_i E n ∧ zx_dep (E.2 a) (E.2 w) (zk_i E e - zk_i E k).toNat (zk_i E k).toNat (zk_i E n).toNat = some 1 := hgs
        have hlt := zk_n2_ok h hlt
        rw [zk_vsub_i, zk_vsub_i, zk_c_i] at hlt
        have laN := zk_rowf_lt hcs ha
        have lwN := zk_rowf_lt hcs hw
        have sk := zk_locv_sv hl hk
        have se := zk_locv_sv hl he
        have sn := zk_locv_sv hl hn
        have hone := zx_dep_one hS.1 hS.2.2.1 (by omega) hS.2.2.2
        refine zk_to_may (zk_rd_ok h hc laN sk hr1) fun E1 a1 k1 c1 n1 s1 p1 => ?_
        refine zk_to_may (zk_rd_ok k1 c1 (Nat.lt_of_lt_of_le lwN n1) (zk_sv_le n1 sk) hr2) fun E2 a2 k2 c2 n2 s2 p2 => ?_
        refine zk_same_may ?_
        have t1 : zk_ag z.1.1 E E2 := zk_ag_tr a1 a2 n1
        have ik : zk_i E2 k = zk_i E k := zk_i_ag t1 sk
        have ie : zk_i E2 e = zk_i E e := zk_i_ag t1 se
        have in' : zk_i E2 n = zk_i E n := zk_i_ag t1 sn
        have ra : E2.2 a = E.2 a := (t1 a laN).2
        have rw' : E2.2 w = E.2 w := (t1 w lwN).2
        have v1 : zk_i E2 r1.1 = E.2 a (zk_i E k).toNat := by rw [zk_i_ag a2 s1, p1]
        have v2 : zk_i E2 r2.1 = E.2 w (zk_i E k).toNat := by rw [p2, zk_i_ag a1 sk, (a1 w lwN).2]
        have nn : z.1.1 ≤ r2.2.1 := Nat.le_trans n1 n2
        have sk2 := zk_sv_le nn sk
        have se2 := zk_sv_le nn se
        have sn2 := zk_sv_le nn sn
        have s12 := zk_sv_le n2 s1
        have good : ∀ x : zk_V, zk_sv r2.2.1 x → (0 ≤ zk_i E2 x ∧ zx_dep (E.2 a) (E.2 w) (zk_i E e - (zk_i E k + 1)).toNat (zk_i E k + 1).toNat (zk_i E2 x).toNat = some 1) → ∀ g ∈ [((21, [a, w], [zk_vadd k (zk_c 1), e, x]) : zk_G)], zk_good E2 r2.2 g := by
          intro x hx hxs g hg
          rw [List.mem_singleton.mp hg]
          refine ⟨?_, fun b hb => ?_, fun v hv => ?_⟩
          · show 0 ≤ zk_i E2 (zk_vadd k (zk_c 1)) ∧ zk_i E2 (zk_vadd k (zk_c 1)) ≤ zk_i E2 e ∧ 0 ≤ zk_i E2 x ∧ zx_dep (E2.2 a) (E2.2 w) (zk_i E2 e - zk_i E2 (zk_vadd k (zk_c 1))).toNat (zk_i E2 (zk_vadd k (zk_c 1))).toNat (zk_i E2 x).toNat = some 1
            rw [zk_vadd_i, zk_c_i, ik, ie, ra, rw']
            exact ⟨by omega, by omega, hxs.1, hxs.2⟩
          · simp only [List.mem_cons, List.not_mem_nil, or_false] at hb
            rcases hb with rfl | rfl
            · exact Nat.lt_of_lt_of_le laN nn
            · exact Nat.lt_of_lt_of_le lwN nn
          · simp only [List.mem_cons, List.not_mem_nil, or_false] at hv
            rcases hv with rfl | rfl | rfl
            · exact zk_vadd_sv sk2 zk_c_sv
            · exact se2
            · exact hx
        have ip : zk_i E2 (zk_vadd n (zk_c 1)) = zk_i E n + 1 := by rw [zk_vadd_i, zk_c_i, in']
        have im : zk_i E2 (zk_vsub n (zk_c 1)) = zk_i E n - 1 := by rw [zk_vsub_i, zk_c_i, in']
        rcases hone with ⟨q1 | ⟨q1, q2, q3⟩, q4⟩ | ⟨q1, q2, q3, q4⟩ | ⟨q1 | q1, q2, q3⟩
        · exact zk_csg_at k2 c2 (zk_btw_ok s12 (by omega) (by omega)) (good _ (zk_vadd_sv sn2 zk_c_sv) (by rw [ip]; exact ⟨by omega, q4⟩)) List.mem_cons_self
        · exact zk_csg_at k2 c2 (zk_app_ok (zk_btw_ok s12 (by omega) (by omega)) (zk_btw_ok s2 (by omega) (by omega))) (good _ (zk_vadd_sv sn2 zk_c_sv) (by rw [ip]; exact ⟨by omega, q4⟩)) (List.mem_cons_of_mem _ List.mem_cons_self)
        · exact zk_csg_at k2 c2 (zk_app_ok (zk_btw_ok s12 (by omega) (by omega)) (zk_one_d (by rw [zk_vsub_i, zk_c_i]; omega) (zk_vsub_sv sn2 zk_c_sv))) (good _ sn2 (by rw [in']; exact ⟨by omega, q4⟩)) (List.mem_cons_of_mem _ (List.mem_cons_of_mem _ List.mem_cons_self))
        · exact zk_csg_at k2 c2 (zk_app_ok (l := [_]) (zk_one_d (by rw [zk_vsub_i, zk_c_i]; omega) (zk_vsub_sv zk_c_sv s12)) (zk_one_d (by rw [zk_vsub_i, zk_c_i]; omega) (zk_vsub_sv sn2 zk_c_sv))) (good _ (zk_vsub_sv sn2 zk_c_sv) (by rw [im]; exact ⟨by omega, q3⟩)) (List.mem_cons_of_mem _ (List.mem_cons_of_mem _ (List.mem_cons_of_mem _ List.mem_cons_self)))
        · exact zk_csg_at k2 c2 (zk_app_ok (l := [_]) (zk_one_d (by rw [zk_vsub_i, zk_c_i]; omega) (zk_vsub_sv s12 zk_c_sv)) (zk_one_d (by rw [zk_vsub_i, zk_c_i]; omega) (zk_vsub_sv sn2 zk_c_sv))) (good _ (zk_vsub_sv sn2 zk_c_sv) (by rw [im]; exact ⟨by omega, q3⟩)) (List.mem_cons_of_mem _ (List.mem_cons_of_mem _ (List.mem_cons_of_mem _ (List.mem_cons_of_mem _ List.mem_cons_self))))
      · cases hz
    · cases hz
  · cases hz
/-- one line: fields act, with, testEnd, lineEnd, lineMany; locals l, first -/
def zk_r22 (ll lf : Nat) : zk_Rl := fun z => match zk_rowf z 26, zk_rowf z 27, zk_rowf z 29, zk_rowf z 30, zk_rowf z 28, zk_locv z ll, zk_locv z lf with
  | some a, some w, some t, some e, some lm, some l, some f => match zk_fnd 22 [a, w, t, e, lm] (fun vs => zk_eqEs z.1 vs [l, f]) z.1.2.2.2, zk_mem1 lm (zk_c 0) z.1.2.2.2, zk_rd z.1 e l with
    | some _, some m, some r1 => match zk_n2 z.1 (zk_vsub (zk_vsub m l) (zk_c 1)), zk_rd r1.2 t l with
      | true, some r2 => some (zk_csg r1.2 [([zk_vsub r1.1 f, zk_vsub (zk_c 121) r1.1], [(1, [t], [l, f]), (20, [a, w], [f, r1.1]), (22, [a, w, t, e, lm], [zk_vadd l (zk_c 1), r1.1])])] ++
          zk_csg r2.2 [([zk_vsub r2.1 f, zk_vsub r1.1 r2.1, zk_vsub (zk_c 121) r1.1], [(20, [a, w], [f, r2.1]), (20, [a, w], [r2.1, r1.1]), (22, [a, w, t, e, lm], [zk_vadd l (zk_c 1), r1.1])])])
      | _, _ => none
    | _, _, _ => none
  | _, _, _, _, _, _, _ => none
theorem zk_may_l {E : zk_E} {N : zk_N} {L L' : List zk_N} (h : ∃ N' ∈ L, ∃ E'', zk_ag N.1 E E'' ∧ zk_ok E'' N' ∧ zk_cl N' ∧ N.1 ≤ N'.1) : ∃ N' ∈ L ++ L', ∃ E'', zk_ag N.1 E E'' ∧ zk_ok E'' N' ∧ zk_cl N' ∧ N.1 ≤ N'.1 := by
  obtain ⟨N', h1, h2⟩ := h
  exact ⟨N', List.mem_append_left _ h1, h2⟩
theorem zk_may_r {E : zk_E} {N : zk_N} {L L' : List zk_N} (h : ∃ N' ∈ L', ∃ E'', zk_ag N.1 E E'' ∧ zk_ok E'' N' ∧ zk_cl N' ∧ N.1 ≤ N'.1) : ∃ N' ∈ L ++ L', ∃ E'', zk_ag N.1 E E'' ∧ zk_ok E'' N' ∧ zk_cl N' ∧ N.1 ≤ N'.1 := by
  obtain ⟨N', h1, h2⟩ := h
  exact ⟨N', List.mem_append_right _ h1, h2⟩
set_option maxHeartbeats 2000000 in
theorem zk_r22_ok (ll lf : Nat) : zk_Rok (zk_r22 ll lf) := by
  intro z L hz E h hc hcs hl hs
  unfold zk_r22 at hz
  split at hz
  · rename_i a w t e lm l f ha hw ht he hlm hll hlf
    split at hz
    · rename_i g m r1 hg hm hr1
      split at hz
      · rename_i r2 hlt hr2
        cases hz
        obtain ⟨g1, g2, g3, g4⟩ := zk_fnd_of hg
        have hgs := h.2.2 g g1
        rw [g2, g3, zk_eqEs_of h g4] at hgs
        have hS : 0 ≤ zk_i E l ∧ 0 ≤ zk_i E f ∧ ∃ last, zx_lin (E.2 a) (E.2 w) (E.2 t) (E.2 e) 0 0 ((E.2 lm 0).toNat - (zk_i E l).toNat) (zk_i E l).toNat (zk_i E f) last := hgs
        obtain ⟨l0, f0, last, hlin⟩ := hS
        have hm0 := zk_mem1_i h hm
        rw [zk_c_i] at hm0
        have hm0 : E.2 lm 0 = zk_i E m := hm0
        have hlt := zk_n2_ok h hlt
        rw [zk_vsub_i, zk_vsub_i, zk_c_i] at hlt
        have laN := zk_rowf_lt hcs ha
        have lwN := zk_rowf_lt hcs hw
        have ltN := zk_rowf_lt hcs ht
        have leN := zk_rowf_lt hcs he
        have lmN := zk_rowf_lt hcs hlm
        have sl := zk_locv_sv hl hll
        have sf := zk_locv_sv hl hlf
        rw [show (E.2 lm 0).toNat - (zk_i E l).toNat = ((E.2 lm 0).toNat - (zk_i E l + 1).toNat) + 1 by omega] at hlin
        obtain ⟨q1, q2, q3, q4, q5, q6, q7⟩ := hlin
        rw [Nat.zero_add] at q2 q3 q4 q5 q6 q7
        have el : (zk_i E l).toNat + 1 = (zk_i E l + 1).toNat := by omega
        rw [el] at q7
        have e0 : ((0 : Nat) : Int) = 0 := rfl
        simp only [e0, Int.zero_add] at q5 q6
        refine zk_to_may (zk_rd_ok h hc leN sl hr1) fun E1 a1 k1 c1 n1 s1 p1 => ?_
        have il : zk_i E1 l = zk_i E l := zk_i_ag a1 sl
        have if1 : zk_i E1 f = zk_i E f := zk_i_ag a1 sf
        have v1 : zk_i E1 r1.1 = E.2 e (zk_i E l).toNat := p1
        have sl1 := zk_sv_le n1 sl
        have sf1 := zk_sv_le n1 sf
        have rows : ∀ (E' : zk_E), zk_ag z.1.1 E E' → E'.2 a = E.2 a ∧ E'.2 w = E.2 w ∧ E'.2 t = E.2 t ∧ E'.2 e = E.2 e ∧ E'.2 lm = E.2 lm := fun E' hh => ⟨(hh a laN).2, (hh w lwN).2, (hh t ltN).2, (hh e leN).2, (hh lm lmN).2⟩
        have good22 : ∀ (E' : zk_E) (N' : zk_N) (x : zk_V), zk_ag z.1.1 E E' → z.1.1 ≤ N'.1 → zk_sv N'.1 x → zk_i E' x = E.2 e (zk_i E l).toNat → zk_good E' N' (22, [a, w, t, e, lm], [zk_vadd l (zk_c 1), x]) := by
          intro E' N' x hh hn hx hv
          obtain ⟨b1, b2, b3, b4, b5⟩ := rows E' hh
          refine ⟨?_, fun b hb => ?_, fun v hvv => ?_⟩
          · show 0 ≤ zk_i E' (zk_vadd l (zk_c 1)) ∧ 0 ≤ zk_i E' x ∧ ∃ last, zx_lin (E'.2 a) (E'.2 w) (E'.2 t) (E'.2 e) 0 0 ((E'.2 lm 0).toNat - (zk_i E' (zk_vadd l (zk_c 1))).toNat) (zk_i E' (zk_vadd l (zk_c 1))).toNat (zk_i E' x) last
            rw [zk_vadd_i, zk_c_i, zk_i_ag hh sl, b1, b2, b3, b4, b5, hv]
            exact ⟨by omega, by omega, last, q7⟩
          · simp only [List.mem_cons, List.not_mem_nil, or_false] at hb
            rcases hb with rfl | rfl | rfl | rfl | rfl <;> omega
          · simp only [List.mem_cons, List.not_mem_nil, or_false] at hvv
            rcases hvv with rfl | rfl
            · exact zk_vadd_sv (zk_sv_le hn sl) zk_c_sv
            · exact hx
        have good20 : ∀ (E' : zk_E) (N' : zk_N) (x y : zk_V), zk_ag z.1.1 E E' → z.1.1 ≤ N'.1 → zk_sv N'.1 x → zk_sv N'.1 y → zx_seg (E.2 a) (E.2 w) (zk_i E' x) (zk_i E' y) → zk_good E' N' (20, [a, w], [x, y]) := by
          intro E' N' x y hh hn hx hy hv
          obtain ⟨b1, b2, b3, b4, b5⟩ := rows E' hh
          refine ⟨?_, fun b hb => ?_, fun v hvv => ?_⟩
          · show zx_seg (E'.2 a) (E'.2 w) (zk_i E' x) (zk_i E' y)
            rw [b1, b2]
            exact hv
          · simp only [List.mem_cons, List.not_mem_nil, or_false] at hb
            rcases hb with rfl | rfl <;> omega
          · simp only [List.mem_cons, List.not_mem_nil, or_false] at hvv
            rcases hvv with rfl | rfl
            · exact hx
            · exact hy
        rcases q5 with q5 | q5
        · refine zk_may_l (zk_same_may (zk_csg_at (l := ([zk_vsub r1.1 f, zk_vsub (zk_c 121) r1.1], _)) k1 c1 (zk_app_ok (l := [_]) (zk_one_d (by rw [zk_vsub_i, v1, if1]; omega) (zk_vsub_sv s1 sf1)) (zk_one_d (by rw [zk_vsub_i, zk_c_i, v1]; omega) (zk_vsub_sv zk_c_sv s1))) (fun g hg => ?_) List.mem_cons_self))
          simp only [List.mem_cons, List.not_mem_nil, or_false] at hg
          rcases hg with rfl | rfl | rfl
          · refine ⟨?_, fun b hb => by rw [List.mem_singleton.mp hb]; omega, fun v hvv => ?_⟩
            · show E1.2 t (zk_i E1 l).toNat = zk_i E1 f
              rw [(a1 t ltN).2, il, if1]
              exact q5
            · simp only [List.mem_cons, List.not_mem_nil, or_false] at hvv
              rcases hvv with rfl | rfl
              · exact sl1
              · exact sf1
          · exact good20 E1 r1.2 f r1.1 a1 n1 sf1 s1 (by rw [if1, v1, ← q5]; exact q6)
          · exact good22 E1 r1.2 r1.1 a1 n1 s1 v1
        · refine zk_may_r ?_
          refine zk_to_may (zk_rd_ok k1 c1 (Nat.lt_of_lt_of_le ltN n1) sl1 hr2) fun E2 a2 k2 c2 n2 s2 p2 => ?_
          refine zk_same_may ?_
          have t1 : zk_ag z.1.1 E E2 := zk_ag_tr a1 a2 n1
          have nn : z.1.1 ≤ r2.2.1 := Nat.le_trans n1 n2
          have v1' : zk_i E2 r1.1 = E.2 e (zk_i E l).toNat := by rw [zk_i_ag a2 s1, v1]
          have v2 : zk_i E2 r2.1 = E.2 t (zk_i E l).toNat := by rw [p2, il, (a1 t ltN).2]
          have if2 : zk_i E2 f = zk_i E f := zk_i_ag t1 sf
          have s12 := zk_sv_le n2 s1
          have sf2 := zk_sv_le nn sf
          refine zk_csg_at (l := ([zk_vsub r2.1 f, zk_vsub r1.1 r2.1, zk_vsub (zk_c 121) r1.1], _)) k2 c2 (zk_app_ok (l := [_]) (zk_one_d (by rw [zk_vsub_i, v2, if2]; omega) (zk_vsub_sv s2 sf2)) (zk_app_ok (l := [_]) (zk_one_d (by rw [zk_vsub_i, v1', v2]; omega) (zk_vsub_sv s12 s2)) (zk_one_d (by rw [zk_vsub_i, zk_c_i, v1']; omega) (zk_vsub_sv zk_c_sv s12)))) (fun g hg => ?_) List.mem_cons_self
          simp only [List.mem_cons, List.not_mem_nil, or_false] at hg
          rcases hg with rfl | rfl | rfl
          · exact good20 E2 r2.2 f r2.1 t1 nn sf2 s2 (by rw [if2, v2]; exact q5)
          · exact good20 E2 r2.2 r2.1 r1.1 t1 nn s2 s12 (by rw [v2, v1']; exact q6)
          · exact good22 E2 r2.2 r1.1 t1 nn s12 v1'
      · cases hz
    · cases hz
  · cases hz
end
