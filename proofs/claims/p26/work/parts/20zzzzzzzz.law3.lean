noncomputable section
/-! A WAY TOLD BY CASES: its first row bears a rule -/
def zl_rl (RT : List zk_Rl) (M : zk_M) (q : zk_I) (z : zk_Z) : Option (List zk_N) := match q.2.2.2.1 with
  | 0 => none
  | a + 1 => match zk_get M.2.2.2.2.2.2 a with
    | none => none
    | some an => match Nat.beq an.1 3 with
      | true => match an.2.2.2.1.2 with
        | .ofNat r' => match zk_get RT r' with
          | some f => f z
          | none => none
        | .negSucc _ => none
      | false => none
theorem zl_rl_run {PT : List zk_M} {CT : List zk_K} {RT : List zk_Rl} {tab : zk_Tab} {k d : Nat} {M : zk_M} {cx : List zk_Cx} {q : zk_I} {r : List zk_I} {z : zk_Z} {L : List zk_N} (h : zl_rl RT M q z = some L) : zk_run PT CT RT tab (k + 1) d M cx (q :: r) z = zk_all (fun N' => zk_ex1F PT CT tab (zk_run PT CT RT tab k) d M cx q r (N', z.2)) L := by
  unfold zl_rl at h
  conv =>
    lhs
    unfold zk_run
  simp only
  split at h
  · cases h
  · rename_i a ha
    rw [ha]
    simp only
    split at h
    · cases h
    · rename_i an han
      rw [han]
      simp only
      split at h
      · rename_i h3
        have h3 := Nat.eq_of_beq_eq_true h3
        obtain ⟨k0, mo, su, me, fa⟩ := an
        simp only at h3 h
        subst h3
        simp only
        split at h
        · rename_i r' hr'
          rw [hr']
          simp only
          split at h
          · rename_i f hf
            rw [hf]
            simp only
            rw [h]
          · cases h
        · cases h
      · cases h
/-- the first row of the way j -/
def zl_head (tab : zk_Tab) (M : zk_M) (so : zl_S) (j : Nat) : Option (zk_I × List zk_I × zk_Z) := match so with
  | some x => match x.1 with
    | _ :: _ => match zk_get (zl_LL M.2.2.1 tab so) j with
      | some u => match u.1 with
        | some t => match zk_from t M.2.2.2.2.2.1 with
          | q :: r => some (q, r, u.2)
          | [] => none
        | none => none
      | none => none
    | [] => none
  | none => none
def zl_cn (RT : List zk_Rl) (tab : zk_Tab) (M : zk_M) (so : zl_S) (j n : Nat) : Bool := match zl_head tab M so j with
  | some y => match zl_rl RT M y.1 y.2.2 with
    | some L => Nat.beq L.length n
    | none => false
  | none => false
def zl_case (PT : List zk_M) (CT : List zk_K) (RT : List zk_Rl) (tab : zk_Tab) (k d : Nat) (M : zk_M) (cx : List zk_Cx) (so : zl_S) (j i : Nat) : Bool := match zl_head tab M so j with
  | some y => match zl_rl RT M y.1 y.2.2 with
    | some L => match zk_get L i with
      | some N => match zk_ex1F PT CT tab (zk_run PT CT RT tab k) d M cx y.1 y.2.1 (N, y.2.2.2) with
        | some L' => L'.all zl_one
        | none => false
      | none => false
    | none => false
  | none => false
theorem zl_byc {PT : List zk_M} {CT : List zk_K} {RT : List zk_Rl} {tab : zk_Tab} {k d : Nat} {M : zk_M} {cx : List zk_Cx} {so : zl_S} {j n : Nat} (h0 : zl_cn RT tab M so j n = true) (h : ∀ i, i < n → zl_case PT CT RT tab k d M cx so j i = true) : zl_way PT CT RT tab (k + 1) d M cx so j = true := by
  unfold zl_cn at h0
  unfold zl_case at h
  split at h0
  · rename_i y hy
    rw [hy] at h
    simp only at h
    split at h0
    · rename_i L hL
      rw [hL] at h
      simp only at h
      have h0 := Nat.eq_of_beq_eq_true h0
      obtain ⟨L', a, b⟩ := zl_all (f := fun N' => zk_ex1F PT CT tab (zk_run PT CT RT tab k) d M cx y.1 y.2.1 (N', y.2.2.2)) (l := L) (fun N hN => by
        obtain ⟨i, hi⟩ := List.mem_iff_getElem?.mp hN
        have g := h i (by rw [← h0]; exact (List.getElem?_eq_some_iff.mp hi).1)
        rw [zk_get_eq, hi] at g
        simp only at g
        split at g
        · rename_i L2 hL2
          exact ⟨L2, hL2, fun X hX => List.all_eq_true.mp g X hX⟩
        · cases g)
      unfold zl_head at hy
      unfold zl_way
      split at hy
      · rename_i x
        split at hy
        · rename_i q0 r0 hx1
          simp only
          rw [hx1]
          simp only
          split at hy
          · rename_i u hu
            rw [hu]
            simp only
            split at hy
            · rename_i t ht
              split at hy
              · rename_i q r hqr
                cases hy
                have hn : zk_next2 (zk_run PT CT RT tab (k + 1)) d M cx q0 r0 u = some L' := by
                  unfold zk_next2
                  rw [ht]
                  simp only
                  rw [hqr]
                  simp only
                  rw [zl_rl_run hL]
                  exact a
                rw [hn]
                exact List.all_eq_true.mpr b
              · cases hy
            · cases hy
          · cases hy
        · cases hy
      · cases hy
    · cases h0
  · cases h0
/-- a value told apart, n numbers from lo on -/
def zk_spl (N : zk_N) (w : zk_V) (lo : Int) : Nat → List zk_N
  | 0 => (match zk_asm N (zk_vsub w (zk_c lo)) with
    | some N' => [N']
    | none => [])
  | n + 1 => (match zk_eqs N (zk_vsub w (zk_c lo)) with
    | some N' => [N']
    | none => []) ++ zk_spl N w (lo + 1) n
theorem zk_spl_ok {E : zk_E} {N : zk_N} {w : zk_V} (h : zk_ok E N) (hc : zk_cl N) (hw : zk_sv N.1 w) : ∀ {n : Nat} {lo : Int}, lo ≤ zk_i E w → ∃ N' ∈ zk_spl N w lo n, zk_ok E N' ∧ zk_cl N' ∧ N'.1 = N.1
  | 0, lo, hl => by
    obtain ⟨N', a1, a2⟩ := zk_asm_ok h (d := zk_vsub w (zk_c lo)) (by rw [zk_vsub_i, zk_c_i]; omega)
    obtain ⟨a3, a4⟩ := zk_asm_cl hc (zk_vsub_sv hw zk_c_sv) a1
    refine ⟨N', ?_, a2, a3, a4⟩
    unfold zk_spl
    rw [a1]
    exact List.mem_cons_self
  | n + 1, lo, hl => by
    unfold zk_spl
    by_cases he : zk_i E w = lo
    · obtain ⟨N', a1, a2⟩ := zk_eqs_ok h (d := zk_vsub w (zk_c lo)) (by rw [zk_vsub_i, zk_c_i]; omega)
      obtain ⟨a3, a4⟩ := zk_eqs_cl hc (zk_vsub_sv hw zk_c_sv) a1
      refine ⟨N', List.mem_append_left _ ?_, a2, a3, a4⟩
      rw [a1]
      exact List.mem_cons_self
    · obtain ⟨N', a1, a2⟩ := zk_spl_ok h hc hw (n := n) (lo := lo + 1) (by omega)
      exact ⟨N', List.mem_append_right _ a1, a2⟩
/-- the script's number at k places behind its place (local 3), told apart -/
def zk_rsp (k lo : Int) (n : Nat) : zk_Rl := fun z => match zk_locv z 3 with
  | some v => match zk_rd z.1 0 (zk_vadd v (zk_c k)) with
    | some r => match Nat.blt 0 z.1.1 with
      | true => some ((match zk_asm r.2 (zk_vsub (zk_c (lo - 1)) r.1) with
        | some N' => [N']
        | none => []) ++ zk_spl r.2 r.1 lo n)
      | false => none
    | none => none
  | none => none
theorem zk_rsp_ok (k lo : Int) (n : Nat) : zk_Rok (zk_rsp k lo n) := by
  intro z L hz E h hc hcs hl hs
  unfold zk_rsp at hz
  split at hz
  · rename_i v hv
    split at hz
    · rename_i r hr
      split at hz
      · rename_i h0
        cases hz
        have hvs : zk_sv z.1.1 v := by
          unfold zk_locv at hv
          split at hv
          · rename_i t ht
            split at hv
            · cases hv
              exact hl _ (zk_loc_mem ht)
            · cases hv
          · cases hv
        obtain ⟨E', a1, a2, a3, a4, a5, -⟩ := zk_rd_ok h hc (Nat.blt_eq.mp h0) (zk_vadd_sv hvs zk_c_sv) hr
        by_cases hlt : zk_i E' r.1 < lo
        · obtain ⟨N', b1, b2⟩ := zk_asm_ok a2 (d := zk_vsub (zk_c (lo - 1)) r.1) (by rw [zk_vsub_i, zk_c_i]; omega)
          obtain ⟨b3, b4⟩ := zk_asm_cl a3 (zk_vsub_sv zk_c_sv a5) b1
          refine ⟨N', List.mem_append_left _ ?_, E', a1, b2, b3, by rw [b4]; exact a4⟩
          rw [b1]
          exact List.mem_cons_self
        · obtain ⟨N', b1, b2, b3, b4⟩ := zk_spl_ok a2 a3 a5 (n := n) (lo := lo) (by omega)
          exact ⟨N', List.mem_append_right _ b1, E', a1, b2, b3, by rw [b4]; exact a4⟩
      · cases hz
    · cases hz
  · cases hz
end
