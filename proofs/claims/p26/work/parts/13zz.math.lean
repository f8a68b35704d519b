noncomputable section
/-! Math.abs (71), max (72), min (73) of ints, by their contracts -/
def zk_m3 (b : Nat) : Bool := Nat.ble 71 b && Nat.ble b 73
def zk_mN (b : Nat) : MethodName := match Nat.beq b 71 with
  | true => Lib.Math.abs.name
  | false => match Nat.beq b 72 with
    | true => Lib.Math.max.name
    | false => Lib.Math.min.name
def zk_mC (b : Nat) : Jvm.Cond := match Nat.beq b 71 with
  | true => .code Lib.Math.abs.name Lib.Math.abs.code 1 (some .int)
  | false => match Nat.beq b 72 with
    | true => .code Lib.Math.max.name Lib.Math.max.code 2 (some .int)
    | false => .code Lib.Math.min.name Lib.Math.min.code 2 (some .int)
def zk_mw (own : String) (i b : Nat) : List Jvm.Cond := [.methodLink own i (zk_mN b), .static (zk_mN b), .initialized "java/lang/Math", zk_mC b]
def zk_mth (b : Nat) (z : zk_Z) : Option (List (Option Nat × zk_Z)) := match z.2.2.2 with
  | t :: r => match Nat.beq t.1 0 with
    | true => match Nat.beq b 71 with
      | true => match Nat.ble (zk_csum r) 8 with
        | true => some (zk_br z (t :: r) none (zk_cmp z.1 .ge true t.2.2 (zk_c 0)) (match zk_cmp z.1 .ge false t.2.2 (zk_c 0) with
          | some N => [(none, ((zk_norm N (zk_vmul (-1) t.2.2)).2, z.2.1, z.2.2.1, (0, 0, (zk_norm N (zk_vmul (-1) t.2.2)).1) :: r))]
          | none => []))
        | false => none
      | false => match r with
        | u :: r => match Nat.beq u.1 0 && Nat.ble (zk_csum r) 8 with
          | true => match Nat.beq b 72 with
            | true => some (zk_br z (t :: r) none (zk_cmp z.1 .lt true u.2.2 t.2.2) (zk_br z (u :: r) none (zk_cmp z.1 .lt false u.2.2 t.2.2) []))
            | false => some (zk_br z (t :: r) none (zk_cmp z.1 .gt true u.2.2 t.2.2) (zk_br z (u :: r) none (zk_cmp z.1 .gt false u.2.2 t.2.2) []))
          | false => none
        | [] => none
    | false => none
  | [] => none
theorem zk_br_n {z : zk_Z} {r : List zk_T} {N : Option zk_N} {L : List (Option Nat × zk_Z)} (h : ∀ u ∈ L, u.1 = none) : ∀ u ∈ zk_br z r none N L, u.1 = none := by
  unfold zk_br
  split
  · intro u hu
    rcases List.mem_cons.mp hu with rfl | hu
    · rfl
    · exact h u hu
  · exact h
theorem zk_mth_n {b : Nat} {z : zk_Z} {L : List (Option Nat × zk_Z)} (h : zk_mth b z = some L) : ∀ u ∈ L, u.1 = none := by
  unfold zk_mth at h
  split at h
  · split at h
    · split at h
      · split at h
        · injection h with h
          subst h
          refine zk_br_n ?_
          split
          · intro u hu
            rw [List.mem_singleton.mp hu]
          · intro u hu
            cases hu
        · cases h
      · split at h
        · split at h
          · split at h
            · injection h with h
              subst h
              exact zk_br_n (zk_br_n (fun u hu => by cases hu))
            · injection h with h
              subst h
              exact zk_br_n (zk_br_n (fun u hu => by cases hu))
          · cases h
        · cases h
    · cases h
  · cases h
section ZMM
variable {p : Program} {l : Launch} {e : Env} {R : Room} {s : State} {m : MethodId} {args : Array Value} {below : List Frame} {meth : Method} {c : Code} {cells slots : Nat} {Q : State → Prop}
variable {dC : Nat → ClassId} {dI : Nat → Nat → Nat} {cl : List vw_C} {ad st : Nat → Nat} {cid : zk_CI} {ba : Nat} {ly : List (Nat × Nat)} {nL : Nat} {E : zk_E} {H : Heap} {locs : List Loc} {ls : Array Slot} {stk : List Value}
variable {cc : ByteArray} {z : zk_Z} {L : List (Option Nat × zk_Z)} {own : String}
set_option maxHeartbeats 1000000 in
theorem zk_mth_ok {b : Nat} (hx : p.tables.exec = Jvm.exec) (hb : c.code = cc) (hml : c.maxLocals = nL) {pc i : Nat} (hd : decode cc pc = .ok (.invokestatic i, 3)) (hown : s.vm.findClass own = some m.cls) (hw : ∀ w ∈ zk_mw own i b, w.before args s = true) (hf1 : 1 ≤ R.frames) (hlo : 64 ≤ R.locals) (hc1 : cells ≤ R.cells) (hs1 : slots ≤ R.slots)
    (h : zk_At dC dI cl ad st cid ba ly nL s.heap E z H locs ls stk) (he : zk_mth b z = some L) (hg : ∀ r ∈ L, zk_go (zk_W p l e R s m args below meth c cells slots Q) (zk_At dC dI cl ad st cid ba ly nL s.heap) E z.1.1 r.2 (pc + 3)) : W p l e R s m args below meth c H locs cells slots Q (F0 m pc ls stk) := by
  obtain ⟨N, hp, lc, sk⟩ := z
  have hok := h.1.1
  have hcl := h.1.2.1
  have hsv := h.2.1.2.1
  have hstk := h.2.1.2.2.2
  have hmls : c.maxLocals = ls.size := by rw [hml]; exact h.2.1.2.2.1.1.symm
  have w1 := hw _ (List.mem_cons_self)
  have w2 := hw _ (List.mem_cons_of_mem _ List.mem_cons_self)
  have w3 := hw _ (List.mem_cons_of_mem _ (List.mem_cons_of_mem _ List.mem_cons_self))
  have w4 := hw _ (List.mem_cons_of_mem _ (List.mem_cons_of_mem _ (List.mem_cons_of_mem _ List.mem_cons_self)))
  have z0 : Int32.ofInt (zk_i E (zk_c 0)) = 0 := by rw [zk_c_i]; rfl
  unfold zk_mth at he
  unfold zk_mN at w1 w2
  unfold zk_mC at w4
  simp only at he hok hcl hsv hstk
  split at he
  · rename_i t r
    have hts := hsv _ List.mem_cons_self
    split at he
    · rename_i g0
      have g0 := Nat.eq_of_beq_eq_true g0
      have hvt : zk_v E ad st t = .int (Int32.ofInt (zk_i E t.2.2)) := by simp only [zk_v, g0]
      split at he
      · rename_i h71
        rw [h71] at w1 w2 w4
        split at he
        · rename_i gr
          have gr := Nat.ble_eq.mp gr
          injection he with he
          subst he
          have hlocs : ((r.map (zk_v E ad st)).map fun v => v.category).sum + 13 ≤ R.locals := by rw [zk_csum_eq0]; omega
          rw [hstk, List.map_cons, hvt]
          refine va_mabs hx hb hmls hown w1 w2 w3 w4 hf1 hlocs hc1 hs1 hd ?_
          by_cases hge : 0 ≤ Int32.ofInt (zk_i E t.2.2)
          · rw [if_pos hge]
            obtain ⟨N', e1, k1⟩ := zk_cmp_ok (c := .ge) (t := true) (x := t.2.2) (y := zk_c 0) hok (by rw [z0]; simp only [zk_holds, true_iff]; exact hge)
            obtain ⟨c1, n1⟩ := zk_cmp_cl hcl hts zk_c_sv e1
            have := zk_know (pc := pc + 3) h (r := t :: r) (fun u hu => hu) k1 c1 n1 (hg (none, (N', hp, lc, t :: r)) (zk_br_mem (z := (N, hp, lc, t :: r)) (N := N) e1))
            rw [List.map_cons, hvt] at this
            exact this
          · rw [if_neg hge]
            obtain ⟨N', e1, k1⟩ := zk_cmp_ok (c := .ge) (t := false) (x := t.2.2) (y := zk_c 0) hok (by rw [z0]; simp only [zk_holds, Bool.false_eq_true, false_iff]; exact hge)
            obtain ⟨c1, n1⟩ := zk_cmp_cl hcl hts zk_c_sv e1
            have k0 := zk_norm_ok k1 c1 (v := zk_vmul (-1) t.2.2) (by rw [n1]; exact zk_vmul_sv hts)
            rw [zk_vmul_i, show (-1 : Int) * zk_i E t.2.2 = -zk_i E t.2.2 by omega, Int32.ofInt_neg] at k0
            have hAt' : zk_At dC dI cl ad st cid ba ly nL s.heap E (N', hp, lc, t :: r) H locs ls stk := ⟨zk_wd_to h.1 zk_ag_rf k1 c1 (Nat.le_of_eq n1.symm), zk_fr_to h.2.1 zk_ag_rf (Nat.le_of_eq n1.symm), h.2.2⟩
            obtain ⟨E', hP, hX⟩ := zk_push (tg := 0) (k := 0) (pc := pc + 3) (X := zk_W p l e R s m args below meth c cells slots Q) hAt' k0 (r := r) (fun u hu => List.mem_cons_of_mem _ hu) (by
              rw [n1]
              refine hg (none, ((zk_norm N' (zk_vmul (-1) t.2.2)).2, hp, lc, (0, 0, (zk_norm N' (zk_vmul (-1) t.2.2)).1) :: r)) (zk_br_sub ?_)
              rw [e1]
              exact List.mem_cons_self)
            rw [zk_vi, hP] at hX
            rw [show (0 : Int32) - Int32.ofInt (zk_i E t.2.2) = -Int32.ofInt (zk_i E t.2.2) by rw [Int32.zero_sub]]
            exact hX
        · cases he
      · rename_i h71
        rw [h71] at w1 w2 w4
        split at he
        · rename_i u r'
          have hus := hsv u (by simp)
          split at he
          · rename_i g
            simp only [Bool.and_eq_true] at g
            have g1 := Nat.eq_of_beq_eq_true g.1
            have gr := Nat.ble_eq.mp g.2
            have hvu : zk_v E ad st u = .int (Int32.ofInt (zk_i E u.2.2)) := by simp only [zk_v, g1]
            have hlocs : ((r'.map (zk_v E ad st)).map fun v => v.category).sum + 13 ≤ R.locals := by rw [zk_csum_eq0]; omega
            rw [hstk, List.map_cons, List.map_cons, hvt, hvu]
            split at he
            · rename_i h72
              rw [h72] at w1 w2 w4
              injection he with he
              subst he
              refine va_mmax hx hb hmls hown w1 w2 w3 w4 hf1 hlocs hc1 hs1 hd ?_
              by_cases hlt : Int32.ofInt (zk_i E u.2.2) < Int32.ofInt (zk_i E t.2.2)
              · rw [if_pos hlt]
                obtain ⟨N', e1, k1⟩ := zk_cmp_ok (c := .lt) (t := true) (x := u.2.2) (y := t.2.2) hok (by simp only [zk_holds, true_iff]; exact hlt)
                obtain ⟨c1, n1⟩ := zk_cmp_cl hcl hus hts e1
                have := zk_know (pc := pc + 3) h (r := t :: r') (fun v hv => by simp only [List.mem_cons] at hv ⊢; rcases hv with hv | hv <;> simp [hv]) k1 c1 n1 (hg (none, (N', hp, lc, t :: r')) (zk_br_mem (z := (N, hp, lc, t :: u :: r')) (N := N) e1))
                rw [List.map_cons, hvt] at this
                exact this
              · rw [if_neg hlt]
                obtain ⟨N', e1, k1⟩ := zk_cmp_ok (c := .lt) (t := false) (x := u.2.2) (y := t.2.2) hok (by simp only [zk_holds, Bool.false_eq_true, false_iff]; exact hlt)
                obtain ⟨c1, n1⟩ := zk_cmp_cl hcl hus hts e1
                have := zk_know (pc := pc + 3) h (r := u :: r') (fun v hv => by simp only [List.mem_cons] at hv ⊢; rcases hv with hv | hv <;> simp [hv]) k1 c1 n1 (hg (none, (N', hp, lc, u :: r')) (zk_br_sub (zk_br_mem (z := (N, hp, lc, t :: u :: r')) (N := N) e1)))
                rw [List.map_cons, hvu] at this
                exact this
            · rename_i h72
              rw [h72] at w1 w2 w4
              injection he with he
              subst he
              refine va_mmin hx hb hmls hown w1 w2 w3 w4 hf1 hlocs hc1 hs1 hd ?_
              by_cases hlt : Int32.ofInt (zk_i E t.2.2) < Int32.ofInt (zk_i E u.2.2)
              · rw [if_pos hlt]
                obtain ⟨N', e1, k1⟩ := zk_cmp_ok (c := .gt) (t := true) (x := u.2.2) (y := t.2.2) hok (by simp only [zk_holds, true_iff]; exact hlt)
                obtain ⟨c1, n1⟩ := zk_cmp_cl hcl hus hts e1
                have := zk_know (pc := pc + 3) h (r := t :: r') (fun v hv => by simp only [List.mem_cons] at hv ⊢; rcases hv with hv | hv <;> simp [hv]) k1 c1 n1 (hg (none, (N', hp, lc, t :: r')) (zk_br_mem (z := (N, hp, lc, t :: u :: r')) (N := N) e1))
                rw [List.map_cons, hvt] at this
                exact this
              · rw [if_neg hlt]
                obtain ⟨N', e1, k1⟩ := zk_cmp_ok (c := .gt) (t := false) (x := u.2.2) (y := t.2.2) hok (by simp only [zk_holds, Bool.false_eq_true, false_iff]; exact hlt)
                obtain ⟨c1, n1⟩ := zk_cmp_cl hcl hus hts e1
                have := zk_know (pc := pc + 3) h (r := u :: r') (fun v hv => by simp only [List.mem_cons] at hv ⊢; rcases hv with hv | hv <;> simp [hv]) k1 c1 n1 (hg (none, (N', hp, lc, u :: r')) (zk_br_sub (zk_br_mem (z := (N, hp, lc, t :: u :: r')) (N := N) e1)))
                rw [List.map_cons, hvu] at this
                exact this
          · cases he
        · cases he
    · cases he
  · cases he
end ZMM
end
