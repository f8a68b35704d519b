noncomputable section
/-! a walk told in pieces: rows one behind the other, then the ways of a switch -/
def zl_one (X : zk_Ex) : Bool := match X.2.2 with
  | some t => Nat.beq t.1 0 && zk_eqv t.2.2 (zk_c 1)
  | none => false
def zl_row (nL : Nat) (tab : zk_Tab) (q : zk_I) (z : zk_Z) : Option (List (Option Nat × zk_Z)) := match Nat.beq q.2.2.2.2.2.1 76 with
  | true => match q.2.1 with
    | .iaload => match z.2.2.2 with
      | a :: t :: r' => match Nat.beq a.1 0 && Nat.beq t.1 4 && Nat.beq t.2.1 9 && zk_n2 z.1 a.2.2 && zk_n2 z.1 (zk_vsub (zk_vsub (zk_y 0) (zk_c 1)) a.2.2) && Nat.blt 0 z.1.1, zk_rd z.1 0 a.2.2 with
        | true, some w => some [(none, (w.2, z.2.1, z.2.2.1, (0, 0, w.1) :: r'))]
        | _, _ => none
      | _ => none
    | .arraylength => match z.2.2.2 with
      | t :: r' => match Nat.beq t.1 4 && Nat.beq t.2.1 9 && Nat.blt 0 z.1.1 with
        | true => some [(none, (z.1, z.2.1, z.2.2.1, (0, 0, zk_y 0) :: r'))]
        | false => none
      | _ => none
    | _ => none
  | false => match Nat.beq (zk_fc q.2.1).1 20 with
    | true => none
    | false => zk_sF nL tab (zk_fc q.2.1) q z
theorem zl_row_ok {PT : List zk_M} {CT : List zk_K} {tab : zk_Tab} {rec : zk_Rec} {d : Nat} {M : zk_M} {cx : List zk_Cx} {q : zk_I} {r : List zk_I} {z : zk_Z} {L : List (Option Nat × zk_Z)} (h : zl_row M.2.2.1 tab q z = some L) : zk_ex1F PT CT tab rec d M cx q r z = zk_all (zk_next2 rec d M cx q r) L := by
  unfold zl_row at h
  unfold zk_ex1F
  split at h
  · rename_i h76
    rw [h76, Bool.or_true]
    simp only
    unfold zk_ex1
    split at h
    · rename_i hi
      rw [hi]
      simp only
      rw [h76]
      simp only
      split at h
      · rename_i a t r' hs
        rw [hs]
        simp only
        split at h
        · rename_i w g hw
          rw [g, hw]
          cases h
          rfl
        · cases h
      · cases h
    · rename_i hi
      rw [hi]
      simp only
      rw [h76]
      simp only
      split at h
      · rename_i t r' hs
        rw [hs]
        simp only
        split at h
        · rename_i g
          rw [g]
          cases h
          rfl
        · cases h
      · cases h
    · cases h
  · rename_i h76
    split at h
    · cases h
    · rename_i h20
      rw [h76, h20, Bool.or_false]
      simp only
      rw [h]
def zl_str (nL : Nat) (tab : zk_Tab) : Nat → List zk_I → zk_Z → Option (List zk_I × zk_Z × List (Nat × Nat × zk_Z))
  | 0, rest, z => some (rest, z, [])
  | n + 1, rest, z => match rest with
    | q :: q' :: r' => match zl_row nL tab q z, Nat.beq q'.1 (q.1 + q.2.2.1) && Nat.beq q'.2.2.2.1 0 with
      | some [(none, z')], true => zl_str nL tab n (q' :: r') z'
      | some [(some t, z1), (none, z')], true => match zl_str nL tab n (q' :: r') z' with
        | some x => some (x.1, x.2.1, (n + 1, t, z1) :: x.2.2)
        | none => none
      | _, _ => none
    | _ => none
section ZL2
variable {PT : List zk_M} {CT : List zk_K} {RT : List zk_Rl} {tab : zk_Tab} {d : Nat} {M : zk_M} {cx : List zk_Cx}
def zl_G (PT : List zk_M) (CT : List zk_K) (tab : zk_Tab) (d : Nat) (M : zk_M) (cx : List zk_Cx) (f : zk_Rec) (rest : List zk_I) (z : zk_Z) : Prop := ∃ q r L, rest = q :: r ∧ zk_ex1F PT CT tab f d M cx q r z = some L ∧ ∀ X ∈ L, zl_one X = true
theorem zl_run0 {k : Nat} {q : zk_I} {r : List zk_I} {z : zk_Z} (h : Nat.beq q.2.2.2.1 0 = true) : zk_run PT CT RT tab (k + 1) d M cx (q :: r) z = zk_ex1F PT CT tab (zk_run PT CT RT tab k) d M cx q r z := by
  have h0 := Nat.eq_of_beq_eq_true h
  obtain ⟨pc, ins, len, ann, qa, qb, qc⟩ := q
  simp only at h0
  subst h0
  rfl
theorem zl_str_ok {k : Nat} : ∀ {n : Nat} {rest rest' : List zk_I} {z z' : zk_Z} {ex : List (Nat × Nat × zk_Z)}, zl_str M.2.2.1 tab n rest z = some (rest', z', ex) → (∀ u ∈ ex, ∃ L, zk_run PT CT RT tab (k + u.1) d M cx (zk_from u.2.1 M.2.2.2.2.2.1) u.2.2 = some L ∧ ∀ X ∈ L, zl_one X = true) → zl_G PT CT tab d M cx (zk_run PT CT RT tab k) rest' z' → zl_G PT CT tab d M cx (zk_run PT CT RT tab (k + n)) rest z
  | 0, rest, rest', z, z', ex, h, _, hg => by
    cases h
    exact hg
  | n + 1, rest, rest', z, z', ex, h, hex, hg => by
    unfold zl_str at h
    split at h
    · rename_i q q' r'
      split at h
      · rename_i z2 hrow g
        simp only [Bool.and_eq_true] at g
        obtain ⟨q1, r1, L1, e1, e2, e3⟩ := zl_str_ok h hex hg
        cases e1
        refine ⟨q, q' :: r', L1, rfl, ?_, e3⟩
        rw [zl_row_ok hrow]
        have hn : zk_next2 (zk_run PT CT RT tab (k + (n + 1))) d M cx q (q' :: r') (none, z2) = some L1 := by
          unfold zk_next2
          simp only [g.1]
          rw [show k + (n + 1) = (k + n) + 1 by omega, zl_run0 g.2]
          exact e2
        unfold zk_all
        rw [hn]
        simp only [zk_all, List.append_nil]
      · rename_i t z1 z2 hrow g
        simp only [Bool.and_eq_true] at g
        split at h
        · rename_i x hx
          cases h
          obtain ⟨q1, r1, L1, e1, e2, e3⟩ := zl_str_ok hx (fun u hu => hex u (List.mem_cons_of_mem _ hu)) hg
          cases e1
          obtain ⟨L2, f1, f2⟩ := hex _ List.mem_cons_self
          have hn : zk_next2 (zk_run PT CT RT tab (k + (n + 1))) d M cx q (q' :: r') (none, z2) = some L1 := by
            unfold zk_next2
            simp only [g.1]
            rw [show k + (n + 1) = (k + n) + 1 by omega, zl_run0 g.2]
            exact e2
          have hn2 : zk_next2 (zk_run PT CT RT tab (k + (n + 1))) d M cx q (q' :: r') (some t, z1) = some L2 := by
            unfold zk_next2
            simp only
            split
            · rename_i hfr
              simp only at f1
              rw [hfr, show k + (n + 1) = (k + n) + 1 by omega] at f1
              cases f1
            · rename_i q2 r2 hfr
              simp only at f1
              rw [hfr] at f1
              exact f1
          refine ⟨q, q' :: r', L2 ++ L1, rfl, ?_, fun X hX => ?_⟩
          · rw [zl_row_ok hrow]
            unfold zk_all
            rw [hn2]
            unfold zk_all
            rw [hn]
            simp only [zk_all, List.append_nil]
          · rcases List.mem_append.mp hX with hX | hX
            · exact f2 X hX
            · exact e3 X hX
        · cases h
      · cases h
    · cases h
theorem zl_all {α : Type} {f : α → Option (List zk_Ex)} : ∀ {l : List α}, (∀ a ∈ l, ∃ L, f a = some L ∧ ∀ X ∈ L, zl_one X = true) → ∃ L, zk_all f l = some L ∧ ∀ X ∈ L, zl_one X = true
  | [], _ => ⟨[], rfl, fun X hX => absurd hX List.not_mem_nil⟩
  | a :: l, h => by
    obtain ⟨x, x1, x2⟩ := h a List.mem_cons_self
    obtain ⟨y, y1, y2⟩ := zl_all (l := l) fun b hb => h b (List.mem_cons_of_mem _ hb)
    refine ⟨x ++ y, ?_, fun X hX => ?_⟩
    · unfold zk_all
      rw [x1, y1]
    · rcases List.mem_append.mp hX with hX | hX
      · exact x2 X hX
      · exact y2 X hX
/-- a row with ways, each told by itself -/
theorem zl_ways {f : zk_Rec} {q : zk_I} {r : List zk_I} {z : zk_Z} {L : List (Option Nat × zk_Z)} (hrow : zl_row M.2.2.1 tab q z = some L) (h : ∀ u ∈ L, ∃ L', zk_next2 f d M cx q r u = some L' ∧ ∀ X ∈ L', zl_one X = true) : zl_G PT CT tab d M cx f (q :: r) z := by
  obtain ⟨L', a, b⟩ := zl_all h
  exact ⟨q, r, L', rfl, by rw [zl_row_ok hrow]; exact a, b⟩
abbrev zl_S : Type := Option (List zk_I × zk_Z × List (Nat × Nat × zk_Z))
def zl_LL (nL : Nat) (tab : zk_Tab) (so : zl_S) : List (Option Nat × zk_Z) := match so with
  | some x => match x.1 with
    | q :: _ => match zl_row nL tab q x.2.1 with
      | some L => L
      | none => []
    | [] => []
  | none => []
/-- the way j of the row at which the rows end -/
def zl_way (PT : List zk_M) (CT : List zk_K) (RT : List zk_Rl) (tab : zk_Tab) (k d : Nat) (M : zk_M) (cx : List zk_Cx) (so : zl_S) (j : Nat) : Bool := match so with
  | some x => match x.1 with
    | q :: r => match zk_get (zl_LL M.2.2.1 tab so) j with
      | some u => match zk_next2 (zk_run PT CT RT tab k) d M cx q r u with
        | some L => L.all zl_one
        | none => false
      | none => false
    | [] => false
  | none => false
/-- N ways; and where the rows are left before -/
def zl_exs (PT : List zk_M) (CT : List zk_K) (RT : List zk_Rl) (tab : zk_Tab) (k d : Nat) (M : zk_M) (cx : List zk_Cx) (so : zl_S) (N : Nat) : Bool := match so with
  | some x => (match x.1 with
    | q :: _ => match zl_row M.2.2.1 tab q x.2.1 with
      | some L => Nat.beq L.length N
      | none => false
    | [] => false) && x.2.2.all fun u => match zk_run PT CT RT tab (k + u.1) d M cx (zk_from u.2.1 M.2.2.2.2.2.1) u.2.2 with
      | some L => L.all zl_one
      | none => false
  | none => false
theorem zl_join {k n N : Nat} {rest : List zk_I} {z : zk_Z} (h0 : zl_exs PT CT RT tab k d M cx (zl_str M.2.2.1 tab n rest z) N = true) (hw : ∀ j, j < N → zl_way PT CT RT tab k d M cx (zl_str M.2.2.1 tab n rest z) j = true) : zl_G PT CT tab d M cx (zk_run PT CT RT tab (k + n)) rest z := by
  cases hs : zl_str M.2.2.1 tab n rest z with
  | none =>
    rw [hs] at h0
    cases h0
  | some x =>
    rw [hs] at h0 hw
    obtain ⟨rest', z', ex⟩ := x
    unfold zl_exs at h0
    simp only [Bool.and_eq_true] at h0
    obtain ⟨h1, h2⟩ := h0
    refine zl_str_ok hs (fun u hu => ?_) ?_
    · have g := List.all_eq_true.mp h2 u hu
      split at g
      · rename_i L hL
        exact ⟨L, hL, fun X hX => List.all_eq_true.mp g X hX⟩
      · cases g
    · split at h1
      · rename_i q r
        split at h1
        · rename_i L hL
          have hN := Nat.eq_of_beq_eq_true h1
          refine zl_ways hL fun u hu => ?_
          obtain ⟨j, hj⟩ := List.mem_iff_getElem?.mp hu
          have hlt : j < N := by
            rw [← hN]
            exact (List.getElem?_eq_some_iff.mp hj).1
          have g := hw j hlt
          unfold zl_way at g
          simp only at g
          have e : zl_LL M.2.2.1 tab (some (q :: r, z', ex)) = L := by
            unfold zl_LL
            simp only [hL]
          rw [e, zk_get_eq, hj] at g
          simp only at g
          split at g
          · rename_i L' hL'
            exact ⟨L', hL', fun X hX => List.all_eq_true.mp g X hX⟩
          · cases g
        · cases h1
      · cases h1
end ZL2
end
