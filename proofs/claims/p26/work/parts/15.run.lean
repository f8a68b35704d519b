noncomputable section
/-! THE WALK OF A METHOD, as a program: it answers the states in which the method may end -/
abbrev zk_Pa : Type := Nat × List Nat
abbrev zk_Ln : Type := List (zk_Pa × Int) × Int
/-- a mark: 1 a loop's head, 2 a value told apart, 3 a rule (its number as the measure's); what the loop moves and its bounds; sums kept; what falls; facts kept -/
abbrev zk_An : Type := Nat × List (zk_Pa × Int × Int) × List zk_Ln × zk_Ln × List (Nat × List zk_Pa × List zk_Ln)
/-- a method: name, bytes, locals, what it returns, parameters, rows, marks -/
abbrev zk_M : Type := MethodName × ByteArray × Nat × Option FieldType × Nat × List zk_I × List zk_An
/-- an end: what is known, the cells, the answer -/
abbrev zk_Ex : Type := zk_N × List zk_C × Option zk_T
/-- an open loop: its head, base, what was known before it, news, cells, locals, stack, what falls, its mark -/
abbrev zk_Cx : Type := Nat × zk_N × zk_New × List zk_C × List (Nat × zk_T) × List zk_T × zk_V × zk_An
def zk_all {α : Type} (f : α → Option (List zk_Ex)) : List α → Option (List zk_Ex)
  | [] => some []
  | a :: l => match f a with
    | some x => match zk_all f l with
      | some y => some (x ++ y)
      | none => none
    | none => none
theorem zk_all_at {α : Type} {f : α → Option (List zk_Ex)} : ∀ {l : List α} {L : List zk_Ex}, zk_all f l = some L → ∀ a ∈ l, ∃ x, f a = some x ∧ ∀ X ∈ x, X ∈ L
  | [], _, _, a, ha => absurd ha List.not_mem_nil
  | b :: l, L, h, a, ha => by
    unfold zk_all at h
    split at h
    · rename_i x hx
      split at h
      · rename_i y hy
        cases h
        rcases List.mem_cons.mp ha with rfl | ha
        · exact ⟨x, hx, fun X hX => List.mem_append_left _ hX⟩
        · obtain ⟨x', e1, e2⟩ := zk_all_at hy a ha
          exact ⟨x', e1, fun X hX => List.mem_append_right _ (e2 X hX)⟩
      · cases h
    · cases h
def zk_from (t : Nat) : List zk_I → List zk_I
  | [] => []
  | q :: l => match Nat.beq q.1 t with
    | true => q :: l
    | false => zk_from t l
theorem zk_from_of {t : Nat} : ∀ {l : List zk_I} {q : zk_I} {r : List zk_I}, zk_from t l = q :: r → q.1 = t ∧ ∀ u ∈ q :: r, u ∈ l
  | [], q, r, h => by cases h
  | a :: l, q, r, h => by
    unfold zk_from at h
    split at h
    · rename_i e
      cases h
      exact ⟨Nat.eq_of_beq_eq_true e, fun u hu => hu⟩
    · obtain ⟨h1, h2⟩ := zk_from_of h
      exact ⟨h1, fun u hu => List.mem_cons_of_mem _ (h2 u hu)⟩
/-- where a path from a local leads: its cell and field (the local itself: 0), the value there -/
def zk_walk (hp : List zk_C) : zk_T → List Nat → Option (Nat × Nat × zk_T)
  | _, [] => none
  | t, j :: js => match Nat.beq t.1 3, zk_get hp t.2.1 with
    | true, some c => match Nat.beq c.1 0 || Nat.beq c.1 5, zk_get c.2.2 j with
      | true, some v => match js with
        | [] => some (t.2.1, j, v)
        | _ :: _ => zk_walk hp v js
      | _, _ => none
    | _, _ => none
def zk_res (z : zk_Z) (p : zk_Pa) : Option (Option (Nat × Nat) × zk_T) := match zk_loc p.1 z.2.2.1 with
  | some t => match p.2 with
    | [] => some (none, t)
    | _ :: _ => match zk_walk z.2.1 t p.2 with
      | some (k, j, v) => some (some (k, j), v)
      | none => none
  | none => none
def zk_thet (z : zk_Z) : Nat → List (zk_Pa × Int × Int) → Option zk_Th
  | _, [] => some ([], [])
  | n, q :: l => match zk_res z q.1, zk_thet z (n + 1) l with
    | some (_, v), some th => match Nat.beq v.1 3 with
      | true => match zk_row z.2.1 v with
        | some (_, _, _, a) => some (th.1, (n, a) :: th.2)
        | none => none
      | false => some ((n, v.2.2) :: th.1, th.2)
    | _, _ => none
def zk_setl (i : Nat) (t : zk_T) : List (Nat × zk_T) → List (Nat × zk_T)
  | [] => []
  | q :: l => match Nat.beq q.1 i with
    | true => (i, t) :: l
    | false => q :: zk_setl i t l
/-- what a loop moves told anew -/
def zk_open : zk_Z → Nat → List (zk_Pa × Int × Int) → Option (Nat × zk_B × List zk_G × List zk_C × List (Nat × zk_T))
  | z, n, [] => some (n, [], [], z.2.1, z.2.2.1)
  | z, n, q :: l => match zk_res z q.1 with
    | some (at_, v) => match Nat.beq v.1 3 with
      | true => match zk_row z.2.1 v with
        | some (k, kd, len, _) => match zk_open (z.1, zk_put (kd, len, [(0, n, [], 0)]) z.2.1 k, z.2.2) (n + 1) l with
          | some (m, B, G, hp, lc) => some (m, B, (3, [n], [zk_c q.2.1, zk_c q.2.2]) :: G, hp, lc)
          | none => none
        | none => none
      | false => match at_ with
        | none => match zk_open (z.1, z.2.1, zk_setl q.1.1 (v.1, 0, zk_y n) z.2.2.1, z.2.2.2) (n + 1) l with
          | some (m, B, G, hp, lc) => some (m, (n, q.2.1, q.2.2) :: B, G, hp, lc)
          | none => none
        | some (k, j) => match zk_get z.2.1 k with
          | some c => match zk_open (z.1, zk_put (c.1, c.2.1, zk_put (v.1, 0, zk_y n) c.2.2 j) z.2.1 k, z.2.2) (n + 1) l with
            | some (m, B, G, hp, lc) => some (m, (n, q.2.1, q.2.2) :: B, G, hp, lc)
            | none => none
          | none => none
    | none => none
/-- a path's value; a path from 1000 on names a symbol, from 2000 on what lay there as the loop was entered -/
def zk_rsw (z : zk_Z) (p : zk_Pa) : Option zk_V := match zk_res z p with
  | some (_, v) => some v.2.2
  | none => none
/-- a number of a cell named by itself -/
def zk_rcf (z : zk_Z) (k : Nat) : List Nat → Option zk_V
  | [j] => match zk_get z.2.1 k with
    | some c => match zk_get c.2.2 j with
      | some t => some t.2.2
      | none => none
    | none => none
  | _ => none
def zk_rsv (z0 z : zk_Z) (p : zk_Pa) : Option zk_V := match Nat.ble 1000 p.1 with
  | true => match Nat.ble 2000 p.1 with
    | true => match Nat.ble 4000 p.1 with
      | true => zk_rcf z (p.1 - 4000) p.2
      | false => zk_rsw z0 (p.1 - 2000, p.2)
    | false => some (zk_y (p.1 - 1000))
  | false => zk_rsw z p
def zk_evp (z0 z : zk_Z) : List (zk_Pa × Int) → Int → Option zk_V
  | [], c => some (zk_c c)
  | q :: l, c => match zk_rsv z0 z q.1, zk_evp z0 z l c with
    | some v, some w => some (zk_vadd (zk_vmul q.2 v) w)
    | _, _ => none
def zk_evs (z0 z : zk_Z) : List zk_Ln → Option (List zk_V)
  | [] => some []
  | q :: l => match zk_evp z0 z q.1 q.2, zk_evs z0 z l with
    | some v, some w => some (v :: w)
    | _, _ => none
def zk_rwr (z : zk_Z) (p : zk_Pa) : Option Nat := match zk_res z p with
  | some (_, v) => match zk_row z.2.1 v with
    | some (_, _, _, a) => some a
    | none => none
  | none => none
/-- facts told by paths -/
def zk_evr (z0 z : zk_Z) : List zk_Pa → Option (List Nat)
  | [] => some []
  | p :: l => match Nat.ble 1000 p.1 with
    | true => match Nat.ble 2000 p.1 with
      | true => match Nat.ble 3000 p.1 with
        | true => match zk_get z.2.1 (p.1 - 3000), zk_evr z0 z l with
          | some c, some r => some (zk_hd c.2.2 :: r)
          | _, _ => none
        | false => match zk_rwr z0 (p.1 - 2000, p.2), zk_evr z0 z l with
          | some a, some r => some (a :: r)
          | _, _ => none
      | false => match zk_evr z0 z l with
        | some r => some ((p.1 - 1000) :: r)
        | none => none
    | false => match zk_rwr z p, zk_evr z0 z l with
      | some a, some r => some (a :: r)
      | _, _ => none
def zk_evg (z0 z : zk_Z) : List (Nat × List zk_Pa × List zk_Ln) → Option (List zk_G)
  | [] => some []
  | q :: l => match zk_evr z0 z q.2.1, zk_evs z0 z q.2.2, zk_evg z0 z l with
    | some a, some v, some r => some ((q.1, a, v) :: r)
    | _, _, _ => none
/-- a loop is entered: what is known at its head -/
def zk_head (pc : Nat) (an : zk_An) (z : zk_Z) : Option (zk_Cx × zk_Z) := match zk_thet z z.1.1 an.2.1, zk_open z z.1.1 an.2.1 with
  | some th, some (n, B, G, hp, lc) => match zk_evs z ((n, B, [], G), hp, lc, z.2.2.2) an.2.2.1, zk_evp z ((n, B, [], G), hp, lc, z.2.2.2) an.2.2.2.1.1 an.2.2.2.1.2, zk_evg z ((n, B, [], G), hp, lc, z.2.2.2) an.2.2.2.2 with
    | some F, some m, some G2 => match zk_fit z.1.1 th z (n, B, F, G2 ++ G) hp lc z.2.2.2 && zk_svB n m && zk_fitC (n, B, F, G2 ++ G) hp lc z.2.2.2 with
      | true => some ((pc, z.1, (n, B, F, G2 ++ G), hp, lc, z.2.2.2, m, an), (zk_cat2 (n, B, F, G2 ++ G) z.1, hp, lc, z.2.2.2))
      | false => none
    | _, _, _ => none
  | _, _ => none
/-- a loop's head is come to again -/
def zk_backP (en : zk_Cx) (z : zk_Z) : Bool := match zk_thet z en.2.1.1 en.2.2.2.2.2.2.2.2.1 with
  | some th => zk_fit en.2.1.1 th z en.2.2.1 en.2.2.2.1 en.2.2.2.2.1 en.2.2.2.2.2.1 && zk_n2 z.1 (zk_sb en.2.1.1 th en.2.2.2.2.2.2.1) && zk_n2 z.1 (zk_vsub (zk_vsub en.2.2.2.2.2.2.1 (zk_sb en.2.1.1 th en.2.2.2.2.2.2.1)) (zk_c 1))
  | none => false
/-- the same, by what changed alone -/
def zk_backT (en : zk_Cx) (z : zk_Z) (th : zk_Th) : Bool := zk_dfit en.2.1.1 th z en.2.2.1 en.2.2.2.1 en.2.2.2.2.1 en.2.2.2.2.2.1 && zk_n2 z.1 (zk_ds th en.2.2.2.2.2.2.1) && zk_n2 z.1 (zk_vsub (zk_vsub en.2.2.2.2.2.2.1 (zk_ds th en.2.2.2.2.2.2.1)) (zk_c 1))
def zk_back (en : zk_Cx) (z : zk_Z) : Bool := match Nat.beq en.2.2.2.2.2.2.2.1 6 with
  | true => zk_backT en z (zk_dtG z.1 (zk_dtL (zk_dtC ([], []) en.2.2.2.1 z.2.1) en.2.2.2.2.1 z.2.2.1) en.2.2.1.2.2.2)
  | false => zk_backP en z
def zk_findc (pc : Nat) : List zk_Cx → Option zk_Cx
  | [] => none
  | en :: l => match Nat.beq en.1 pc with
    | true => some en
    | false => zk_findc pc l
/-- a value told apart, from lo on, n + 1 cases -/
def zk_split (z : zk_Z) (v : zk_V) : Nat → Int → List zk_Z
  | 0, lo => match zk_eqs z.1 (zk_vsub v (zk_c lo)) with
    | some N => [(N, z.2)]
    | none => []
  | n + 1, lo => match zk_eqs z.1 (zk_vsub v (zk_c lo)) with
    | some N => (N, z.2) :: zk_split z v n (lo + 1)
    | none => zk_split z v n (lo + 1)
def zk_args : Nat → List zk_T → List (Nat × zk_T)
  | _, [] => []
  | i, t :: l => (i, t) :: zk_args (match Nat.beq t.1 1 with
    | true => i + 2
    | false => i + 1) l
def zk_slots : List zk_T → Nat
  | [] => 0
  | t :: l => (match Nat.beq t.1 1 with
    | true => 2
    | false => 1) + zk_slots l
def zk_take : Nat → List zk_T → List zk_T → Option (List zk_T × List zk_T)
  | 0, acc, sk => some (acc, sk)
  | n + 1, acc, t :: sk => zk_take n (t :: acc) sk
  | _ + 1, _, [] => none
theorem zk_take_of : ∀ {n : Nat} {acc sk as r : List zk_T}, zk_take n acc sk = some (as, r) → ∃ u, as = u.reverse ++ acc ∧ sk = u ++ r ∧ u.length = n
  | 0, acc, sk, as, r, h => by
    cases h
    exact ⟨[], rfl, rfl, rfl⟩
  | n + 1, acc, t :: sk, as, r, h => by
    unfold zk_take at h
    obtain ⟨u, h1, h2, h3⟩ := zk_take_of h
    exact ⟨t :: u, by rw [h1]; simp, by rw [h2]; rfl, by rw [List.length_cons, h3]⟩
  | n + 1, acc, [], as, r, h => by cases h
def zk_step (nL : Nat) (tab : zk_Tab) (q : zk_I) (z : zk_Z) : Option (List (Option Nat × zk_Z)) := match zk_sA nL q z with
  | some L => some L
  | none => match zk_sC q z with
    | some L => some L
    | none => match zk_sE tab q z with
      | some L => some L
      | none => match Nat.beq q.2.2.1 1 with
        | true => zk_sB q z
        | false => none
/-! the same, quicker: a row's kind is told once -/
def zk_fc (i : Instr) : Nat × Nat × ClassFile.Cond := match i with
  | .iload i => (1, i, .eq)
  | .iload_n i => (1, i.val, .eq)
  | .aload i => (2, i, .eq)
  | .aload_n i => (2, i.val, .eq)
  | .istore i => (3, i, .eq)
  | .istore_n i => (3, i.val, .eq)
  | .astore i => (4, i, .eq)
  | .astore_n i => (4, i.val, .eq)
  | .iconst _ => (5, 0, .eq)
  | .bipush _ => (5, 0, .eq)
  | .sipush _ => (5, 0, .eq)
  | .ldc _ => (20, 0, .eq)
  | .ldc_w _ => (5, 0, .eq)
  | .goto _ => (6, 0, .eq)
  | .getfield _ => (7, 0, .eq)
  | .ifCond c _ => (8, 0, c)
  | .if_icmp c _ => (9, 0, c)
  | .iadd => (10, 0, .eq)
  | .isub => (11, 0, .eq)
  | .iaload => (12, 0, .eq)
  | .getstatic _ => (13, 0, .eq)
  | .iinc _ _ => (14, 0, .eq)
  | .lload _ => (14, 0, .eq)
  | .lload_n _ => (14, 0, .eq)
  | .lstore _ => (14, 0, .eq)
  | .lstore_n _ => (14, 0, .eq)
  | .lconst _ => (14, 0, .eq)
  | .ldc2_w _ => (14, 0, .eq)
  | .aconst_null => (14, 0, .eq)
  | .dup => (14, 0, .eq)
  | .dup_x1 => (14, 0, .eq)
  | .dup2 => (14, 0, .eq)
  | .pop => (14, 0, .eq)
  | .pop2 => (14, 0, .eq)
  | .ifnull _ => (15, 0, .eq)
  | .ifnonnull _ => (15, 0, .eq)
  | .lcmp => (15, 0, .eq)
  | .tableswitch _ _ _ _ => (15, 0, .eq)
  | .lookupswitch _ _ => (15, 0, .eq)
  | .putfield _ => (16, 0, .eq)
  | .laload => (16, 0, .eq)
  | .baload => (16, 0, .eq)
  | .saload => (16, 0, .eq)
  | .aaload => (16, 0, .eq)
  | .iastore => (16, 0, .eq)
  | .lastore => (16, 0, .eq)
  | .bastore => (16, 0, .eq)
  | .sastore => (16, 0, .eq)
  | .arraylength => (16, 0, .eq)
  | .ireturn => (20, 0, .eq)
  | .lreturn => (20, 0, .eq)
  | .areturn => (20, 0, .eq)
  | .return_ => (20, 0, .eq)
  | .invokestatic _ => (20, 0, .eq)
  | .invokevirtual _ => (20, 0, .eq)
  | _ => (17, 0, .eq)
def zk_sF1 (nL : Nat) (f : Nat × Nat × ClassFile.Cond) (q : zk_I) (z : zk_Z) : Option (List (Option Nat × zk_Z)) := match Nat.beq f.1 1 with
  | true => zk_ld z f.2.1 zk_isI
  | false => match Nat.beq f.1 2 with
    | true => zk_ld z f.2.1 zk_isR
    | false => match Nat.beq f.1 3 with
      | true => zk_to1 nL z f.2.1 zk_isI
      | false => match Nat.beq f.1 4 with
        | true => zk_to1 nL z f.2.1 zk_isR
        | false => match Nat.beq f.1 5 with
          | true => zk_pu z 0 (zk_c q.2.2.2.2.2.2)
          | false => some [(some q.2.2.2.2.1, z)]
def zk_sF2 (tab : zk_Tab) (f : Nat × Nat × ClassFile.Cond) (q : zk_I) (z : zk_Z) : Option (List (Option Nat × zk_Z)) := match Nat.beq f.1 7 with
  | true => match z.2.2.2 with
    | t :: r => match Nat.beq t.1 3, zk_get z.2.1 t.2.1 with
      | true, some c => match Nat.beq c.1 0 && Nat.beq c.2.1 q.2.2.2.2.1, zk_get c.2.2 q.2.2.2.2.2.1 with
        | true, some v => some [(none, (z.1, z.2.1, z.2.2.1, v :: r))]
        | _, _ => none
      | _, _ => none
    | [] => none
  | false => match Nat.beq f.1 8 with
    | true => match zk_i1 z.2.2.2 with
      | some (x, r) => some (zk_br z r (some q.2.2.2.2.1) (zk_cmp z.1 f.2.2 true x (zk_c 0)) (zk_br z r none (zk_cmp z.1 f.2.2 false x (zk_c 0)) []))
      | none => none
    | false => match Nat.beq f.1 9 with
      | true => match zk_i2 z.2.2.2 with
        | some (x, y, r) => some (zk_br z r (some q.2.2.2.2.1) (zk_cmp z.1 f.2.2 true x y) (zk_br z r none (zk_cmp z.1 f.2.2 false x y) []))
        | none => none
      | false => match Nat.beq f.1 12 with
        | true => zk_load tab 1 0 z
        | false => match zk_get tab q.2.2.2.2.1 with
          | some _ => some [(none, (z.1, z.2.1, z.2.2.1, (4, q.2.2.2.2.1, zk_c 0) :: z.2.2.2))]
          | none => none
def zk_sF3 (f : Nat × Nat × ClassFile.Cond) (q : zk_I) (z : zk_Z) : Option (List (Option Nat × zk_Z)) := match Nat.beq q.2.2.1 1 with
  | true => match zk_i2 z.2.2.2 with
    | some (x, y, r) => match Nat.beq f.1 10 with
      | true => some [(none, ((zk_norm z.1 (zk_vadd x y)).2, z.2.1, z.2.2.1, (0, 0, (zk_norm z.1 (zk_vadd x y)).1) :: r))]
      | false => some [(none, ((zk_norm z.1 (zk_vsub x y)).2, z.2.1, z.2.2.1, (0, 0, (zk_norm z.1 (zk_vsub x y)).1) :: r))]
    | none => none
  | false => none
def zk_sF (nL : Nat) (tab : zk_Tab) (f : Nat × Nat × ClassFile.Cond) (q : zk_I) (z : zk_Z) : Option (List (Option Nat × zk_Z)) := match Nat.ble f.1 6 with
  | true => zk_sF1 nL f q z
  | false => match Nat.ble f.1 9 || Nat.beq f.1 12 || Nat.beq f.1 13 with
    | true => zk_sF2 tab f q z
    | false => match Nat.ble f.1 11 with
      | true => zk_sF3 f q z
      | false => match Nat.beq f.1 14 with
        | true => zk_sA nL q z
        | false => match Nat.beq f.1 15 with
          | true => zk_sC q z
          | false => match Nat.beq f.1 16 with
            | true => zk_sE tab q z
            | false => match Nat.beq q.2.2.1 1 with
              | true => zk_sB q z
              | false => none
theorem zk_stA {nL : Nat} {tab : zk_Tab} {q : zk_I} {z : zk_Z} {L : List (Option Nat × zk_Z)} (h : zk_sA nL q z = some L) : zk_step nL tab q z = some L := by unfold zk_step; rw [h]
theorem zk_stC {nL : Nat} {tab : zk_Tab} {q : zk_I} {z : zk_Z} {L : List (Option Nat × zk_Z)} (h1 : zk_sA nL q z = none) (h : zk_sC q z = some L) : zk_step nL tab q z = some L := by unfold zk_step; rw [h1]; simp only; rw [h]
theorem zk_stE {nL : Nat} {tab : zk_Tab} {q : zk_I} {z : zk_Z} {L : List (Option Nat × zk_Z)} (h1 : zk_sA nL q z = none) (h2 : zk_sC q z = none) (h : zk_sE tab q z = some L) : zk_step nL tab q z = some L := by unfold zk_step; rw [h1]; simp only; rw [h2]; simp only; rw [h]
theorem zk_stB {nL : Nat} {tab : zk_Tab} {q : zk_I} {z : zk_Z} {L : List (Option Nat × zk_Z)} (h1 : zk_sA nL q z = none) (h2 : zk_sC q z = none) (h3 : zk_sE tab q z = none) (h : (match Nat.beq q.2.2.1 1 with
    | true => zk_sB q z
    | false => none) = some L) : zk_step nL tab q z = some L := by unfold zk_step; rw [h1]; simp only; rw [h2]; simp only; rw [h3]; exact h
theorem zk_sF3B {f : Nat × Nat × ClassFile.Cond} {q : zk_I} {z : zk_Z} {L : List (Option Nat × zk_Z)} (hf : (f.1 = 10 ∧ q.2.1 = .iadd) ∨ (f.1 = 11 ∧ q.2.1 = .isub)) (h : zk_sF3 f q z = some L) : (match Nat.beq q.2.2.1 1 with
    | true => zk_sB q z
    | false => none) = some L := by
  obtain ⟨pc, ins, len, ann, qa, qb, qc⟩ := q
  unfold zk_sF3 at h
  simp only at h hf ⊢
  split at h
  · unfold zk_sB
    rcases hf with ⟨hf, rfl⟩ | ⟨hf, rfl⟩ <;> rw [hf] at h <;> simp only at h ⊢
    all_goals
      split at h
      · rename_i x y r hr
        rw [hr]
        exact h
      · cases h
  · cases h
theorem zk_sFl {pc i len ann qa qb : Nat} {qc : Int} {z : zk_Z} {L : List (Option Nat × zk_Z)} (h : (match Nat.beq len 1 with
    | true => zk_sB (pc, .ldc i, len, ann, qa, qb, qc) z
    | false => none) = some L) : False := by
  split at h
  · have : zk_sB (pc, .ldc i, len, ann, qa, qb, qc) z = none := by
      unfold zk_sB
      simp only [zk_ar, zk_un]
      split
      · rfl
      · split <;> rfl
    rw [this] at h
    cases h
  · cases h
set_option maxHeartbeats 4000000 in
theorem zk_sF_ok {nL : Nat} {tab : zk_Tab} {q : zk_I} {z : zk_Z} {L : List (Option Nat × zk_Z)} (h : zk_sF nL tab (zk_fc q.2.1) q z = some L) : zk_step nL tab q z = some L := by
  obtain ⟨pc, ins, len, ann, qa, qb, qc⟩ := q
  cases ins <;> first
    | exact zk_stA h
    | exact zk_stC rfl h
    | exact zk_stE rfl rfl h
    | exact zk_stB rfl rfl rfl h
    | exact zk_stB rfl rfl rfl (zk_sF3B (f := (10, 0, .eq)) (Or.inl ⟨rfl, rfl⟩) h)
    | exact zk_stB rfl rfl rfl (zk_sF3B (f := (11, 0, .eq)) (Or.inr ⟨rfl, rfl⟩) h)
    | exact (zk_sFl h).elim
    | (exfalso; revert h; intro h; cases h)
abbrev zk_Rec : Type := Nat → zk_M → List zk_Cx → List zk_I → zk_Z → Option (List zk_Ex)
/-- what follows a row -/
def zk_next2 (rec : zk_Rec) (d : Nat) (M : zk_M) (cx : List zk_Cx) (q : zk_I) (r : List zk_I) (u : Option Nat × zk_Z) : Option (List zk_Ex) := match u.1 with
  | none => match r with
    | [] => none
    | q' :: _ => match Nat.beq q'.1 (q.1 + q.2.2.1) with
      | true => rec d M cx r u.2
      | false => none
  | some t => match zk_from t M.2.2.2.2.2.1 with
    | [] => none
    | q' :: r' => rec d M cx (q' :: r') u.2
def zk_cont (rec : zk_Rec) (d : Nat) (M : zk_M) (cx : List zk_Cx) (q : zk_I) (r : List zk_I) (lc : List (Nat × zk_T)) (sk : List zk_T) (X : zk_Ex) : Option (List zk_Ex) := zk_next2 rec d M cx q r (none, (X.1, X.2.1, lc, match X.2.2 with
  | some t => t :: sk
  | none => sk))
/-! CONTRACTS: a method from a state of a given shape, and the shapes in which it ends -/
abbrev zk_Kx : Type := zk_New × List zk_C × Option zk_T
/-- which method, depth, the entry's symbols, cells, arguments, the ends -/
abbrev zk_K : Type := Nat × Nat × zk_New × List zk_C × List zk_T × List zk_Kx
def zk_mtT (nb : Nat) : zk_Th → List zk_T → List zk_T → zk_Th
  | th, t :: l, t' :: l' => match t.2.2.1 with
    | [q] => match Nat.ble nb q.1 && zk_eqv t.2.2 (zk_y q.1) with
      | true => zk_mtT nb ((q.1, t'.2.2) :: th.1, th.2) l l'
      | false => zk_mtT nb th l l'
    | _ => zk_mtT nb th l l'
  | th, _, _ => th
def zk_mtC (nb : Nat) : zk_Th → List zk_C → List zk_C → zk_Th
  | th, c :: l, c' :: l' => match Nat.beq c.1 5 || Nat.beq c.1 9 with
    | true => zk_mtC nb th l l'
    | false => match Nat.beq c.1 0 with
      | true => zk_mtC nb (zk_mtT nb th c.2.2 c'.2.2) l l'
      | false => match Nat.ble nb (zk_hd c.2.2) with
        | true => zk_mtC nb (th.1, (zk_hd c.2.2, zk_hd c'.2.2) :: th.2) l l'
        | false => zk_mtC nb th l l'
  | th, _, _ => th
def zk_rgs {α : Type} (f : Nat → α) : Nat → Nat → Nat → List (Nat × α)
  | _, _, 0 => []
  | a, b, m + 1 => (a, f b) :: zk_rgs f (a + 1) (b + 1) m
def zk_th2 (th : zk_Th) (nE n m : Nat) : zk_Th := (th.1 ++ zk_rgs zk_y nE n m, th.2 ++ zk_rgs (fun k => k) nE n m)
def zk_kT (th : zk_Th) (t : zk_T) : zk_T := (t.1, t.2.1, zk_sb 0 th t.2.2)
def zk_kCc (th : zk_Th) (c : zk_C) : zk_C := (c.1, c.2.1, match Nat.beq c.1 0 || Nat.beq c.1 5 with
  | true => c.2.2.map (zk_kT th)
  | false => [(0, zk_sbA 0 th (zk_hd c.2.2), [], 0)])
def zk_kG (th : zk_Th) (g : zk_G) : zk_G := (g.1, g.2.1.map (zk_sbA 0 th), g.2.2.map (zk_sb 0 th))
def zk_kB (nE n : Nat) : zk_B → zk_B
  | [] => []
  | q :: l => match Nat.ble nE q.1 with
    | true => (n + (q.1 - nE), q.2) :: zk_kB nE n l
    | false => zk_kB nE n l
def zk_kN (th : zk_Th) (nE : Nat) (w : zk_New) (N : zk_N) : zk_N := (N.1 + (w.1 - nE), zk_kB nE N.1 w.2.1 ++ N.2.1, w.2.2.1.map (zk_sb 0 th) ++ N.2.2.1, w.2.2.2.map (zk_kG th) ++ N.2.2.2)
def zk_clB (n : Nat) (w : zk_New) : Bool := (w.2.1.all fun q => Nat.blt q.1 n) && (w.2.2.1.all fun f => zk_svB n f) && (w.2.2.2.all fun g => (g.2.1.all fun a => Nat.blt a n) && (g.2.2.all fun v => zk_svB n v))
/-- the cells of a contract that are told are the caller's -/
def zk_kfc (th : zk_Th) : List zk_C → List zk_C → Bool
  | [], [] => true
  | c :: l, c' :: l' => (match Nat.beq c.1 9 with
    | true => true
    | false => zk_ceq 0 th c c') && zk_kfc th l l'
  | _, _ => false
/-- the cells behind a contract: at its entry, at its end, the caller's -/
def zk_mrg (n : Nat) (th : zk_Th) : List zk_C → List zk_C → List zk_C → Option (List zk_C)
  | [], [], [] => some []
  | k :: lk, x :: lx, c :: l => match zk_mrg n th lk lx l with
    | some r => match zk_cid k x with
      | true => some (c :: r)
      | false => match !(Nat.beq x.1 9) && zk_csB n (zk_kCc th x) with
        | true => some (zk_kCc th x :: r)
        | false => none
    | none => none
  | _, _, _ => none
/-- an end of a contract told in the caller's symbols -/
def zk_kex (th : zk_Th) (nE : Nat) (Kc hp : List zk_C) (N : zk_N) (x : zk_Kx) : Option zk_Ex := match Nat.ble nE x.1.1 && zk_clB (N.1 + (x.1.1 - nE)) (0, zk_kB nE N.1 x.1.2.1, x.1.2.2.1.map (zk_sb 0 th), x.1.2.2.2.map (zk_kG th)) && (match x.2.2 with
    | none => true
    | some t => zk_svB (N.1 + (x.1.1 - nE)) (zk_kT th t).2.2), zk_mrg (N.1 + (x.1.1 - nE)) th Kc x.2.1 hp with
  | true, some hp' => some (zk_kN th nE x.1 N, hp', x.2.2.map (zk_kT th))
  | _, _ => none
def zk_kexs (th : zk_Th) (nE : Nat) (Kc hp : List zk_C) (N : zk_N) : List zk_Kx → Option (List zk_Ex)
  | [] => some []
  | x :: l => match zk_kex (zk_th2 th nE N.1 (x.1.1 - nE)) nE Kc hp N x, zk_kexs th nE Kc hp N l with
    | some X, some L => some (X :: L)
    | _, _ => none
def zk_kfit (K : zk_K) (th : zk_Th) (z : zk_Z) (as : List zk_T) : Bool :=
  zk_fitN 0 th z.1 K.2.2.1 && zk_kfc th K.2.2.2.1 z.2.1 && zk_teqs 0 th K.2.2.2.2.1 as && (K.2.2.2.1.all fun c => zk_csB K.2.2.1.1 c) && (th.1.all fun q => Nat.blt q.1 K.2.2.1.1 && zk_svB z.1.1 q.2) && (th.2.all fun q => Nat.blt q.1 K.2.2.1.1 && Nat.blt q.2 z.1.1) && Nat.blt 0 z.1.1
def zk_kcall (mi d : Nat) (z : zk_Z) (as : List zk_T) : List zk_K → Option (List zk_Ex)
  | [] => none
  | K :: l => match Nat.beq K.1 mi && Nat.ble K.2.1 d with
    | true => match zk_kfit K (zk_mtT 0 (zk_mtC 0 ([], []) K.2.2.2.1 z.2.1) K.2.2.2.2.1 as) z as with
      | true => zk_kexs (zk_mtT 0 (zk_mtC 0 ([], []) K.2.2.2.1 z.2.1) K.2.2.2.2.1 as) K.2.2.1.1 K.2.2.2.1 z.2.1 z.1 K.2.2.2.2.2
      | false => zk_kcall mi d z as l
    | false => zk_kcall mi d z as l
/-- what is called: walked here, or by its contract -/
def zk_inl (CT : List zk_K) (rec : zk_Rec) (b d mi : Nat) (M : zk_M) (z : zk_Z) (as : List zk_T) : Option (List zk_Ex) := match Nat.beq b 0 with
  | true => rec d M [] M.2.2.2.2.2.1 (z.1, z.2.1, zk_args 0 as, [])
  | false => zk_kcall mi d z as CT
/-- a call of a method of the table; as: all arguments, the receiver among them -/
def zk_call (PT : List zk_M) (CT : List zk_K) (rec : zk_Rec) (d : Nat) (M : zk_M) (cx : List zk_Cx) (q : zk_I) (r : List zk_I) (z : zk_Z) (vi : Bool) : Option (List zk_Ex) := match zk_get PT q.2.2.2.2.1, d with
  | some M', d' + 1 => match zk_take M'.2.2.2.2.1 [] z.2.2.2 with
    | some (as, sk) => match vi with
      | false => match Nat.ble (zk_slots as) M'.2.2.1 && Nat.ble M'.2.2.1 45 && Nat.ble (zk_csum sk) 8, M'.2.2.2.2.2.1 with
        | true, q0 :: _ => match Nat.beq q0.1 0, zk_inl CT rec q.2.2.2.2.2.1 d' q.2.2.2.2.1 M' z as with
          | true, some L => zk_all (zk_cont rec d M cx q r z.2.2.1 sk) L
          | _, _ => none
        | _, _ => none
      | true => match sk with
        | [] => none
        | t :: sk' => match Nat.ble (zk_slots (t :: as)) M'.2.2.1 && Nat.ble M'.2.2.1 45 && Nat.ble (zk_csum sk') 8 && Nat.beq t.1 3, zk_get z.2.1 t.2.1, M'.2.2.2.2.2.1 with
          | true, some c, q0 :: _ => match Nat.beq q0.1 0 && Nat.beq c.1 0 && zk_eqi (Int.ofNat c.2.1) q.2.2.2.2.2.2, zk_inl CT rec q.2.2.2.2.2.1 d' q.2.2.2.2.1 M' z (t :: as) with
            | true, some L => zk_all (zk_cont rec d M cx q r z.2.2.1 sk') L
            | _, _ => none
          | _, _, _ => none
    | none => none
  | _, _ => none
def zk_retI (ret : Option FieldType) (N : zk_N) (v : zk_V) : Bool := match ret with
  | some .int => true
  | some .boolean => zk_ix N v 2
  | _ => false
def zk_retA (ret : Option FieldType) : Bool := match ret with
  | some (.object _) => true
  | some (.array _) => true
  | _ => false
def zk_retL (ret : Option FieldType) : Bool := match ret with
  | some .long => true
  | _ => false
def zk_retV (ret : Option FieldType) : Bool := match ret with
  | none => true
  | _ => false
/-- one row -/
def zk_ex1 (PT : List zk_M) (CT : List zk_K) (tab : zk_Tab) (rec : zk_Rec) (d : Nat) (M : zk_M) (cx : List zk_Cx) (q : zk_I) (r : List zk_I) (z : zk_Z) : Option (List zk_Ex) := match q.2.1 with
  | .ireturn => match z.2.2.2 with
    | [t] => match Nat.beq t.1 0 && zk_retI M.2.2.2.1 z.1 t.2.2 with
      | true => some [(z.1, z.2.1, some t)]
      | false => none
    | _ => none
  | .lreturn => match z.2.2.2 with
    | [t] => match Nat.beq t.1 1 && zk_retL M.2.2.2.1 with
      | true => some [(z.1, z.2.1, some t)]
      | false => none
    | _ => none
  | .areturn => match z.2.2.2 with
    | [t] => match zk_isR t.1 && zk_retA M.2.2.2.1 with
      | true => some [(z.1, z.2.1, some t)]
      | false => none
    | _ => none
  | .return_ => match z.2.2.2 with
    | [] => match zk_retV M.2.2.2.1 with
      | true => some [(z.1, z.2.1, none)]
      | false => none
    | _ => none
  | .invokestatic _ => match Nat.beq q.2.2.2.2.2.1 77 with
    | false => match zk_m3 q.2.2.2.2.2.1 with
      | false => zk_call PT CT rec d M cx q r z false
      | true => match d, zk_mth q.2.2.2.2.2.1 z with
        | _ + 1, some L => zk_all (zk_next2 rec d M cx q r) L
        | _, _ => none
    | true => match d, zk_cpq z with
      | _ + 1, some L => zk_all (zk_next2 rec d M cx q r) L
      | _, _ => none
  | .invokevirtual _ => match Nat.beq q.2.2.2.2.2.1 78 with
    | false => zk_call PT CT rec d M cx q r z true
    | true => match d, zk_ixf z with
      | _ + 4, some L => zk_all (zk_next2 rec d M cx q r) L
      | _, _ => none
  | .iaload => match Nat.beq q.2.2.2.2.2.1 76 with
    | true => match z.2.2.2 with
      | a :: t :: r' => match Nat.beq a.1 0 && Nat.beq t.1 4 && Nat.beq t.2.1 9 && zk_n2 z.1 a.2.2 && zk_n2 z.1 (zk_vsub (zk_vsub (zk_y 0) (zk_c 1)) a.2.2) && Nat.blt 0 z.1.1, zk_rd z.1 0 a.2.2 with
        | true, some w => zk_all (zk_next2 rec d M cx q r) [(none, (w.2, z.2.1, z.2.2.1, (0, 0, w.1) :: r'))]
        | _, _ => none
      | _ => none
    | false => match zk_step M.2.2.1 tab q z with
      | some L => zk_all (zk_next2 rec d M cx q r) L
      | none => none
  | .arraylength => match Nat.beq q.2.2.2.2.2.1 76 with
    | true => match z.2.2.2 with
      | t :: r' => match Nat.beq t.1 4 && Nat.beq t.2.1 9 && Nat.blt 0 z.1.1 with
        | true => zk_all (zk_next2 rec d M cx q r) [(none, (z.1, z.2.1, z.2.2.1, (0, 0, zk_y 0) :: r'))]
        | false => none
      | _ => none
    | false => match zk_step M.2.2.1 tab q z with
      | some L => zk_all (zk_next2 rec d M cx q r) L
      | none => none
  | .ldc _ => match Nat.beq q.2.2.2.2.2.1 79 with
    | true => zk_all (zk_next2 rec d M cx q r) [(none, (z.1, z.2.1, z.2.2.1, (4, 7, zk_c 0) :: z.2.2.2))]
    | false => match zk_step M.2.2.1 tab q z with
      | some L => zk_all (zk_next2 rec d M cx q r) L
      | none => none
  | _ => match zk_step M.2.2.1 tab q z with
    | some L => zk_all (zk_next2 rec d M cx q r) L
    | none => none
def zk_ex1F (PT : List zk_M) (CT : List zk_K) (tab : zk_Tab) (rec : zk_Rec) (d : Nat) (M : zk_M) (cx : List zk_Cx) (q : zk_I) (r : List zk_I) (z : zk_Z) : Option (List zk_Ex) := match Nat.beq (zk_fc q.2.1).1 20 || Nat.beq q.2.2.2.2.2.1 76 with
  | true => zk_ex1 PT CT tab rec d M cx q r z
  | false => match zk_sF M.2.2.1 tab (zk_fc q.2.1) q z with
    | some L => zk_all (zk_next2 rec d M cx q r) L
    | none => none
theorem zk_ex1G {PT : List zk_M} {CT : List zk_K} {tab : zk_Tab} {rec : zk_Rec} {d : Nat} {M : zk_M} {cx : List zk_Cx} {q : zk_I} {r : List zk_I} {z : zk_Z} {L : List zk_Ex} (he : zk_ex1 PT CT tab rec d M cx q r z = (match zk_step M.2.2.1 tab q z with
    | some L => zk_all (zk_next2 rec d M cx q r) L
    | none => none)) (h : (match zk_sF M.2.2.1 tab (zk_fc q.2.1) q z with
    | some L => zk_all (zk_next2 rec d M cx q r) L
    | none => none) = some L) : zk_ex1 PT CT tab rec d M cx q r z = some L := by
  rw [he]
  split at h
  · rename_i L' hs
    rw [zk_sF_ok hs]
    exact h
  · cases h
set_option maxHeartbeats 4000000 in
theorem zk_ex1F_ok {PT : List zk_M} {CT : List zk_K} {tab : zk_Tab} {rec : zk_Rec} {d : Nat} {M : zk_M} {cx : List zk_Cx} {q : zk_I} {r : List zk_I} {z : zk_Z} {L : List zk_Ex} (h : zk_ex1F PT CT tab rec d M cx q r z = some L) : zk_ex1 PT CT tab rec d M cx q r z = some L := by
  unfold zk_ex1F at h
  split at h
  · exact h
  · rename_i hf
    obtain ⟨pc, ins, len, ann, qa, qb, qc⟩ := q
    have hf2 := Bool.or_eq_false_iff.mp hf
    obtain ⟨hf, h76⟩ := hf2
    simp only at h76
    cases ins <;> first
      | exact zk_ex1G rfl h
      | exact absurd (show true = false from hf) (by decide)
      | (refine zk_ex1G ?_ h; unfold zk_ex1; simp only [h76])
/-- a loop's head: come to again, or entered -/
def zk_lp (f : List zk_Cx → zk_Z → Option (List zk_Ex)) (pc : Nat) (an : zk_An) (cx : List zk_Cx) (z : zk_Z) : Option (List zk_Ex) := match zk_findc pc cx with
  | some en => match zk_back en z with
    | true => some []
    | false => none
  | none => match zk_head pc an z with
    | some (en, zh) => f (en :: cx) zh
    | none => none
/-- a rule: what is known told anew, by cases -/
abbrev zk_Rl : Type := zk_Z → Option (List zk_N)
def zk_run (PT : List zk_M) (CT : List zk_K) (RT : List zk_Rl) (tab : zk_Tab) : Nat → zk_Rec
  | 0 => fun _ _ _ _ _ => none
  | k + 1 => fun d M cx rest z => match rest with
    | [] => none
    | q :: r => match q.2.2.2.1 with
      | 0 => zk_ex1F PT CT tab (zk_run PT CT RT tab k) d M cx q r z
      | a + 1 => match zk_get M.2.2.2.2.2.2 a with
        | none => none
        | some an => match an.1 with
          | 1 => zk_lp (fun cx' z' => zk_ex1F PT CT tab (zk_run PT CT RT tab k) d M cx' q r z') q.1 an cx z
          | 4 => match an.2.2.1 with
            | g :: _ => match zk_evp z z g.1 g.2 with
              | some gv => match zk_n2 z.1 gv with
                | true => zk_lp (fun cx' z' => zk_ex1F PT CT tab (zk_run PT CT RT tab k) d M cx' q r z') q.1 an cx z
                | false => zk_ex1F PT CT tab (zk_run PT CT RT tab k) d M cx q r z
              | none => none
            | [] => none
          | 2 => match an.2.1 with
            | u :: _ => match zk_res z u.1, u.2.2 - u.2.1 with
              | some (_, v), .ofNat n => match zk_n2 z.1 (zk_vsub v.2.2 (zk_c u.2.1)) && zk_n2 z.1 (zk_vsub (zk_c u.2.2) v.2.2) && zk_svB z.1.1 v.2.2 with
                | true => zk_all (fun z' => zk_ex1F PT CT tab (zk_run PT CT RT tab k) d M cx q r z') (zk_split z v.2.2 n u.2.1)
                | false => none
              | _, _ => none
            | [] => none
          | 3 => match an.2.2.2.1.2 with
            | .ofNat r' => match zk_get RT r' with
              | some f => match f z with
                | some L => zk_all (fun N' => zk_ex1F PT CT tab (zk_run PT CT RT tab k) d M cx q r (N', z.2)) L
                | none => none
              | none => none
            | _ => none
          | _ => none
end
