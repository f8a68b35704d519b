/-! TOLD FUNCTIONS worked out by what is known -/
/-- a read known, as far as places are known to be the same -/
def zk_frd (N : zk_N) (a : Nat) (i : zk_V) : List zk_G → Option zk_V
  | [] => none
  | q :: l => match Nat.beq q.1 1 with
    | true => match q.2 with
      | ([b], [j, w]) => match Nat.beq b a && zk_eqE N i j with
        | true => some w
        | false => zk_frd N a i l
      | _ => zk_frd N a i l
    | false => zk_frd N a i l
theorem zk_frd_of {E : zk_E} {N : zk_N} (h : zk_ok E N) {a : Nat} {i w : zk_V} : ∀ {l : List zk_G}, (∀ q ∈ l, q ∈ N.2.2.2) → zk_frd N a i l = some w → E.2 a (zk_i E i).toNat = zk_i E w 
  | [], _, hw => by cases hw
  | q :: l, hl, hw => by
    have up : zk_frd N a i l = some w → E.2 a (zk_i E i).toNat = zk_i E w := zk_frd_of h fun q hq => hl q (List.mem_cons_of_mem _ hq)
    have hm := hl q List.mem_cons_self
    have h1 := h.2.2 q hm
    obtain ⟨k, rs, vs⟩ := q
    unfold zk_frd at hw
    simp only at hw h1
    split at hw
    · rename_i hk
      have hk := Nat.eq_of_beq_eq_true hk
      subst hk
      split at hw
      · rename_i b j w' heq
        cases heq
        split at hw
        · rename_i he
          simp only [Bool.and_eq_true] at he
          have e1 := Nat.eq_of_beq_eq_true he.1
          have e2 := zk_eqE_of h he.2
          subst e1
          cases hw
          simp only [List.map_cons, List.map_nil, zk_S] at h1
          rw [e2]
          exact h1
        · exact up hw
      · exact up hw
    · exact up hw
/-- a long's int known -/
def zk_fl4 (N : zk_N) (x : zk_V) : List zk_G → Option zk_V
  | [] => none
  | q :: l => match Nat.beq q.1 4 with
    | true => match q.2 with
      | ([], [y, w]) => match zk_eqE N x y with
        | true => some w
        | false => zk_fl4 N x l
      | _ => zk_fl4 N x l
    | false => zk_fl4 N x l
theorem zk_fl4_of {E : zk_E} {N : zk_N} (h : zk_ok E N) {x w : zk_V} : ∀ {l : List zk_G}, (∀ q ∈ l, q ∈ N.2.2.2) → zk_fl4 N x l = some w → zk_i E w = ((Int64.ofInt (zk_i E x)).toInt32).toInt 
  | [], _, hw => by cases hw
  | q :: l, hl, hw => by
    have up : zk_fl4 N x l = some w → zk_i E w = ((Int64.ofInt (zk_i E x)).toInt32).toInt := zk_fl4_of h fun q hq => hl q (List.mem_cons_of_mem _ hq)
    have hm := hl q List.mem_cons_self
    have h1 := h.2.2 q hm
    obtain ⟨k, rs, vs⟩ := q
    unfold zk_fl4 at hw
    simp only at hw h1
    split at hw
    · rename_i hk
      have hk := Nat.eq_of_beq_eq_true hk
      subst hk
      split at hw
      · rename_i y w' heq
        cases heq
        split at hw
        · rename_i he
          have e2 := zk_eqE_of h he
          cases hw
          simp only [List.map_cons, List.map_nil, zk_S] at h1
          rw [e2]
          exact h1.symm
        · exact up hw
      · exact up hw
    · exact up hw
/-- a quotient known -/
def zk_fq6 (N : zk_N) (x y : zk_V) : List zk_G → Option zk_V
  | [] => none
  | q :: l => match Nat.beq q.1 6 with
    | true => match q.2 with
      | ([], [x', y', w]) => match zk_eqE N x x' && zk_eqE N y y' && zk_n2 N x && zk_n2 N (zk_vsub y (zk_c 1)) with
        | true => some w
        | false => zk_fq6 N x y l
      | _ => zk_fq6 N x y l
    | false => zk_fq6 N x y l
theorem zk_fq6_of {E : zk_E} {N : zk_N} (h : zk_ok E N) {x y w : zk_V} : ∀ {l : List zk_G}, (∀ q ∈ l, q ∈ N.2.2.2) → zk_fq6 N x y l = some w → zk_i E w = zk_i E x / zk_i E y 
  | [], _, hw => by cases hw
  | q :: l, hl, hw => by
    have up : zk_fq6 N x y l = some w → zk_i E w = zk_i E x / zk_i E y := zk_fq6_of h fun q hq => hl q (List.mem_cons_of_mem _ hq)
    have hm := hl q List.mem_cons_self
    have h1 := h.2.2 q hm
    obtain ⟨k, rs, vs⟩ := q
    unfold zk_fq6 at hw
    simp only at hw h1
    split at hw
    · rename_i hk
      have hk := Nat.eq_of_beq_eq_true hk
      subst hk
      split at hw
      · rename_i x' y' w' heq
        cases heq
        split at hw
        · rename_i he
          simp only [Bool.and_eq_true] at he
          obtain ⟨⟨⟨e1, e2⟩, e3⟩, e4⟩ := he
          have e1 := zk_eqE_of h e1
          have e2 := zk_eqE_of h e2
          have e3 := zk_n2_ok h e3
          have e4 := zk_n2_ok h e4
          rw [zk_vsub_i, zk_c_i] at e4
          cases hw
          simp only [List.map_cons, List.map_nil, zk_S, zx_S] at h1
          rw [e1, e2]
          exact h1 (by omega) (by omega)
        · exact up hw
      · exact up hw
    · exact up hw
/-- a number that is told -/
def zk_cst : zk_V → Option Int
  | ([], z) => some z
  | _ => none
theorem zk_cst_of {E : zk_E} {v : zk_V} {z : Int} (h : zk_cst v = some z) : zk_i E v = z := by
  unfold zk_cst at h
  split at h
  · cases h
    exact zk_c_i E _
  · cases h
/-- a told function known: its state -/
def zk_fcl (N : zk_N) (id : Nat) (rs : List Nat) (ps : List zk_V) (K : zk_V) : List zk_G → Option (List zk_V)
  | [] => none
  | q :: l => match Nat.beq q.1 90 with
    | true => match q.2 with
      | (rs', i' :: K' :: v') => match zk_eqi (zk_fci i') (Int.ofNat id) && zk_eqNs rs rs' && zk_eqE N K K' && zk_eqEs N ps (v'.take (zx_dn id).1) with
        | true => some (v'.drop (zx_dn id).1)
        | false => zk_fcl N id rs ps K l
      | _ => zk_fcl N id rs ps K l
    | false => zk_fcl N id rs ps K l
where zk_fci : zk_V → Int
  | ([], z) => z
  | _ => -1
theorem zk_fci_of {E : zk_E} {v : zk_V} {n : Nat} (h : zk_eqi (zk_fcl.zk_fci v) (Int.ofNat n) = true) : zk_i E v = (n : Int) := by
  have h := zk_eqi_of h
  unfold zk_fcl.zk_fci at h
  split at h
  · rw [← show Int.ofNat n = (n : Int) from rfl, ← h]
    exact zk_c_i E _
  · have : Int.ofNat n = (n : Int) := rfl
    omega
theorem zk_fcl_of {E : zk_E} {N : zk_N} (h : zk_ok E N) {id : Nat} {rs : List Nat} {ps w : List zk_V} {K : zk_V} : ∀ {l : List zk_G}, (∀ q ∈ l, q ∈ N.2.2.2) → zk_fcl N id rs ps K l = some w → zx_F id (rs.map E.2) (ps.map (zk_i E)) (zk_i E K).toNat = w.map (zk_i E)
  | [], _, hw => by cases hw
  | q :: l, hl, hw => by
    have up : zk_fcl N id rs ps K l = some w → zx_F id (rs.map E.2) (ps.map (zk_i E)) (zk_i E K).toNat = w.map (zk_i E) := zk_fcl_of h fun q hq => hl q (List.mem_cons_of_mem _ hq)
    have hm := hl q List.mem_cons_self
    have h1 := h.2.2 q hm
    obtain ⟨k, rs1, vs⟩ := q
    unfold zk_fcl at hw
    simp only at hw h1
    split at hw
    · rename_i hk
      have hk := Nat.eq_of_beq_eq_true hk
      subst hk
      split at hw
      · rename_i rs' i' K' v' heq
        cases heq
        split at hw
        · rename_i he
          simp only [Bool.and_eq_true] at he
          obtain ⟨⟨⟨e1, e2⟩, e3⟩, e4⟩ := he
          have e1 := zk_fci_of (E := E) e1
          have e2 := zk_eqNs_of e2
          have e3 := zk_eqE_of h e3
          have e4 := zk_eqEs_of h e4
          subst e2
          cases hw
          simp only [List.map_cons, zk_S, zx_S, zx_90] at h1
          rw [e1, Int.toNat_natCast, ← List.map_take, ← List.map_drop] at h1
          rw [e3, e4]
          exact h1.2.2
        · exact up hw
      · exact up hw
    · exact up hw
def zk_gts {α : Type} (l : List α) : List Nat → Option (List α)
  | [] => some []
  | i :: r => match zk_get l i, zk_gts l r with
    | some a, some s => some (a :: s)
    | _, _ => none
/-! an expression worked out, sign by sign; none: not known -/
def zk_s1 (f : zk_V → zk_V) : Option zk_V → Option zk_V
  | some a => some (f a)
  | none => none
def zk_s2 (f : zk_V → zk_V → zk_V) : Option zk_V → Option zk_V → Option zk_V
  | some a, some b => some (f a b)
  | _, _ => none
def zk_srd (N : zk_N) (R : List Nat) (r : Nat) : Option zk_V → Option zk_V
  | some v => match zk_get R r with
    | some a => zk_frd N a v N.2.2.2
    | none => none
  | none => none
def zk_sop (N : zk_N) (o : Nat) (a b : Option zk_V) : Option zk_V := match a with
  | some x => match o with
    | 4 => match zk_in N x with
      | true => some x
      | false => zk_fl4 N x N.2.2.2
    | 6 => match b with
      | some y => zk_fq6 N x y N.2.2.2
      | none => none
    | _ => none
  | none => none
def zk_sle (N : zk_N) : Option zk_V → Option zk_V → Option zk_V
  | some x, some y => match zk_n2 N (zk_vsub y x) with
    | true => some (zk_c 1)
    | false => match zk_n2 N (zk_vsub (zk_vsub x y) (zk_c 1)) with
      | true => some (zk_c 0)
      | false => none
  | _, _ => none
def zk_seq (N : zk_N) : Option zk_V → Option zk_V → Option zk_V
  | some x, some y => match zk_eqE N x y with
    | true => some (zk_c 1)
    | false => match zk_nz N (zk_vsub x y) || zk_nz N (zk_vsub y x) with
      | true => some (zk_c 0)
      | false => none
  | _, _ => none
/-- 0: it is 0; 1: it is not; 2: not known -/
def zk_b3 : Option zk_V → Nat
  | some v => match zk_cst v with
    | some z => match zk_eqi z 0 with
      | true => 0
      | false => 1
    | none => 2
  | none => 2
def zk_san (a b : Option zk_V) : Option zk_V := match zk_b3 a, zk_b3 b with
  | 0, _ => some (zk_c 0)
  | _, 0 => some (zk_c 0)
  | 1, 1 => some (zk_c 1)
  | _, _ => none
def zk_snt (a : Option zk_V) : Option zk_V := match zk_b3 a with
  | 0 => some (zk_c 1)
  | 1 => some (zk_c 0)
  | _ => none
def zk_sit (c a b : Option zk_V) : Option zk_V := match zk_b3 c with
  | 0 => b
  | 1 => a
  | _ => none
def zk_scl (N : zk_N) (id : Nat) (R : List Nat) (i : Nat) (a b c d e : Option zk_V) : List Nat → Option zk_V
  | n :: j :: rs => match a, b, c, d, e with
    | some a, some b, some c, some d, some e => match Nat.blt i id, zk_gts R rs with
      | true, some rs' => match zk_fcl N i rs' ([a, b, c, d].take n) e N.2.2.2 with
        | some s => zk_get s j
        | none => none
      | _, _ => none
    | _, _, _, _, _ => none
  | _ => none
def zk_sst (N : zk_N) (id : Nat) (R : List Nat) (P : List zk_V) (k : zk_V) (S : List zk_V) (q : zx_I) (st : List (Option zk_V)) : List (Option zk_V) := match q.1, st with
  | 0, st => some (zk_c q.2.1) :: st
  | 1, st => zk_get P q.2.1.toNat :: st
  | 2, st => some k :: st
  | 3, st => zk_get S q.2.1.toNat :: st
  | 4, e :: st => zk_srd N R q.2.1.toNat e :: st
  | 5, b :: a :: st => zk_s2 zk_vadd a b :: st
  | 6, b :: a :: st => zk_s2 zk_vsub a b :: st
  | 7, a :: st => zk_s1 (zk_vmul q.2.1) a :: st
  | 8, b :: a :: st => zk_sop N q.2.1.toNat a b :: st
  | 9, b :: a :: st => zk_sle N a b :: st
  | 10, b :: a :: st => zk_seq N a b :: st
  | 11, b :: a :: st => zk_san a b :: st
  | 12, a :: st => zk_snt a :: st
  | 13, b :: a :: c :: st => zk_sit c a b :: st
  | 14, e :: d :: c :: b :: a :: st => zk_scl N id R q.2.1.toNat a b c d e q.2.2 :: st
  | _, _ => []
def zk_sevl (N : zk_N) (id : Nat) (R : List Nat) (P : List zk_V) (k : zk_V) (S : List zk_V) : List zx_I → List (Option zk_V) → List (Option zk_V)
  | [], st => st
  | q :: l, st => zk_sevl N id R P k S l (zk_sst N id R P k S q st)
def zk_sev (N : zk_N) (id : Nat) (R : List Nat) (P : List zk_V) (k : zk_V) (S : List zk_V) (x : List zx_I) : Option zk_V := match zk_sevl N id R P k S x [] with
  | a :: _ => a
  | [] => none
/-- a value that is known is so -/
def zk_sr (E : zk_E) (o : Option zk_V) (z : Int) : Prop := ∀ v, o = some v → zk_i E v = z
def zk_srs (E : zk_E) : List (Option zk_V) → List Int → Prop
  | [], _ => True
  | o :: l, z :: r => zk_sr E o z ∧ zk_srs E l r
  | _ :: _, [] => False
theorem zk_srs_c {E : zk_E} {o : Option zk_V} {l : List (Option zk_V)} {z : Int} {r : List Int} (h1 : zk_sr E o z) (h2 : zk_srs E l r) : zk_srs E (o :: l) (z :: r) := ⟨h1, h2⟩
theorem zk_srs_d {E : zk_E} {o : Option zk_V} {l : List (Option zk_V)} {st : List Int} (h : zk_srs E (o :: l) st) : ∃ z r, st = z :: r ∧ zk_sr E o z ∧ zk_srs E l r := by
  cases st with
  | nil => exact h.elim
  | cons z r => exact ⟨z, r, rfl, h.1, h.2⟩
theorem zk_sr_none {E : zk_E} {z : Int} : zk_sr E none z := fun _ h => by cases h
theorem zk_sr_some {E : zk_E} {v : zk_V} {z : Int} (h : zk_i E v = z) : zk_sr E (some v) z := fun _ e => by
  cases e
  exact h
theorem zk_gts_of {α β : Type} {l : List α} {f : α → β} {d : β} : ∀ {r : List Nat} {s : List α}, zk_gts l r = some s → s.map f = r.map (fun i => (l.map f).getD i d) ∧ ∀ a ∈ s, a ∈ l
  | [], s, h => by
    unfold zk_gts at h
    cases h
    exact ⟨rfl, fun a ha => absurd ha List.not_mem_nil⟩
  | i :: r, s, h => by
    unfold zk_gts at h
    split at h
    · rename_i a s' h1 h2
      cases h
      obtain ⟨k1, k2⟩ := zk_gts_of (f := f) (d := d) h2
      rw [zk_get_eq] at h1
      refine ⟨?_, fun b hb => ?_⟩
      · rw [List.map_cons, List.map_cons, k1, List.getD_eq_getElem?_getD, List.getElem?_map, h1]
        rfl
      · rcases List.mem_cons.mp hb with rfl | hb
        · exact List.mem_of_getElem? h1
        · exact k2 b hb
    · cases h
theorem zk_getD_of {α β : Type} {l : List α} {f : α → β} {d : β} {i : Nat} {a : α} (h : zk_get l i = some a) : (l.map f).getD i d = f a ∧ a ∈ l := by
  rw [zk_get_eq] at h
  refine ⟨?_, List.mem_of_getElem? h⟩
  rw [List.getD_eq_getElem?_getD, List.getElem?_map, h]
  rfl
theorem zk_srd_of {E : zk_E} {N : zk_N} (h : zk_ok E N) {R : List Nat} {r : Nat} {o : Option zk_V} {z : Int} (ho : zk_sr E o z) : zk_sr E (zk_srd N R r o) (zx_R (R.map E.2) r z.toNat) := fun v hv => by
  unfold zk_srd at hv
  split at hv
  · rename_i u
    split at hv
    · rename_i a ha
      obtain ⟨e3, -⟩ := zk_getD_of (f := E.2) (d := fun _ => 0) ha
      have e4 := zk_frd_of h (fun q hq => hq) hv
      unfold zx_R
      rw [e3, ← ho u rfl]
      exact e4.symm
    · cases hv
  · cases hv
theorem zk_sop_of {E : zk_E} {N : zk_N} (h : zk_ok E N) {k : Nat} {o p : Option zk_V} {z w : Int} (ho : zk_sr E o z) (hp : zk_sr E p w) : zk_sr E (zk_sop N k o p) (zx_op k z w) := fun v hv => by
  unfold zk_sop at hv
  split at hv
  · rename_i x
    have hx := ho x rfl
    split at hv
    · split at hv
      · rename_i hi
        cases hv
        show _ = ((Int64.ofInt z).toInt32).toInt
        rw [← hx, Int64.toInt32_ofInt, zk_in_ok h hi]
      · rw [← hx]
        exact zk_fl4_of h (fun q hq => hq) hv
    · split at hv
      · rename_i y
        rw [← hx, ← hp y rfl]
        exact zk_fq6_of h (fun q hq => hq) hv
      · cases hv
    · cases hv
  · cases hv
theorem zk_sle_of {E : zk_E} {N : zk_N} (h : zk_ok E N) {o p : Option zk_V} {z w : Int} (ho : zk_sr E o z) (hp : zk_sr E p w) : zk_sr E (zk_sle N o p) (if z ≤ w then 1 else 0) := fun v hv => by
  unfold zk_sle at hv
  split at hv
  · rename_i x y
    have hx := ho x rfl
    have hy := hp y rfl
    split at hv
    · rename_i hn
      have hn := zk_n2_ok h hn
      rw [zk_vsub_i] at hn
      cases hv
      rw [if_pos (by omega)]
      exact zk_c_i E _
    · split at hv
      · rename_i hn
        have hn := zk_n2_ok h hn
        rw [zk_vsub_i, zk_vsub_i, zk_c_i] at hn
        cases hv
        rw [if_neg (by omega)]
        exact zk_c_i E _
      · cases hv
  · cases hv
theorem zk_seq_of {E : zk_E} {N : zk_N} (h : zk_ok E N) {o p : Option zk_V} {z w : Int} (ho : zk_sr E o z) (hp : zk_sr E p w) : zk_sr E (zk_seq N o p) (if z = w then 1 else 0) := fun v hv => by
  unfold zk_seq at hv
  split at hv
  · rename_i x y
    have hx := ho x rfl
    have hy := hp y rfl
    split at hv
    · rename_i hn
      have hn := zk_eqE_of h hn
      cases hv
      rw [if_pos (by omega)]
      exact zk_c_i E _
    · split at hv
      · rename_i hn
        cases hv
        rw [if_neg ?_]
        · exact zk_c_i E _
        · simp only [Bool.or_eq_true] at hn
          rcases hn with hn | hn
          · have hn := zk_nz_ok h hn
            rw [zk_vsub_i] at hn
            omega
          · have hn := zk_nz_ok h hn
            rw [zk_vsub_i] at hn
            omega
      · cases hv
  · cases hv
theorem zk_b3_of {E : zk_E} {o : Option zk_V} {z : Int} (ho : zk_sr E o z) : (zk_b3 o = 0 → z = 0) ∧ (zk_b3 o = 1 → z ≠ 0) := by
  unfold zk_b3
  split
  · rename_i v
    have hv := ho v rfl
    split
    · rename_i c hc
      have hc := zk_cst_of (E := E) hc
      split
      · rename_i h0
        have h0 := zk_eqi_of h0
        exact ⟨(fun _ => by omega), (fun h => by cases h)⟩
      · rename_i h0
        refine ⟨(fun h => by cases h), fun _ e => ?_⟩
        have : c = 0 := by omega
        subst this
        rw [show zk_eqi 0 0 = true by decide] at h0
        cases h0
    · exact ⟨(fun h => by cases h), (fun h => by cases h)⟩
  · exact ⟨(fun h => by cases h), (fun h => by cases h)⟩
theorem zk_san_of {E : zk_E} {o p : Option zk_V} {z w : Int} (ho : zk_sr E o z) (hp : zk_sr E p w) : zk_sr E (zk_san o p) (if z ≠ 0 ∧ w ≠ 0 then 1 else 0) := fun v hv => by
  obtain ⟨a1, a2⟩ := zk_b3_of ho
  obtain ⟨b1, b2⟩ := zk_b3_of hp
  unfold zk_san at hv
  split at hv
  · rename_i h1
    cases hv
    rw [if_neg (fun g => g.1 (a1 h1))]
    exact zk_c_i E _
  · rename_i h1 _
    cases hv
    rw [if_neg (fun g => g.2 (b1 h1))]
    exact zk_c_i E _
  · rename_i h1 h2
    cases hv
    rw [if_pos ⟨a2 h1, b2 h2⟩]
    exact zk_c_i E _
  · cases hv
theorem zk_snt_of {E : zk_E} {o : Option zk_V} {z : Int} (ho : zk_sr E o z) : zk_sr E (zk_snt o) (if z = 0 then 1 else 0) := fun v hv => by
  obtain ⟨a1, a2⟩ := zk_b3_of ho
  unfold zk_snt at hv
  split at hv
  · rename_i h1
    cases hv
    rw [if_pos (a1 h1)]
    exact zk_c_i E _
  · rename_i h1
    cases hv
    rw [if_neg (a2 h1)]
    exact zk_c_i E _
  · cases hv
theorem zk_sit_of {E : zk_E} {c o p : Option zk_V} {y z w : Int} (hc : zk_sr E c y) (ho : zk_sr E o z) (hp : zk_sr E p w) : zk_sr E (zk_sit c o p) (if y = 0 then w else z) := fun v hv => by
  obtain ⟨a1, a2⟩ := zk_b3_of hc
  unfold zk_sit at hv
  split at hv
  · rename_i h1
    rw [if_pos (a1 h1)]
    exact hp v hv
  · rename_i h1
    rw [if_neg (a2 h1)]
    exact ho v hv
  · cases hv
theorem zk_scl_of {E : zk_E} {N : zk_N} (h : zk_ok E N) {id i : Nat} {R : List Nat} {a b c d e : Option zk_V} {za zb zc zd ze : Int} (ha : zk_sr E a za) (hb : zk_sr E b zb) (hc : zk_sr E c zc) (hd : zk_sr E d zd) (he : zk_sr E e ze) {l : List Nat} : zk_sr E (zk_scl N id R i a b c d e l) (zx_call (zx_G id) (R.map E.2) i za zb zc zd ze l) := fun v hv => by
  unfold zk_scl at hv
  split at hv
  · rename_i n j rs
    split at hv
    · rename_i a b c d e
      split at hv
      · rename_i rs' hi h0
        have hi := Nat.blt_eq.mp hi
        obtain ⟨g1, -⟩ := zk_gts_of (f := E.2) (d := fun _ => 0) h0
        split at hv
        · rename_i s hs
          have k1 := zk_fcl_of h (fun q hq => hq) hs
          obtain ⟨k3, -⟩ := zk_getD_of (f := zk_i E) (d := 0) hv
          show zk_i E v = (zx_G id i (rs.map (zx_R (R.map E.2))) ([za, zb, zc, zd].take n) ze.toNat).getD j 0
          rw [List.map_take] at k1
          rw [zx_G_F hi, ← ha a rfl, ← hb b rfl, ← hc c rfl, ← hd d rfl, ← he e rfl, ← k3, ← k1, g1]
          rfl
        · cases hv
      · cases hv
    · cases hv
  · cases hv
theorem zk_sst_of {E : zk_E} {N : zk_N} (h : zk_ok E N) {id : Nat} {R : List Nat} {P S : List zk_V} {k : zk_V} {q : zx_I} {st : List (Option zk_V)} {st' : List Int} (hst : zk_srs E st st') : zk_srs E (zk_sst N id R P k S q st) (zx_sst (zx_G id) (R.map E.2) (P.map (zk_i E)) (zk_i E k) (S.map (zk_i E)) q st') := by
  have hg : ∀ (l : List zk_V) (i : Nat), zk_sr E (zk_get l i) ((l.map (zk_i E)).getD i 0) := fun l i v hv => (zk_getD_of (f := zk_i E) (d := 0) hv).1.symm
  obtain ⟨op, n, l⟩ := q
  unfold zk_sst
  simp only
  split
  · exact zk_srs_c (zk_sr_some (zk_c_i E _)) hst
  · exact zk_srs_c (hg _ _) hst
  · exact zk_srs_c (zk_sr_some rfl) hst
  · exact zk_srs_c (hg _ _) hst
  · obtain ⟨z, r, rfl, h1, h2⟩ := zk_srs_d hst
    exact zk_srs_c (zk_srd_of h h1) h2
  · obtain ⟨w, r, rfl, h1, hst⟩ := zk_srs_d hst
    obtain ⟨z, r, rfl, h2, hst⟩ := zk_srs_d hst
    refine zk_srs_c (fun v hv => ?_) hst
    unfold zk_s2 at hv
    split at hv
    · cases hv
      rw [zk_vadd_i, h2 _ rfl, h1 _ rfl]
    · cases hv
  · obtain ⟨w, r, rfl, h1, hst⟩ := zk_srs_d hst
    obtain ⟨z, r, rfl, h2, hst⟩ := zk_srs_d hst
    refine zk_srs_c (fun v hv => ?_) hst
    unfold zk_s2 at hv
    split at hv
    · cases hv
      rw [zk_vsub_i, h2 _ rfl, h1 _ rfl]
    · cases hv
  · obtain ⟨z, r, rfl, h1, hst⟩ := zk_srs_d hst
    refine zk_srs_c (fun v hv => ?_) hst
    unfold zk_s1 at hv
    split at hv
    · cases hv
      rw [zk_vmul_i, h1 _ rfl]
    · cases hv
  · obtain ⟨w, r, rfl, h1, hst⟩ := zk_srs_d hst
    obtain ⟨z, r, rfl, h2, hst⟩ := zk_srs_d hst
    exact zk_srs_c (zk_sop_of h h2 h1) hst
  · obtain ⟨w, r, rfl, h1, hst⟩ := zk_srs_d hst
    obtain ⟨z, r, rfl, h2, hst⟩ := zk_srs_d hst
    exact zk_srs_c (zk_sle_of h h2 h1) hst
  · obtain ⟨w, r, rfl, h1, hst⟩ := zk_srs_d hst
    obtain ⟨z, r, rfl, h2, hst⟩ := zk_srs_d hst
    exact zk_srs_c (zk_seq_of h h2 h1) hst
  · obtain ⟨w, r, rfl, h1, hst⟩ := zk_srs_d hst
    obtain ⟨z, r, rfl, h2, hst⟩ := zk_srs_d hst
    exact zk_srs_c (zk_san_of h2 h1) hst
  · obtain ⟨z, r, rfl, h1, hst⟩ := zk_srs_d hst
    exact zk_srs_c (zk_snt_of h1) hst
  · obtain ⟨w, r, rfl, h1, hst⟩ := zk_srs_d hst
    obtain ⟨z, r, rfl, h2, hst⟩ := zk_srs_d hst
    obtain ⟨y, r, rfl, h3, hst⟩ := zk_srs_d hst
    exact zk_srs_c (zk_sit_of h3 h2 h1) hst
  · obtain ⟨ze, r, rfl, h1, hst⟩ := zk_srs_d hst
    obtain ⟨zd, r, rfl, h2, hst⟩ := zk_srs_d hst
    obtain ⟨zc, r, rfl, h3, hst⟩ := zk_srs_d hst
    obtain ⟨zb, r, rfl, h4, hst⟩ := zk_srs_d hst
    obtain ⟨za, r, rfl, h5, hst⟩ := zk_srs_d hst
    exact zk_srs_c (zk_scl_of h h5 h4 h3 h2 h1) hst
  · trivial
theorem zk_sevl_of {E : zk_E} {N : zk_N} (h : zk_ok E N) {id : Nat} {R : List Nat} {P S : List zk_V} {k : zk_V} : ∀ {x : List zx_I} {st : List (Option zk_V)} {st' : List Int}, zk_srs E st st' → zk_srs E (zk_sevl N id R P k S x st) (zx_evs (zx_G id) (R.map E.2) (P.map (zk_i E)) (zk_i E k) (S.map (zk_i E)) x st')
  | [], _, _, hst => hst
  | q :: l, _, _, hst => zk_sevl_of h (x := l) (zk_sst_of h hst)
theorem zk_sev_of {E : zk_E} {N : zk_N} (h : zk_ok E N) {id : Nat} {R : List Nat} {P S : List zk_V} {k : zk_V} {x : List zx_I} {v : zk_V} (hv : zk_sev N id R P k S x = some v) : zk_i E v = zx_ev (zx_G id) (R.map E.2) (P.map (zk_i E)) (zk_i E k) (S.map (zk_i E)) x := by
  have g := zk_sevl_of h (id := id) (R := R) (P := P) (S := S) (k := k) (x := x) (st := []) (st' := []) trivial
  unfold zk_sev at hv
  unfold zx_ev
  split at hv
  · rename_i o r he
    rw [he] at g
    match zx_evs (zx_G id) (R.map E.2) (P.map (zk_i E)) (zk_i E k) (S.map (zk_i E)) x [], g with
    | z :: r', ⟨g1, _⟩ => exact g1 v hv
  · cases hv
/-- expressions worked out, all of them -/
def zk_sevs (N : zk_N) (id : Nat) (R : List Nat) (P : List zk_V) (k : zk_V) (S : List zk_V) : List (List zx_I) → Option (List zk_V)
  | [] => some []
  | x :: l => match zk_sev N id R P k S x, zk_sevs N id R P k S l with
    | some v, some r => some (v :: r)
    | _, _ => none
theorem zk_sevs_of {E : zk_E} {N : zk_N} (h : zk_ok E N) {id : Nat} {R : List Nat} {P S : List zk_V} {k : zk_V} : ∀ {l : List (List zx_I)} {r : List zk_V}, zk_sevs N id R P k S l = some r → r.map (zk_i E) = l.map (zx_ev (zx_G id) (R.map E.2) (P.map (zk_i E)) (zk_i E k) (S.map (zk_i E)))
  | [], r, hr => by
    unfold zk_sevs at hr
    cases hr
    rfl
  | x :: l, r, hr => by
    unfold zk_sevs at hr
    split at hr
    · rename_i v r' h1 h2
      cases hr
      rw [List.map_cons, List.map_cons, zk_sev_of h h1, zk_sevs_of h h2]
    · cases hr
/-- what comes of it is told by symbols below the next one -/
theorem zk_frd_sv {N : zk_N} (hc : zk_cl N) {a : Nat} {i w : zk_V} : ∀ {l : List zk_G}, (∀ q ∈ l, q ∈ N.2.2.2) → zk_frd N a i l = some w → zk_sv N.1 w
  | [], _, hw => by cases hw
  | q :: l, hl, hw => by
    have up : zk_frd N a i l = some w → zk_sv N.1 w := zk_frd_sv hc fun q hq => hl q (List.mem_cons_of_mem _ hq)
    have h2 := hc.2.2 q (hl q List.mem_cons_self)
    obtain ⟨k, rs, vs⟩ := q
    unfold zk_frd at hw
    simp only at hw h2
    split at hw
    · split at hw
      · rename_i heq
        cases heq
        split at hw
        · cases hw
          exact h2.2 _ (by simp)
        · exact up hw
      · exact up hw
    · exact up hw
theorem zk_fl4_sv {N : zk_N} (hc : zk_cl N) {x w : zk_V} : ∀ {l : List zk_G}, (∀ q ∈ l, q ∈ N.2.2.2) → zk_fl4 N x l = some w → zk_sv N.1 w
  | [], _, hw => by cases hw
  | q :: l, hl, hw => by
    have up : zk_fl4 N x l = some w → zk_sv N.1 w := zk_fl4_sv hc fun q hq => hl q (List.mem_cons_of_mem _ hq)
    have h2 := hc.2.2 q (hl q List.mem_cons_self)
    obtain ⟨k, rs, vs⟩ := q
    unfold zk_fl4 at hw
    simp only at hw h2
    split at hw
    · split at hw
      · rename_i heq
        cases heq
        split at hw
        · cases hw
          exact h2.2 _ (by simp)
        · exact up hw
      · exact up hw
    · exact up hw
theorem zk_fq6_sv {N : zk_N} (hc : zk_cl N) {x y w : zk_V} : ∀ {l : List zk_G}, (∀ q ∈ l, q ∈ N.2.2.2) → zk_fq6 N x y l = some w → zk_sv N.1 w
  | [], _, hw => by cases hw
  | q :: l, hl, hw => by
    have up : zk_fq6 N x y l = some w → zk_sv N.1 w := zk_fq6_sv hc fun q hq => hl q (List.mem_cons_of_mem _ hq)
    have h2 := hc.2.2 q (hl q List.mem_cons_self)
    obtain ⟨k, rs, vs⟩ := q
    unfold zk_fq6 at hw
    simp only at hw h2
    split at hw
    · split at hw
      · rename_i heq
        cases heq
        split at hw
        · cases hw
          exact h2.2 _ (by simp)
        · exact up hw
      · exact up hw
    · exact up hw
theorem zk_fcl_sv {N : zk_N} (hc : zk_cl N) {id : Nat} {rs : List Nat} {ps w : List zk_V} {K : zk_V} : ∀ {l : List zk_G}, (∀ q ∈ l, q ∈ N.2.2.2) → zk_fcl N id rs ps K l = some w → ∀ v ∈ w, zk_sv N.1 v
  | [], _, hw => by cases hw
  | q :: l, hl, hw => by
    have up : zk_fcl N id rs ps K l = some w → ∀ v ∈ w, zk_sv N.1 v := zk_fcl_sv hc fun q hq => hl q (List.mem_cons_of_mem _ hq)
    have h2 := hc.2.2 q (hl q List.mem_cons_self)
    obtain ⟨k, rs1, vs⟩ := q
    unfold zk_fcl at hw
    simp only at hw h2
    split at hw
    · split at hw
      · rename_i heq
        cases heq
        split at hw
        · cases hw
          exact fun v hv => h2.2 v (List.mem_cons_of_mem _ (List.mem_cons_of_mem _ (List.mem_of_mem_drop hv)))
        · exact up hw
      · exact up hw
    · exact up hw
def zk_svo (n : Nat) (o : Option zk_V) : Prop := ∀ v, o = some v → zk_sv n v
theorem zk_svo_c {n : Nat} {z : Int} : zk_svo n (some (zk_c z)) := fun _ h => by
  cases h
  exact zk_c_sv
theorem zk_svo_n {n : Nat} : zk_svo n none := fun _ h => by cases h
theorem zk_svo_m {n : Nat} {l : List zk_V} (hl : ∀ v ∈ l, zk_sv n v) {i : Nat} : zk_svo n (zk_get l i) := fun v hv => hl v (zk_getD_of (f := fun x : zk_V => x) (d := zk_c 0) hv).2
theorem zk_sst_sv {N : zk_N} (hc : zk_cl N) {id : Nat} {R : List Nat} {P S : List zk_V} {k : zk_V} (hP : ∀ v ∈ P, zk_sv N.1 v) (hS : ∀ v ∈ S, zk_sv N.1 v) (hk : zk_sv N.1 k) {q : zx_I} {st : List (Option zk_V)} (hst : ∀ o ∈ st, zk_svo N.1 o) : ∀ o ∈ zk_sst N id R P k S q st, zk_svo N.1 o := by
  have co : ∀ {a : Option zk_V} {l : List (Option zk_V)}, zk_svo N.1 a → (∀ o ∈ l, zk_svo N.1 o) → ∀ o ∈ a :: l, zk_svo N.1 o := fun ha hl o ho => by
    rcases List.mem_cons.mp ho with rfl | ho
    · exact ha
    · exact hl o ho
  unfold zk_sst
  split
  · exact co zk_svo_c hst
  · exact co (zk_svo_m hP) hst
  · refine co (fun v hv => ?_) hst
    cases hv
    exact hk
  · exact co (zk_svo_m hS) hst
  · refine co (fun v hv => ?_) (fun o ho => hst o (by simp [ho]))
    unfold zk_srd at hv
    split at hv
    · split at hv
      · exact zk_frd_sv hc (fun q hq => hq) hv
      · cases hv
    · cases hv
  · refine co (fun v hv => ?_) (fun o ho => hst o (by simp [ho]))
    unfold zk_s2 at hv
    split at hv
    · cases hv
      exact zk_vadd_sv (hst _ (by simp) _ rfl) (hst _ (by simp) _ rfl)
    · cases hv
  · refine co (fun v hv => ?_) (fun o ho => hst o (by simp [ho]))
    unfold zk_s2 at hv
    split at hv
    · cases hv
      exact zk_vsub_sv (hst _ (by simp) _ rfl) (hst _ (by simp) _ rfl)
    · cases hv
  · refine co (fun v hv => ?_) (fun o ho => hst o (by simp [ho]))
    unfold zk_s1 at hv
    split at hv
    · cases hv
      exact zk_vmul_sv (hst _ (by simp) _ rfl)
    · cases hv
  · refine co (fun v hv => ?_) (fun o ho => hst o (by simp [ho]))
    unfold zk_sop at hv
    split at hv
    · split at hv
      · split at hv
        · cases hv
          exact hst _ (by simp) _ rfl
        · exact zk_fl4_sv hc (fun q hq => hq) hv
      · split at hv
        · exact zk_fq6_sv hc (fun q hq => hq) hv
        · cases hv
      · cases hv
    · cases hv
  · refine co (fun v hv => ?_) (fun o ho => hst o (by simp [ho]))
    unfold zk_sle at hv
    split at hv
    · split at hv
      · cases hv
        exact zk_c_sv
      · split at hv
        · cases hv
          exact zk_c_sv
        · cases hv
    · cases hv
  · refine co (fun v hv => ?_) (fun o ho => hst o (by simp [ho]))
    unfold zk_seq at hv
    split at hv
    · split at hv
      · cases hv
        exact zk_c_sv
      · split at hv
        · cases hv
          exact zk_c_sv
        · cases hv
    · cases hv
  · refine co (fun v hv => ?_) (fun o ho => hst o (by simp [ho]))
    unfold zk_san at hv
    split at hv
    · cases hv
      exact zk_c_sv
    · cases hv
      exact zk_c_sv
    · cases hv
      exact zk_c_sv
    · cases hv
  · refine co (fun v hv => ?_) (fun o ho => hst o (by simp [ho]))
    unfold zk_snt at hv
    split at hv
    · cases hv
      exact zk_c_sv
    · cases hv
      exact zk_c_sv
    · cases hv
  · refine co (fun v hv => ?_) (fun o ho => hst o (by simp [ho]))
    unfold zk_sit at hv
    split at hv
    · exact hst _ (by simp) v hv
    · exact hst _ (by simp) v hv
    · cases hv
  · refine co (fun v hv => ?_) (fun o ho => hst o (by simp [ho]))
    unfold zk_scl at hv
    split at hv
    · split at hv
      · split at hv
        · split at hv
          · rename_i s hs
            exact zk_fcl_sv hc (fun q hq => hq) hs v (zk_getD_of (f := fun x : zk_V => x) (d := zk_c 0) hv).2
          · cases hv
        · cases hv
      · cases hv
    · cases hv
  · exact fun o ho => absurd ho List.not_mem_nil
theorem zk_sevl_sv {N : zk_N} (hc : zk_cl N) {id : Nat} {R : List Nat} {P S : List zk_V} {k : zk_V} (hP : ∀ v ∈ P, zk_sv N.1 v) (hS : ∀ v ∈ S, zk_sv N.1 v) (hk : zk_sv N.1 k) : ∀ {x : List zx_I} {st : List (Option zk_V)}, (∀ o ∈ st, zk_svo N.1 o) → ∀ o ∈ zk_sevl N id R P k S x st, zk_svo N.1 o
  | [], _, hst => hst
  | q :: l, _, hst => zk_sevl_sv hc hP hS hk (x := l) (zk_sst_sv hc hP hS hk hst)
theorem zk_sev_sv {N : zk_N} (hc : zk_cl N) {id : Nat} {R : List Nat} {P S : List zk_V} {k : zk_V} (hP : ∀ v ∈ P, zk_sv N.1 v) (hS : ∀ v ∈ S, zk_sv N.1 v) (hk : zk_sv N.1 k) {x : List zx_I} {v : zk_V} (hv : zk_sev N id R P k S x = some v) : zk_sv N.1 v := by
  have g := zk_sevl_sv hc (id := id) (R := R) hP hS hk (x := x) (st := []) (fun o ho => absurd ho List.not_mem_nil)
  unfold zk_sev at hv
  split at hv
  · rename_i o r he
    rw [he] at g
    exact g o List.mem_cons_self v hv
  · cases hv
theorem zk_sevs_sv {N : zk_N} (hc : zk_cl N) {id : Nat} {R : List Nat} {P S : List zk_V} {k : zk_V} (hP : ∀ v ∈ P, zk_sv N.1 v) (hS : ∀ v ∈ S, zk_sv N.1 v) (hk : zk_sv N.1 k) : ∀ {l : List (List zx_I)} {r : List zk_V}, zk_sevs N id R P k S l = some r → ∀ v ∈ r, zk_sv N.1 v
  | [], r, hr => by
    unfold zk_sevs at hr
    cases hr
    exact fun v hv => absurd hv List.not_mem_nil
  | x :: l, r, hr => by
    unfold zk_sevs at hr
    split at hr
    · rename_i v r' h1 h2
      cases hr
      intro u hu
      rcases List.mem_cons.mp hu with rfl | hu
      · exact zk_sev_sv hc hP hS hk h1
      · exact zk_sevs_sv hc hP hS hk h2 u hu
    · cases hr
def zk_hd0 : List zk_V → zk_V
  | a :: _ => a
  | [] => ([], 0)
def zk_st90 (N : zk_N) (rs : List Nat) (id : Int) (K : zk_V) (v : List zk_V) (q : zk_G) : Bool := match Nat.beq q.1 90 with
  | true => match q.2 with
    | (rs', i' :: K' :: v') => zk_eqi (zk_fcl.zk_fci i') id && zk_eqNs rs' rs && zk_n2 N (zk_vsub K K') && zk_nz N (zk_hd0 (v'.drop (zx_dn id.toNat).1)) && zk_eqEs N v' v
    | _ => false
  | false => false
/-- what a told function is at first; or what it was once it stays -/
def zk_ok90 (N : zk_N) : List Nat × List zk_V → Bool
  | (rs, i :: K :: v) => zk_le 0 (zk_fcl.zk_fci i) && (
      (zk_eqE N K (zk_c 0) && (match zk_sevs N (zk_fcl.zk_fci i).toNat rs (v.take (zx_dn (zk_fcl.zk_fci i).toNat).1) (zk_c 0) [] (zx_dn (zk_fcl.zk_fci i).toNat).2.1 with
        | some s => zk_eqEs N s (v.drop (zx_dn (zk_fcl.zk_fci i).toNat).1)
        | none => false))
      || N.2.2.2.any (zk_st90 N rs (zk_fcl.zk_fci i) K v))
  | _ => false
theorem zx_it_stay {cl : zx_Cl} {d : zx_Df} {R : List (Nat → Int)} {P : List Int} {K : Nat} (h : (zx_it cl d R P K).getD 0 0 ≠ 0) : ∀ {n : Nat}, zx_it cl d R P (K + n) = zx_it cl d R P K
  | 0 => rfl
  | n + 1 => by
    have := zx_it_stay h (n := n)
    show (if (zx_it cl d R P (K + n)).getD 0 0 = 0 then _ else zx_it cl d R P (K + n)) = _
    rw [if_neg (by rw [this]; exact h), this]
theorem zk_fci_i {E : zk_E} {v : zk_V} (h : 0 ≤ zk_fcl.zk_fci v) : zk_i E v = zk_fcl.zk_fci v := by
  unfold zk_fcl.zk_fci at h ⊢
  split at h
  · exact zk_c_i E _
  · omega
theorem zk_ok90_of {E : zk_E} {N : zk_N} (h : zk_ok E N) {x : List Nat × List zk_V} (hx : zk_ok90 N x = true) : zx_90 (x.1.map E.2) (x.2.map (zk_i E)) := by
  unfold zk_ok90 at hx
  split at hx
  · rename_i rs i K v
    simp only [Bool.and_eq_true, Bool.or_eq_true, List.any_eq_true] at hx
    obtain ⟨h0, hx⟩ := hx
    have h0 := zk_le_of h0
    have hi := zk_fci_i (E := E) h0
    simp only [List.map_cons, zx_90]
    rw [hi, ← List.map_take, ← List.map_drop]
    refine ⟨h0, ?_⟩
    rcases hx with ⟨h1, h2⟩ | ⟨q, hq, hx⟩
    · have h1 := zk_eqE_of h h1
      rw [zk_c_i] at h1
      rw [h1]
      refine ⟨by omega, ?_⟩
      split at h2
      · rename_i s hs'
        have h2 := zk_eqEs_of h h2
        have e1 := zk_sevs_of h hs'
        rw [← h2, e1]
        show List.map _ _ = _
        rw [zk_c_i]
        rfl
      · cases h2
    · obtain ⟨k, q2⟩ := q
      have t := h.2.2 _ hq
      unfold zk_st90 at hx
      simp only at hx t
      split at hx
      · rename_i hk
        have hk := Nat.eq_of_beq_eq_true hk
        subst hk
        split at hx
        · rename_i rs' i' K' v'
          simp only [Bool.and_eq_true] at hx
          obtain ⟨⟨⟨⟨a1, a2⟩, a3⟩, a4⟩, a5⟩ := hx
          have a1 := zk_eqi_of a1
          have a2 := zk_eqNs_of a2
          have a3 := zk_n2_ok h a3
          have a4 := zk_nz_ok h a4
          have a5 := zk_eqEs_of h a5
          subst a2
          rw [zk_vsub_i] at a3
          simp only [List.map_cons, zk_S, zx_S, zx_90] at t
          have hi' : zk_i E i' = zk_fcl.zk_fci i := by
            rw [← a1]
            exact zk_fci_i (by rw [a1]; exact h0)
          obtain ⟨t1, t2, t3⟩ := t
          rw [hi'] at t3
          refine ⟨by omega, ?_⟩
          rw [List.map_take, List.map_drop, ← a5]
          rw [← t3]
          have ek : (zk_i E K).toNat = (zk_i E K').toNat + ((zk_i E K).toNat - (zk_i E K').toNat) := by omega
          rw [ek]
          have hst : (zx_it (zx_G (zk_fcl.zk_fci i).toNat) (zx_dn (zk_fcl.zk_fci i).toNat) (List.map E.2 rs') (List.take (zx_dn (zk_fcl.zk_fci i).toNat).1 (List.map (zk_i E) v')) (zk_i E K').toNat).getD 0 0 ≠ 0 := by
            show (zx_F (zk_fcl.zk_fci i).toNat (List.map E.2 rs') (List.take (zx_dn (zk_fcl.zk_fci i).toNat).1 (List.map (zk_i E) v')) (zk_i E K').toNat).getD 0 0 ≠ 0
            rw [t3, ← List.map_drop]
            cases hd : v'.drop (zx_dn (zk_fcl.zk_fci i).toNat).1 with
            | nil =>
              rw [hd] at a4
              exact absurd (zk_c_i E 0) a4
            | cons a l =>
              rw [hd] at a4
              exact a4
          exact zx_it_stay hst
        · cases hx
      · cases hx
  · cases hx
