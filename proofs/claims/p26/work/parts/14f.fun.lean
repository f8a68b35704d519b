noncomputable section
/-! TOLD FUNCTIONS worked out by what is known -/
/-- a read known, as far as places are known to be the same -/
def zk_frd (N : zk_N) (a : Nat) (i : zk_V) : List zk_G → Option zk_V
  | [] => none
  | q :: l => match Nat.beq q.1 1 with
    | true => match q.2 with
      | ([b], [j, w]) => match Nat.beq b a && zk_eqE N i j with
        | true => some w
        | false => zk_frd N a i l
      | _ => zk_frd N a i l
    | false => zk_frd N a i l
theorem zk_frd_of {E : zk_E} {N : zk_N} (h : zk_ok E N) {a : Nat} {i w : zk_V} : ∀ {l : List zk_G}, (∀ q ∈ l, q ∈ N.2.2.2) → zk_frd N a i l = some w → E.2 a (zk_i E i).toNat = zk_i E w 
  | [], _, hw => by cases hw
  | q :: l, hl, hw => by
    have up : zk_frd N a i l = some w → E.2 a (zk_i E i).toNat = zk_i E w := zk_frd_of h fun q hq => hl q (List.mem_cons_of_mem _ hq)
    have hm := hl q List.mem_cons_self
    have h1 := h.2.2 q hm
    obtain ⟨k, rs, vs⟩ := q
    unfold zk_frd at hw
    simp only at hw h1
    split at hw
    · rename_i hk
      have hk := Nat.eq_of_beq_eq_true hk
      subst hk
      split at hw
      · rename_i b j w' heq
        cases heq
        split at hw
        · rename_i he
          simp only [Bool.and_eq_true] at he
          have e1 := Nat.eq_of_beq_eq_true he.1
          have e2 := zk_eqE_of h he.2
          subst e1
          cases hw
          simp only [List.map_cons, List.map_nil, zk_S] at h1
          rw [e2]
          exact h1
        · exact up hw
      · exact up hw
    · exact up hw
/-- a long's int known -/
def zk_fl4 (N : zk_N) (x : zk_V) : List zk_G → Option zk_V
  | [] => none
  | q :: l => match Nat.beq q.1 4 with
    | true => match q.2 with
      | ([], [y, w]) => match zk_eqE N x y with
        | true => some w
        | false => zk_fl4 N x l
      | _ => zk_fl4 N x l
    | false => zk_fl4 N x l
theorem zk_fl4_of {E : zk_E} {N : zk_N} (h : zk_ok E N) {x w : zk_V} : ∀ {l : List zk_G}, (∀ q ∈ l, q ∈ N.2.2.2) → zk_fl4 N x l = some w → zk_i E w = ((Int64.ofInt (zk_i E x)).toInt32).toInt 
  | [], _, hw => by cases hw
  | q :: l, hl, hw => by
    have up : zk_fl4 N x l = some w → zk_i E w = ((Int64.ofInt (zk_i E x)).toInt32).toInt := zk_fl4_of h fun q hq => hl q (List.mem_cons_of_mem _ hq)
    have hm := hl q List.mem_cons_self
    have h1 := h.2.2 q hm
    obtain ⟨k, rs, vs⟩ := q
    unfold zk_fl4 at hw
    simp only at hw h1
    split at hw
    · rename_i hk
      have hk := Nat.eq_of_beq_eq_true hk
      subst hk
      split at hw
      · rename_i y w' heq
        cases heq
        split at hw
        · rename_i he
          have e2 := zk_eqE_of h he
          cases hw
          simp only [List.map_cons, List.map_nil, zk_S] at h1
          rw [e2]
          exact h1.symm
        · exact up hw
      · exact up hw
    · exact up hw
/-- a quotient known -/
def zk_fq6 (N : zk_N) (x y : zk_V) : List zk_G → Option zk_V
  | [] => none
  | q :: l => match Nat.beq q.1 6 with
    | true => match q.2 with
      | ([], [x', y', w]) => match zk_eqE N x x' && zk_eqE N y y' && zk_n2 N x && zk_n2 N (zk_vsub y (zk_c 1)) with
        | true => some w
        | false => zk_fq6 N x y l
      | _ => zk_fq6 N x y l
    | false => zk_fq6 N x y l
theorem zk_fq6_of {E : zk_E} {N : zk_N} (h : zk_ok E N) {x y w : zk_V} : ∀ {l : List zk_G}, (∀ q ∈ l, q ∈ N.2.2.2) → zk_fq6 N x y l = some w → zk_i E w = zk_i E x / zk_i E y 
  | [], _, hw => by cases hw
  | q :: l, hl, hw => by
    have up : zk_fq6 N x y l = some w → zk_i E w = zk_i E x / zk_i E y := zk_fq6_of h fun q hq => hl q (List.mem_cons_of_mem _ hq)
    have hm := hl q List.mem_cons_self
    have h1 := h.2.2 q hm
    obtain ⟨k, rs, vs⟩ := q
    unfold zk_fq6 at hw
    simp only at hw h1
    split at hw
    · rename_i hk
      have hk := Nat.eq_of_beq_eq_true hk
      subst hk
      split at hw
      · rename_i x' y' w' heq
        cases heq
        split at hw
        · rename_i he
          simp only [Bool.and_eq_true] at he
          obtain ⟨⟨⟨e1, e2⟩, e3⟩, e4⟩ := he
          have e1 := zk_eqE_of h e1
          have e2 := zk_eqE_of h e2
          have e3 := zk_n2_ok h e3
          have e4 := zk_n2_ok h e4
          rw [zk_vsub_i, zk_c_i] at e4
          cases hw
          simp only [List.map_cons, List.map_nil, zq_6, zq_7, zq_8, zq_9, zq_20, zq_21, zq_22, zq_25, zq_26, zq_28, zq_30, zq_40, zq_51, zq_52, zq_53, zq_54, zq_55, zq_64, zq_65, zq_68, zq_72, zq_73, zq_85, zq_74, zq_75, zq_76, zq_71, zq_86, zq_87, zq_80, zq_41, zq_42, zq_43, zq_94, zq_95, zq_47, zq_48, zq_96, zq_97, zq_88, zq_89, zq_90, zq_93, zq_61, zq_62, zq_1, zq_2, zq_3, zq_4, zq_5, zq_46, zq_44] at h1
          rw [e1, e2]
          exact h1 (by omega) (by omega)
        · exact up hw
      · exact up hw
    · exact up hw
/-- an int's value known: what wraps -/
def zk_f7 (N : zk_N) (x : zk_V) : List zk_G → Option zk_V
  | [] => none
  | q :: l => match Nat.beq q.1 7 with
    | true => match q.2 with
      | ([], [y, w]) => match zk_eqE N x y && zk_in N w with
        | true => some w
        | false => zk_f7 N x l
      | _ => zk_f7 N x l
    | false => zk_f7 N x l
theorem zk_f7_m {N : zk_N} {x w : zk_V} : ∀ {l : List zk_G}, zk_f7 N x l = some w → ∃ y, (7, [], [y, w]) ∈ l ∧ zk_eqE N x y = true ∧ zk_in N w = true
  | [], hw => by cases hw
  | q :: l, hw => by
    have up : zk_f7 N x l = some w → ∃ y, (7, [], [y, w]) ∈ q :: l ∧ zk_eqE N x y = true ∧ zk_in N w = true := fun h => by
      obtain ⟨y, h1, h2⟩ := zk_f7_m h
      exact ⟨y, List.mem_cons_of_mem _ h1, h2⟩
    obtain ⟨k, q2⟩ := q
    unfold zk_f7 at hw
    simp only at hw
    split at hw
    · rename_i hk
      have hk := Nat.eq_of_beq_eq_true hk
      subst hk
      split at hw
      · rename_i y w'
        split at hw
        · rename_i c
          rw [Bool.and_eq_true] at c
          cases hw
          exact ⟨y, List.mem_cons_self, c.1, c.2⟩
        · exact up hw
      · exact up hw
    · exact up hw
theorem zk_f7_of {E : zk_E} {N : zk_N} (h : zk_ok E N) {x w : zk_V} (hw : zk_f7 N x N.2.2.2 = some w) : zk_i E w = (Int32.ofInt (zk_i E x)).toInt := by
  obtain ⟨y, h1, h2, h3⟩ := zk_f7_m hw
  have t := h.2.2 _ h1
  simp only [List.map_cons, List.map_nil, zq_6, zq_7, zq_8, zq_9, zq_20, zq_21, zq_22, zq_25, zq_26, zq_28, zq_30, zq_40, zq_51, zq_52, zq_53, zq_54, zq_55, zq_64, zq_65, zq_68, zq_72, zq_73, zq_85, zq_74, zq_75, zq_76, zq_71, zq_86, zq_87, zq_80, zq_41, zq_42, zq_43, zq_94, zq_95, zq_47, zq_48, zq_96, zq_97, zq_88, zq_89, zq_90, zq_93, zq_61, zq_62, zq_1, zq_2, zq_3, zq_4, zq_5, zq_46, zq_44] at t
  rw [zk_eqE_of h h2, t, zk_in_ok h h3]
/-- an int that comes of two, known -/
def zk_f80 (N : zk_N) (o : Nat) (x y : zk_V) : List zk_G → Option zk_V
  | [] => none
  | q :: l => match Nat.beq q.1 80 with
    | true => match q.2 with
      | ([], [o', x', y', w]) => match zk_eqv o' (zk_c (Int.ofNat o)) && zk_eqE N x x' && zk_eqE N y y' && zk_in N w with
        | true => some w
        | false => zk_f80 N o x y l
      | _ => zk_f80 N o x y l
    | false => zk_f80 N o x y l
theorem zk_f80_m {N : zk_N} {o : Nat} {x y w : zk_V} : ∀ {l : List zk_G}, zk_f80 N o x y l = some w → ∃ x' y', (80, [], [zk_c (Int.ofNat o), x', y', w]) ∈ l ∧ zk_eqE N x x' = true ∧ zk_eqE N y y' = true ∧ zk_in N w = true
  | [], hw => by cases hw
  | q :: l, hw => by
    have up : zk_f80 N o x y l = some w → ∃ x' y', (80, [], [zk_c (Int.ofNat o), x', y', w]) ∈ q :: l ∧ zk_eqE N x x' = true ∧ zk_eqE N y y' = true ∧ zk_in N w = true := fun h => by
      obtain ⟨x', y', h1, h2⟩ := zk_f80_m h
      exact ⟨x', y', List.mem_cons_of_mem _ h1, h2⟩
    obtain ⟨k, q2⟩ := q
    unfold zk_f80 at hw
    simp only at hw
    split at hw
    · rename_i hk
      have hk := Nat.eq_of_beq_eq_true hk
      subst hk
      split at hw
      · rename_i o' x' y' w'
        split at hw
        · rename_i c
          simp only [Bool.and_eq_true] at c
          obtain ⟨⟨⟨c1, c2⟩, c3⟩, c4⟩ := c
          have c1 := zk_eqv_of c1
          subst c1
          cases hw
          exact ⟨x', y', List.mem_cons_self, c2, c3, c4⟩
        · exact up hw
      · exact up hw
    · exact up hw
theorem zk_f80_of {E : zk_E} {N : zk_N} (h : zk_ok E N) {o : Nat} {x y w : zk_V} (hw : zk_f80 N o x y N.2.2.2 = some w) : zk_i E w = (zx_o32 o (Int32.ofInt (zk_i E x)) (Int32.ofInt (zk_i E y))).toInt := by
  obtain ⟨x', y', h1, h2, h3, h4⟩ := zk_f80_m hw
  have t := h.2.2 _ h1
  simp only [List.map_cons, List.map_nil, zq_6, zq_7, zq_8, zq_9, zq_20, zq_21, zq_22, zq_25, zq_26, zq_28, zq_30, zq_40, zq_51, zq_52, zq_53, zq_54, zq_55, zq_64, zq_65, zq_68, zq_72, zq_73, zq_85, zq_74, zq_75, zq_76, zq_71, zq_86, zq_87, zq_80, zq_41, zq_42, zq_43, zq_94, zq_95, zq_47, zq_48, zq_96, zq_97, zq_88, zq_89, zq_90, zq_93, zq_61, zq_62, zq_1, zq_2, zq_3, zq_4, zq_5, zq_46, zq_44, zk_c_i] at t
  rw [zk_eqE_of h h2, zk_eqE_of h h3, ← zk_in_ok h h4, t]
  rfl
theorem zk_f7_sv {N : zk_N} (hc : zk_cl N) {x w : zk_V} (hw : zk_f7 N x N.2.2.2 = some w) : zk_sv N.1 w := by
  obtain ⟨y, h1, -⟩ := zk_f7_m hw
  exact (hc.2.2 _ h1).2 _ (by simp)
theorem zk_f80_sv {N : zk_N} (hc : zk_cl N) {o : Nat} {x y w : zk_V} (hw : zk_f80 N o x y N.2.2.2 = some w) : zk_sv N.1 w := by
  obtain ⟨x', y', h1, -⟩ := zk_f80_m hw
  exact (hc.2.2 _ h1).2 _ (by simp)
/-- which name a byte is, known -/
def zk_f86 (N : zk_N) (x : zk_V) : List zk_G → Option zk_V
  | [] => none
  | q :: l => match Nat.beq q.1 86 with
    | true => match q.2 with
      | ([], [y, w]) => match zk_eqE N x y with
        | true => some w
        | false => zk_f86 N x l
      | _ => zk_f86 N x l
    | false => zk_f86 N x l
theorem zk_f86_of {E : zk_E} {N : zk_N} (h : zk_ok E N) {x w : zk_V} : ∀ {l : List zk_G}, (∀ q ∈ l, q ∈ N.2.2.2) → zk_f86 N x l = some w → zk_i E w = zx_nm (Int32.ofInt (zk_i E x)).toInt
  | [], _, hw => by cases hw
  | q :: l, hl, hw => by
    have up : zk_f86 N x l = some w → zk_i E w = zx_nm (Int32.ofInt (zk_i E x)).toInt := zk_f86_of h fun q hq => hl q (List.mem_cons_of_mem _ hq)
    have hm := hl q List.mem_cons_self
    have h1 := h.2.2 q hm
    obtain ⟨k, rs, vs⟩ := q
    unfold zk_f86 at hw
    simp only at hw h1
    split at hw
    · rename_i hk
      have hk := Nat.eq_of_beq_eq_true hk
      subst hk
      split at hw
      · rename_i y w' heq
        cases heq
        split at hw
        · rename_i he
          have e2 := zk_eqE_of h he
          cases hw
          simp only [List.map_cons, List.map_nil, zq_6, zq_7, zq_8, zq_9, zq_20, zq_21, zq_22, zq_25, zq_26, zq_28, zq_30, zq_40, zq_51, zq_52, zq_53, zq_54, zq_55, zq_64, zq_65, zq_68, zq_72, zq_73, zq_85, zq_74, zq_75, zq_76, zq_71, zq_86, zq_87, zq_80, zq_41, zq_42, zq_43, zq_94, zq_95, zq_47, zq_48, zq_96, zq_97, zq_88, zq_89, zq_90, zq_93, zq_61, zq_62, zq_1, zq_2, zq_3, zq_4, zq_5, zq_46, zq_44] at h1
          rw [e2]
          exact h1
        · exact up hw
      · exact up hw
    · exact up hw
theorem zk_f86_sv {N : zk_N} (hc : zk_cl N) {x w : zk_V} : ∀ {l : List zk_G}, (∀ q ∈ l, q ∈ N.2.2.2) → zk_f86 N x l = some w → zk_sv N.1 w
  | [], _, hw => by cases hw
  | q :: l, hl, hw => by
    have up : zk_f86 N x l = some w → zk_sv N.1 w := zk_f86_sv hc fun q hq => hl q (List.mem_cons_of_mem _ hq)
    have h2 := hc.2.2 q (hl q List.mem_cons_self)
    obtain ⟨k, rs, vs⟩ := q
    unfold zk_f86 at hw
    simp only at hw h2
    split at hw
    · split at hw
      · rename_i heq
        cases heq
        split at hw
        · cases hw
          exact h2.2 _ (by simp)
        · exact up hw
      · exact up hw
    · exact up hw
def zk_n86 (N : zk_N) (x : zk_V) : Option zk_V := match zk_eqE N x (zk_c 97) with
  | true => some (zk_c 0)
  | false => match zk_eqE N x (zk_c 98) with
    | true => some (zk_c 1)
    | false => match zk_eqE N x (zk_c 108) with
      | true => some (zk_c 2)
      | false => match zk_eqE N x (zk_c 116) with
        | true => some (zk_c 3)
        | false => match zk_eqE N x (zk_c 110) with
          | true => some (zk_c 4)
          | false => match zk_eqE N x (zk_c 100) with
            | true => some (zk_c 5)
            | false => match zk_nz N (zk_vsub x (zk_c 97)) && zk_nz N (zk_vsub x (zk_c 98)) && zk_nz N (zk_vsub x (zk_c 108)) && zk_nz N (zk_vsub x (zk_c 116)) && zk_nz N (zk_vsub x (zk_c 110)) && zk_nz N (zk_vsub x (zk_c 100)) with
              | true => some (zk_c (-1))
              | false => none
theorem zk_n86_of {E : zk_E} {N : zk_N} (h : zk_ok E N) {x w : zk_V} (hw : zk_n86 N x = some w) : zk_i E w = zx_nm (zk_i E x) ∧ True := by
  unfold zk_n86 at hw
  split at hw
  · rename_i hc
    have hc := zk_eqE_of h hc
    rw [zk_c_i] at hc
    cases hw
    rw [hc, zk_c_i]
    exact ⟨by decide, trivial⟩
  · skip
    split at hw
    · rename_i hc
      have hc := zk_eqE_of h hc
      rw [zk_c_i] at hc
      cases hw
      rw [hc, zk_c_i]
      exact ⟨by decide, trivial⟩
    · skip
      split at hw
      · rename_i hc
        have hc := zk_eqE_of h hc
        rw [zk_c_i] at hc
        cases hw
        rw [hc, zk_c_i]
        exact ⟨by decide, trivial⟩
      · skip
        split at hw
        · rename_i hc
          have hc := zk_eqE_of h hc
          rw [zk_c_i] at hc
          cases hw
          rw [hc, zk_c_i]
          exact ⟨by decide, trivial⟩
        · skip
          split at hw
          · rename_i hc
            have hc := zk_eqE_of h hc
            rw [zk_c_i] at hc
            cases hw
            rw [hc, zk_c_i]
            exact ⟨by decide, trivial⟩
          · skip
            split at hw
            · rename_i hc
              have hc := zk_eqE_of h hc
              rw [zk_c_i] at hc
              cases hw
              rw [hc, zk_c_i]
              exact ⟨by decide, trivial⟩
            · skip
              split at hw
              · rename_i hc
                simp only [Bool.and_eq_true] at hc
                obtain ⟨⟨⟨⟨⟨a1, a2⟩, a3⟩, a4⟩, a5⟩, a6⟩ := hc
                have a1 := zk_nz_ok h a1
                rw [zk_vsub_i, zk_c_i] at a1
                have a2 := zk_nz_ok h a2
                rw [zk_vsub_i, zk_c_i] at a2
                have a3 := zk_nz_ok h a3
                rw [zk_vsub_i, zk_c_i] at a3
                have a4 := zk_nz_ok h a4
                rw [zk_vsub_i, zk_c_i] at a4
                have a5 := zk_nz_ok h a5
                rw [zk_vsub_i, zk_c_i] at a5
                have a6 := zk_nz_ok h a6
                rw [zk_vsub_i, zk_c_i] at a6
                cases hw
                refine ⟨?_, trivial⟩
                rw [zk_c_i]
                unfold zx_nm
                rw [if_neg (by omega), if_neg (by omega), if_neg (by omega), if_neg (by omega), if_neg (by omega), if_neg (by omega)]
              · cases hw
/-- a number that is told -/
def zk_cst : zk_V → Option Int
  | ([], z) => some z
  | _ => none
theorem zk_cst_of {E : zk_E} {v : zk_V} {z : Int} (h : zk_cst v = some z) : zk_i E v = z := by
  unfold zk_cst at h
  split at h
  · cases h
    exact zk_c_i E _
  · cases h
def zk_hd0 : List zk_V → zk_V
  | a :: _ => a
  | [] => ([], 0)
theorem zx_it_stay {cl : zx_Cl} {d : zx_Df} {R : List zx_Rw} {P : List Int} {K : Nat} (h : (zx_it cl d R P K).1.getD 0 0 ≠ 0) : ∀ {n : Nat}, zx_it cl d R P (K + n) = zx_it cl d R P K
  | 0 => rfl
  | n + 1 => by
    have := zx_it_stay h (n := n)
    show (if (zx_it cl d R P (K + n)).1.getD 0 0 = 0 then _ else zx_it cl d R P (K + n)) = _
    rw [if_neg (by rw [this]; exact h), this]
/-- a told function's number -/
def zk_fci (N : zk_N) (v : zk_V) : Int := match zk_rng N v with
  | some r => match zk_eqi r.1 r.2 with
    | true => r.1
    | false => -1
  | none => -1
theorem zk_fci_i {E : zk_E} {N : zk_N} (hN : zk_ok E N) {v : zk_V} (h : 0 ≤ zk_fci N v) : zk_i E v = zk_fci N v := by
  unfold zk_fci at h ⊢
  split at h
  · rename_i r hr
    have hb := zk_rng_ok hN hr
    split at h
    · rename_i hq
      have hq := zk_eqi_of hq
      omega
    · omega
  · omega
theorem zk_fci_of {E : zk_E} {N : zk_N} (hN : zk_ok E N) {v : zk_V} {n : Nat} (h : zk_eqi (zk_fci N v) (Int.ofNat n) = true) : zk_i E v = (n : Int) := by
  have h := zk_eqi_of h
  have e : Int.ofNat n = (n : Int) := rfl
  rw [zk_fci_i hN (by omega), h, e]
theorem zk_hd0_m {E : zk_E} {S : List zk_V} : (S.map (zk_i E)).getD 0 0 = zk_i E (zk_hd0 S) := by
  cases S with
  | nil => exact (zk_c_i E 0).symm
  | cons a l => rfl
/-- a told function known: its state -/
def zk_fcm (N : zk_N) (id : Nat) (rs : List Nat) (ps : List zk_V) (K : zk_V) (rs' : List Nat) (i' : zk_V) (v' : List zk_V) : Bool := zk_eqi (zk_fci N i') (Int.ofNat id) && zk_eqNs rs (rs'.take (rs'.length - (zx_dn id).2.1)) && zk_eqEs N ps (v'.take (zx_dn id).1)
def zk_fce (N : zk_N) (id : Nat) (K K' : zk_V) (v' : List zk_V) : Bool := zk_nz N (zk_hd0 (v'.drop (zx_dn id).1)) && zk_n2 N (zk_vsub K K')
def zk_fcl (N : zk_N) (id : Nat) (rs : List Nat) (ps : List zk_V) (K : zk_V) : List zk_G → Option (List zk_V)
  | [] => none
  | q :: l => match Nat.beq q.1 90 with
    | true => match q.2 with
      | (rs', i' :: K' :: v') => match zk_fcm N id rs ps K rs' i' v' && (zk_eqE N K K' || zk_fce N id K K' v') with
        | true => some (v'.drop (zx_dn id).1)
        | false => zk_fcl N id rs ps K l
      | _ => zk_fcl N id rs ps K l
    | false => match Nat.beq q.1 93 with
      | true => match q.2 with
        | (rs', i' :: K' :: v') => match zk_fcm N id rs ps K rs' i' v' && zk_fce N id K K' v' with
          | true => some (v'.drop (zx_dn id).1)
          | false => zk_fcl N id rs ps K l
        | _ => zk_fcl N id rs ps K l
      | false => zk_fcl N id rs ps K l
theorem zx_F_st {id : Nat} {R : List zx_Rw} {P : List Int} {K K' : Nat} (h : (zx_F id R P K).1.getD 0 0 ≠ 0) (hk : K ≤ K') : zx_F id R P K' = zx_F id R P K := by
  have g := zx_it_stay (cl := zx_G id) (d := zx_dn id) (R := R) (P := P) (K := K) h (n := K' - K)
  rw [Nat.add_sub_cancel' hk] at g
  exact g
theorem zk_fcl_of {E : zk_E} {N : zk_N} (h : zk_ok E N) {id : Nat} {rs : List Nat} {ps w : List zk_V} {K : zk_V} : ∀ {l : List zk_G}, (∀ q ∈ l, q ∈ N.2.2.2) → zk_fcl N id rs ps K l = some w → (zx_F id (rs.map E.2) (ps.map (zk_i E)) (zk_i E K).toNat).1 = w.map (zk_i E)
  | [], _, hw => by cases hw
  | q :: l, hl, hw => by
    have up : zk_fcl N id rs ps K l = some w → (zx_F id (rs.map E.2) (ps.map (zk_i E)) (zk_i E K).toNat).1 = w.map (zk_i E) := zk_fcl_of h fun q hq => hl q (List.mem_cons_of_mem _ hq)
    have hm := hl q List.mem_cons_self
    have h1 := h.2.2 q hm
    obtain ⟨k, rs1, vs⟩ := q
    unfold zk_fcl at hw
    simp only at hw h1
    split at hw
    · rename_i hk
      have hk := Nat.eq_of_beq_eq_true hk
      subst hk
      split at hw
      · rename_i rs' i' K' v' heq
        cases heq
        split at hw
        · rename_i he
          unfold zk_fcm zk_fce at he
          simp only [Bool.and_eq_true, Bool.or_eq_true] at he
          obtain ⟨⟨⟨e1, e2⟩, e4⟩, e3⟩ := he
          have e1 := zk_fci_of h e1
          have e2 := zk_eqNs_of e2
          have e4 := zk_eqEs_of h e4
          subst e2
          cases hw
          simp only [List.map_cons, zq_6, zq_7, zq_8, zq_9, zq_20, zq_21, zq_22, zq_25, zq_26, zq_28, zq_30, zq_40, zq_51, zq_52, zq_53, zq_54, zq_55, zq_64, zq_65, zq_68, zq_72, zq_73, zq_85, zq_74, zq_75, zq_76, zq_71, zq_86, zq_87, zq_80, zq_41, zq_42, zq_43, zq_94, zq_95, zq_47, zq_48, zq_96, zq_97, zq_88, zq_89, zq_90, zq_93, zq_61, zq_62, zq_1, zq_2, zq_3, zq_4, zq_5, zq_46, zq_44, zx_90] at h1
          rw [e1, Int.toNat_natCast, ← List.map_take, ← List.map_drop, List.length_map, ← List.map_take] at h1
          rw [e4]
          rcases e3 with e3 | ⟨e3, e5⟩
          · rw [zk_eqE_of h e3, h1.2.2]
          · have e3 := zk_nz_ok h e3
            have e5 := zk_n2_ok h e5
            rw [zk_vsub_i] at e5
            rw [zx_F_st (K := (zk_i E K').toNat) (by rw [h1.2.2, zk_hd0_m]; exact e3) (by omega), h1.2.2]
        · exact up hw
      · exact up hw
    · split at hw
      · rename_i hk
        have hk := Nat.eq_of_beq_eq_true hk
        subst hk
        split at hw
        · rename_i rs' i' K' v' heq
          cases heq
          split at hw
          · rename_i he
            unfold zk_fcm zk_fce at he
            simp only [Bool.and_eq_true] at he
            obtain ⟨⟨⟨e1, e2⟩, e4⟩, e3, e5⟩ := he
            have e1 := zk_fci_of h e1
            have e2 := zk_eqNs_of e2
            have e4 := zk_eqEs_of h e4
            subst e2
            cases hw
            simp only [List.map_cons, zq_6, zq_7, zq_8, zq_9, zq_20, zq_21, zq_22, zq_25, zq_26, zq_28, zq_30, zq_40, zq_51, zq_52, zq_53, zq_54, zq_55, zq_64, zq_65, zq_68, zq_72, zq_73, zq_85, zq_74, zq_75, zq_76, zq_71, zq_86, zq_87, zq_80, zq_41, zq_42, zq_43, zq_94, zq_95, zq_47, zq_48, zq_96, zq_97, zq_88, zq_89, zq_90, zq_93, zq_61, zq_62, zq_1, zq_2, zq_3, zq_4, zq_5, zq_46, zq_44, zx_93] at h1
            rw [e1, Int.toNat_natCast, ← List.map_take, ← List.map_drop, List.length_map, ← List.map_take] at h1
            obtain ⟨-, K0, g1, g2⟩ := h1
            rw [e4]
            have e3 := zk_nz_ok h e3
            have e5 := zk_n2_ok h e5
            rw [zk_vsub_i] at e5
            rw [zx_F_st (K := K0) (by rw [g2, zk_hd0_m]; exact e3) (by omega), g2]
          · exact up hw
        · exact up hw
      · exact up hw
/-- a row of those read (below 100), of those written -/
def zk_RM (R M : List Nat) (r : Nat) : Option Nat := match Nat.blt r 100 with
  | true => zk_get R r
  | false => zk_get M (r - 100)
def zk_gts (R M : List Nat) : List Nat → Option (List Nat)
  | [] => some []
  | i :: r => match zk_RM R M i, zk_gts R M r with
    | some a, some s => some (a :: s)
    | _, _ => none
/-! an expression worked out, sign by sign; none: not known -/
def zk_s1 (f : zk_V → zk_V) : Option zk_V → Option zk_V
  | some a => some (f a)
  | none => none
def zk_s2 (f : zk_V → zk_V → zk_V) : Option zk_V → Option zk_V → Option zk_V
  | some a, some b => some (f a b)
  | _, _ => none
def zk_srd (N : zk_N) (R M : List Nat) (r : Nat) : Option zk_V → Option zk_V
  | some v => match zk_RM R M r with
    | some a => zk_frd N a v N.2.2.2
    | none => none
  | none => none
def zk_sop (N : zk_N) (o : Nat) (a b : Option zk_V) : Option zk_V := match a with
  | some x => match o with
    | 4 => match zk_in N x with
      | true => some x
      | false => zk_fl4 N x N.2.2.2
    | 6 => match b with
      | some y => zk_fq6 N x y N.2.2.2
      | none => none
    | 86 => match zk_in N x with
      | true => match zk_f86 N x N.2.2.2 with
        | some w => some w
        | none => zk_n86 N x
      | false => none
    | 7 => match zk_in N x with
      | true => some x
      | false => zk_f7 N x N.2.2.2
    | 81 => match b with
      | some y => zk_f80 N 1 x y N.2.2.2
      | none => none
    | 82 => match b with
      | some y => zk_f80 N 2 x y N.2.2.2
      | none => none
    | 83 => match b with
      | some y => zk_f80 N 3 x y N.2.2.2
      | none => none
    | 84 => match b with
      | some y => zk_f80 N 4 x y N.2.2.2
      | none => none
    | 85 => match b with
      | some y => zk_f80 N 5 x y N.2.2.2
      | none => none
    | 87 => match b with
      | some y => zk_f80 N 7 x y N.2.2.2
      | none => none
    | 88 => match b with
      | some y => zk_f80 N 6 x y N.2.2.2
      | none => none
    | 89 => match zk_n2 N x && zk_n2 N (zk_vsub (zk_c 99) x) with
      | true => some x
      | false => match zk_n2 N (zk_vsub (zk_c 0) x) with
        | true => some (zk_c 0)
        | false => match zk_n2 N (zk_vsub x (zk_c 99)) with
          | true => some (zk_c 99)
          | false => none
    | 90 => match zk_n2 N (zk_vsub (zk_c 99) x) with
      | true => some x
      | false => match zk_n2 N (zk_vsub x (zk_c 99)) with
        | true => some (zk_c 99)
        | false => none
    | 91 => match b with
      | some y => zk_f80 N 8 x y N.2.2.2
      | none => none
    | _ => none
  | none => none
def zk_sle (N : zk_N) : Option zk_V → Option zk_V → Option zk_V
  | some x, some y => match zk_n2 N (zk_vsub y x) with
    | true => some (zk_c 1)
    | false => match zk_n2 N (zk_vsub (zk_vsub x y) (zk_c 1)) with
      | true => some (zk_c 0)
      | false => none
  | _, _ => none
def zk_seq (N : zk_N) : Option zk_V → Option zk_V → Option zk_V
  | some x, some y => match zk_eqE N x y with
    | true => some (zk_c 1)
    | false => match zk_nz N (zk_vsub x y) || zk_nz N (zk_vsub y x) || zk_n2 N (zk_vsub (zk_vsub x y) (zk_c 1)) || zk_n2 N (zk_vsub (zk_vsub y x) (zk_c 1)) with
      | true => some (zk_c 0)
      | false => none
  | _, _ => none
/-- 0: it is 0; 1: it is not; 2: not known -/
def zk_b3 (N : zk_N) : Option zk_V → Nat
  | some v => match zk_cst v with
    | some z => match zk_eqi z 0 with
      | true => 0
      | false => 1
    | none => match zk_nz N v with
      | true => 1
      | false => match zk_eqE N v (zk_c 0) with
        | true => 0
        | false => 2
  | none => 2
def zk_san (N : zk_N) (a b : Option zk_V) : Option zk_V := match zk_b3 N a, zk_b3 N b with
  | 0, _ => some (zk_c 0)
  | _, 0 => some (zk_c 0)
  | 1, 1 => some (zk_c 1)
  | _, _ => none
def zk_snt (N : zk_N) (a : Option zk_V) : Option zk_V := match zk_b3 N a with
  | 0 => some (zk_c 1)
  | 1 => some (zk_c 0)
  | _ => none
def zk_sit (N : zk_N) (c a b : Option zk_V) : Option zk_V := match zk_b3 N c with
  | 0 => b
  | 1 => a
  | _ => none
def zk_scl (N : zk_N) (id : Nat) (R M : List Nat) (i : Nat) (a b c d e : Option zk_V) : List Nat → Option zk_V
  | n :: j :: rs => match a, b, c, d, e with
    | some a, some b, some c, some d, some e => match Nat.blt i id, zk_gts R M rs with
      | true, some rs' => match zk_fcl N i rs' ([a, b, c, d].take n) e N.2.2.2 with
        | some s => zk_get s j
        | none => none
      | _, _ => none
    | _, _, _, _, _ => none
  | _ => none
/-- a number told (46, 44) -/
def zk_f46 (N : zk_N) (id : Nat) (rs : List Nat) (P : List zk_V) (K : zk_V) (j : Nat) : List zk_G → Option zk_V
  | [] => none
  | q :: l => match Nat.beq q.1 46 with
    | true => match q.2 with
      | (rs', i' :: K' :: j' :: v :: P') => match zk_eqi (zk_fci N i') (Int.ofNat id) && zk_eqNs rs rs' && zk_eqE N K K' && zk_eqi (zk_fci N j') (Int.ofNat j) && zk_eqEs N P P' with
        | true => some v
        | false => zk_f46 N id rs P K j l
      | _ => zk_f46 N id rs P K j l
    | false => zk_f46 N id rs P K j l
def zk_f44 (N : zk_N) (id : Nat) (rs : List Nat) (P : List zk_V) (ri : Nat) (oi ov K : zk_V) (j : Nat) : List zk_G → Option zk_V
  | [] => none
  | q :: l => match Nat.beq q.1 44 with
    | true => match q.2 with
      | (rs', i' :: K' :: j' :: v :: r' :: oi' :: ov' :: P') => match zk_eqi (zk_fci N i') (Int.ofNat id) && zk_eqNs rs rs' && zk_eqE N K K' && zk_eqi (zk_fci N j') (Int.ofNat j) && zk_eqi (zk_fci N r') (Int.ofNat ri) && zk_eqE N oi oi' && zk_eqE N ov ov' && zk_eqEs N P P' with
        | true => some v
        | false => zk_f44 N id rs P ri oi ov K j l
      | _ => zk_f44 N id rs P ri oi ov K j l
    | false => zk_f44 N id rs P ri oi ov K j l
def zk_scl8 (N : zk_N) (id : Nat) (R M : List Nat) (i : Nat) (a b c d e f g h z : Option zk_V) : List Nat → Option zk_V
  | n :: j :: rs => match a, b, c, d, e, f, g, h, z with
    | some a, some b, some c, some d, some e, some f, some g, some h, some z => match Nat.blt i id, zk_gts R M rs with
      | true, some rs' => zk_f46 N i rs' ([a, b, c, d, e, f, g, h].take n) z j N.2.2.2
      | _, _ => none
    | _, _, _, _, _, _, _, _, _ => none
  | _ => none
def zk_scl8o (N : zk_N) (id : Nat) (R M : List Nat) (i : Nat) (a b c d e f g h oi ov z : Option zk_V) : List Nat → Option zk_V
  | n :: j :: ri :: rs => match a, b, c, d, e, f, g, h, oi, ov, z with
    | some a, some b, some c, some d, some e, some f, some g, some h, some oi, some ov, some z => match Nat.blt i id, zk_gts R M rs with
      | true, some rs' => zk_f44 N i rs' ([a, b, c, d, e, f, g, h].take n) ri oi ov z j N.2.2.2
      | _, _ => none
    | _, _, _, _, _, _, _, _, _, _, _ => none
  | _ => none
theorem zx_div3 {t : Int} (h0 : 0 ≤ t) (h1 : t ≤ 2147483647) : (zx_o32 2 (Int32.ofInt t) (Int32.ofInt 3)).toInt = t / 3 := by
  show (Int32.ofInt t / Int32.ofInt 3).toInt = t / 3
  have e1 : (Int32.ofInt t).toInt = t := Int32.toInt_ofInt_of_le (by omega) (by omega)
  have e2 : (Int32.ofInt 3).toInt = 3 := by decide
  rw [Int32.toInt_div, e1, e2, Int.tdiv_eq_ediv_of_nonneg h0]
  exact Int.bmod_eq_of_le (by omega) (by omega)
/-- the row before a store -/
def zk_fs2 (a : Nat) : List zk_G → Option (Nat × zk_V × zk_V)
  | [] => none
  | q :: l => match Nat.beq q.1 2 with
    | true => match q.2 with
      | ([f, g], [p, v]) => match Nat.beq f a with
        | true => some (g, p, v)
        | false => zk_fs2 a l
      | _ => zk_fs2 a l
    | false => zk_fs2 a l
theorem zk_fs2_m {a : Nat} {r : Nat × zk_V × zk_V} : ∀ {l : List zk_G}, zk_fs2 a l = some r → (2, [a, r.1], [r.2.1, r.2.2]) ∈ l
  | [], hw => by cases hw
  | q :: l, hw => by
    have up : zk_fs2 a l = some r → (2, [a, r.1], [r.2.1, r.2.2]) ∈ q :: l := fun h => List.mem_cons_of_mem _ (zk_fs2_m h)
    obtain ⟨k, q2⟩ := q
    unfold zk_fs2 at hw
    simp only at hw
    split at hw
    · rename_i hk
      have hk := Nat.eq_of_beq_eq_true hk
      subst hk
      split at hw
      · rename_i f g p v
        split at hw
        · rename_i c
          have c := Nat.eq_of_beq_eq_true c
          subst c
          cases hw
          exact List.mem_cons_self
        · exact up hw
      · exact up hw
    · exact up hw
/-- a read known, through stores -/
def zk_frt (N : zk_N) : Nat → Nat → zk_V → Option zk_V
  | 0, a, i => zk_frd N a i N.2.2.2
  | t + 1, a, i => match zk_frd N a i N.2.2.2 with
    | some w => some w
    | none => match zk_fs2 a N.2.2.2 with
      | some (g, p, v) => match zk_eqE N i p with
        | true => some v
        | false => match zk_n2 N p && zk_n2 N i && (zk_nz N (zk_vsub p i) || zk_nz N (zk_vsub i p)) with
          | true => zk_frt N t g i
          | false => none
      | none => none
theorem zk_frt_of {E : zk_E} {N : zk_N} (h : zk_ok E N) : ∀ {t a : Nat} {i w : zk_V}, zk_frt N t a i = some w → E.2 a (zk_i E i).toNat = zk_i E w
  | 0, a, i, w, hw => zk_frd_of h (fun q hq => hq) hw
  | t + 1, a, i, w, hw => by
    unfold zk_frt at hw
    split at hw
    · rename_i u hu
      cases hw
      exact zk_frd_of h (fun q hq => hq) hu
    · split at hw
      · rename_i g p v hs
        have t2 := h.2.2 _ (zk_fs2_m hs)
        simp only [List.map_cons, List.map_nil, zk_S] at t2
        rw [t2]
        simp only
        split at hw
        · rename_i c
          have c := zk_eqE_of h c
          cases hw
          rw [if_pos (by omega)]
        · split at hw
          · rename_i c
            simp only [Bool.and_eq_true, Bool.or_eq_true] at c
            have c1 := zk_n2_ok h c.1.1
            have c2 := zk_n2_ok h c.1.2
            have c3 : zk_i E p ≠ zk_i E i := by
              rcases c.2 with c3 | c3
              · have := zk_nz_ok h c3
                rw [zk_vsub_i] at this
                omega
              · have := zk_nz_ok h c3
                rw [zk_vsub_i] at this
                omega
            rw [if_neg (by omega)]
            exact zk_frt_of h hw
          · cases hw
      · cases hw
/-- numbers that lie in a row from a place on -/
def zk_rds (N : zk_N) (a : Nat) : Nat → List zk_V → Bool
  | _, [] => true
  | i, v :: l => (match zk_frt N 8 a (zk_c (Int.ofNat i)) with
    | some w => zk_eqE N w v
    | none => false) && zk_rds N a (i + 1) l
def zk_f96 (N : zk_N) (s : Nat) (len : zk_V) (e : List zk_V) : List zk_G → Option zk_V
  | [] => none
  | q :: l => match Nat.beq q.1 96 with
    | true => match q.2 with
      | ([s', env], [len', r]) => match Nat.beq s s' && zk_eqE N len len' && zk_rds N env 0 e with
        | true => some r
        | false => zk_f96 N s len e l
      | _ => zk_f96 N s len e l
    | false => zk_f96 N s len e l
def zk_f97 (N : zk_N) (a w v : Nat) (f e : zk_V) : List zk_G → Option zk_V
  | [] => none
  | q :: l => match Nat.beq q.1 97 with
    | true => match q.2 with
      | ([a', w', v'], [f', e', r]) => match Nat.beq a a' && Nat.beq w w' && Nat.beq v v' && zk_eqE N f f' && zk_eqE N e e' with
        | true => some r
        | false => zk_f97 N a w v f e l
      | _ => zk_f97 N a w v f e l
    | false => zk_f97 N a w v f e l
def zk_h94 (N : zk_N) (s : Nat) (len : zk_V) : Bool := N.2.2.2.any fun q => Nat.beq q.1 94 && (match q.2 with
  | ([s'], [len']) => Nat.beq s s' && zk_eqE N len len'
  | _ => false)
def zk_slw (N : zk_N) (R M : List Nat) (r : Nat) (a n b l t k d : Option zk_V) : Option zk_V := match a with
  | some a => match zk_eqE N a (zk_c 0) with
    | true => match n, l, t with
      | some n, some l, some t => match zk_n2 N t && zk_in N t with
        | true => match zk_f80 N 2 t (zk_c 3) N.2.2.2 with
          | some q => some (zk_vsub (zk_vsub n l) q)
          | none => none
        | false => none
      | _, _, _ => none
    | false => match n, b, l, t, k, d, zk_RM R M r with
      | some n, some b, some l, some t, some k, some d, some s => match zk_nz N a && zk_h94 N s a with
        | true => zk_f96 N s a [n, b, l, t, k, d] N.2.2.2
        | false => none
      | _, _, _, _, _, _, _ => none
  | none => none
def zk_f40 (N : zk_N) (a : Nat) (b n : zk_V) : List zk_G → Option zk_V
  | [] => none
  | q :: l => match Nat.beq q.1 40 with
    | true => match q.2 with
      | ([a'], [b', n', r]) => match Nat.beq a a' && zk_eqE N b b' && zk_eqE N n n' with
        | true => some r
        | false => zk_f40 N a b n l
      | _ => zk_f40 N a b n l
    | false => zk_f40 N a b n l
def zk_scn (N : zk_N) (R M : List Nat) (r : Nat) (b n : Option zk_V) : Option zk_V := match b, n, zk_RM R M r with
  | some b, some n, some a => zk_f40 N a b n N.2.2.2
  | _, _, _ => none
def zk_spv (N : zk_N) (R M rs : List Nat) (f e : Option zk_V) : Option zk_V := match f, e, zk_RM R M (rs.getD 0 0), zk_RM R M (rs.getD 1 0), zk_RM R M (rs.getD 2 0) with
  | some f, some e, some a, some w, some v => zk_f97 N a w v f e N.2.2.2
  | _, _, _, _, _ => none
def zk_sst (N : zk_N) (id : Nat) (R M : List Nat) (P : List zk_V) (k : zk_V) (S : List zk_V) (q : zx_I) (st : List (Option zk_V)) : List (Option zk_V) := match q.1, st with
  | 0, st => some (zk_c q.2.1) :: st
  | 1, st => zk_get P q.2.1.toNat :: st
  | 2, st => some k :: st
  | 3, st => zk_get S q.2.1.toNat :: st
  | 4, e :: st => zk_srd N R M q.2.1.toNat e :: st
  | 5, b :: a :: st => zk_s2 zk_vadd a b :: st
  | 6, b :: a :: st => zk_s2 zk_vsub a b :: st
  | 7, a :: st => zk_s1 (zk_vmul q.2.1) a :: st
  | 8, b :: a :: st => zk_sop N q.2.1.toNat a b :: st
  | 9, b :: a :: st => zk_sle N a b :: st
  | 10, b :: a :: st => zk_seq N a b :: st
  | 11, b :: a :: st => zk_san N a b :: st
  | 12, a :: st => zk_snt N a :: st
  | 13, b :: a :: c :: st => zk_sit N c a b :: st
  | 14, e :: d :: c :: b :: a :: st => zk_scl N id R M q.2.1.toNat a b c d e q.2.2 :: st
  | 15, d :: k :: t :: l :: b :: n :: a :: st => zk_slw N R M q.2.1.toNat a n b l t k d :: st
  | 18, z :: h :: g :: f :: e :: d :: c :: b :: a :: st => zk_scl8 N id R M q.2.1.toNat a b c d e f g h z q.2.2 :: st
  | 19, z :: ov :: oi :: h :: g :: f :: e :: d :: c :: b :: a :: st => zk_scl8o N id R M q.2.1.toNat a b c d e f g h oi ov z q.2.2 :: st
  | 16, e :: f :: st => zk_spv N R M q.2.2 f e :: st
  | 17, n :: b :: st => zk_scn N R M q.2.1.toNat b n :: st
  | _, _ => []
def zk_sevl (N : zk_N) (id : Nat) (R M : List Nat) (P : List zk_V) (k : zk_V) (S : List zk_V) : List zx_I → List (Option zk_V) → List (Option zk_V)
  | [], st => st
  | q :: l, st => zk_sevl N id R M P k S l (zk_sst N id R M P k S q st)
def zk_sev (N : zk_N) (id : Nat) (R M : List Nat) (P : List zk_V) (k : zk_V) (S : List zk_V) (x : List zx_I) : Option zk_V := match zk_sevl N id R M P k S x [] with
  | a :: _ => a
  | [] => none
/-- a value that is known is so -/
def zk_sr (E : zk_E) (o : Option zk_V) (z : Int) : Prop := ∀ v, o = some v → zk_i E v = z
def zk_srs (E : zk_E) : List (Option zk_V) → List Int → Prop
  | [], _ => True
  | o :: l, z :: r => zk_sr E o z ∧ zk_srs E l r
  | _ :: _, [] => False
theorem zk_srs_c {E : zk_E} {o : Option zk_V} {l : List (Option zk_V)} {z : Int} {r : List Int} (h1 : zk_sr E o z) (h2 : zk_srs E l r) : zk_srs E (o :: l) (z :: r) := ⟨h1, h2⟩
theorem zk_srs_d {E : zk_E} {o : Option zk_V} {l : List (Option zk_V)} {st : List Int} (h : zk_srs E (o :: l) st) : ∃ z r, st = z :: r ∧ zk_sr E o z ∧ zk_srs E l r := by
  cases st with
  | nil => exact h.elim
  | cons z r => exact ⟨z, r, rfl, h.1, h.2⟩
theorem zk_sr_none {E : zk_E} {z : Int} : zk_sr E none z := fun _ h => by cases h
theorem zk_sr_some {E : zk_E} {v : zk_V} {z : Int} (h : zk_i E v = z) : zk_sr E (some v) z := fun _ e => by
  cases e
  exact h
theorem zk_getD_of {α β : Type} {l : List α} {f : α → β} {d : β} {i : Nat} {a : α} (h : zk_get l i = some a) : (l.map f).getD i d = f a ∧ a ∈ l := by
  rw [zk_get_eq] at h
  refine ⟨?_, List.mem_of_getElem? h⟩
  rw [List.getD_eq_getElem?_getD, List.getElem?_map, h]
  rfl
theorem zk_RM_of {E : zk_E} {R M : List Nat} {r a : Nat} (h : zk_RM R M r = some a) : zx_R (R.map E.2) (M.map E.2) r = E.2 a := by
  unfold zk_RM at h
  unfold zx_R
  split at h
  · rename_i h0
    rw [if_pos (Nat.blt_eq.mp h0)]
    exact (zk_getD_of (f := E.2) (d := fun _ => 0) h).1
  · rename_i h0
    rw [if_neg (fun g => by rw [Nat.blt_eq.mpr g] at h0; cases h0)]
    exact (zk_getD_of (f := E.2) (d := fun _ => 0) h).1
theorem zk_gts_of {E : zk_E} {R M : List Nat} : ∀ {r s : List Nat}, zk_gts R M r = some s → s.map E.2 = r.map (zx_R (R.map E.2) (M.map E.2))
  | [], s, h => by
    unfold zk_gts at h
    cases h
    rfl
  | i :: r, s, h => by
    unfold zk_gts at h
    split at h
    · rename_i a s' h1 h2
      cases h
      rw [List.map_cons, List.map_cons, zk_gts_of (E := E) h2, zk_RM_of h1]
    · cases h
theorem zk_srd_of {E : zk_E} {N : zk_N} (h : zk_ok E N) {R M : List Nat} {r : Nat} {o : Option zk_V} {z : Int} (ho : zk_sr E o z) : zk_sr E (zk_srd N R M r o) (zx_R (R.map E.2) (M.map E.2) r z.toNat) := fun v hv => by
  unfold zk_srd at hv
  split at hv
  · rename_i u
    split at hv
    · rename_i a ha
      have e4 := zk_frd_of h (fun q hq => hq) hv
      rw [zk_RM_of ha, ← ho u rfl]
      exact e4.symm
    · cases hv
  · cases hv
theorem zk_sop_of {E : zk_E} {N : zk_N} (h : zk_ok E N) {k : Nat} {o p : Option zk_V} {z w : Int} (ho : zk_sr E o z) (hp : zk_sr E p w) : zk_sr E (zk_sop N k o p) (zx_op k z w) := fun v hv => by
  unfold zk_sop at hv
  split at hv
  · rename_i x
    have hx := ho x rfl
    split at hv
    · split at hv
      · rename_i hi
        cases hv
        show _ = ((Int64.ofInt z).toInt32).toInt
        rw [← hx, Int64.toInt32_ofInt, zk_in_ok h hi]
      · rw [← hx]
        exact zk_fl4_of h (fun q hq => hq) hv
    · split at hv
      · rename_i y
        rw [← hx, ← hp y rfl]
        exact zk_fq6_of h (fun q hq => hq) hv
      · cases hv
    · split at hv
      · rename_i hi
        have hi := zk_in_ok h hi
        show _ = zx_nm z
        rw [← hx]
        split at hv
        · rename_i u hu
          cases hv
          have e := zk_f86_of h (fun q hq => hq) hu
          rw [hi] at e
          exact e
        · exact (zk_n86_of h hv).1
      · cases hv
    · split at hv
      · rename_i hi
        cases hv
        show _ = (Int32.ofInt z).toInt
        rw [← hx, zk_in_ok h hi]
      · show _ = (Int32.ofInt z).toInt
        rw [← hx]
        exact zk_f7_of h hv
    · split at hv
      · rename_i y
        rw [← hx, ← hp y rfl]
        exact zk_f80_of h hv
      · cases hv
    · split at hv
      · rename_i y
        rw [← hx, ← hp y rfl]
        exact zk_f80_of h hv
      · cases hv
    · split at hv
      · rename_i y
        rw [← hx, ← hp y rfl]
        exact zk_f80_of h hv
      · cases hv
    · split at hv
      · rename_i y
        rw [← hx, ← hp y rfl]
        exact zk_f80_of h hv
      · cases hv
    · split at hv
      · rename_i y
        rw [← hx, ← hp y rfl]
        exact zk_f80_of h hv
      · cases hv
    · split at hv
      · rename_i y
        rw [← hx, ← hp y rfl]
        exact zk_f80_of h hv
      · cases hv
    · split at hv
      · rename_i y
        rw [← hx, ← hp y rfl]
        exact zk_f80_of h hv
      · cases hv
    · show _ = if z < 0 then 0 else if 99 < z then 99 else z
      split at hv
      · rename_i c
        rw [Bool.and_eq_true] at c
        have c1 := zk_n2_ok h c.1
        have c2 := zk_n2_ok h c.2
        rw [zk_vsub_i, zk_c_i] at c2
        cases hv
        rw [if_neg (by omega), if_neg (by omega), hx]
      · split at hv
        · rename_i c
          have c := zk_n2_ok h c
          rw [zk_vsub_i, zk_c_i] at c
          cases hv
          rw [zk_c_i]
          split
          · rfl
          · rw [if_neg (by omega)]
            omega
        · split at hv
          · rename_i c
            have c := zk_n2_ok h c
            rw [zk_vsub_i, zk_c_i] at c
            cases hv
            rw [zk_c_i, if_neg (by omega)]
            split
            · rfl
            · omega
          · cases hv
    · show _ = if 99 < z then 99 else z
      split at hv
      · rename_i c
        have c := zk_n2_ok h c
        rw [zk_vsub_i, zk_c_i] at c
        cases hv
        rw [if_neg (by omega), hx]
      · split at hv
        · rename_i c
          have c := zk_n2_ok h c
          rw [zk_vsub_i, zk_c_i] at c
          cases hv
          rw [zk_c_i]
          split
          · rfl
          · omega
        · cases hv
    · split at hv
      · rename_i y
        rw [← hx, ← hp y rfl]
        exact zk_f80_of h hv
      · cases hv
    · cases hv
  · cases hv
theorem zk_sle_of {E : zk_E} {N : zk_N} (h : zk_ok E N) {o p : Option zk_V} {z w : Int} (ho : zk_sr E o z) (hp : zk_sr E p w) : zk_sr E (zk_sle N o p) (if z ≤ w then 1 else 0) := fun v hv => by
  unfold zk_sle at hv
  split at hv
  · rename_i x y
    have hx := ho x rfl
    have hy := hp y rfl
    split at hv
    · rename_i hn
      have hn := zk_n2_ok h hn
      rw [zk_vsub_i] at hn
      cases hv
      rw [if_pos (by omega)]
      exact zk_c_i E _
    · split at hv
      · rename_i hn
        have hn := zk_n2_ok h hn
        rw [zk_vsub_i, zk_vsub_i, zk_c_i] at hn
        cases hv
        rw [if_neg (by omega)]
        exact zk_c_i E _
      · cases hv
  · cases hv
theorem zk_seq_of {E : zk_E} {N : zk_N} (h : zk_ok E N) {o p : Option zk_V} {z w : Int} (ho : zk_sr E o z) (hp : zk_sr E p w) : zk_sr E (zk_seq N o p) (if z = w then 1 else 0) := fun v hv => by
  unfold zk_seq at hv
  split at hv
  · rename_i x y
    have hx := ho x rfl
    have hy := hp y rfl
    split at hv
    · rename_i hn
      have hn := zk_eqE_of h hn
      cases hv
      rw [if_pos (by omega)]
      exact zk_c_i E _
    · split at hv
      · rename_i hn
        cases hv
        rw [if_neg ?_]
        · exact zk_c_i E _
        · simp only [Bool.or_eq_true] at hn
          rcases hn with ((hn | hn) | hn) | hn
          · have hn := zk_nz_ok h hn
            rw [zk_vsub_i] at hn
            omega
          · have hn := zk_nz_ok h hn
            rw [zk_vsub_i] at hn
            omega
          · have hn := zk_n2_ok h hn
            rw [zk_vsub_i, zk_vsub_i, zk_c_i] at hn
            omega
          · have hn := zk_n2_ok h hn
            rw [zk_vsub_i, zk_vsub_i, zk_c_i] at hn
            omega
      · cases hv
  · cases hv
theorem zk_b3_of {E : zk_E} {N : zk_N} (h : zk_ok E N) {o : Option zk_V} {z : Int} (ho : zk_sr E o z) : (zk_b3 N o = 0 → z = 0) ∧ (zk_b3 N o = 1 → z ≠ 0) := by
  unfold zk_b3
  split
  · rename_i v
    have hv := ho v rfl
    split
    · rename_i c hc
      have hc := zk_cst_of (E := E) hc
      split
      · rename_i h0
        have h0 := zk_eqi_of h0
        exact ⟨(fun _ => by omega), (fun h => by cases h)⟩
      · rename_i h0
        refine ⟨(fun h => by cases h), fun _ e => ?_⟩
        have : c = 0 := by omega
        subst this
        rw [show zk_eqi 0 0 = true by decide] at h0
        cases h0
    · split
      · rename_i hn
        have hn := zk_nz_ok h hn
        exact ⟨(fun h => by cases h), fun _ => by omega⟩
      · split
        · rename_i hn
          have hn := zk_eqE_of h hn
          rw [zk_c_i] at hn
          exact ⟨(fun _ => by omega), (fun h => by cases h)⟩
        · exact ⟨(fun h => by cases h), (fun h => by cases h)⟩
  · exact ⟨(fun h => by cases h), (fun h => by cases h)⟩
theorem zk_san_of {E : zk_E} {N : zk_N} (h : zk_ok E N) {o p : Option zk_V} {z w : Int} (ho : zk_sr E o z) (hp : zk_sr E p w) : zk_sr E (zk_san N o p) (if z ≠ 0 ∧ w ≠ 0 then 1 else 0) := fun v hv => by
  obtain ⟨a1, a2⟩ := zk_b3_of h ho
  obtain ⟨b1, b2⟩ := zk_b3_of h hp
  unfold zk_san at hv
  split at hv
  · rename_i h1
    cases hv
    rw [if_neg (fun g => g.1 (a1 h1))]
    exact zk_c_i E _
  · rename_i h1 _
    cases hv
    rw [if_neg (fun g => g.2 (b1 h1))]
    exact zk_c_i E _
  · rename_i h1 h2
    cases hv
    rw [if_pos ⟨a2 h1, b2 h2⟩]
    exact zk_c_i E _
  · cases hv
theorem zk_snt_of {E : zk_E} {N : zk_N} (h : zk_ok E N) {o : Option zk_V} {z : Int} (ho : zk_sr E o z) : zk_sr E (zk_snt N o) (if z = 0 then 1 else 0) := fun v hv => by
  obtain ⟨a1, a2⟩ := zk_b3_of h ho
  unfold zk_snt at hv
  split at hv
  · rename_i h1
    cases hv
    rw [if_pos (a1 h1)]
    exact zk_c_i E _
  · rename_i h1
    cases hv
    rw [if_neg (a2 h1)]
    exact zk_c_i E _
  · cases hv
theorem zk_sit_of {E : zk_E} {N : zk_N} (h : zk_ok E N) {c o p : Option zk_V} {y z w : Int} (hc : zk_sr E c y) (ho : zk_sr E o z) (hp : zk_sr E p w) : zk_sr E (zk_sit N c o p) (if y = 0 then w else z) := fun v hv => by
  obtain ⟨a1, a2⟩ := zk_b3_of h hc
  unfold zk_sit at hv
  split at hv
  · rename_i h1
    rw [if_pos (a1 h1)]
    exact hp v hv
  · rename_i h1
    rw [if_neg (a2 h1)]
    exact ho v hv
  · cases hv
theorem zk_scl_of {E : zk_E} {N : zk_N} (h : zk_ok E N) {id i : Nat} {R M : List Nat} {a b c d e : Option zk_V} {za zb zc zd ze : Int} (ha : zk_sr E a za) (hb : zk_sr E b zb) (hc : zk_sr E c zc) (hd : zk_sr E d zd) (he : zk_sr E e ze) {l : List Nat} : zk_sr E (zk_scl N id R M i a b c d e l) (zx_call (zx_G id) (R.map E.2) (M.map E.2) i za zb zc zd ze l) := fun v hv => by
  unfold zk_scl at hv
  split at hv
  · rename_i n j rs
    split at hv
    · rename_i a b c d e
      split at hv
      · rename_i rs' hi h0
        have hi := Nat.blt_eq.mp hi
        have g1 := zk_gts_of (E := E) h0
        split at hv
        · rename_i s hs
          have k1 := zk_fcl_of h (fun q hq => hq) hs
          obtain ⟨k3, -⟩ := zk_getD_of (f := zk_i E) (d := 0) hv
          show zk_i E v = (zx_G id i (rs.map (zx_R (R.map E.2) (M.map E.2))) ([za, zb, zc, zd].take n) ze.toNat).1.getD j 0
          rw [List.map_take] at k1
          rw [zx_G_F hi, ← ha a rfl, ← hb b rfl, ← hc c rfl, ← hd d rfl, ← he e rfl, ← k3, ← k1, g1]
          rfl
        · cases hv
      · cases hv
    · cases hv
  · cases hv
theorem zk_f46_of {E : zk_E} {N : zk_N} (h : zk_ok E N) {id j : Nat} {rs : List Nat} {P : List zk_V} {K v : zk_V} : ∀ {l : List zk_G}, (∀ q ∈ l, q ∈ N.2.2.2) → zk_f46 N id rs P K j l = some v → (zx_F id (rs.map E.2) (P.map (zk_i E)) (zk_i E K).toNat).1.getD j 0 = zk_i E v
  | [], _, hv => by cases hv
  | q :: l, hl, hv => by
    have hrec := zk_f46_of h (id := id) (rs := rs) (P := P) (K := K) (j := j) (v := v) (l := l) (fun x hx => hl x (List.mem_cons_of_mem _ hx))
    have t := h.2.2 q (hl q List.mem_cons_self)
    obtain ⟨k, rs', vs'⟩ := q
    unfold zk_f46 at hv
    split at hv
    · rename_i hk
      have hk := Nat.eq_of_beq_eq_true hk
      simp only at hk
      subst hk
      split at hv
      · rename_i rs2 i' K' j' w P' heq
        cases heq
        split at hv
        · rename_i c
          cases hv
          simp only [Bool.and_eq_true] at c
          obtain ⟨⟨⟨⟨c1, c2⟩, c3⟩, c4⟩, c5⟩ := c
          have c1 := zk_fci_of h c1
          have c2 := zk_eqNs_of c2
          have c3 := zk_eqE_of h c3
          have c4 := zk_fci_of h c4
          have c5 := zk_eqEs_of h c5
          simp only [List.map_cons, zq_6, zq_7, zq_8, zq_9, zq_20, zq_21, zq_22, zq_25, zq_26, zq_28, zq_30, zq_40, zq_51, zq_52, zq_53, zq_54, zq_55, zq_64, zq_65, zq_68, zq_72, zq_73, zq_85, zq_74, zq_75, zq_76, zq_71, zq_86, zq_87, zq_80, zq_41, zq_42, zq_43, zq_94, zq_95, zq_47, zq_48, zq_96, zq_97, zq_88, zq_89, zq_90, zq_93, zq_61, zq_62, zq_1, zq_2, zq_3, zq_4, zq_5, zq_46, zq_44, zx_46] at t
          obtain ⟨-, -, -, t⟩ := t
          rw [c1, c4, ← c3, ← c5, ← c2] at t
          exact t
        · exact hrec hv
      · exact hrec hv
    · exact hrec hv
theorem zk_f44_of {E : zk_E} {N : zk_N} (h : zk_ok E N) {id j ri : Nat} {rs : List Nat} {P : List zk_V} {oi ov K v : zk_V} : ∀ {l : List zk_G}, (∀ q ∈ l, q ∈ N.2.2.2) → zk_f44 N id rs P ri oi ov K j l = some v → (zx_F id (zx_ov (rs.map E.2) ri (zk_i E oi) (zk_i E ov)) (P.map (zk_i E)) (zk_i E K).toNat).1.getD j 0 = zk_i E v
  | [], _, hv => by cases hv
  | q :: l, hl, hv => by
    have hrec := zk_f44_of h (id := id) (rs := rs) (P := P) (K := K) (j := j) (ri := ri) (oi := oi) (ov := ov) (v := v) (l := l) (fun x hx => hl x (List.mem_cons_of_mem _ hx))
    have t := h.2.2 q (hl q List.mem_cons_self)
    obtain ⟨k, rs', vs'⟩ := q
    unfold zk_f44 at hv
    split at hv
    · rename_i hk
      have hk := Nat.eq_of_beq_eq_true hk
      simp only at hk
      subst hk
      split at hv
      · rename_i rs2 i' K' j' w r' oi' ov' P' heq
        cases heq
        split at hv
        · rename_i c
          cases hv
          simp only [Bool.and_eq_true] at c
          obtain ⟨⟨⟨⟨⟨⟨⟨c1, c2⟩, c3⟩, c4⟩, c6⟩, c7⟩, c8⟩, c5⟩ := c
          have c1 := zk_fci_of h c1
          have c2 := zk_eqNs_of c2
          have c3 := zk_eqE_of h c3
          have c4 := zk_fci_of h c4
          have c6 := zk_fci_of h c6
          have c7 := zk_eqE_of h c7
          have c8 := zk_eqE_of h c8
          have c5 := zk_eqEs_of h c5
          simp only [List.map_cons, zq_6, zq_7, zq_8, zq_9, zq_20, zq_21, zq_22, zq_25, zq_26, zq_28, zq_30, zq_40, zq_51, zq_52, zq_53, zq_54, zq_55, zq_64, zq_65, zq_68, zq_72, zq_73, zq_85, zq_74, zq_75, zq_76, zq_71, zq_86, zq_87, zq_80, zq_41, zq_42, zq_43, zq_94, zq_95, zq_47, zq_48, zq_96, zq_97, zq_88, zq_89, zq_90, zq_93, zq_61, zq_62, zq_1, zq_2, zq_3, zq_4, zq_5, zq_46, zq_44, zx_44] at t
          obtain ⟨-, -, -, -, t⟩ := t
          rw [c1, c4, c6, ← c3, ← c5, ← c2, ← c7, ← c8] at t
          exact t
        · exact hrec hv
      · exact hrec hv
    · exact hrec hv
theorem zk_scl8_of {E : zk_E} {N : zk_N} (hN : zk_ok E N) {id i : Nat} {R M : List Nat} {a b c d e f g h z : Option zk_V} {za zb zc zd ze zf zg zh zz : Int} (ha : zk_sr E a za) (hb : zk_sr E b zb) (hc : zk_sr E c zc) (hd : zk_sr E d zd) (he : zk_sr E e ze) (hf : zk_sr E f zf) (hg : zk_sr E g zg) (hh : zk_sr E h zh) (hz : zk_sr E z zz) {l : List Nat} : zk_sr E (zk_scl8 N id R M i a b c d e f g h z l) (zx_call8 (zx_G id) (R.map E.2) (M.map E.2) i za zb zc zd ze zf zg zh zz l) := fun v hv => by
  unfold zk_scl8 at hv
  split at hv
  · rename_i n j rs
    split at hv
    · rename_i a b c d e f g h z
      split at hv
      · rename_i rs' hi h0
        have hi := Nat.blt_eq.mp hi
        have g1 := zk_gts_of (E := E) h0
        have k1 := zk_f46_of hN (fun q hq => hq) hv
        show zk_i E v = (zx_G id i (rs.map (zx_R (R.map E.2) (M.map E.2))) ([za, zb, zc, zd, ze, zf, zg, zh].take n) zz.toNat).1.getD j 0
        rw [List.map_take] at k1
        rw [zx_G_F hi, ← ha a rfl, ← hb b rfl, ← hc c rfl, ← hd d rfl, ← he e rfl, ← hf f rfl, ← hg g rfl, ← hh h rfl, ← hz z rfl]
        rw [g1] at k1
        exact k1.symm
      · cases hv
    · cases hv
  · cases hv
theorem zk_scl8o_of {E : zk_E} {N : zk_N} (hN : zk_ok E N) {id i : Nat} {R M : List Nat} {a b c d e f g h oi ov z : Option zk_V} {za zb zc zd ze zf zg zh zoi zov zz : Int} (ha : zk_sr E a za) (hb : zk_sr E b zb) (hc : zk_sr E c zc) (hd : zk_sr E d zd) (he : zk_sr E e ze) (hf : zk_sr E f zf) (hg : zk_sr E g zg) (hh : zk_sr E h zh) (hoi : zk_sr E oi zoi) (hov : zk_sr E ov zov) (hz : zk_sr E z zz) {l : List Nat} : zk_sr E (zk_scl8o N id R M i a b c d e f g h oi ov z l) (zx_call8o (zx_G id) (R.map E.2) (M.map E.2) i za zb zc zd ze zf zg zh zoi zov zz l) := fun v hv => by
  unfold zk_scl8o at hv
  split at hv
  · rename_i n j ri rs
    split at hv
    · rename_i a b c d e f g h oi ov z
      split at hv
      · rename_i rs' hi h0
        have hi := Nat.blt_eq.mp hi
        have g1 := zk_gts_of (E := E) h0
        have k1 := zk_f44_of hN (fun q hq => hq) hv
        show zk_i E v = (zx_G id i (zx_ov (rs.map (zx_R (R.map E.2) (M.map E.2))) ri zoi zov) ([za, zb, zc, zd, ze, zf, zg, zh].take n) zz.toNat).1.getD j 0
        rw [List.map_take] at k1
        rw [zx_G_F hi, ← ha a rfl, ← hb b rfl, ← hc c rfl, ← hd d rfl, ← he e rfl, ← hf f rfl, ← hg g rfl, ← hh h rfl, ← hoi oi rfl, ← hov ov rfl, ← hz z rfl]
        rw [g1] at k1
        exact k1.symm
      · cases hv
    · cases hv
  · cases hv
theorem zk_f46_sv {N : zk_N} (hc : zk_cl N) {id j : Nat} {rs : List Nat} {P : List zk_V} {K v : zk_V} : ∀ {l : List zk_G}, (∀ q ∈ l, q ∈ N.2.2.2) → zk_f46 N id rs P K j l = some v → zk_sv N.1 v
  | [], _, hv => by cases hv
  | q :: l, hl, hv => by
    have hrec := zk_f46_sv hc (id := id) (rs := rs) (P := P) (K := K) (j := j) (v := v) (l := l) (fun x hx => hl x (List.mem_cons_of_mem _ hx))
    have t := hc.2.2 q (hl q List.mem_cons_self)
    obtain ⟨k, rs', vs'⟩ := q
    unfold zk_f46 at hv
    split at hv
    · split at hv
      · rename_i rs2 i' K' j' w P' heq
        simp only at heq
        cases heq
        split at hv
        · cases hv
          exact t.2 _ (by simp)
        · exact hrec hv
      · exact hrec hv
    · exact hrec hv
theorem zk_f44_sv {N : zk_N} (hc : zk_cl N) {id j ri : Nat} {rs : List Nat} {P : List zk_V} {oi ov K v : zk_V} : ∀ {l : List zk_G}, (∀ q ∈ l, q ∈ N.2.2.2) → zk_f44 N id rs P ri oi ov K j l = some v → zk_sv N.1 v
  | [], _, hv => by cases hv
  | q :: l, hl, hv => by
    have hrec := zk_f44_sv hc (id := id) (rs := rs) (P := P) (K := K) (j := j) (ri := ri) (oi := oi) (ov := ov) (v := v) (l := l) (fun x hx => hl x (List.mem_cons_of_mem _ hx))
    have t := hc.2.2 q (hl q List.mem_cons_self)
    obtain ⟨k, rs', vs'⟩ := q
    unfold zk_f44 at hv
    split at hv
    · split at hv
      · rename_i rs2 i' K' j' w r' oi' ov' P' heq
        simp only at heq
        cases heq
        split at hv
        · cases hv
          exact t.2 _ (by simp)
        · exact hrec hv
      · exact hrec hv
    · exact hrec hv
theorem zk_rds_of {E : zk_E} {N : zk_N} (h : zk_ok E N) {a : Nat} : ∀ {l : List zk_V} {i : Nat}, zk_rds N a i l = true → ∀ j, j < l.length → E.2 a (i + j) = (l.map (zk_i E)).getD j 0
  | [], _, _, j, hj => absurd hj (Nat.not_lt_zero j)
  | v :: l, i, hr, j, hj => by
    unfold zk_rds at hr
    rw [Bool.and_eq_true] at hr
    obtain ⟨h1, h2⟩ := hr
    cases j with
    | zero =>
      split at h1
      · rename_i w hw
        have e := zk_frt_of h hw
        rw [zk_c_i] at e
        have e2 := zk_eqE_of h h1
        show E.2 a i = zk_i E v
        rw [← e2, ← e]
        rfl
      · cases h1
    | succ j =>
      have g := zk_rds_of h h2 j (by simpa using hj)
      rw [show i + (j + 1) = i + 1 + j by omega, g]
      rfl
theorem zk_f96_m {N : zk_N} {s : Nat} {len w : zk_V} {e : List zk_V} : ∀ {l : List zk_G}, zk_f96 N s len e l = some w → ∃ env len', (96, [s, env], [len', w]) ∈ l ∧ zk_eqE N len len' = true ∧ zk_rds N env 0 e = true
  | [], hw => by cases hw
  | q :: l, hw => by
    have up : zk_f96 N s len e l = some w → ∃ env len', (96, [s, env], [len', w]) ∈ q :: l ∧ zk_eqE N len len' = true ∧ zk_rds N env 0 e = true := fun h => by
      obtain ⟨y, z, h1, h2⟩ := zk_f96_m h
      exact ⟨y, z, List.mem_cons_of_mem _ h1, h2⟩
    obtain ⟨k, q2⟩ := q
    unfold zk_f96 at hw
    simp only at hw
    split at hw
    · rename_i hk
      have hk := Nat.eq_of_beq_eq_true hk
      subst hk
      split at hw
      · rename_i s' env len' r
        split at hw
        · rename_i c
          simp only [Bool.and_eq_true] at c
          obtain ⟨⟨c1, c2⟩, c3⟩ := c
          have c1 := Nat.eq_of_beq_eq_true c1
          subst c1
          cases hw
          exact ⟨env, len', List.mem_cons_self, c2, c3⟩
        · exact up hw
      · exact up hw
    · exact up hw
theorem zk_f97_m {N : zk_N} {a w v : Nat} {f e r : zk_V} : ∀ {l : List zk_G}, zk_f97 N a w v f e l = some r → ∃ f' e', (97, [a, w, v], [f', e', r]) ∈ l ∧ zk_eqE N f f' = true ∧ zk_eqE N e e' = true
  | [], hw => by cases hw
  | q :: l, hw => by
    have up : zk_f97 N a w v f e l = some r → ∃ f' e', (97, [a, w, v], [f', e', r]) ∈ q :: l ∧ zk_eqE N f f' = true ∧ zk_eqE N e e' = true := fun h => by
      obtain ⟨y, z, h1, h2⟩ := zk_f97_m h
      exact ⟨y, z, List.mem_cons_of_mem _ h1, h2⟩
    obtain ⟨k, q2⟩ := q
    unfold zk_f97 at hw
    simp only at hw
    split at hw
    · rename_i hk
      have hk := Nat.eq_of_beq_eq_true hk
      subst hk
      split at hw
      · rename_i a' w' v' f' e' r'
        split at hw
        · rename_i c
          simp only [Bool.and_eq_true] at c
          obtain ⟨⟨⟨⟨c1, c2⟩, c3⟩, c4⟩, c5⟩ := c
          have c1 := Nat.eq_of_beq_eq_true c1
          have c2 := Nat.eq_of_beq_eq_true c2
          have c3 := Nat.eq_of_beq_eq_true c3
          subst c1 c2 c3
          cases hw
          exact ⟨f', e', List.mem_cons_self, c4, c5⟩
        · exact up hw
      · exact up hw
    · exact up hw
/-- a pile's step by its names' values -/
theorem zx_w1_env {e e' : Nat → Int} (h : ∀ j, j < 6 → e j = e' j) {s : Int} {p : List Int} : zx_w1 e s p = zx_w1 e' s p := by
  unfold zx_w1
  split
  · split
    · rename_i c
      rw [h _ (by omega)]
    · rfl
  · rfl
theorem zx_cw_env {e e' : Nat → Int} (h : ∀ j, j < 6 → e j = e' j) : ∀ {l : List Int} {b : Bool} {p : List Int}, zx_cw e b l p = zx_cw e' b l p
  | [], b, p => by cases b <;> rfl
  | s :: l, true, p => by
    unfold zx_cw
    exact zx_cw_env h
  | s :: l, false, p => by
    unfold zx_cw
    split
    · rfl
    · split
      · exact zx_cw_env h
      · rw [zx_w1_env h]
        exact zx_cw_env h
theorem zk_h94_of {E : zk_E} {N : zk_N} (h : zk_ok E N) {s : Nat} {len : zk_V} (hw : zk_h94 N s len = true) : zx_wl (zx_sl (E.2 s) 0 (zk_i E len).toNat) 0 := by
  unfold zk_h94 at hw
  obtain ⟨q, hq, hw⟩ := List.any_eq_true.mp hw
  obtain ⟨k, q2⟩ := q
  rw [Bool.and_eq_true] at hw
  obtain ⟨hk, hw⟩ := hw
  have hk := Nat.eq_of_beq_eq_true hk
  have t := h.2.2 _ hq
  simp only at hk hw t
  subst hk
  split at hw
  · rename_i s' len'
    rw [Bool.and_eq_true] at hw
    have e1 := Nat.eq_of_beq_eq_true hw.1
    have e2 := zk_eqE_of h hw.2
    subst e1
    simp only [List.map_cons, List.map_nil, zq_6, zq_7, zq_8, zq_9, zq_20, zq_21, zq_22, zq_25, zq_26, zq_28, zq_30, zq_40, zq_51, zq_52, zq_53, zq_54, zq_55, zq_64, zq_65, zq_68, zq_72, zq_73, zq_85, zq_74, zq_75, zq_76, zq_71, zq_86, zq_87, zq_80, zq_41, zq_42, zq_43, zq_94, zq_95, zq_47, zq_48, zq_96, zq_97, zq_88, zq_89, zq_90, zq_93, zq_61, zq_62, zq_1, zq_2, zq_3, zq_4, zq_5, zq_46, zq_44] at t
    rw [e2]
    exact t
  · cases hw
theorem zk_slw_of {E : zk_E} {N : zk_N} (h : zk_ok E N) {R M : List Nat} {r : Nat} {a n b l t k d : Option zk_V} {za zn zb zl zt zk zd : Int} (ha : zk_sr E a za) (hn : zk_sr E n zn) (hb : zk_sr E b zb) (hl : zk_sr E l zl) (ht : zk_sr E t zt) (hk : zk_sr E k zk) (hd : zk_sr E d zd) : zk_sr E (zk_slw N R M r a n b l t k d) (zx_lw (zx_R (R.map E.2) (M.map E.2) r) za zn zb zl zt zk zd) := fun v hv => by
  unfold zk_slw at hv
  split at hv
  · rename_i a
    have ha := ha a rfl
    split at hv
    · rename_i h0
      have h0 := zk_eqE_of h h0
      rw [zk_c_i] at h0
      split at hv
      · rename_i n l t
        split at hv
        · rename_i c
          rw [Bool.and_eq_true] at c
          have c1 := zk_n2_ok h c.1
          have c2 := zk_in_b h c.2
          split at hv
          · rename_i q hq
            cases hv
            have e := zk_f80_of h hq
            rw [zk_c_i, zx_div3 c1 c2.2] at e
            unfold zx_lw
            rw [if_pos (by omega), zk_vsub_i, zk_vsub_i, e, hn _ rfl, hl _ rfl, ht _ rfl]
          · cases hv
        · cases hv
      · cases hv
    · split at hv
      · rename_i n b l t k d s hs
        split at hv
        · rename_i hz
          rw [Bool.and_eq_true] at hz
          have hwl := zk_h94_of h hz.2
          have hz := zk_nz_ok h hz.1
          obtain ⟨env, len', h1, h2, h3⟩ := zk_f96_m hv
          have g := h.2.2 _ h1
          simp only [List.map_cons, List.map_nil, zq_6, zq_7, zq_8, zq_9, zq_20, zq_21, zq_22, zq_25, zq_26, zq_28, zq_30, zq_40, zq_51, zq_52, zq_53, zq_54, zq_55, zq_64, zq_65, zq_68, zq_72, zq_73, zq_85, zq_74, zq_75, zq_76, zq_71, zq_86, zq_87, zq_80, zq_41, zq_42, zq_43, zq_94, zq_95, zq_47, zq_48, zq_96, zq_97, zq_88, zq_89, zq_90, zq_93, zq_61, zq_62, zq_1, zq_2, zq_3, zq_4, zq_5, zq_46, zq_44] at g
          have h2 := zk_eqE_of h h2
          have h3 := zk_rds_of h h3
          rw [← h2] at g
          rw [g hwl, zk_RM_of hs]
          unfold zx_lw
          rw [if_neg (by omega), ← ha]
          refine zx_cw_env fun j hj => ?_
          have := h3 j hj
          rw [Nat.zero_add] at this
          rw [this]
          simp only [List.map_cons, List.map_nil]
          rw [hn _ rfl, hb _ rfl, hl _ rfl, ht _ rfl, hk _ rfl, hd _ rfl]
        · cases hv
      · cases hv
  · cases hv
theorem zk_f40_m {N : zk_N} {a : Nat} {b n w : zk_V} : ∀ {l : List zk_G}, zk_f40 N a b n l = some w → ∃ b' n', (40, [a], [b', n', w]) ∈ l ∧ zk_eqE N b b' = true ∧ zk_eqE N n n' = true
  | [], hw => by cases hw
  | q :: l, hw => by
    have up : zk_f40 N a b n l = some w → ∃ b' n', (40, [a], [b', n', w]) ∈ q :: l ∧ zk_eqE N b b' = true ∧ zk_eqE N n n' = true := fun h => by
      obtain ⟨y, z, h1, h2⟩ := zk_f40_m h
      exact ⟨y, z, List.mem_cons_of_mem _ h1, h2⟩
    obtain ⟨k, q2⟩ := q
    unfold zk_f40 at hw
    simp only at hw
    split at hw
    · rename_i hk
      have hk := Nat.eq_of_beq_eq_true hk
      subst hk
      split at hw
      · rename_i a' b' n' r
        split at hw
        · rename_i c
          simp only [Bool.and_eq_true] at c
          obtain ⟨⟨c1, c2⟩, c3⟩ := c
          have c1 := Nat.eq_of_beq_eq_true c1
          subst c1
          cases hw
          exact ⟨b', n', List.mem_cons_self, c2, c3⟩
        · exact up hw
      · exact up hw
    · exact up hw
theorem zk_scn_of {E : zk_E} {N : zk_N} (h : zk_ok E N) {R M : List Nat} {r : Nat} {b n : Option zk_V} {zb zn : Int} (hb : zk_sr E b zb) (hn : zk_sr E n zn) : zk_sr E (zk_scn N R M r b n) (zx_cn (zx_R (R.map E.2) (M.map E.2) r) zb zn.toNat : Int) := fun v hv => by
  unfold zk_scn at hv
  split at hv
  · rename_i b n a ha
    obtain ⟨b', n', g1, g2, g3⟩ := zk_f40_m hv
    have g := h.2.2 _ g1
    simp only [List.map_cons, List.map_nil, zq_6, zq_7, zq_8, zq_9, zq_20, zq_21, zq_22, zq_25, zq_26, zq_28, zq_30, zq_40, zq_51, zq_52, zq_53, zq_54, zq_55, zq_64, zq_65, zq_68, zq_72, zq_73, zq_85, zq_74, zq_75, zq_76, zq_71, zq_86, zq_87, zq_80, zq_41, zq_42, zq_43, zq_94, zq_95, zq_47, zq_48, zq_96, zq_97, zq_88, zq_89, zq_90, zq_93, zq_61, zq_62, zq_1, zq_2, zq_3, zq_4, zq_5, zq_46, zq_44] at g
    have g2 := zk_eqE_of h g2
    have g3 := zk_eqE_of h g3
    rw [g, zk_RM_of ha, ← g2, ← g3, hb _ rfl, hn _ rfl]
  · cases hv
theorem zk_spv_of {E : zk_E} {N : zk_N} (h : zk_ok E N) {R M rs : List Nat} {f e : Option zk_V} {zf ze : Int} (hf : zk_sr E f zf) (he : zk_sr E e ze) : zk_sr E (zk_spv N R M rs f e) (zx_pv (zx_R (R.map E.2) (M.map E.2) (rs.getD 0 0)) (zx_R (R.map E.2) (M.map E.2) (rs.getD 1 0)) (zx_R (R.map E.2) (M.map E.2) (rs.getD 2 0)) zf ze) := fun v hv => by
  unfold zk_spv at hv
  split at hv
  · rename_i f e a w u h1 h2 h3
    obtain ⟨f', e', g1, g2, g3⟩ := zk_f97_m hv
    have g := h.2.2 _ g1
    simp only [List.map_cons, List.map_nil, zq_6, zq_7, zq_8, zq_9, zq_20, zq_21, zq_22, zq_25, zq_26, zq_28, zq_30, zq_40, zq_51, zq_52, zq_53, zq_54, zq_55, zq_64, zq_65, zq_68, zq_72, zq_73, zq_85, zq_74, zq_75, zq_76, zq_71, zq_86, zq_87, zq_80, zq_41, zq_42, zq_43, zq_94, zq_95, zq_47, zq_48, zq_96, zq_97, zq_88, zq_89, zq_90, zq_93, zq_61, zq_62, zq_1, zq_2, zq_3, zq_4, zq_5, zq_46, zq_44] at g
    have g2 := zk_eqE_of h g2
    have g3 := zk_eqE_of h g3
    rw [← g2, ← g3, hf _ rfl, he _ rfl] at g
    rw [g, zk_RM_of h1, zk_RM_of h2, zk_RM_of h3]
  · cases hv
theorem zk_sst_of {E : zk_E} {N : zk_N} (h : zk_ok E N) {id : Nat} {R M : List Nat} {P S : List zk_V} {k : zk_V} {q : zx_I} {st : List (Option zk_V)} {st' : List Int} (hst : zk_srs E st st') : zk_srs E (zk_sst N id R M P k S q st) (zx_sst (zx_G id) (R.map E.2) (M.map E.2) (P.map (zk_i E)) (zk_i E k) (S.map (zk_i E)) q st') := by
  have hg : ∀ (l : List zk_V) (i : Nat), zk_sr E (zk_get l i) ((l.map (zk_i E)).getD i 0) := fun l i v hv => (zk_getD_of (f := zk_i E) (d := 0) hv).1.symm
  obtain ⟨op, n, l⟩ := q
  unfold zk_sst
  simp only
  split
  · exact zk_srs_c (zk_sr_some (zk_c_i E _)) hst
  · exact zk_srs_c (hg _ _) hst
  · exact zk_srs_c (zk_sr_some rfl) hst
  · exact zk_srs_c (hg _ _) hst
  · obtain ⟨z, r, rfl, h1, h2⟩ := zk_srs_d hst
    exact zk_srs_c (zk_srd_of h h1) h2
  · obtain ⟨w, r, rfl, h1, hst⟩ := zk_srs_d hst
    obtain ⟨z, r, rfl, h2, hst⟩ := zk_srs_d hst
    refine zk_srs_c (fun v hv => ?_) hst
    unfold zk_s2 at hv
    split at hv
    · cases hv
      rw [zk_vadd_i, h2 _ rfl, h1 _ rfl]
    · cases hv
  · obtain ⟨w, r, rfl, h1, hst⟩ := zk_srs_d hst
    obtain ⟨z, r, rfl, h2, hst⟩ := zk_srs_d hst
    refine zk_srs_c (fun v hv => ?_) hst
    unfold zk_s2 at hv
    split at hv
    · cases hv
      rw [zk_vsub_i, h2 _ rfl, h1 _ rfl]
    · cases hv
  · obtain ⟨z, r, rfl, h1, hst⟩ := zk_srs_d hst
    refine zk_srs_c (fun v hv => ?_) hst
    unfold zk_s1 at hv
    split at hv
    · cases hv
      rw [zk_vmul_i, h1 _ rfl]
    · cases hv
  · obtain ⟨w, r, rfl, h1, hst⟩ := zk_srs_d hst
    obtain ⟨z, r, rfl, h2, hst⟩ := zk_srs_d hst
    exact zk_srs_c (zk_sop_of h h2 h1) hst
  · obtain ⟨w, r, rfl, h1, hst⟩ := zk_srs_d hst
    obtain ⟨z, r, rfl, h2, hst⟩ := zk_srs_d hst
    exact zk_srs_c (zk_sle_of h h2 h1) hst
  · obtain ⟨w, r, rfl, h1, hst⟩ := zk_srs_d hst
    obtain ⟨z, r, rfl, h2, hst⟩ := zk_srs_d hst
    exact zk_srs_c (zk_seq_of h h2 h1) hst
  · obtain ⟨w, r, rfl, h1, hst⟩ := zk_srs_d hst
    obtain ⟨z, r, rfl, h2, hst⟩ := zk_srs_d hst
    exact zk_srs_c (zk_san_of h h2 h1) hst
  · obtain ⟨z, r, rfl, h1, hst⟩ := zk_srs_d hst
    exact zk_srs_c (zk_snt_of h h1) hst
  · obtain ⟨w, r, rfl, h1, hst⟩ := zk_srs_d hst
    obtain ⟨z, r, rfl, h2, hst⟩ := zk_srs_d hst
    obtain ⟨y, r, rfl, h3, hst⟩ := zk_srs_d hst
    exact zk_srs_c (zk_sit_of h h3 h2 h1) hst
  · obtain ⟨ze, r, rfl, h1, hst⟩ := zk_srs_d hst
    obtain ⟨zd, r, rfl, h2, hst⟩ := zk_srs_d hst
    obtain ⟨zc, r, rfl, h3, hst⟩ := zk_srs_d hst
    obtain ⟨zb, r, rfl, h4, hst⟩ := zk_srs_d hst
    obtain ⟨za, r, rfl, h5, hst⟩ := zk_srs_d hst
    exact zk_srs_c (zk_scl_of h h5 h4 h3 h2 h1) hst
  · obtain ⟨zd, r, rfl, h1, hst⟩ := zk_srs_d hst
    obtain ⟨zk, r, rfl, h2, hst⟩ := zk_srs_d hst
    obtain ⟨zt, r, rfl, h3, hst⟩ := zk_srs_d hst
    obtain ⟨zl, r, rfl, h4, hst⟩ := zk_srs_d hst
    obtain ⟨zb, r, rfl, h5, hst⟩ := zk_srs_d hst
    obtain ⟨zn, r, rfl, h6, hst⟩ := zk_srs_d hst
    obtain ⟨za, r, rfl, h7, hst⟩ := zk_srs_d hst
    exact zk_srs_c (zk_slw_of h h7 h6 h5 h4 h3 h2 h1) hst
  · obtain ⟨zz, r, rfl, h1, hst⟩ := zk_srs_d hst
    obtain ⟨zh, r, rfl, h2, hst⟩ := zk_srs_d hst
    obtain ⟨zg, r, rfl, h3, hst⟩ := zk_srs_d hst
    obtain ⟨zf, r, rfl, h4, hst⟩ := zk_srs_d hst
    obtain ⟨ze, r, rfl, h5, hst⟩ := zk_srs_d hst
    obtain ⟨zd, r, rfl, h6, hst⟩ := zk_srs_d hst
    obtain ⟨zc, r, rfl, h7, hst⟩ := zk_srs_d hst
    obtain ⟨zb, r, rfl, h8, hst⟩ := zk_srs_d hst
    obtain ⟨za, r, rfl, h9, hst⟩ := zk_srs_d hst
    exact zk_srs_c (zk_scl8_of h h9 h8 h7 h6 h5 h4 h3 h2 h1) hst
  · obtain ⟨zz, r, rfl, h1, hst⟩ := zk_srs_d hst
    obtain ⟨zv, r, rfl, k1, hst⟩ := zk_srs_d hst
    obtain ⟨zo, r, rfl, k2, hst⟩ := zk_srs_d hst
    obtain ⟨zh, r, rfl, h2, hst⟩ := zk_srs_d hst
    obtain ⟨zg, r, rfl, h3, hst⟩ := zk_srs_d hst
    obtain ⟨zf, r, rfl, h4, hst⟩ := zk_srs_d hst
    obtain ⟨ze, r, rfl, h5, hst⟩ := zk_srs_d hst
    obtain ⟨zd, r, rfl, h6, hst⟩ := zk_srs_d hst
    obtain ⟨zc, r, rfl, h7, hst⟩ := zk_srs_d hst
    obtain ⟨zb, r, rfl, h8, hst⟩ := zk_srs_d hst
    obtain ⟨za, r, rfl, h9, hst⟩ := zk_srs_d hst
    exact zk_srs_c (zk_scl8o_of h h9 h8 h7 h6 h5 h4 h3 h2 k2 k1 h1) hst
  · obtain ⟨ze, r, rfl, h1, hst⟩ := zk_srs_d hst
    obtain ⟨zf, r, rfl, h2, hst⟩ := zk_srs_d hst
    exact zk_srs_c (zk_spv_of h h2 h1) hst
  · obtain ⟨zn, r, rfl, h1, hst⟩ := zk_srs_d hst
    obtain ⟨zb, r, rfl, h2, hst⟩ := zk_srs_d hst
    exact zk_srs_c (zk_scn_of h h2 h1) hst
  · trivial
theorem zk_sevl_of {E : zk_E} {N : zk_N} (h : zk_ok E N) {id : Nat} {R M : List Nat} {P S : List zk_V} {k : zk_V} : ∀ {x : List zx_I} {st : List (Option zk_V)} {st' : List Int}, zk_srs E st st' → zk_srs E (zk_sevl N id R M P k S x st) (zx_evs (zx_G id) (R.map E.2) (M.map E.2) (P.map (zk_i E)) (zk_i E k) (S.map (zk_i E)) x st')
  | [], _, _, hst => hst
  | q :: l, _, _, hst => zk_sevl_of h (x := l) (zk_sst_of h hst)
theorem zk_sev_of {E : zk_E} {N : zk_N} (h : zk_ok E N) {id : Nat} {R M : List Nat} {P S : List zk_V} {k : zk_V} {x : List zx_I} {v : zk_V} (hv : zk_sev N id R M P k S x = some v) : zk_i E v = zx_ev (zx_G id) (R.map E.2) (M.map E.2) (P.map (zk_i E)) (zk_i E k) (S.map (zk_i E)) x := by
  have g := zk_sevl_of h (id := id) (R := R) (M := M) (P := P) (S := S) (k := k) (x := x) (st := []) (st' := []) trivial
  unfold zk_sev at hv
  unfold zx_ev
  split at hv
  · rename_i o r he
    rw [he] at g
    match zx_evs (zx_G id) (R.map E.2) (M.map E.2) (P.map (zk_i E)) (zk_i E k) (S.map (zk_i E)) x [], g with
    | z :: r', ⟨g1, _⟩ => exact g1 v hv
  · cases hv
/-- expressions worked out, all of them -/
def zk_sevs (N : zk_N) (id : Nat) (R M : List Nat) (P : List zk_V) (k : zk_V) (S : List zk_V) : List (List zx_I) → Option (List zk_V)
  | [] => some []
  | x :: l => match zk_sev N id R M P k S x, zk_sevs N id R M P k S l with
    | some v, some r => some (v :: r)
    | _, _ => none
theorem zk_sevs_of {E : zk_E} {N : zk_N} (h : zk_ok E N) {id : Nat} {R M : List Nat} {P S : List zk_V} {k : zk_V} : ∀ {l : List (List zx_I)} {r : List zk_V}, zk_sevs N id R M P k S l = some r → r.map (zk_i E) = l.map (zx_ev (zx_G id) (R.map E.2) (M.map E.2) (P.map (zk_i E)) (zk_i E k) (S.map (zk_i E)))
  | [], r, hr => by
    unfold zk_sevs at hr
    cases hr
    rfl
  | x :: l, r, hr => by
    unfold zk_sevs at hr
    split at hr
    · rename_i v r' h1 h2
      cases hr
      rw [List.map_cons, List.map_cons, zk_sev_of h h1, zk_sevs_of h h2]
    · cases hr
/-- what comes of it is told by symbols below the next one -/
theorem zk_frd_sv {N : zk_N} (hc : zk_cl N) {a : Nat} {i w : zk_V} : ∀ {l : List zk_G}, (∀ q ∈ l, q ∈ N.2.2.2) → zk_frd N a i l = some w → zk_sv N.1 w
  | [], _, hw => by cases hw
  | q :: l, hl, hw => by
    have up : zk_frd N a i l = some w → zk_sv N.1 w := zk_frd_sv hc fun q hq => hl q (List.mem_cons_of_mem _ hq)
    have h2 := hc.2.2 q (hl q List.mem_cons_self)
    obtain ⟨k, rs, vs⟩ := q
    unfold zk_frd at hw
    simp only at hw h2
    split at hw
    · split at hw
      · rename_i heq
        cases heq
        split at hw
        · cases hw
          exact h2.2 _ (by simp)
        · exact up hw
      · exact up hw
    · exact up hw
theorem zk_fl4_sv {N : zk_N} (hc : zk_cl N) {x w : zk_V} : ∀ {l : List zk_G}, (∀ q ∈ l, q ∈ N.2.2.2) → zk_fl4 N x l = some w → zk_sv N.1 w
  | [], _, hw => by cases hw
  | q :: l, hl, hw => by
    have up : zk_fl4 N x l = some w → zk_sv N.1 w := zk_fl4_sv hc fun q hq => hl q (List.mem_cons_of_mem _ hq)
    have h2 := hc.2.2 q (hl q List.mem_cons_self)
    obtain ⟨k, rs, vs⟩ := q
    unfold zk_fl4 at hw
    simp only at hw h2
    split at hw
    · split at hw
      · rename_i heq
        cases heq
        split at hw
        · cases hw
          exact h2.2 _ (by simp)
        · exact up hw
      · exact up hw
    · exact up hw
theorem zk_fq6_sv {N : zk_N} (hc : zk_cl N) {x y w : zk_V} : ∀ {l : List zk_G}, (∀ q ∈ l, q ∈ N.2.2.2) → zk_fq6 N x y l = some w → zk_sv N.1 w
  | [], _, hw => by cases hw
  | q :: l, hl, hw => by
    have up : zk_fq6 N x y l = some w → zk_sv N.1 w := zk_fq6_sv hc fun q hq => hl q (List.mem_cons_of_mem _ hq)
    have h2 := hc.2.2 q (hl q List.mem_cons_self)
    obtain ⟨k, rs, vs⟩ := q
    unfold zk_fq6 at hw
    simp only at hw h2
    split at hw
    · split at hw
      · rename_i heq
        cases heq
        split at hw
        · cases hw
          exact h2.2 _ (by simp)
        · exact up hw
      · exact up hw
    · exact up hw
theorem zk_fcl_sv {N : zk_N} (hc : zk_cl N) {id : Nat} {rs : List Nat} {ps w : List zk_V} {K : zk_V} : ∀ {l : List zk_G}, (∀ q ∈ l, q ∈ N.2.2.2) → zk_fcl N id rs ps K l = some w → ∀ v ∈ w, zk_sv N.1 v
  | [], _, hw => by cases hw
  | q :: l, hl, hw => by
    have up : zk_fcl N id rs ps K l = some w → ∀ v ∈ w, zk_sv N.1 v := zk_fcl_sv hc fun q hq => hl q (List.mem_cons_of_mem _ hq)
    have h2 := hc.2.2 q (hl q List.mem_cons_self)
    obtain ⟨k, rs1, vs⟩ := q
    unfold zk_fcl at hw
    simp only at hw h2
    split at hw
    · split at hw
      · rename_i heq
        cases heq
        split at hw
        · cases hw
          exact fun v hv => h2.2 v (List.mem_cons_of_mem _ (List.mem_cons_of_mem _ (List.mem_of_mem_drop hv)))
        · exact up hw
      · exact up hw
    · split at hw
      · split at hw
        · rename_i heq
          cases heq
          split at hw
          · cases hw
            exact fun v hv => h2.2 v (List.mem_cons_of_mem _ (List.mem_cons_of_mem _ (List.mem_of_mem_drop hv)))
          · exact up hw
        · exact up hw
      · exact up hw
theorem zk_f96_sv {N : zk_N} (hc : zk_cl N) {s : Nat} {len w : zk_V} {e : List zk_V} (hw : zk_f96 N s len e N.2.2.2 = some w) : zk_sv N.1 w := by
  obtain ⟨_, _, h1, -⟩ := zk_f96_m hw
  exact (hc.2.2 _ h1).2 _ (by simp)
theorem zk_f40_sv {N : zk_N} (hc : zk_cl N) {a : Nat} {b n w : zk_V} (hw : zk_f40 N a b n N.2.2.2 = some w) : zk_sv N.1 w := by
  obtain ⟨_, _, h1, -⟩ := zk_f40_m hw
  exact (hc.2.2 _ h1).2 _ (by simp)
theorem zk_f97_sv {N : zk_N} (hc : zk_cl N) {a w v : Nat} {f e r : zk_V} (hw : zk_f97 N a w v f e N.2.2.2 = some r) : zk_sv N.1 r := by
  obtain ⟨_, _, h1, -⟩ := zk_f97_m hw
  exact (hc.2.2 _ h1).2 _ (by simp)
def zk_svo (n : Nat) (o : Option zk_V) : Prop := ∀ v, o = some v → zk_sv n v
theorem zk_svo_c {n : Nat} {z : Int} : zk_svo n (some (zk_c z)) := fun _ h => by
  cases h
  exact zk_c_sv
theorem zk_svo_n {n : Nat} : zk_svo n none := fun _ h => by cases h
theorem zk_svo_m {n : Nat} {l : List zk_V} (hl : ∀ v ∈ l, zk_sv n v) {i : Nat} : zk_svo n (zk_get l i) := fun v hv => hl v (zk_getD_of (f := fun x : zk_V => x) (d := zk_c 0) hv).2
theorem zk_n86_sv {N : zk_N} {n : Nat} {x w : zk_V} (hw : zk_n86 N x = some w) : zk_sv n w := by
  unfold zk_n86 at hw
  split at hw
  · cases hw
    exact zk_c_sv
  · skip
    split at hw
    · cases hw
      exact zk_c_sv
    · skip
      split at hw
      · cases hw
        exact zk_c_sv
      · skip
        split at hw
        · cases hw
          exact zk_c_sv
        · skip
          split at hw
          · cases hw
            exact zk_c_sv
          · skip
            split at hw
            · cases hw
              exact zk_c_sv
            · skip
              split at hw
              · cases hw
                exact zk_c_sv
              · cases hw
theorem zk_sst_sv {N : zk_N} (hc : zk_cl N) {id : Nat} {R M : List Nat} {P S : List zk_V} {k : zk_V} (hP : ∀ v ∈ P, zk_sv N.1 v) (hS : ∀ v ∈ S, zk_sv N.1 v) (hk : zk_sv N.1 k) {q : zx_I} {st : List (Option zk_V)} (hst : ∀ o ∈ st, zk_svo N.1 o) : ∀ o ∈ zk_sst N id R M P k S q st, zk_svo N.1 o := by
  have co : ∀ {a : Option zk_V} {l : List (Option zk_V)}, zk_svo N.1 a → (∀ o ∈ l, zk_svo N.1 o) → ∀ o ∈ a :: l, zk_svo N.1 o := fun ha hl o ho => by
    rcases List.mem_cons.mp ho with rfl | ho
    · exact ha
    · exact hl o ho
  unfold zk_sst
  split
  · exact co zk_svo_c hst
  · exact co (zk_svo_m hP) hst
  · refine co (fun v hv => ?_) hst
    cases hv
    exact hk
  · exact co (zk_svo_m hS) hst
  · refine co (fun v hv => ?_) (fun o ho => hst o (by simp [ho]))
    unfold zk_srd at hv
    split at hv
    · split at hv
      · exact zk_frd_sv hc (fun q hq => hq) hv
      · cases hv
    · cases hv
  · refine co (fun v hv => ?_) (fun o ho => hst o (by simp [ho]))
    unfold zk_s2 at hv
    split at hv
    · cases hv
      exact zk_vadd_sv (hst _ (by simp) _ rfl) (hst _ (by simp) _ rfl)
    · cases hv
  · refine co (fun v hv => ?_) (fun o ho => hst o (by simp [ho]))
    unfold zk_s2 at hv
    split at hv
    · cases hv
      exact zk_vsub_sv (hst _ (by simp) _ rfl) (hst _ (by simp) _ rfl)
    · cases hv
  · refine co (fun v hv => ?_) (fun o ho => hst o (by simp [ho]))
    unfold zk_s1 at hv
    split at hv
    · cases hv
      exact zk_vmul_sv (hst _ (by simp) _ rfl)
    · cases hv
  · refine co (fun v hv => ?_) (fun o ho => hst o (by simp [ho]))
    unfold zk_sop at hv
    split at hv
    · split at hv
      · split at hv
        · cases hv
          exact hst _ (by simp) _ rfl
        · exact zk_fl4_sv hc (fun q hq => hq) hv
      · split at hv
        · exact zk_fq6_sv hc (fun q hq => hq) hv
        · cases hv
      · split at hv
        · split at hv
          · rename_i u hu
            cases hv
            exact zk_f86_sv hc (fun q hq => hq) hu
          · exact zk_n86_sv hv
        · cases hv
      · split at hv
        · cases hv
          exact hst _ (by simp) _ rfl
        · exact zk_f7_sv hc hv
      · split at hv
        · exact zk_f80_sv hc hv
        · cases hv
      · split at hv
        · exact zk_f80_sv hc hv
        · cases hv
      · split at hv
        · exact zk_f80_sv hc hv
        · cases hv
      · split at hv
        · exact zk_f80_sv hc hv
        · cases hv
      · split at hv
        · exact zk_f80_sv hc hv
        · cases hv
      · split at hv
        · exact zk_f80_sv hc hv
        · cases hv
      · split at hv
        · exact zk_f80_sv hc hv
        · cases hv
      · split at hv
        · cases hv
          exact hst _ (by simp) _ rfl
        · split at hv
          · cases hv
            exact zk_c_sv
          · split at hv
            · cases hv
              exact zk_c_sv
            · cases hv
      · split at hv
        · cases hv
          exact hst _ (by simp) _ rfl
        · split at hv
          · cases hv
            exact zk_c_sv
          · cases hv
      · split at hv
        · exact zk_f80_sv hc hv
        · cases hv
      · cases hv
    · cases hv
  · refine co (fun v hv => ?_) (fun o ho => hst o (by simp [ho]))
    unfold zk_sle at hv
    split at hv
    · split at hv
      · cases hv
        exact zk_c_sv
      · split at hv
        · cases hv
          exact zk_c_sv
        · cases hv
    · cases hv
  · refine co (fun v hv => ?_) (fun o ho => hst o (by simp [ho]))
    unfold zk_seq at hv
    split at hv
    · split at hv
      · cases hv
        exact zk_c_sv
      · split at hv
        · cases hv
          exact zk_c_sv
        · cases hv
    · cases hv
  · refine co (fun v hv => ?_) (fun o ho => hst o (by simp [ho]))
    unfold zk_san at hv
    split at hv
    · cases hv
      exact zk_c_sv
    · cases hv
      exact zk_c_sv
    · cases hv
      exact zk_c_sv
    · cases hv
  · refine co (fun v hv => ?_) (fun o ho => hst o (by simp [ho]))
    unfold zk_snt at hv
    split at hv
    · cases hv
      exact zk_c_sv
    · cases hv
      exact zk_c_sv
    · cases hv
  · refine co (fun v hv => ?_) (fun o ho => hst o (by simp [ho]))
    unfold zk_sit at hv
    split at hv
    · exact hst _ (by simp) v hv
    · exact hst _ (by simp) v hv
    · cases hv
  · refine co (fun v hv => ?_) (fun o ho => hst o (by simp [ho]))
    unfold zk_scl at hv
    split at hv
    · split at hv
      · split at hv
        · split at hv
          · rename_i s hs
            exact zk_fcl_sv hc (fun q hq => hq) hs v (zk_getD_of (f := fun x : zk_V => x) (d := zk_c 0) hv).2
          · cases hv
        · cases hv
      · cases hv
    · cases hv
  · refine co (fun v hv => ?_) (fun o ho => hst o (by simp [ho]))
    unfold zk_slw at hv
    split at hv
    · split at hv
      · split at hv
        · split at hv
          · split at hv
            · rename_i q hq
              cases hv
              exact zk_vsub_sv (zk_vsub_sv (hst _ (by simp) _ rfl) (hst _ (by simp) _ rfl)) (zk_f80_sv hc hq)
            · cases hv
          · cases hv
        · cases hv
      · split at hv
        · split at hv
          · exact zk_f96_sv hc hv
          · cases hv
        · cases hv
    · cases hv
  · refine co (fun v hv => ?_) (fun o ho => hst o (by simp [ho]))
    unfold zk_scl8 at hv
    split at hv
    · split at hv
      · split at hv
        · exact zk_f46_sv hc (fun q hq => hq) hv
        · cases hv
      · cases hv
    · cases hv
  · refine co (fun v hv => ?_) (fun o ho => hst o (by simp [ho]))
    unfold zk_scl8o at hv
    split at hv
    · split at hv
      · split at hv
        · exact zk_f44_sv hc (fun q hq => hq) hv
        · cases hv
      · cases hv
    · cases hv
  · refine co (fun v hv => ?_) (fun o ho => hst o (by simp [ho]))
    unfold zk_spv at hv
    split at hv
    · exact zk_f97_sv hc hv
    · cases hv
  · refine co (fun v hv => ?_) (fun o ho => hst o (by simp [ho]))
    unfold zk_scn at hv
    split at hv
    · exact zk_f40_sv hc hv
    · cases hv
  · exact fun o ho => absurd ho List.not_mem_nil
theorem zk_sevl_sv {N : zk_N} (hc : zk_cl N) {id : Nat} {R M : List Nat} {P S : List zk_V} {k : zk_V} (hP : ∀ v ∈ P, zk_sv N.1 v) (hS : ∀ v ∈ S, zk_sv N.1 v) (hk : zk_sv N.1 k) : ∀ {x : List zx_I} {st : List (Option zk_V)}, (∀ o ∈ st, zk_svo N.1 o) → ∀ o ∈ zk_sevl N id R M P k S x st, zk_svo N.1 o
  | [], _, hst => hst
  | q :: l, _, hst => zk_sevl_sv hc hP hS hk (x := l) (zk_sst_sv hc hP hS hk hst)
theorem zk_sev_sv {N : zk_N} (hc : zk_cl N) {id : Nat} {R M : List Nat} {P S : List zk_V} {k : zk_V} (hP : ∀ v ∈ P, zk_sv N.1 v) (hS : ∀ v ∈ S, zk_sv N.1 v) (hk : zk_sv N.1 k) {x : List zx_I} {v : zk_V} (hv : zk_sev N id R M P k S x = some v) : zk_sv N.1 v := by
  have g := zk_sevl_sv hc (id := id) (R := R) (M := M) hP hS hk (x := x) (st := []) (fun o ho => absurd ho List.not_mem_nil)
  unfold zk_sev at hv
  split at hv
  · rename_i o r he
    rw [he] at g
    exact g o List.mem_cons_self v hv
  · cases hv
theorem zk_sevs_sv {N : zk_N} (hc : zk_cl N) {id : Nat} {R M : List Nat} {P S : List zk_V} {k : zk_V} (hP : ∀ v ∈ P, zk_sv N.1 v) (hS : ∀ v ∈ S, zk_sv N.1 v) (hk : zk_sv N.1 k) : ∀ {l : List (List zx_I)} {r : List zk_V}, zk_sevs N id R M P k S l = some r → ∀ v ∈ r, zk_sv N.1 v
  | [], r, hr => by
    unfold zk_sevs at hr
    cases hr
    exact fun v hv => absurd hv List.not_mem_nil
  | x :: l, r, hr => by
    unfold zk_sevs at hr
    split at hr
    · rename_i v r' h1 h2
      cases hr
      intro u hu
      rcases List.mem_cons.mp hu with rfl | hu
      · exact zk_sev_sv hc hP hS hk h1
      · exact zk_sevs_sv hc hP hS hk h2 u hu
    · cases hr
def zk_tkR (id : Nat) (rs : List Nat) : List Nat := rs.take (rs.length - (zx_dn id).2.1)
def zk_tkM (id : Nat) (rs : List Nat) : List Nat := rs.drop (rs.length - (zx_dn id).2.1)
def zk_st90 (N : zk_N) (rs : List Nat) (id : Int) (K : zk_V) (v : List zk_V) (q : zk_G) : Bool := match Nat.beq q.1 90 with
  | true => match q.2 with
    | (rs', i' :: K' :: v') => zk_eqi (zk_fci N i') id && zk_eqNs rs' rs && zk_n2 N (zk_vsub K K') && zk_nz N (zk_hd0 (v'.drop (zx_dn id.toNat).1)) && zk_eqEs N v' v
    | _ => false
  | false => false
/-- a few turns worked out -/
def zk_unr (N : zk_N) (id : Nat) (R : List Nat) (P : List zk_V) : Nat → Option (List zk_V)
  | 0 => zk_sevs N id R [] P (zk_c 0) [] (zx_dn id).2.2.1
  | t + 1 => match zk_unr N id R P t with
    | some s => match zk_b3 N (some (zk_hd0 s)) with
      | 0 => zk_sevs N id R [] P (zk_c (Int.ofNat t)) s (zx_dn id).2.2.2.1
      | 1 => some s
      | _ => none
    | none => none
/-- a told function so often or less often, once it stays -/
def zk_st93 (N : zk_N) (rs : List Nat) (id : Int) (K : zk_V) (v : List zk_V) (q : zk_G) : Bool := match Nat.beq q.1 93 with
  | true => match q.2 with
    | (rs', i' :: K' :: v') => zk_eqi (zk_fci N i') id && zk_eqNs rs' rs && zk_n2 N (zk_vsub K K') && zk_nz N (zk_hd0 (v'.drop (zx_dn id.toNat).1)) && zk_eqEs N v' v
    | _ => false
  | false => false
def zk_we93 (N : zk_N) (rs : List Nat) (id : Int) (K : zk_V) (v : List zk_V) (q : zk_G) : Bool := match Nat.beq q.1 93 with
  | true => match q.2 with
    | (rs', i' :: K' :: v') => zk_eqi (zk_fci N i') id && zk_eqNs rs' rs && zk_n2 N (zk_vsub K K') && zk_eqEs N v' v
    | _ => false
  | false => false
def zk_in93 (N : zk_N) (id : Nat) (rs : List Nat) (v : List zk_V) : Bool := zk_eqNs (zk_tkM id rs) (zk_tkM id (zk_tkR id rs)) && (match zk_sevs N id (zk_tkR id rs) [] (v.take (zx_dn id).1) (zk_c 0) [] (zx_dn id).2.2.1 with
  | some s => zk_eqEs N s (v.drop (zx_dn id).1)
  | none => false)
def zk_un90 (N : zk_N) (id : Nat) (rs : List Nat) (K : zk_V) (v : List zk_V) : Bool := match zk_cst K with
  | some z => Nat.beq (zx_dn id).2.1 0 && (zx_dn id).2.2.2.2.isEmpty && zk_le 0 z && (match zk_unr N id rs (v.take (zx_dn id).1) (match zk_le z 5 with
      | true => z.toNat
      | false => 5) with
    | some s => zk_eqEs N s (v.drop (zx_dn id).1) && (zk_le z 5 || zk_nz N (zk_hd0 s))
    | none => false)
  | none => false
def zk_ok93 (N : zk_N) : List Nat × List zk_V → Bool
  | (rs, i :: K :: v) => zk_le 0 (zk_fci N i) && (zk_n2 N K && zk_in93 N (zk_fci N i).toNat rs v || N.2.2.2.any (zk_we93 N rs (zk_fci N i) K v))
  | _ => false
/-- what a told function is at first; or what it was once it stays -/
def zk_ok90 (N : zk_N) : List Nat × List zk_V → Bool
  | (rs, i :: K :: v) => zk_le 0 (zk_fci N i) && (
      (zk_eqE N K (zk_c 0) && zk_eqNs (zk_tkM (zk_fci N i).toNat rs) (zk_tkM (zk_fci N i).toNat (zk_tkR (zk_fci N i).toNat rs)) && (match zk_sevs N (zk_fci N i).toNat (zk_tkR (zk_fci N i).toNat rs) [] (v.take (zx_dn (zk_fci N i).toNat).1) (zk_c 0) [] (zx_dn (zk_fci N i).toNat).2.2.1 with
        | some s => zk_eqEs N s (v.drop (zx_dn (zk_fci N i).toNat).1)
        | none => false))
      || N.2.2.2.any (zk_st90 N rs (zk_fci N i) K v) || N.2.2.2.any (zk_st93 N rs (zk_fci N i) K v) || zk_un90 N (zk_fci N i).toNat rs K v)
  | _ => false
theorem zk_tkR_i {f : Nat → zx_Rw} {id : Nat} {rs : List Nat} : (rs.map f).take ((rs.map f).length - (zx_dn id).2.1) = (zk_tkR id rs).map f := by
  unfold zk_tkR
  rw [List.length_map, List.map_take]
theorem zk_tkM_i {f : Nat → zx_Rw} {id : Nat} {rs : List Nat} : (rs.map f).drop ((rs.map f).length - (zx_dn id).2.1) = (zk_tkM id rs).map f := by
  unfold zk_tkM
  rw [List.length_map, List.map_drop]
theorem zk_in93_of {E : zk_E} {N : zk_N} (h : zk_ok E N) {id : Nat} {rs : List Nat} {v : List zk_V} (hx : zk_in93 N id rs v = true) : zx_F id ((zk_tkR id rs).map E.2) ((v.take (zx_dn id).1).map (zk_i E)) 0 = ((v.drop (zx_dn id).1).map (zk_i E), (zk_tkM id rs).map E.2) := by
  unfold zk_in93 at hx
  rw [Bool.and_eq_true] at hx
  obtain ⟨hM, h2⟩ := hx
  have hM := zk_eqNs_of hM
  split at h2
  · rename_i s hs'
    have h2 := zk_eqEs_of h h2
    have e1 := zk_sevs_of h hs'
    rw [zk_c_i] at e1
    refine Prod.ext ?_ ?_
    · rw [← h2, e1]
      rfl
    · rw [hM]
      exact zk_tkM_i
  · cases h2
theorem zk_le_true {a b : Int} (h : a ≤ b) : zk_le a b = true := by
  cases hb : zk_le a b with
  | true => rfl
  | false => exact absurd h (by have := zk_le_no hb; omega)
theorem zk_le_false {a b : Int} (h : ¬ a ≤ b) : zk_le a b = false := by
  cases hb : zk_le a b with
  | false => rfl
  | true => exact absurd (zk_le_of hb) h
theorem zk_unr_of {E : zk_E} {N : zk_N} (h : zk_ok E N) {id : Nat} {R : List Nat} {P : List zk_V} (h1 : (zx_dn id).2.1 = 0) (h2 : (zx_dn id).2.2.2.2 = []) : ∀ {t : Nat} {s : List zk_V}, zk_unr N id R P t = some s → zx_F id (R.map E.2) (P.map (zk_i E)) t = (s.map (zk_i E), [])
  | 0, s, hs => by
    unfold zk_unr at hs
    have e1 := zk_sevs_of h hs
    rw [zk_c_i] at e1
    refine Prod.ext ?_ ?_
    · rw [e1]
      rfl
    · show (R.map E.2).drop ((R.map E.2).length - (zx_dn id).2.1) = []
      rw [h1, Nat.sub_zero, List.drop_length]
  | t + 1, s, hs => by
    unfold zk_unr at hs
    split at hs
    · rename_i s' hs'
      have ih := zk_unr_of h h1 h2 hs'
      have hb := zk_b3_of h (o := some (zk_hd0 s')) (z := zk_i E (zk_hd0 s')) (zk_sr_some rfl)
      have h0 : (s'.map (zk_i E)).getD 0 0 = zk_i E (zk_hd0 s') := by
        cases s' with
        | nil => exact (zk_c_i E 0).symm
        | cons a l => rfl
      show (if (zx_F id (R.map E.2) (P.map (zk_i E)) t).1.getD 0 0 = 0 then ((zx_dn id).2.2.2.1.map (zx_ev (zx_G id) (R.map E.2) (zx_F id (R.map E.2) (P.map (zk_i E)) t).2 (P.map (zk_i E)) (t : Int) (zx_F id (R.map E.2) (P.map (zk_i E)) t).1), zx_sto (zx_G id) (R.map E.2) (zx_F id (R.map E.2) (P.map (zk_i E)) t).2 (P.map (zk_i E)) (t : Int) (zx_F id (R.map E.2) (P.map (zk_i E)) t).1 (zx_dn id).2.2.2.2 (zx_F id (R.map E.2) (P.map (zk_i E)) t).2) else zx_F id (R.map E.2) (P.map (zk_i E)) t) = _
      rw [ih]
      simp only
      split at hs
      · rename_i hz
        have e1 := zk_sevs_of h hs
        rw [zk_c_i] at e1
        rw [if_pos (by rw [h0]; exact hb.1 hz), h2, e1]
        rfl
      · rename_i hz
        cases hs
        rw [if_neg (by rw [h0]; exact hb.2 hz)]
      · cases hs
    · cases hs
theorem zk_ok90_of {E : zk_E} {N : zk_N} (h : zk_ok E N) {x : List Nat × List zk_V} (hx : zk_ok90 N x = true) : zx_90 (x.1.map E.2) (x.2.map (zk_i E)) := by
  unfold zk_ok90 at hx
  split at hx
  · rename_i rs i K v
    simp only [Bool.and_eq_true, Bool.or_eq_true, List.any_eq_true] at hx
    obtain ⟨h0, hx⟩ := hx
    have h0 := zk_le_of h0
    have hi := zk_fci_i h h0
    simp only [List.map_cons, zx_90]
    rw [hi, zk_tkR_i, zk_tkM_i, ← List.map_take, ← List.map_drop]
    refine ⟨h0, ?_⟩
    rcases hx with ((⟨⟨h1, hM⟩, h2⟩ | ⟨q, hq, hx⟩) | ⟨q, hq, hx⟩) | hx
    · have h1 := zk_eqE_of h h1
      have hM := zk_eqNs_of hM
      rw [zk_c_i] at h1
      rw [h1]
      refine ⟨by omega, ?_⟩
      split at h2
      · rename_i s hs'
        have h2 := zk_eqEs_of h h2
        have e1 := zk_sevs_of h hs'
        rw [zk_c_i] at e1
        refine Prod.ext ?_ ?_
        · rw [← h2, e1]
          rfl
        · rw [hM]
          exact zk_tkM_i
      · cases h2
    · obtain ⟨k, q2⟩ := q
      have t := h.2.2 _ hq
      unfold zk_st90 at hx
      simp only at hx t
      split at hx
      · rename_i hk
        have hk := Nat.eq_of_beq_eq_true hk
        subst hk
        split at hx
        · rename_i rs' i' K' v'
          simp only [Bool.and_eq_true] at hx
          obtain ⟨⟨⟨⟨a1, a2⟩, a3⟩, a4⟩, a5⟩ := hx
          have a1 := zk_eqi_of a1
          have a2 := zk_eqNs_of a2
          have a3 := zk_n2_ok h a3
          have a4 := zk_nz_ok h a4
          have a5 := zk_eqEs_of h a5
          subst a2
          rw [zk_vsub_i] at a3
          simp only [List.map_cons, zq_6, zq_7, zq_8, zq_9, zq_20, zq_21, zq_22, zq_25, zq_26, zq_28, zq_30, zq_40, zq_51, zq_52, zq_53, zq_54, zq_55, zq_64, zq_65, zq_68, zq_72, zq_73, zq_85, zq_74, zq_75, zq_76, zq_71, zq_86, zq_87, zq_80, zq_41, zq_42, zq_43, zq_94, zq_95, zq_47, zq_48, zq_96, zq_97, zq_88, zq_89, zq_90, zq_93, zq_61, zq_62, zq_1, zq_2, zq_3, zq_4, zq_5, zq_46, zq_44, zx_90] at t
          have hi' : zk_i E i' = zk_fci N i := by
            rw [← a1]
            exact zk_fci_i h (by rw [a1]; exact h0)
          obtain ⟨t1, t2, t3⟩ := t
          rw [hi', zk_tkR_i, zk_tkM_i] at t3
          refine ⟨by omega, ?_⟩
          rw [List.map_take, List.map_drop, ← a5]
          rw [← t3]
          have ek : (zk_i E K).toNat = (zk_i E K').toNat + ((zk_i E K).toNat - (zk_i E K').toNat) := by omega
          rw [ek]
          refine zx_it_stay ?_
          show (zx_F (zk_fci N i).toNat ((zk_tkR (zk_fci N i).toNat rs').map E.2) (List.take (zx_dn (zk_fci N i).toNat).1 (List.map (zk_i E) v')) (zk_i E K').toNat).1.getD 0 0 ≠ 0
          rw [t3, ← List.map_drop]
          cases hd : v'.drop (zx_dn (zk_fci N i).toNat).1 with
          | nil =>
            rw [hd] at a4
            exact absurd (zk_c_i E 0) a4
          | cons a l =>
            rw [hd] at a4
            exact a4
        · cases hx
      · cases hx
    · obtain ⟨k, q2⟩ := q
      have t := h.2.2 _ hq
      unfold zk_st93 at hx
      simp only at hx t
      split at hx
      · rename_i hk
        have hk := Nat.eq_of_beq_eq_true hk
        subst hk
        split at hx
        · rename_i rs' i' K' v'
          simp only [Bool.and_eq_true] at hx
          obtain ⟨⟨⟨⟨a1, a2⟩, a3⟩, a4⟩, a5⟩ := hx
          have a1 := zk_eqi_of a1
          have a2 := zk_eqNs_of a2
          have a3 := zk_n2_ok h a3
          have a4 := zk_nz_ok h a4
          have a5 := zk_eqEs_of h a5
          subst a2
          rw [zk_vsub_i] at a3
          simp only [List.map_cons, zq_6, zq_7, zq_8, zq_9, zq_20, zq_21, zq_22, zq_25, zq_26, zq_28, zq_30, zq_40, zq_51, zq_52, zq_53, zq_54, zq_55, zq_64, zq_65, zq_68, zq_72, zq_73, zq_85, zq_74, zq_75, zq_76, zq_71, zq_86, zq_87, zq_80, zq_41, zq_42, zq_43, zq_94, zq_95, zq_47, zq_48, zq_96, zq_97, zq_88, zq_89, zq_90, zq_93, zq_61, zq_62, zq_1, zq_2, zq_3, zq_4, zq_5, zq_46, zq_44, zx_93] at t
          have hi' : zk_i E i' = zk_fci N i := by
            rw [← a1]
            exact zk_fci_i h (by rw [a1]; exact h0)
          obtain ⟨t1, K0, t2, t3⟩ := t
          rw [hi', zk_tkR_i, zk_tkM_i] at t3
          refine ⟨by omega, ?_⟩
          rw [List.map_take, List.map_drop, ← a5]
          rw [← t3]
          have ek : (zk_i E K).toNat = K0 + ((zk_i E K).toNat - K0) := by omega
          rw [ek]
          refine zx_it_stay ?_
          show (zx_F (zk_fci N i).toNat ((zk_tkR (zk_fci N i).toNat rs').map E.2) (List.take (zx_dn (zk_fci N i).toNat).1 (List.map (zk_i E) v')) K0).1.getD 0 0 ≠ 0
          rw [t3, ← List.map_drop]
          cases hd : v'.drop (zx_dn (zk_fci N i).toNat).1 with
          | nil =>
            rw [hd] at a4
            exact absurd (zk_c_i E 0) a4
          | cons a l =>
            rw [hd] at a4
            exact a4
        · cases hx
      · cases hx
    · unfold zk_un90 at hx
      split at hx
      · rename_i z hz
        have hz := zk_cst_of (E := E) hz
        simp only [Bool.and_eq_true] at hx
        obtain ⟨⟨⟨a1, a2⟩, a3⟩, a5⟩ := hx
        have a1 := Nat.eq_of_beq_eq_true a1
        have a2 := List.isEmpty_iff.mp a2
        have a3 := zk_le_of a3
        rw [hz]
        refine ⟨a3, ?_⟩
        split at a5
        · rename_i s hs'
          rw [Bool.and_eq_true, Bool.or_eq_true] at a5
          obtain ⟨a5, a6⟩ := a5
          have a5 := zk_eqEs_of h a5
          have e1 := zk_unr_of h a1 a2 hs'
          have eR : zk_tkR (zk_fci N i).toNat rs = rs := by
            unfold zk_tkR
            rw [a1, Nat.sub_zero, List.take_length]
          have eM : zk_tkM (zk_fci N i).toNat rs = [] := by
            unfold zk_tkM
            rw [a1, Nat.sub_zero, List.drop_length]
          rw [eR, eM]
          by_cases hz3 : z ≤ 5
          · rw [zk_le_true hz3] at e1
            rw [e1, a5]
            rfl
          · rw [zk_le_false hz3] at e1 a6
            have a6 := zk_nz_ok h (a6.resolve_left (by decide))
            have ek : z.toNat = 5 + (z.toNat - 5) := by omega
            rw [ek]
            have g := zx_it_stay (cl := zx_G (zk_fci N i).toNat) (d := zx_dn (zk_fci N i).toNat) (R := rs.map E.2) (P := (v.take (zx_dn (zk_fci N i).toNat).1).map (zk_i E)) (K := 5) (n := z.toNat - 5) (by
              show (zx_F (zk_fci N i).toNat (rs.map E.2) ((v.take (zx_dn (zk_fci N i).toNat).1).map (zk_i E)) 5).1.getD 0 0 ≠ 0
              rw [e1]
              cases s with
              | nil => exact absurd (zk_c_i E 0) a6
              | cons a l => exact a6)
            refine g.trans ?_
            show zx_F (zk_fci N i).toNat (rs.map E.2) ((v.take (zx_dn (zk_fci N i).toNat).1).map (zk_i E)) 5 = _
            rw [e1, a5]
            rfl
        · cases a5
      · cases hx
  · cases hx
theorem zk_ok93_of {E : zk_E} {N : zk_N} (h : zk_ok E N) {x : List Nat × List zk_V} (hx : zk_ok93 N x = true) : zx_93 (x.1.map E.2) (x.2.map (zk_i E)) := by
  unfold zk_ok93 at hx
  split at hx
  · rename_i rs i K v
    simp only [Bool.and_eq_true, Bool.or_eq_true, List.any_eq_true] at hx
    obtain ⟨h0, hx⟩ := hx
    have h0 := zk_le_of h0
    have hi := zk_fci_i h h0
    simp only [List.map_cons, zx_93]
    rw [hi, zk_tkR_i, zk_tkM_i, ← List.map_take, ← List.map_drop]
    refine ⟨h0, ?_⟩
    rcases hx with ⟨h1, h2⟩ | ⟨q, hq, hx⟩
    · exact ⟨0, zk_n2_ok h h1, zk_in93_of h h2⟩
    · obtain ⟨k, q2⟩ := q
      have t := h.2.2 _ hq
      unfold zk_we93 at hx
      simp only at hx t
      split at hx
      · rename_i hk
        have hk := Nat.eq_of_beq_eq_true hk
        subst hk
        split at hx
        · rename_i rs' i' K' v'
          simp only [Bool.and_eq_true] at hx
          obtain ⟨⟨⟨a1, a2⟩, a3⟩, a5⟩ := hx
          have a1 := zk_eqi_of a1
          have a2 := zk_eqNs_of a2
          have a3 := zk_n2_ok h a3
          have a5 := zk_eqEs_of h a5
          subst a2
          rw [zk_vsub_i] at a3
          simp only [List.map_cons, zq_6, zq_7, zq_8, zq_9, zq_20, zq_21, zq_22, zq_25, zq_26, zq_28, zq_30, zq_40, zq_51, zq_52, zq_53, zq_54, zq_55, zq_64, zq_65, zq_68, zq_72, zq_73, zq_85, zq_74, zq_75, zq_76, zq_71, zq_86, zq_87, zq_80, zq_41, zq_42, zq_43, zq_94, zq_95, zq_47, zq_48, zq_96, zq_97, zq_88, zq_89, zq_90, zq_93, zq_61, zq_62, zq_1, zq_2, zq_3, zq_4, zq_5, zq_46, zq_44, zx_93] at t
          have hi' : zk_i E i' = zk_fci N i := by
            rw [← a1]
            exact zk_fci_i h (by rw [a1]; exact h0)
          obtain ⟨t1, K0, t2, t3⟩ := t
          rw [hi', zk_tkR_i, zk_tkM_i] at t3
          refine ⟨K0, by omega, ?_⟩
          rw [List.map_take, List.map_drop, ← a5]
          exact t3
        · cases hx
      · cases hx
  · cases hx
end
