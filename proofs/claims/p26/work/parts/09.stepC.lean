noncomputable section
/-! branches -/
def zk_br (z : zk_Z) (r : List zk_T) (t : Option Nat) (N : Option zk_N) (L : List (Option Nat × zk_Z)) : List (Option Nat × zk_Z) := match N with
  | some N => (t, (N, z.2.1, z.2.2.1, r)) :: L
  | none => L
def zk_off (pc : Nat) (off : Int) : Option Nat := match Int.ofNat pc + off with
  | .ofNat t => some t
  | .negSucc _ => none
theorem zk_off_of {pc : Nat} {off : Int} {t : Nat} (h : zk_off pc off = some t) : (pc : Int) + off = (t : Int) := by
  unfold zk_off at h
  split at h
  · rename_i k hk
    cases h
    exact hk
  · cases h
/-- one case of a switch: x is k -/
def zk_case (z : zk_Z) (pc : Nat) (x : zk_V) (r : List zk_T) (k off : Int) (rest : Option (List (Option Nat × zk_Z))) : Option (List (Option Nat × zk_Z)) := match rest, zk_off pc off with
  | some L, some t => some (zk_br z r (some t) (zk_eqs z.1 (zk_vsub x (zk_c k))) L)
  | _, _ => none
def zk_cases (z : zk_Z) (pc : Nat) (x : zk_V) (r : List zk_T) : List (Int × Int) → Option (List (Option Nat × zk_Z)) → Option (List (Option Nat × zk_Z))
  | [], d => d
  | q :: l, d => zk_case z pc x r q.1 q.2 (zk_cases z pc x r l d)
/-- x is none of the keys -/
def zk_nons (x : zk_V) : List (Int × Int) → Option zk_N → Option zk_N
  | [], N => N
  | q :: l, some N => zk_nons x l (zk_nes N (zk_vsub x (zk_c q.1)))
  | _ :: _, none => none
def zk_nums : Int → List Int → List (Int × Int)
  | _, [] => []
  | k, o :: l => (k, o) :: zk_nums (k + 1) l
def zk_sC (q : zk_I) (z : zk_Z) : Option (List (Option Nat × zk_Z)) := match q.2.1 with
  | .ifCond c _ => match zk_i1 z.2.2.2 with
    | some (x, r) => some (zk_br z r (some q.2.2.2.2.1) (zk_cmp z.1 c true x (zk_c 0)) (zk_br z r none (zk_cmp z.1 c false x (zk_c 0)) []))
    | none => none
  | .if_icmp c _ => match zk_i2 z.2.2.2 with
    | some (x, y, r) => some (zk_br z r (some q.2.2.2.2.1) (zk_cmp z.1 c true x y) (zk_br z r none (zk_cmp z.1 c false x y) []))
    | none => none
  | .ifnull _ => match z.2.2.2 with
    | t :: r => match zk_isR t.1 with
      | true => match Nat.beq t.1 2 with
        | true => some [(some q.2.2.2.2.1, (z.1, z.2.1, z.2.2.1, r))]
        | false => some [(none, (z.1, z.2.1, z.2.2.1, r))]
      | false => none
    | [] => none
  | .ifnonnull _ => match z.2.2.2 with
    | t :: r => match zk_isR t.1 with
      | true => match Nat.beq t.1 2 with
        | true => some [(none, (z.1, z.2.1, z.2.2.1, r))]
        | false => some [(some q.2.2.2.2.1, (z.1, z.2.1, z.2.2.1, r))]
      | false => none
    | [] => none
  | .lcmp => match zk_l2 z.2.2.2 with
    | some (x, y, r) => match zk_inL z.1 x && zk_inL z.1 y with
      | true => some (zk_br z ((0, 0, zk_c (-1)) :: r) none (zk_asm z.1 (zk_vsub (zk_vsub y x) (zk_c 1))) (zk_br z ((0, 0, zk_c 0) :: r) none (zk_eqs z.1 (zk_vsub x y)) (zk_br z ((0, 0, zk_c 1) :: r) none (zk_asm z.1 (zk_vsub (zk_vsub x y) (zk_c 1))) [])))
      | false => none
    | none => none
  | .tableswitch d lo hi os => match zk_i1 z.2.2.2 with
    | some (x, r) => match zk_in z.1 x && (zk_eqi (Int.ofNat os.toList.length) (hi - lo + 1)), zk_off q.1 d with
      | true, some t => zk_cases z q.1 x r (zk_nums lo os.toList) (some (zk_br z r (some t) (zk_asm z.1 (zk_vsub (zk_c (lo - 1)) x)) (zk_br z r (some t) (zk_asm z.1 (zk_vsub x (zk_c (hi + 1)))) [])))
      | _, _ => none
    | none => none
  | .lookupswitch d ps => match zk_i1 z.2.2.2 with
    | some (x, r) => match zk_in z.1 x, zk_off q.1 d with
      | true, some t => zk_cases z q.1 x r ps.toList (some (zk_br z r (some t) (zk_nons x ps.toList (some z.1)) []))
      | _, _ => none
    | none => none
  | _ => none
def zk_kC (q : zk_I) : Prop := match q.2.1 with
  | .ifCond _ off => q.2.2.1 = 3 ∧ (q.1 : Int) + off = (q.2.2.2.2.1 : Int)
  | .if_icmp _ off => q.2.2.1 = 3 ∧ (q.1 : Int) + off = (q.2.2.2.2.1 : Int)
  | .ifnull off => q.2.2.1 = 3 ∧ (q.1 : Int) + off = (q.2.2.2.2.1 : Int)
  | .ifnonnull off => q.2.2.1 = 3 ∧ (q.1 : Int) + off = (q.2.2.2.2.1 : Int)
  | .lcmp => q.2.2.1 = 1
  | .lookupswitch _ ps => (ps.toList.zip (ps.toList.drop 1)).all (fun (a, next) => a.1 < next.1) = true
  | _ => True
theorem zk_br_mem {z : zk_Z} {r : List zk_T} {t : Option Nat} {N N' : zk_N} {o : Option zk_N} {L : List (Option Nat × zk_Z)} (h : o = some N') : (t, (N', z.2.1, z.2.2.1, r)) ∈ zk_br z r t o L := by
  rw [h]
  exact List.mem_cons_self
theorem zk_br_sub {z : zk_Z} {r : List zk_T} {t : Option Nat} {o : Option zk_N} {L : List (Option Nat × zk_Z)} {u : Option Nat × zk_Z} (h : u ∈ L) : u ∈ zk_br z r t o L := by
  unfold zk_br
  split
  · exact List.mem_cons_of_mem _ h
  · exact h
section ZC
variable {p : Program} {l : Launch} {e : Env} {R : Room} {s : State} {m : MethodId} {args : Array Value} {below : List Frame} {meth : Method} {c : Code} {cells slots : Nat} {Q : State → Prop}
variable {dC : Nat → ClassId} {dI : Nat → Nat → Nat} {cl : List vw_C} {ad st : Nat → Nat} {cid : zk_CI} {ba : Nat} {ly : List (Nat × Nat)} {nL : Nat} {H0 : Heap} {E : zk_E} {H : Heap} {locs : List Loc} {ls : Array Slot} {stk : List Value}
variable {cc : ByteArray} {q : zk_I} {z : zk_Z} {L : List (Option Nat × zk_Z)}
theorem zk_case_sub {pc : Nat} {x : zk_V} {r : List zk_T} : ∀ {ps : List (Int × Int)} {d : List (Option Nat × zk_Z)} {L : List (Option Nat × zk_Z)}, zk_cases z pc x r ps (some d) = some L → ∀ u ∈ d, u ∈ L
  | [], d, L, h, u, hu => by cases h; exact hu
  | a :: ps, d, L, h, u, hu => by
    unfold zk_cases zk_case at h
    split at h
    · rename_i L1 t h1 ht
      cases h
      exact zk_br_sub (zk_case_sub h1 u hu)
    · cases h
theorem zk_case_at {pc : Nat} {x : zk_V} {r : List zk_T} : ∀ {ps : List (Int × Int)} {d : Option (List (Option Nat × zk_Z))} {L : List (Option Nat × zk_Z)}, zk_cases z pc x r ps d = some L → ∀ a ∈ ps, ∀ N', zk_eqs z.1 (zk_vsub x (zk_c a.1)) = some N' → ∃ t, zk_off pc a.2 = some t ∧ (some t, (N', z.2.1, z.2.2.1, r)) ∈ L
  | [], d, L, h, a, ha, _, _ => by cases ha
  | b :: ps, d, L, h, a, ha, N', hN => by
    unfold zk_cases zk_case at h
    split at h
    · rename_i L1 t h1 ht
      cases h
      rcases List.mem_cons.mp ha with rfl | ha
      · exact ⟨t, ht, zk_br_mem (N := z.1) hN⟩
      · obtain ⟨t', e1, e2⟩ := zk_case_at h1 a ha N' hN
        exact ⟨t', e1, zk_br_sub e2⟩
    · cases h
theorem zk_nums_at : ∀ {k : Int} {os : List Int} {j : Nat} {o : Int}, os[j]? = some o → (k + j, o) ∈ zk_nums k os
  | k, [], j, o, h => by simp at h
  | k, a :: l, 0, o, h => by
    simp at h
    subst h
    unfold zk_nums
    simp
  | k, a :: l, j + 1, o, h => by
    rw [List.getElem?_cons_succ] at h
    have := zk_nums_at (k := k + 1) h
    unfold zk_nums
    rw [show k + ((j + 1 : Nat) : Int) = k + 1 + (j : Int) by omega]
    exact List.mem_cons_of_mem _ this
theorem zk_nons_ok {x : zk_V} : ∀ {ps : List (Int × Int)} {N : zk_N}, zk_ok E N → zk_cl N → zk_sv N.1 x → (∀ a ∈ ps, zk_i E x ≠ a.1) → ∃ N', zk_nons x ps (some N) = some N' ∧ zk_ok E N' ∧ zk_cl N' ∧ N'.1 = N.1
  | [], N, h, hc, hx, _ => ⟨N, rfl, h, hc, rfl⟩
  | a :: ps, N, h, hc, hx, hn => by
    obtain ⟨N1, e1, k1⟩ := zk_nes_ok h (d := zk_vsub x (zk_c a.1)) (by rw [zk_vsub_i, zk_c_i]; have := hn a List.mem_cons_self; omega)
    obtain ⟨c1, n1⟩ := zk_nes_cl hc (zk_vsub_sv hx zk_c_sv) e1
    obtain ⟨N2, e2, k2, c2, n2⟩ := zk_nons_ok k1 c1 (by rw [n1]; exact hx) (fun b hb => hn b (List.mem_cons_of_mem _ hb))
    exact ⟨N2, by unfold zk_nons; rw [e1]; exact e2, k2, c2, n2.trans n1⟩
theorem zk_offset_cases {ps : List (Int × Int)} {d x : Int} : (∃ a ∈ ps, x = a.1 ∧ Op.lookupswitch.offset ps d x = a.2) ∨ ((∀ a ∈ ps, x ≠ a.1) ∧ Op.lookupswitch.offset ps d x = d) := by
  induction ps with
  | nil => exact Or.inr ⟨fun a ha => absurd ha List.not_mem_nil, rfl⟩
  | cons b l ih =>
    obtain ⟨b1, b2⟩ := b
    by_cases hb : x = b1
    · exact Or.inl ⟨(b1, b2), List.mem_cons_self, hb, by simp [Op.lookupswitch.offset, hb]⟩
    · have e : Op.lookupswitch.offset ((b1, b2) :: l) d x = Op.lookupswitch.offset l d x := by simp [Op.lookupswitch.offset, hb, Ne.symm hb, eq_comm]
      rcases ih with ⟨a, h1, h2, h3⟩ | ⟨h1, h2⟩
      · exact Or.inl ⟨a, List.mem_cons_of_mem _ h1, h2, by rw [e]; exact h3⟩
      · refine Or.inr ⟨fun a ha => ?_, by rw [e]; exact h2⟩
        rcases List.mem_cons.mp ha with rfl | ha
        · exact hb
        · exact h1 a ha
set_option maxHeartbeats 2000000 in
theorem zk_sC_ok (hx : p.tables.exec = Jvm.exec) (hb : c.code = cc) (hd : decode cc q.1 = .ok (q.2.1, q.2.2.1)) (hk : zk_kC q)
    (h : zk_At dC dI cl ad st cid ba ly nL H0 E z H locs ls stk) (he : zk_sC q z = some L) (hg : ∀ r ∈ L, zk_go (zk_W p l e R s m args below meth c cells slots Q) (zk_At dC dI cl ad st cid ba ly nL H0) E z.1.1 r.2 (zk_tg q r.1)) : W p l e R s m args below meth c H locs cells slots Q (F0 m q.1 ls stk) := by
  obtain ⟨pc, ins, len, ann, qa, qb, qc⟩ := q
  obtain ⟨N, hp, lc, sk⟩ := z
  have hok := h.1.1
  have hcl := h.1.2.1
  have hsv := h.2.1.2.1
  have hstk := h.2.1.2.2.2
  unfold zk_sC at he
  unfold zk_kC at hk
  simp only at he hd hk hok hcl hsv hstk ⊢
  have z0 : Int32.ofInt (zk_i E (zk_c 0)) = 0 := by rw [zk_c_i]; rfl
  split at he <;> simp only at hk
  · rename_i cd off
    obtain ⟨rfl, hk⟩ := hk
    split at he
    · rename_i x r hr
      obtain ⟨k, rfl⟩ := zk_i1_of hr
      injection he with he
      subst he
      have hxs := hsv _ List.mem_cons_self
      have go : ∀ t : Bool, (t = true ↔ zk_holds cd (Int32.ofInt (zk_i E x)) 0) → W p l e R s m args below meth c H locs cells slots Q (F0 m (if t then qa else pc + 3) ls (r.map (zk_v E ad st))) := by
        intro t ht
        rw [← z0] at ht
        obtain ⟨N', e1, k1⟩ := zk_cmp_ok hok ht
        obtain ⟨c1, n1⟩ := zk_cmp_cl hcl hxs zk_c_sv e1
        cases t
        · exact zk_know (pc := pc + 3) h (fun u hu => List.mem_cons_of_mem _ hu) k1 c1 n1 (hg (none, (N', hp, lc, r)) (zk_br_sub (zk_br_mem (N := N) e1)))
        · exact zk_know (pc := qa) h (fun u hu => List.mem_cons_of_mem _ hu) k1 c1 n1 (hg (some qa, (N', hp, lc, r)) (zk_br_mem (N := N) e1))
      rw [hstk, List.map_cons, zk_vi]
      cases cd
      · exact lv_if_eq hx hb hd hk (fun a => go true (by simp [zk_holds, a])) (fun a => go false (by simp [zk_holds, a]))
      · exact lv_if_ne hx hb hd hk (fun a => go true (by simp [zk_holds, a])) (fun a => go false (by simp [zk_holds, a]))
      · exact lv_if_lt hx hb hd hk (fun a => go true (by simp only [zk_holds, true_iff]; exact a)) (fun a => go false (by simp only [zk_holds, Bool.false_eq_true, false_iff]; exact a))
      · exact lv_if_ge hx hb hd hk (fun a => go true (by simp only [zk_holds, true_iff]; exact a)) (fun a => go false (by simp only [zk_holds, Bool.false_eq_true, false_iff]; exact a))
      · exact lv_if_gt hx hb hd hk (fun a => go true (by simp only [zk_holds, true_iff]; exact a)) (fun a => go false (by simp only [zk_holds, Bool.false_eq_true, false_iff]; exact a))
      · exact lv_if_le hx hb hd hk (fun a => go true (by simp only [zk_holds, true_iff]; exact a)) (fun a => go false (by simp only [zk_holds, Bool.false_eq_true, false_iff]; exact a))
    · cases he
  · rename_i cd off
    obtain ⟨rfl, hk⟩ := hk
    split at he
    · rename_i x y r hr
      obtain ⟨k, j, rfl⟩ := zk_i2_of hr
      injection he with he
      subst he
      have hys := hsv _ List.mem_cons_self
      have hxs := hsv (0, j, x) (by simp)
      have go : ∀ t : Bool, (t = true ↔ zk_holds cd (Int32.ofInt (zk_i E x)) (Int32.ofInt (zk_i E y))) → W p l e R s m args below meth c H locs cells slots Q (F0 m (if t then qa else pc + 3) ls (r.map (zk_v E ad st))) := by
        intro t ht
        obtain ⟨N', e1, k1⟩ := zk_cmp_ok hok ht
        obtain ⟨c1, n1⟩ := zk_cmp_cl hcl hxs hys e1
        cases t
        · exact zk_know (pc := pc + 3) h (fun u hu => List.mem_cons_of_mem _ (List.mem_cons_of_mem _ hu)) k1 c1 n1 (hg (none, (N', hp, lc, r)) (zk_br_sub (zk_br_mem (N := N) e1)))
        · exact zk_know (pc := qa) h (fun u hu => List.mem_cons_of_mem _ (List.mem_cons_of_mem _ hu)) k1 c1 n1 (hg (some qa, (N', hp, lc, r)) (zk_br_mem (N := N) e1))
      rw [hstk, List.map_cons, List.map_cons, zk_vi, zk_vi]
      cases cd
      · exact lv_icmp_eq hx hb hd hk (fun a => go true (by simp [zk_holds, a])) (fun a => go false (by simp [zk_holds, a]))
      · exact lv_icmp_ne hx hb hd hk (fun a => go true (by simp [zk_holds, a])) (fun a => go false (by simp [zk_holds, a]))
      · exact lv_icmp_lt hx hb hd hk (fun a => go true (by simp only [zk_holds, true_iff]; exact a)) (fun a => go false (by simp only [zk_holds, Bool.false_eq_true, false_iff]; exact a))
      · exact lv_icmp_ge hx hb hd hk (fun a => go true (by simp only [zk_holds, true_iff]; exact a)) (fun a => go false (by simp only [zk_holds, Bool.false_eq_true, false_iff]; exact a))
      · exact lv_icmp_gt hx hb hd hk (fun a => go true (by simp only [zk_holds, true_iff]; exact a)) (fun a => go false (by simp only [zk_holds, Bool.false_eq_true, false_iff]; exact a))
      · exact lv_icmp_le hx hb hd hk (fun a => go true (by simp only [zk_holds, true_iff]; exact a)) (fun a => go false (by simp only [zk_holds, Bool.false_eq_true, false_iff]; exact a))
    · cases he
  · obtain ⟨rfl, hk⟩ := hk
    split at he
    · rename_i t r
      split at he
      · rename_i hR
        split at he
        · rename_i h2
          have h2 := Nat.eq_of_beq_eq_true h2
          cases he
          have ev : zk_v E ad st t = .null := by simp only [zk_v, h2]
          rw [hstk, List.map_cons, ev]
          exact lv_ifnullN hx hb hd hk (zk_same h (r := r) (fun u hu => hsv u (List.mem_cons_of_mem _ hu)) (hg _ List.mem_cons_self))
        · rename_i h2
          cases he
          rcases zk_isR_of (E := E) (ad := ad) (st := st) hR with ev | ⟨a, ev⟩
          · exfalso
            unfold zk_isR at hR
            simp only [Bool.and_eq_true, Nat.ble_eq] at hR
            have h3 : t.1 ≠ 2 := fun g => by rw [g] at h2; cases h2
            have : t.1 = 3 ∨ t.1 = 4 := by omega
            rcases this with g | g <;> simp [zk_v, g] at ev
          · rw [hstk, List.map_cons, ev]
            exact lv_ifnull hx hb hd (zk_same h (r := r) (fun u hu => hsv u (List.mem_cons_of_mem _ hu)) (hg _ List.mem_cons_self))
      · cases he
    · cases he
  · obtain ⟨rfl, hk⟩ := hk
    split at he
    · rename_i t r
      split at he
      · rename_i hR
        split at he
        · rename_i h2
          have h2 := Nat.eq_of_beq_eq_true h2
          cases he
          have ev : zk_v E ad st t = .null := by simp only [zk_v, h2]
          rw [hstk, List.map_cons, ev]
          exact lv_ifnonnullN hx hb hd (zk_same h (r := r) (fun u hu => hsv u (List.mem_cons_of_mem _ hu)) (hg _ List.mem_cons_self))
        · rename_i h2
          cases he
          rcases zk_isR_of (E := E) (ad := ad) (st := st) hR with ev | ⟨a, ev⟩
          · exfalso
            unfold zk_isR at hR
            simp only [Bool.and_eq_true, Nat.ble_eq] at hR
            have h3 : t.1 ≠ 2 := fun g => by rw [g] at h2; cases h2
            have : t.1 = 3 ∨ t.1 = 4 := by omega
            rcases this with g | g <;> simp [zk_v, g] at ev
          · rw [hstk, List.map_cons, ev]
            exact lv_ifnonnull hx hb hd hk (zk_same h (r := r) (fun u hu => hsv u (List.mem_cons_of_mem _ hu)) (hg _ List.mem_cons_self))
      · cases he
    · cases he
  · obtain rfl := hk
    split at he
    · rename_i x y r hr
      obtain ⟨k, j, rfl⟩ := zk_l2_of hr
      split at he
      · rename_i g
        simp only [Bool.and_eq_true] at g
        injection he with he
        subst he
        have hys := hsv _ List.mem_cons_self
        have hxs := hsv (1, j, x) (by simp)
        have ix := zk_inL_ok hok g.1
        have iy := zk_inL_ok hok g.2
        have hsub : ∀ (v : Int), ∀ u ∈ ((0, 0, zk_c v) : zk_T) :: r, zk_tv N.1 u := fun v u hu => by
          rcases List.mem_cons.mp hu with rfl | hu
          · exact zk_c_sv
          · exact hsv u (List.mem_cons_of_mem _ (List.mem_cons_of_mem _ hu))
        have fin : ∀ (v : Int) (N' : zk_N), zk_ok E N' → zk_cl N' → N'.1 = N.1 → (none, (N', hp, lc, ((0, 0, zk_c v) : zk_T) :: r)) ∈ (zk_br (N, hp, lc, (1, k, y) :: (1, j, x) :: r) ((0, 0, zk_c (-1)) :: r) none (zk_asm N (zk_vsub (zk_vsub y x) (zk_c 1))) (zk_br (N, hp, lc, (1, k, y) :: (1, j, x) :: r) ((0, 0, zk_c 0) :: r) none (zk_eqs N (zk_vsub x y)) (zk_br (N, hp, lc, (1, k, y) :: (1, j, x) :: r) ((0, 0, zk_c 1) :: r) none (zk_asm N (zk_vsub (zk_vsub x y) (zk_c 1))) []))) → lg_cmp (Int64.ofInt (zk_i E x)) (Int64.ofInt (zk_i E y)) = Int32.ofInt v → W p l e R s m args below meth c H locs cells slots Q (F0 m pc ls stk) := by
          intro v N' k1 c1 n1 hm hv
          rw [hstk, List.map_cons, List.map_cons, zk_vl, zk_vl]
          refine W.lcmp hx hb hd ?_
          rw [hv]
          have := zk_same (pc := pc + 1) (X := zk_W p l e R s m args below meth c cells slots Q) (r := ((0, 0, zk_c v) : zk_T) :: r) (N := N') (sk := (1, k, y) :: (1, j, x) :: r) (H := H) (locs := locs) (ls := ls) (stk := stk) (hp := hp) (lc := lc) (E := E) (dC := dC) (dI := dI) (cl := cl) (ad := ad) (st := st) (cid := cid) (ba := ba) (ly := ly) (nL := nL) (H0 := H0) ⟨zk_wd_to h.1 zk_ag_rf k1 c1 (Nat.le_of_eq n1.symm), zk_fr_to h.2.1 zk_ag_rf (Nat.le_of_eq n1.symm), h.2.2⟩ (fun u hu => zk_tv_le (Nat.le_of_eq n1.symm) (hsub v u hu)) (fun E' H' lo' ls' st' a b => (hg _ hm) E' H' lo' ls' st' (by rw [← n1]; exact a) (by show N.1 ≤ N'.1; omega))
          rw [List.map_cons, zk_vi, zk_c_i] at this
          exact this
        rcases Int.lt_trichotomy (zk_i E x) (zk_i E y) with o | o | o
        · obtain ⟨N', e1, k1⟩ := zk_asm_ok hok (d := zk_vsub (zk_vsub y x) (zk_c 1)) (by rw [zk_vsub_i, zk_vsub_i, zk_c_i]; omega)
          obtain ⟨c1, n1⟩ := zk_asm_cl hcl (zk_vsub_sv (zk_vsub_sv hys hxs) zk_c_sv) e1
          refine fin (-1) N' k1 c1 n1 (zk_br_mem (N := N) e1) ?_
          unfold lg_cmp
          rw [if_neg (by show ¬ (_ < _); rw [Int64.lt_iff_toInt_lt, ix, iy]; omega), if_neg (by rw [← Int64.toInt_inj, ix, iy]; omega)]
          rfl
        · obtain ⟨N', e1, k1⟩ := zk_eqs_ok hok (d := zk_vsub x y) (by rw [zk_vsub_i]; omega)
          obtain ⟨c1, n1⟩ := zk_eqs_cl hcl (zk_vsub_sv hxs hys) e1
          refine fin 0 N' k1 c1 n1 (zk_br_sub (zk_br_mem (N := N) e1)) ?_
          unfold lg_cmp
          rw [if_neg (by show ¬ (_ < _); rw [Int64.lt_iff_toInt_lt, ix, iy]; omega), if_pos (by rw [o])]
          rfl
        · obtain ⟨N', e1, k1⟩ := zk_asm_ok hok (d := zk_vsub (zk_vsub x y) (zk_c 1)) (by rw [zk_vsub_i, zk_vsub_i, zk_c_i]; omega)
          obtain ⟨c1, n1⟩ := zk_asm_cl hcl (zk_vsub_sv (zk_vsub_sv hxs hys) zk_c_sv) e1
          refine fin 1 N' k1 c1 n1 (zk_br_sub (zk_br_sub (zk_br_mem (N := N) e1))) ?_
          unfold lg_cmp
          rw [if_pos (by show _ < _; rw [Int64.lt_iff_toInt_lt, ix, iy]; omega)]
          rfl
      · cases he
    · cases he
  · rename_i d lo hi os
    split at he
    · rename_i x r hr
      obtain ⟨k, rfl⟩ := zk_i1_of hr
      split at he
      · rename_i t g ht
        simp only [Bool.and_eq_true] at g
        have ix := zk_in_ok hok g.1
        have hlen := zk_eqi_of g.2
        have hxs := hsv _ List.mem_cons_self
        rw [hstk, List.map_cons, zk_vi]
        by_cases o1 : zk_i E x < lo
        · obtain ⟨N', e1, k1⟩ := zk_asm_ok hok (d := zk_vsub (zk_c (lo - 1)) x) (by rw [zk_vsub_i, zk_c_i]; omega)
          obtain ⟨c1, n1⟩ := zk_asm_cl hcl (zk_vsub_sv zk_c_sv hxs) e1
          refine lv_tableOut hx hb hd (by rw [ix]; exact Or.inl o1) (zk_off_of ht) ?_
          exact zk_know h (fun u hu => List.mem_cons_of_mem _ hu) k1 c1 n1 (hg (some t, (N', hp, lc, r)) (zk_case_sub he _ (zk_br_mem (N := N) e1)))
        · by_cases o2 : hi < zk_i E x
          · obtain ⟨N', e1, k1⟩ := zk_asm_ok hok (d := zk_vsub x (zk_c (hi + 1))) (by rw [zk_vsub_i, zk_c_i]; omega)
            obtain ⟨c1, n1⟩ := zk_asm_cl hcl (zk_vsub_sv hxs zk_c_sv) e1
            refine lv_tableOut hx hb hd (by rw [ix]; exact Or.inr o2) (zk_off_of ht) ?_
            exact zk_know h (fun u hu => List.mem_cons_of_mem _ hu) k1 c1 n1 (hg (some t, (N', hp, lc, r)) (zk_case_sub he _ (zk_br_sub (zk_br_mem (N := N) e1))))
          · obtain ⟨j, hj⟩ : ∃ j : Nat, zk_i E x = lo + j := ⟨(zk_i E x - lo).toNat, by omega⟩
            have hjl : j < os.toList.length := by have : (Int.ofNat os.toList.length : Int) = (os.toList.length : Int) := rfl; omega
            have ho : os.toList[j]? = some os.toList[j] := List.getElem?_eq_getElem hjl
            obtain ⟨N', e1, k1⟩ := zk_eqs_ok hok (d := zk_vsub x (zk_c (lo + j))) (by rw [zk_vsub_i, zk_c_i]; omega)
            obtain ⟨c1, n1⟩ := zk_eqs_cl hcl (zk_vsub_sv hxs zk_c_sv) e1
            obtain ⟨t', e2, e3⟩ := zk_case_at he _ (zk_nums_at (k := lo) ho) N' e1
            refine lv_tableIn hx hb hd (by rw [ix]; exact o1) (by rw [ix]; exact o2) (off := os.toList[j]) ?_ (zk_off_of e2) ?_
            · rw [ix, hj, show (lo + (j : Int) - lo).toNat = j by omega, ← Array.getElem?_toList]
              exact ho
            · exact zk_know h (fun u hu => List.mem_cons_of_mem _ hu) k1 c1 n1 (hg (some t', (N', hp, lc, r)) e3)
      · cases he
    · cases he
  · rename_i d ps
    split at he
    · rename_i x r hr
      obtain ⟨k, rfl⟩ := zk_i1_of hr
      split at he
      · rename_i t g ht
        have ix := zk_in_ok hok g
        have hxs := hsv _ List.mem_cons_self
        rw [hstk, List.map_cons, zk_vi]
        rcases zk_offset_cases (ps := ps.toList) (d := d) (x := zk_i E x) with ⟨a, h1, h2, h3⟩ | ⟨h1, h2⟩
        · obtain ⟨N', e1, k1⟩ := zk_eqs_ok hok (d := zk_vsub x (zk_c a.1)) (by rw [zk_vsub_i, zk_c_i]; omega)
          obtain ⟨c1, n1⟩ := zk_eqs_cl hcl (zk_vsub_sv hxs zk_c_sv) e1
          obtain ⟨t', e2, e3⟩ := zk_case_at he a h1 N' e1
          refine lv_lookup hx hb hd hk (off := a.2) (by rw [ix]; exact h3) (zk_off_of e2) ?_
          exact zk_know h (fun u hu => List.mem_cons_of_mem _ hu) k1 c1 n1 (hg (some t', (N', hp, lc, r)) e3)
        · obtain ⟨N', e1, k1, c1, n1⟩ := zk_nons_ok hok hcl hxs h1
          refine lv_lookup hx hb hd hk (off := d) (by rw [ix]; exact h2) (zk_off_of ht) ?_
          exact zk_know h (fun u hu => List.mem_cons_of_mem _ hu) k1 c1 n1 (hg (some t, (N', hp, lc, r)) (zk_case_sub he _ (zk_br_mem (N := N) e1)))
      · cases he
    · cases he
  · cases he
end ZC
end
