noncomputable section
section ZN
variable {dC : Nat → ClassId} {dI : Nat → Nat → Nat} {cl : List vw_C} {ad st : Nat → Nat} {cid : zk_CI} {ba : Nat} {ly : List (Nat × Nat)} {tab : zk_Tab} {G nw : List Jvm.Cond} {PT : List zk_M} {l : Launch}
/-- the open loops: from each head, with less left, the walk goes on -/
def zk_HC (dC : Nat → ClassId) (dI : Nat → Nat → Nat) (cl : List vw_C) (ad st : Nat → Nat) (cid : zk_CI) (ba : Nat) (ly : List (Nat × Nat)) (nL : Nat) (H0 : Heap) (X : zk_X) (cx : List zk_Cx) (E : zk_E) (n : Nat) : Prop := ∀ en ∈ cx, zk_ok E en.2.1 ∧ zk_cl en.2.1 ∧ en.2.1.1 ≤ en.2.2.1.1 ∧ en.2.2.1.1 ≤ n ∧ zk_sv en.2.2.1.1 en.2.2.2.2.2.2.1 ∧ zk_fitC en.2.2.1 en.2.2.2.1 en.2.2.2.2.1 en.2.2.2.2.2.1 = true ∧ (zk_ok E (zk_cat2 en.2.2.1 en.2.1) ∧ zk_cl (zk_cat2 en.2.2.1 en.2.1)) ∧
  ∀ (E2 : zk_E) (H : Heap) (locs : List Loc) (ls : Array Slot) (stk : List Value), zk_ag en.2.1.1 E E2 → zk_At dC dI cl ad st cid ba ly nL H0 E2 (zk_cat2 en.2.2.1 en.2.1, en.2.2.2.1, en.2.2.2.2.1, en.2.2.2.2.2.1) H locs ls stk → (zk_i E2 en.2.2.2.2.2.2.1).toNat < (zk_i E en.2.2.2.2.2.2.1).toNat → X H locs en.1 ls stk
theorem zk_HC_to {nL : Nat} {H0 : Heap} {X : zk_X} {cx : List zk_Cx} {E E' : zk_E} {n n' : Nat} (h : zk_HC dC dI cl ad st cid ba ly nL H0 X cx E n) (ha : zk_ag n E E') (hn : n ≤ n') : zk_HC dC dI cl ad st cid ba ly nL H0 X cx E' n' := by
  intro en hen
  obtain ⟨h1, h2, h3, h4, h5, h5b, h5c, h6⟩ := h en hen
  refine ⟨zk_ok_ag h1 h2 (zk_ag_le ha (by omega)), h2, h3, by omega, h5, h5b, ⟨zk_ok_ag h5c.1 h5c.2 (zk_ag_le ha h4), h5c.2⟩, fun E2 H locs ls stk a b c => h6 E2 H locs ls stk (zk_ag_tr (zk_ag_le ha (by omega)) a (Nat.le_refl _)) b ?_⟩
  rw [zk_i_ag (zk_ag_le ha (by omega)) h5] at c
  exact c
/-- the room that a walk with d calls left takes -/
def zk_rk (R : Room) (d cells slots : Nat) : Prop := d ≤ R.frames ∧ 64 * d ≤ R.locals ∧ cells ≤ R.cells ∧ slots ≤ R.slots
theorem zk_rk_rm (d : Nat) : zk_rk (zk_rm d) d 0 0 := ⟨Nat.le_refl _, Nat.le_refl _, Nat.le_refl _, Nat.le_refl _⟩
abbrev zk_Q (cells slots : Nat) (dC : Nat → ClassId) (dI : Nat → Nat → Nat) (cl : List vw_C) (ad st : Nat → Nat) (cid : zk_CI) (ba : Nat) (ly : List (Nat × Nat)) (below : List Frame) (args : Array Value) (s : State) (E0 : zk_E) (n0 : Nat) (L0 : List zk_Ex) : State → Prop := MQ below (zk_QX dC dI cl ad st cid ba ly E0 n0 L0) args s cells slots (fun q => ba ≤ q)
/-- the law's own frame: the script lies at st 9, its length is st 10 and symbol 0 -/
def zk_scr (st : Nat → Nat) (ba : Nat) (M : zk_M) (s : State) (E0 : zk_E) (n0 : Nat) : Prop := M.1.cls = "NightLetInLaw" → 0 < n0 ∧ E0.1 0 = (st 10 : Int) ∧ st 10 < 2 ^ 31 ∧ ¬ ba ≤ st 9 ∧ st 9 < s.heap.size ∧ ∃ xs : Nat → Int32, va_X (st 9) (st 10) xs s s.heap ∧ E0.2 0 = fun j => (xs j).toInt
/-- what a walking program answers is so -/
def zk_Snd (dC : Nat → ClassId) (dI : Nat → Nat → Nat) (cl : List vw_C) (ad st : Nat → Nat) (cid : zk_CI) (ba : Nat) (ly : List (Nat × Nat)) (tab : zk_Tab) (G nw : List Jvm.Cond) (PT : List zk_M) (l : Launch) (rec : zk_Rec) : Prop := ∀ (d : Nat) (M : zk_M) (cx : List zk_Cx) (q : zk_I) (r : List zk_I) (z : zk_Z) (L : List zk_Ex), zk_Mok G nw cl tab PT M → (∀ u ∈ q :: r, u ∈ M.2.2.2.2.2.1) → rec d M cx (q :: r) z = some L →
  ∀ (R : Room) (cells slots : Nat), zk_rk R d cells slots → ∀ (p : Program) (e : Env) (s : State) (m : MethodId) (args : Array Value) (below : List Frame) (meth : Method) (c : Code), zk_Fr dC dI cl st cid ba ly tab G nw M p s m args meth c →
  ∀ (E : zk_E) (H : Heap) (locs : List Loc) (ls : Array Slot) (stk : List Value) (E0 : zk_E) (n0 : Nat) (L0 : List zk_Ex), zk_At dC dI cl ad st cid ba ly M.2.2.1 s.heap E z H locs ls stk → zk_ag n0 E0 E → n0 ≤ z.1.1 → (∀ X ∈ L, X ∈ L0) → zk_scr st ba M s E0 n0 →
  zk_HC dC dI cl ad st cid ba ly M.2.2.1 s.heap (zk_W p l e R s m args below meth c cells slots (zk_Q cells slots dC dI cl ad st cid ba ly below args s E0 n0 L0)) cx E z.1.1 → W p l e R s m args below meth c H locs cells slots (zk_Q cells slots dC dI cl ad st cid ba ly below args s E0 n0 L0) (F0 m q.1 ls stk)
theorem zk_next2_ok {R : Room} {cells slots d : Nat} (hRk : zk_rk R d cells slots) {rec : zk_Rec} (hrec : zk_Snd dC dI cl ad st cid ba ly tab G nw PT l rec) {M : zk_M} {cx : List zk_Cx} {q : zk_I} {r : List zk_I} {u : Option Nat × zk_Z} {L : List zk_Ex} (hM : zk_Mok G nw cl tab PT M) (hr : ∀ v ∈ q :: r, v ∈ M.2.2.2.2.2.1) (hu : zk_next2 rec d M cx q r u = some L)
    {p : Program} {e : Env} {s : State} {m : MethodId} {args : Array Value} {below : List Frame} {meth : Method} {c : Code} (hF : zk_Fr dC dI cl st cid ba ly tab G nw M p s m args meth c)
    {E : zk_E} {H : Heap} {locs : List Loc} {ls : Array Slot} {stk : List Value} {E0 : zk_E} {n0 : Nat} {L0 : List zk_Ex} (hAt : zk_At dC dI cl ad st cid ba ly M.2.2.1 s.heap E u.2 H locs ls stk) (ha : zk_ag n0 E0 E) (hn : n0 ≤ u.2.1.1) (hL : ∀ X ∈ L, X ∈ L0) (hsc : zk_scr st ba M s E0 n0)
    (hC : zk_HC dC dI cl ad st cid ba ly M.2.2.1 s.heap (zk_W p l e R s m args below meth c cells slots (zk_Q cells slots dC dI cl ad st cid ba ly below args s E0 n0 L0)) cx E u.2.1.1) : W p l e R s m args below meth c H locs cells slots (zk_Q cells slots dC dI cl ad st cid ba ly below args s E0 n0 L0) (F0 m (zk_tg q u.1) ls stk) := by
  unfold zk_next2 at hu
  split at hu
  · rename_i hu1
    split at hu
    · cases hu
    · rename_i q' r'
      split at hu
      · rename_i g
        have g := Nat.eq_of_beq_eq_true g
        have := hrec d M cx q' r' u.2 L hM (fun v hv => hr v (List.mem_cons_of_mem _ hv)) hu R cells slots hRk p e s m args below meth c hF E H locs ls stk E0 n0 L0 hAt ha hn hL hsc hC
        rw [g] at this
        rw [hu1]
        exact this
      · cases hu
  · rename_i t hu1
    split at hu
    · cases hu
    · rename_i q' r' hfr
      obtain ⟨h1, h2⟩ := zk_from_of hfr
      have := hrec d M cx q' r' u.2 L hM h2 hu R cells slots hRk p e s m args below meth c hF E H locs ls stk E0 n0 L0 hAt ha hn hL hsc hC
      rw [h1] at this
      rw [hu1]
      exact this
/-- a step of any kind -/
theorem zk_step_ok {cells slots : Nat} {M : zk_M} {q : zk_I} {z : zk_Z} {L : List (Option Nat × zk_Z)} {X : State → Prop} {R : Room} (hnw : ∀ w ∈ nw, zk_isNest w) (hcls : zk_cls cl (G ++ nw)) (hM : zk_Mok G nw cl tab PT M) (hq : q ∈ M.2.2.2.2.2.1) (hs : zk_step M.2.2.1 tab q z = some L)
    {p : Program} {e : Env} {s : State} {m : MethodId} {args : Array Value} {below : List Frame} {meth : Method} {c : Code} (hF : zk_Fr dC dI cl st cid ba ly tab G nw M p s m args meth c)
    {E : zk_E} {H : Heap} {locs : List Loc} {ls : Array Slot} {stk : List Value} (hAt : zk_At dC dI cl ad st cid ba ly M.2.2.1 s.heap E z H locs ls stk)
    (hg : ∀ r ∈ L, zk_go (zk_W p l e R s m args below meth c cells slots X) (zk_At dC dI cl ad st cid ba ly M.2.2.1 s.heap) E z.1.1 r.2 (zk_tg q r.1)) : W p l e R s m args below meth c H locs cells slots X (F0 m q.1 ls stk) := by
  obtain ⟨hx, hb, hml, hr, hlk, hown, hts, hS0⟩ := hF
  obtain ⟨hd, kA, kC, kE, -⟩ := hM.2.2.2 q hq
  have hts2 : ∀ w ∈ G ++ nw, w.before args s = true := fun w hw => by
    rcases List.mem_append.mp hw with h | h
    · exact hts w h
    · rcases hnw w h with ⟨a, i, x, h', rfl⟩ | ⟨a, i, b, n, d, h', rfl⟩
      · exact va_Nw.use rfl (hS0.2.2 _ h)
      · exact va_Nw.use rfl (hS0.2.2 _ h)
  unfold zk_step at hs
  split at hs
  · rename_i L' h1
    cases hs
    exact zk_sA_ok hx hb hown hts2 hd kA hAt h1 hg
  · split at hs
    · rename_i L' h1
      cases hs
      exact zk_sC_ok hx hb hd kC hAt h1 hg
    · split at hs
      · rename_i L' h1
        cases hs
        exact zk_sE_ok hx hb hown hts2 hd kE hcls hS0.1 hS0.2.1 hAt h1 hg
      · split at hs
        · rename_i g
          exact zk_sB_ok hx hb hd (Nat.eq_of_beq_eq_true g) hAt hs hg
        · cases hs
theorem zk_callX {p : Program} {e : Env} {R : Room} {s : State} {m : MethodId} {args : Array Value} {below : List Frame} {meth : Method} {c : Code} {H : Heap} {locs : List Loc} {cells slots : Nat} {Q : State → Prop} {pc : Nat} {ls : Array Slot} {st0 rest : List Value} {QA : State → Outcome → State → Prop}
    (hr : va_Run p l e R s m args below meth c H locs cells slots 0 0 (F0 m pc ls st0) rest QA (fun q => ba ≤ q)) (hS : va_S (fun q => ba ≤ q) s.heap H locs) (hQ : ∀ (s0 : State) (oc : Outcome) (t : State), QA s0 oc t → va_F (fun q => ba ≤ q) s0 t)
    (kk : ∀ (v : Option Value) (s0 t : State) (locs1 : List Loc), s0.heap = H → QA s0 (.returned v) t → va_S (fun q => ba ≤ q) s.heap t.heap locs1 → W p l e R s m args below meth c t.heap locs1 cells slots Q (F0 m (pc + 3) ls (v.toList ++ rest))) : W p l e R s m args below meth c H locs cells slots Q (F0 m pc ls st0) := by
  intro T hT X
  obtain ⟨v, s0, t, T', L, h0, X', hL, e1, e2, hq, hgo⟩ := hr T hT X
  obtain ⟨hz, hk⟩ := hQ _ _ _ hq
  rw [h0] at hz hk
  obtain ⟨t2, a1, b1⟩ := kk v s0 t (locs ++ L) h0 hq ⟨Nat.le_trans hS.1 hz, fun q h1 h2 => by rw [hk q (Nat.lt_of_lt_of_le h1 hS.1) h2]; exact hS.2.1 q h1 h2, fun q hq => by
    rcases List.mem_append.mp hq with h | h
    · exact hS.2.2 q h
    · exact hL q h⟩ T' e1 X'
  exact ⟨t2, hgo t2 a1, b1⟩
end ZN
end
