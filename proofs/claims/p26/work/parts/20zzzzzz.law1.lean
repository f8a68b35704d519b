noncomputable section
/-! the law's own walk -/
/-- the rows that are nothing but zeros tell of no lines and of no changes -/
def zl_g0 : List zk_G := [0, 1, 2, 3, 4, 5].map fun k => (1, [1], [zk_c k, zk_c 0])
def zl_g1 : List zk_G := [0, 60, 120, 180, 240, 300].map fun k => (68, [1, 1], [zk_c k, zk_c 0, zk_c 60])
def zl_g : List zk_G := (22, [1, 1, 1, 1, 1], [zk_c 0, zk_c 0]) :: (30, [1, 1, 1, 1], []) :: (42, [1, 1, 1, 1], [zk_c 0]) :: (43, [1, 1], [zk_c 0, zk_c 0]) :: (41, [1], [zk_c 0, zk_c 0]) :: (94, [1], [zk_c 0]) :: (95, [1, 1, 1, 1, 1, 1], [zk_c 0, zk_c 0]) :: (zl_g0 ++ zl_g1)
def zk_rz1 : zk_Rl := fun z => match zb_z1 z.1 with
  | true => some [zk_addGs z.1 zl_g]
  | false => none
theorem zk_rz1_ok : zk_Rok zk_rz1 := by
  refine zk_Rs_ok fun z L hz E h hc hcs hl hs => ?_
  unfold zk_rz1 at hz
  split at hz
  · rename_i e
    cases hz
    obtain ⟨h1, h2⟩ := zb_z1_ok h e
    refine ⟨_, List.mem_cons_self, ?_⟩
    rw [← and_assoc]
    refine ⟨zk_addGs_ok h hc fun g hg => ?_, rfl⟩
    have hc0 : zk_i E (zk_c 0) = 0 := zk_c_i E 0
    rcases List.mem_cons.mp hg with rfl | hg
    · refine ⟨?_, fun a ha => by simp at ha; omega, fun v hv => ?_⟩
      · simp only [List.map_cons, List.map_nil, zq_6, zq_7, zq_8, zq_9, zq_20, zq_21, zq_22, zq_25, zq_26, zq_28, zq_30, zq_40, zq_51, zq_52, zq_53, zq_54, zq_55, zq_64, zq_65, zq_68, zq_72, zq_73, zq_85, zq_74, zq_75, zq_76, zq_71, zq_86, zq_87, zq_80, zq_41, zq_42, zq_43, zq_94, zq_95, zq_47, zq_48, zq_96, zq_97, zq_88, zq_89, zq_90, zq_93, zq_61, zq_62, zq_1, zq_2, zq_3, zq_4, zq_5, h2, hc0]
        exact ⟨by omega, by omega, 0, rfl⟩
      · simp at hv
        rw [hv]
        exact fun q hq => absurd hq List.not_mem_nil
    · rcases List.mem_cons.mp hg with rfl | hg
      · refine ⟨?_, fun a ha => by simp at ha; omega, fun v hv => absurd hv List.not_mem_nil⟩
        simp only [List.map_cons, List.map_nil, zq_6, zq_7, zq_8, zq_9, zq_20, zq_21, zq_22, zq_25, zq_26, zq_28, zq_30, zq_40, zq_51, zq_52, zq_53, zq_54, zq_55, zq_64, zq_65, zq_68, zq_72, zq_73, zq_85, zq_74, zq_75, zq_76, zq_71, zq_86, zq_87, zq_80, zq_41, zq_42, zq_43, zq_94, zq_95, zq_47, zq_48, zq_96, zq_97, zq_88, zq_89, zq_90, zq_93, zq_61, zq_62, zq_1, zq_2, zq_3, zq_4, zq_5, h2]
        exact fun _ => Or.inl (by decide)
      · have up : ∀ {k : Nat} {rs : List Nat} {vs : List zk_V}, (∀ a ∈ rs, a = 1) → (∀ v ∈ vs, v = zk_c 0) → zk_S k (rs.map E.2) (vs.map (zk_i E)) → zk_good E z.1 (k, rs, vs) := fun hr hv hS => ⟨hS, fun a ha => by have := hr a ha; omega, fun v hv' => by rw [hv v hv']; exact zk_c_sv⟩
        rcases List.mem_cons.mp hg with rfl | hg
        · refine up (fun a ha => by simpa using ha) (fun v hv => by simpa using hv) ?_
          simp only [List.map_cons, List.map_nil, zq_6, zq_7, zq_8, zq_9, zq_20, zq_21, zq_22, zq_25, zq_26, zq_28, zq_30, zq_40, zq_51, zq_52, zq_53, zq_54, zq_55, zq_64, zq_65, zq_68, zq_72, zq_73, zq_85, zq_74, zq_75, zq_76, zq_71, zq_86, zq_87, zq_80, zq_41, zq_42, zq_43, zq_94, zq_95, zq_47, zq_48, zq_96, zq_97, zq_88, zq_89, zq_90, zq_93, zq_61, zq_62, zq_1, zq_2, zq_3, zq_4, zq_5, h2, hc0]
          exact fun _ => ⟨Or.inl (by decide), Or.inl (by decide)⟩
        rcases List.mem_cons.mp hg with rfl | hg
        · refine up (fun a ha => by simpa using ha) (fun v hv => by simpa using hv) ?_
          simp only [List.map_cons, List.map_nil, zq_6, zq_7, zq_8, zq_9, zq_20, zq_21, zq_22, zq_25, zq_26, zq_28, zq_30, zq_40, zq_51, zq_52, zq_53, zq_54, zq_55, zq_64, zq_65, zq_68, zq_72, zq_73, zq_85, zq_74, zq_75, zq_76, zq_71, zq_86, zq_87, zq_80, zq_41, zq_42, zq_43, zq_94, zq_95, zq_47, zq_48, zq_96, zq_97, zq_88, zq_89, zq_90, zq_93, zq_61, zq_62, zq_1, zq_2, zq_3, zq_4, zq_5, h2, hc0]
          intro b hb
          rw [if_neg (by omega)]
        rcases List.mem_cons.mp hg with rfl | hg
        · refine up (fun a ha => by simpa using ha) (fun v hv => by simpa using hv) ?_
          simp only [List.map_cons, List.map_nil, zq_6, zq_7, zq_8, zq_9, zq_20, zq_21, zq_22, zq_25, zq_26, zq_28, zq_30, zq_40, zq_51, zq_52, zq_53, zq_54, zq_55, zq_64, zq_65, zq_68, zq_72, zq_73, zq_85, zq_74, zq_75, zq_76, zq_71, zq_86, zq_87, zq_80, zq_41, zq_42, zq_43, zq_94, zq_95, zq_47, zq_48, zq_96, zq_97, zq_88, zq_89, zq_90, zq_93, zq_61, zq_62, zq_1, zq_2, zq_3, zq_4, zq_5, h2, hc0]
          intro j hj
          omega
        rcases List.mem_cons.mp hg with rfl | hg
        · refine up (fun a ha => by simpa using ha) (fun v hv => by simpa using hv) ?_
          show zx_wl (zx_sl (E.2 1) 0 (zk_i E (zk_c 0)).toNat) 0
          rw [hc0]
          trivial
        rcases List.mem_cons.mp hg with rfl | hg
        · refine up (fun a ha => by simpa using ha) (fun v hv => by simpa using hv) ?_
          show zy_law (E.2 1) (E.2 1) (E.2 1) (E.2 1) (E.2 1) (E.2 1) (zk_i E (zk_c 0)) (zk_i E (zk_c 0))
          rw [hc0]
          exact zy_law_0 (by rw [h2])
        rcases List.mem_append.mp hg with hg | hg
        · obtain ⟨k, hk, rfl⟩ := List.mem_map.mp hg
          refine ⟨?_, fun a ha => by simp at ha; omega, fun v hv => ?_⟩
          · simp only [List.map_cons, List.map_nil, zk_S, h2, hc0]
          · simp only [List.mem_cons, List.not_mem_nil, or_false] at hv
            rcases hv with rfl | rfl <;> exact zk_c_sv
        obtain ⟨k, hk, rfl⟩ := List.mem_map.mp hg
        refine ⟨?_, fun a ha => by simp at ha; omega, fun v hv => ?_⟩
        · simp only [List.map_cons, List.map_nil, zq_6, zq_7, zq_8, zq_9, zq_20, zq_21, zq_22, zq_25, zq_26, zq_28, zq_30, zq_40, zq_51, zq_52, zq_53, zq_54, zq_55, zq_64, zq_65, zq_68, zq_72, zq_73, zq_85, zq_74, zq_75, zq_76, zq_71, zq_86, zq_87, zq_80, zq_41, zq_42, zq_43, zq_94, zq_95, zq_47, zq_48, zq_96, zq_97, zq_88, zq_89, zq_90, zq_93, zq_61, zq_62, zq_1, zq_2, zq_3, zq_4, zq_5, h2]
          exact fun _ _ => trivial
        · simp only [List.mem_cons, List.not_mem_nil, or_false] at hv
          rcases hv with rfl | rfl | rfl <;> exact zk_c_sv
  · cases hz
section ZL
variable {dC : Nat → ClassId} {dI : Nat → Nat → Nat} {cl : List vw_C} {ad st : Nat → Nat} {cid : zk_CI} {ba : Nat} {ly : List (Nat × Nat)} {tab : zk_Tab} {G nw : List Jvm.Cond} {PT : List zk_M} {CT : List zk_K} {RT : List zk_Rl} {l : Launch}
/-- a loop told at once, entered from a state that fits -/
theorem zl_loop (hCT : ∀ K ∈ CT, zk_Kok dC dI cl ad st cid ba ly tab G nw PT l K) (hnw : ∀ w ∈ nw, zk_isNest w) (hG : ∀ w ∈ G, (w.onTables && w.keeps) = true ∨ ∃ ty, w = Cond.arrayClass ty) (hcls : zk_cls cl (G ++ nw)) (hPT : ∀ (i : Nat) (M : zk_M), PT[i]? = some M → zk_Mok G nw cl tab PT M ∧ M.1.cls ≠ "NightLetInLaw") (hRT : ∀ f ∈ RT, zk_Rok f)
    {k d : Nat} {M : zk_M} {q : zk_I} {r : List zk_I} (hM : zk_Mok G nw cl tab PT M) (hr : ∀ v ∈ q :: r, v ∈ M.2.2.2.2.2.1) {en : zk_Cx} (hpc : en.1 = q.1) {L : List zk_Ex} (hb : zk_ex1F PT CT tab (zk_run PT CT RT tab k) d M [en] q r (zk_cat2 en.2.2.1 en.2.1, en.2.2.2.1, en.2.2.2.2.1, en.2.2.2.2.2.1) = some L) (hs5 : zk_svB en.2.2.1.1 en.2.2.2.2.2.2.1 = true) (hfc : zk_fitC en.2.2.1 en.2.2.2.1 en.2.2.2.2.1 en.2.2.2.2.2.1 = true)
    {R : Room} {cells slots : Nat} (hRk : zk_rk R d cells slots) {p : Program} {e : Env} {s : State} {m : MethodId} {args : Array Value} {below : List Frame} {meth : Method} {c : Code} (hF : zk_Fr dC dI cl st cid ba ly tab G nw M p s m args meth c)
    {E E0 : zk_E} {n0 : Nat} {H : Heap} {locs : List Loc} {ls : Array Slot} {stk : List Value} {z : zk_Z} {th : zk_Th} (hAt : zk_At dC dI cl ad st cid ba ly M.2.2.1 s.heap E z H locs ls stk) (hE0 : zk_ok E en.2.1) (hc0 : zk_cl en.2.1) (hfit : zk_fit en.2.1.1 th z en.2.2.1 en.2.2.2.1 en.2.2.2.2.1 en.2.2.2.2.2.1 = true) (ha : zk_ag n0 E0 E) (hn0 : n0 ≤ en.2.1.1) (hsc : zk_scr st ba M s E0 n0) :
    W p l e R s m args below meth c H locs cells slots (zk_Q cells slots dC dI cl ad st cid ba ly below args s E0 n0 L) (F0 m q.1 ls stk) := by
  obtain ⟨k1, k2⟩ := zk_fit_ok hAt hE0 hc0 rfl hfit hfc
  have key : ∀ (μ : Nat) (E2 : zk_E) (H2 : Heap) (locs2 : List Loc) (ls2 : Array Slot) (stk2 : List Value), zk_ag en.2.1.1 E E2 → zk_At dC dI cl ad st cid ba ly M.2.2.1 s.heap E2 (zk_cat2 en.2.2.1 en.2.1, en.2.2.2.1, en.2.2.2.2.1, en.2.2.2.2.2.1) H2 locs2 ls2 stk2 → (zk_i E2 en.2.2.2.2.2.2.1).toNat ≤ μ → W p l e R s m args below meth c H2 locs2 cells slots (zk_Q cells slots dC dI cl ad st cid ba ly below args s E0 n0 L) (F0 m q.1 ls2 stk2) := by
    intro μ
    induction μ using Nat.strongRecOn with
    | ind μ ihμ =>
      intro E2 H2 locs2 ls2 stk2 b1 b2 b4
      refine zk_ex1_ok hRk hCT hnw hG hcls hPT (zk_run_ok hCT hnw hG hcls hPT hRT k) hM hr (zk_ex1F_ok hb) hF b2 (zk_ag_tr ha b1 hn0) (Nat.le_trans hn0 k2) (fun X h => h) hsc fun en' hen' => ?_
      rw [List.mem_singleton.mp hen']
      refine ⟨zk_ok_ag hE0 hc0 b1, hc0, k2, Nat.le_refl _, zk_svB_of hs5, hfc, ⟨b2.1.1, b2.1.2.1⟩, fun E3 H3 locs3 ls3 stk3 g1 g2 g3 => ?_⟩
      rw [hpc]
      exact ihμ (zk_i E3 en.2.2.2.2.2.2.1).toNat (by omega) E3 H3 locs3 ls3 stk3 (zk_ag_tr b1 g1 (Nat.le_refl _)) g2 (Nat.le_refl _)
  exact key _ _ H locs ls stk zk_eh_ag k1 (Nat.le_refl _)
end ZL
/-- what was written is new: nothing old was written -/
theorem zl_end {s : State} {o : Outcome} {t : State} {L : List Loc} {k n : Nat} (h : FrameEnd s o t L k n) (hL : ∀ q ∈ L, s.heap.size ≤ q.base) : Framed s o t [] k n := by
  obtain ⟨a, b, c1, c2, c3, c4, c5, c6⟩ := h
  refine ⟨a, b, c1, c2, c3, c4, c5, fun ad cell hc => ?_⟩
  obtain ⟨c', k1, k2, k3, k4⟩ := c6 ad cell hc
  refine ⟨c', k1, k2, k3, fun i _ => k4 i fun hm => ?_⟩
  have h1 := hL _ hm
  have h2 := (Array.getElem?_eq_some_iff.mp hc).1
  exact absurd h1 (Nat.not_le.mpr h2)
end
