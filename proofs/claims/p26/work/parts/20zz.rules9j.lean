noncomputable section
/-! A LAW'S VALUE: from what is told of the loops -/
def zk_wo1 (N : zk_N) (q : zk_G) : List zk_G := match zk_as 93 q with
  | some ([st, env, _, _], [i, _, len, d, r, _, _]) => match zk_eqi (zk_fci N i) 95 && zk_nz N d && zk_n2 N len && zk_n2 N (zk_vsub (zk_c 121) len) with
    | true => [(96, [st, env], [len, r])]
    | false => []
  | _ => []
theorem zk_wo1_ok {E : zk_E} {N : zk_N} (hN : zk_ok E N) (hc : zk_cl N) {q : zk_G} (hq : q ∈ N.2.2.2) : ∀ x ∈ zk_wo1 N q, zk_tru E N.1 x := by
  have ht := zk_tru_of hN hc q hq
  intro x hx
  unfold zk_wo1 at hx
  split at hx
  · rename_i st env pz pe i b len d r aa tp hu
    have e := zk_as_of hu
    subst e
    obtain ⟨h1, h2, h3⟩ := ht
    split at hx
    · rename_i c
      simp only [Bool.and_eq_true] at c
      obtain ⟨⟨⟨c1, c2⟩, c3⟩, c4⟩ := c
      have c1 := zk_fci_of (n := 95) hN c1
      have c2 := zk_nz_ok hN c2
      have c3 := zk_n2_ok hN c3
      have c4 := zk_n2_ok hN c4
      rw [zk_vsub_i, zk_c_i] at c4
      simp only [List.map_cons, List.map_nil, zq_6, zq_7, zq_8, zq_9, zq_20, zq_21, zq_22, zq_25, zq_26, zq_28, zq_30, zq_40, zq_51, zq_52, zq_53, zq_54, zq_55, zq_64, zq_65, zq_68, zq_72, zq_73, zq_85, zq_74, zq_75, zq_76, zq_71, zq_86, zq_87, zq_80, zq_41, zq_42, zq_43, zq_94, zq_95, zq_47, zq_48, zq_96, zq_97, zq_88, zq_89, zq_90, zq_93, zq_61, zq_62, zq_1, zq_2, zq_3, zq_4, zq_5, zx_93] at h1
      rw [c1] at h1
      obtain ⟨-, K, -, hF⟩ := h1
      have hF : zx_F 95 [E.2 st, E.2 env, E.2 pz] [zk_i E len] K = ([zk_i E d, zk_i E r, zk_i E aa, zk_i E tp], [E.2 pe]) := hF
      rw [List.mem_singleton.mp hx]
      refine ⟨?_, fun a ha => h2 a ?_, fun v hv => h3 v ?_⟩
      · simp only [List.map_cons, List.map_nil, zq_6, zq_7, zq_8, zq_9, zq_20, zq_21, zq_22, zq_25, zq_26, zq_28, zq_30, zq_40, zq_51, zq_52, zq_53, zq_54, zq_55, zq_64, zq_65, zq_68, zq_72, zq_73, zq_85, zq_74, zq_75, zq_76, zq_71, zq_86, zq_87, zq_80, zq_41, zq_42, zq_43, zq_94, zq_95, zq_47, zq_48, zq_96, zq_97, zq_88, zq_89, zq_90, zq_93, zq_61, zq_62, zq_1, zq_2, zq_3, zq_4, zq_5]
        intro hw
        obtain ⟨d', r', aa', tp', pe', g1, g2⟩ := zy_wo (env := E.2 env) (pz := E.2 pz) c3 (by omega) hw K
        rw [hF] at g1
        cases g1
        rcases g2 with ⟨g2, -⟩ | ⟨-, g2⟩
        · exact absurd g2 c2
        · exact g2
      · simp only [List.mem_cons, List.not_mem_nil, or_false] at ha ⊢
        rcases ha with h | h
        · exact Or.inl h
        · exact Or.inr (Or.inl h)
      · simp only [List.mem_cons, List.not_mem_nil, or_false] at hv ⊢
        rcases hv with h | h
        · exact Or.inr (Or.inr (Or.inl h))
        · exact Or.inr (Or.inr (Or.inr (Or.inr (Or.inl h))))
    · cases hx
  · cases hx
def zk_rwo : zk_Rl := zk_nr fun N => some (zk_addGs N (N.2.2.2.flatMap (zk_wo1 N)))
theorem zk_rwo_ok : zk_Rok zk_rwo := zk_nr_ok fun E n => zk_add_gd (f := fun N => N.2.2.2.flatMap (zk_wo1 N)) fun N hN hc hn x hx => by
  obtain ⟨y, hy1, hy2⟩ := List.mem_flatMap.mp hx
  rw [← hn]
  exact zk_wo1_ok hN hc hy1 x hy2
/-- a text of one value between two places is known -/
def zk_h20 (N : zk_N) (a w : Nat) (f e : zk_V) : Bool := N.2.2.2.any fun q => match zk_as 20 q with
  | some ([a', w'], [f', e']) => Nat.beq a a' && Nat.beq w w' && zk_eqE N f f' && zk_eqE N e e'
  | _ => false
theorem zk_h20_of {E : zk_E} {N : zk_N} (h : zk_ok E N) {a w : Nat} {f e : zk_V} (hw : zk_h20 N a w f e = true) : zx_seg (E.2 a) (E.2 w) (zk_i E f) (zk_i E e) := by
  unfold zk_h20 at hw
  obtain ⟨q, hq, hw⟩ := List.any_eq_true.mp hw
  split at hw
  · rename_i a' w' f' e' hu
    have e := zk_as_of hu
    subst e
    have t := h.2.2 _ hq
    simp only [Bool.and_eq_true] at hw
    obtain ⟨⟨⟨c1, c2⟩, c3⟩, c4⟩ := hw
    have c1 := Nat.eq_of_beq_eq_true c1
    have c2 := Nat.eq_of_beq_eq_true c2
    have c3 := zk_eqE_of h c3
    have c4 := zk_eqE_of h c4
    subst c1 c2
    simp only [List.map_cons, List.map_nil, zq_6, zq_7, zq_8, zq_9, zq_20, zq_21, zq_22, zq_25, zq_26, zq_28, zq_30, zq_40, zq_51, zq_52, zq_53, zq_54, zq_55, zq_64, zq_65, zq_68, zq_72, zq_73, zq_85, zq_74, zq_75, zq_76, zq_71, zq_86, zq_87, zq_80, zq_41, zq_42, zq_43, zq_94, zq_95, zq_47, zq_48, zq_96, zq_97, zq_88, zq_89, zq_90, zq_93, zq_61, zq_62, zq_1, zq_2, zq_3, zq_4, zq_5] at t
    rw [c3, c4]
    exact t
  · cases hw
def zk_wk1 (N : zk_N) (q : zk_G) : List zk_G := match zk_as 90 q with
  | some ([act, wth, env, _, pe], [i, _, f, e, d, _]) => match zk_frd N pe (zk_c 0) N.2.2.2 with
    | some r => match zk_eqi (zk_fci N i) 96 && zk_nz N d && zk_n2 N f && zk_h20 N act wth f e with
      | true => [(97, [act, wth, env], [f, e, r])]
      | false => []
    | none => []
  | _ => []
theorem zk_wk1_ok {E : zk_E} {N : zk_N} (hN : zk_ok E N) (hc : zk_cl N) {q : zk_G} (hq : q ∈ N.2.2.2) : ∀ x ∈ zk_wk1 N q, zk_tru E N.1 x := by
  have ht := zk_tru_of hN hc q hq
  intro x hx
  unfold zk_wk1 at hx
  split at hx
  · rename_i act wth env pz pe i K f e d n hu
    have e := zk_as_of hu
    subst e
    obtain ⟨h1, h2, h3⟩ := ht
    split at hx
    · rename_i r hr
      split at hx
      · rename_i c
        simp only [Bool.and_eq_true] at c
        obtain ⟨⟨⟨c1, c2⟩, c3⟩, c4⟩ := c
        have c1 := zk_fci_of (n := 96) hN c1
        have c2 := zk_nz_ok hN c2
        have c3 := zk_n2_ok hN c3
        have c4 := zk_h20_of hN c4
        have er := zk_frd_of hN (fun q hq => hq) hr
        rw [zk_c_i] at er
        simp only [List.map_cons, List.map_nil, zq_6, zq_7, zq_8, zq_9, zq_20, zq_21, zq_22, zq_25, zq_26, zq_28, zq_30, zq_40, zq_51, zq_52, zq_53, zq_54, zq_55, zq_64, zq_65, zq_68, zq_72, zq_73, zq_85, zq_74, zq_75, zq_76, zq_71, zq_86, zq_87, zq_80, zq_41, zq_42, zq_43, zq_94, zq_95, zq_47, zq_48, zq_96, zq_97, zq_88, zq_89, zq_90, zq_93, zq_61, zq_62, zq_1, zq_2, zq_3, zq_4, zq_5, zx_90] at h1
        rw [c1] at h1
        obtain ⟨-, -, hF⟩ := h1
        have hF : zx_F 96 [E.2 act, E.2 wth, E.2 env, E.2 pz] [zk_i E f, zk_i E e] (zk_i E K).toNat = ([zk_i E d, zk_i E n], [E.2 pe]) := hF
        rw [List.mem_singleton.mp hx]
        refine ⟨?_, fun a ha => h2 a ?_, fun v hv => ?_⟩
        · simp only [List.map_cons, List.map_nil, zq_6, zq_7, zq_8, zq_9, zq_20, zq_21, zq_22, zq_25, zq_26, zq_28, zq_30, zq_40, zq_51, zq_52, zq_53, zq_54, zq_55, zq_64, zq_65, zq_68, zq_72, zq_73, zq_85, zq_74, zq_75, zq_76, zq_71, zq_86, zq_87, zq_80, zq_41, zq_42, zq_43, zq_94, zq_95, zq_47, zq_48, zq_96, zq_97, zq_88, zq_89, zq_90, zq_93, zq_61, zq_62, zq_1, zq_2, zq_3, zq_4, zq_5]
          obtain ⟨d', n', pe', g1, g2⟩ := zy_wk (env := E.2 env) (pz := E.2 pz) c3 c4 (zk_i E K).toNat
          rw [hF] at g1
          cases g1
          rcases g2 with ⟨g2, -⟩ | ⟨-, g2⟩
          · exact absurd g2 c2
          · rw [← g2, ← er]
            rfl
        · simp only [List.mem_cons, List.not_mem_nil, or_false] at ha ⊢
          rcases ha with h | h | h
          · exact Or.inl h
          · exact Or.inr (Or.inl h)
          · exact Or.inr (Or.inr (Or.inl h))
        · simp only [List.mem_cons, List.not_mem_nil, or_false] at hv
          rcases hv with rfl | rfl | rfl
          · exact h3 _ (by simp)
          · exact h3 _ (by simp)
          · exact zk_frd_sv hc (fun q hq => hq) hr
      · cases hx
    · cases hx
  · cases hx
def zk_rwk : zk_Rl := zk_nr fun N => some (zk_addGs N (N.2.2.2.flatMap (zk_wk1 N)))
theorem zk_rwk_ok : zk_Rok zk_rwk := zk_nr_ok fun E n => zk_add_gd (f := fun N => N.2.2.2.flatMap (zk_wk1 N)) fun N hN hc hn x hx => by
  obtain ⟨y, hy1, hy2⟩ := List.mem_flatMap.mp hx
  rw [← hn]
  exact zk_wk1_ok hN hc hy1 x hy2
end
