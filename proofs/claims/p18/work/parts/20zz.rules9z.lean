noncomputable section
/-! THE LIGHT OF ALL CELLS, LAID; THE DARKEST CELL (wip/p41/mk9z.py) -/
theorem zy_sn_0 {b : zx_Rw} {l : zx_Rw} {z : zx_Rw} {n : Int} : zx_F 110 [b, l, z] [n] 0 = ([(0 : Int)], [z]) := rfl
set_option maxRecDepth 20000 in
theorem zy_sn_s {k : Nat} {b : zx_Rw} {l : zx_Rw} {z : zx_Rw} {f : zx_Rw} {n : Int}  (h : zx_F 110 [b, l, z] [n] k = ([0], [f])) : zx_F 110 [b, l, z] [n] (k + 1) =
  (let m0 : List zx_Rw := if (if (k : Int) ≤ (99 : Int) then (1 : Int) else 0) = 0 then [f] else zx_wr [f] 0 (k : Int) (((zx_G 110 108 [b, l] [(k : Int), n] 8).1.getD 1 0) + (0 : Int))
  ([(if (if (k : Int) ≤ (99 : Int) then (1 : Int) else 0) = 0 then (1 : Int) else (0 : Int))], m0)) := by
  rw [zy_turn h]
  rfl
theorem zy_dc_0 {b : zx_Rw} {l : zx_Rw} {n : Int} : zx_F 111 [b, l] [n] 0 = ([(0 : Int), (0 : Int)], []) := rfl
set_option maxRecDepth 20000 in
theorem zy_dc_s {k : Nat} {b : zx_Rw} {l : zx_Rw} {n : Int} {s : Int} (h : zx_F 111 [b, l] [n] k = ([0, s], [])) : zx_F 111 [b, l] [n] (k + 1) =
  (([(if (if (k : Int) ≤ (98 : Int) then (1 : Int) else 0) = 0 then (1 : Int) else (0 : Int)), (if (if (k : Int) ≤ (98 : Int) then (1 : Int) else 0) = 0 then s else (if (if (((zx_G 111 108 [b, l] [((k : Int) + (1 : Int)), n] 8).1.getD 1 0) + (1 : Int)) ≤ ((zx_G 111 108 [b, l] [s, n] 8).1.getD 1 0) then (1 : Int) else 0) = 0 then s else ((k : Int) + (1 : Int))))], [])) := by
  rw [zy_turn h]
  rfl
theorem zy_dr_0 {b : zx_Rw} {l : zx_Rw} {n : Int} : zx_F 112 [b, l] [n] 0 = ([(0 : Int), (0 : Int)], []) := rfl
set_option maxRecDepth 20000 in
theorem zy_dr_s {k : Nat} {b : zx_Rw} {l : zx_Rw} {n : Int} {s : Int} (h : zx_F 112 [b, l] [n] k = ([0, s], [])) : zx_F 112 [b, l] [n] (k + 1) =
  (([(if (if (k : Int) ≤ (98 : Int) then (1 : Int) else 0) = 0 then (1 : Int) else (0 : Int)), (if (if (k : Int) ≤ (98 : Int) then (1 : Int) else 0) = 0 then s else (if (if (((zx_G 112 109 [b, l] [((k : Int) + (1 : Int)), n] 8).1.getD 1 0) + (1 : Int)) ≤ ((zx_G 112 109 [b, l] [s, n] 8).1.getD 1 0) then (1 : Int) else 0) = 0 then s else ((k : Int) + (1 : Int))))], [])) := by
  rw [zy_turn h]
  rfl
/-- a cell's light, worked out -/
def zy_lit (b l : zx_Rw) (n : Int) : zx_Rw := fun j => (zx_F 108 [b, l] [(j : Int), n] 8).1.getD 1 0
theorem zy_snr {b l z : zx_Rw} {n : Int} : ∀ k : Nat, ∃ d f, zx_F 110 [b, l, z] [n] k = ([d], [f]) ∧ ((d = 0 ∧ (k : Int) ≤ 100 ∧ f = zy_to (zy_lit b l n) z k) ∨ (d ≠ 0 ∧ f = zy_to (zy_lit b l n) z 100))
  | 0 => ⟨0, z, zy_sn_0, Or.inl ⟨rfl, by decide, rfl⟩⟩
  | k + 1 => by
    obtain ⟨d, f, e, g⟩ := zy_snr (b := b) (l := l) (z := z) (n := n) k
    have eG : ∀ P K, zx_G 110 108 [b, l] P K = zx_F 108 [b, l] P K := fun P K => zx_G_F (by decide) _ _ _
    rcases g with ⟨g1, g2, g3⟩ | ⟨g1, g2⟩
    · subst g1
      have e2 := zy_sn_s e
      simp only [eG, zy_if, zy_if0, zy_ne, zy_ne0, Int.add_zero] at e2
      by_cases hk : (k : Int) ≤ 99
      · rw [if_pos hk, if_pos hk, zx_wr1] at e2
        refine ⟨_, _, e2, Or.inl ⟨rfl, by push_cast; omega, ?_⟩⟩
        rw [g3]
        exact zy_to_s rfl
      · rw [if_neg hk, if_neg hk] at e2
        have ek : k = 100 := by omega
        exact ⟨_, _, e2, Or.inr ⟨by decide, by rw [g3, ek]⟩⟩
    · exact ⟨d, f, zy_stay e g1, Or.inr ⟨g1, g2⟩⟩
theorem zy_lcn {b l : zx_Rw} {c n : Int} : ∀ K : Nat, ∃ d s, zx_F 108 [b, l] [c, n] K = ([d, s], []) ∧ ((d = 0 ∧ (K = 0 ∨ (K : Int) ≤ n)) ∨ d = 1)
  | 0 => ⟨0, 0, zy_lc_0, Or.inl ⟨rfl, Or.inl rfl⟩⟩
  | K + 1 => by
    obtain ⟨d, s, e, h⟩ := zy_lcn (b := b) (l := l) (c := c) (n := n) K
    rcases h with ⟨h, -⟩ | h
    · subst h
      have e2 := zy_lc_s e
      by_cases hk : (K : Int) + 1 ≤ n
      · simp only [zy_if] at e2
        simp only [if_pos hk] at e2
        exact ⟨0, _, e2, Or.inl ⟨rfl, Or.inr (by push_cast; omega)⟩⟩
      · simp only [zy_if] at e2
        simp only [if_neg hk] at e2
        exact ⟨1, s, e2, Or.inr rfl⟩
    · exact ⟨d, s, zy_stay e (by omega), Or.inr h⟩
theorem zy_lcd {b l : zx_Rw} {c n : Int} (hn : n ≤ 7) : zx_F 108 [b, l] [c, n] 8 = ([1, (zx_F 108 [b, l] [c, n] 8).1.getD 1 0], []) := by
  obtain ⟨d, s, e, h⟩ := zy_lcn (b := b) (l := l) (c := c) (n := n) 8
  have hd : d = 1 := by
    rcases h with ⟨-, h⟩ | h
    · rcases h with h | h
      · cases h
      · omega
    · exact h
  rw [e, hd]
  rfl
theorem zy_dk {b l b' l' : zx_Rw} {n : Int} (hb : ∀ j : Nat, (j : Int) < n → b' j = b j) (hl : ∀ j : Nat, (j : Int) < n → l' j = l j) : ∀ K : Nat, ∃ d s, zx_F 111 [b, l] [n] K = ([d, s], []) ∧ zx_F 112 [b', l'] [n] K = ([d, s], [])
  | 0 => ⟨0, 0, zy_dc_0, zy_dr_0⟩
  | K + 1 => by
    obtain ⟨d, s, e1, e2⟩ := zy_dk hb hl K
    have eG1 : ∀ P K, zx_G 111 108 [b, l] P K = zx_F 108 [b, l] P K := fun P K => zx_G_F (by decide) _ _ _
    have eG2 : ∀ P K, zx_G 112 109 [b', l'] P K = zx_F 109 [b', l'] P K := fun P K => zx_G_F (by decide) _ _ _
    have eL : ∀ c : Int, zx_F 109 [b', l'] [c, n] 8 = zx_F 108 [b, l] [c, n] 8 := fun c => by
      obtain ⟨d, s, h1, h2⟩ := zy_li hb hl (c := c) 8
      rw [h1, h2]
    by_cases hd : d = 0
    · subst hd
      refine ⟨_, _, zy_dc_s e1, ?_⟩
      rw [zy_dr_s e2]
      simp only [eG1, eG2, eL]
    · exact ⟨d, s, zy_stay e1 hd, zy_stay e2 hd⟩
def zk_sn2 (N : zk_N) (b l f : Nat) (n : zk_V) (q : zk_G) : List zk_G := match zk_as 1 q with
  | some ([a], [j, w]) => match Nat.beq a f && zk_n2 N j && zk_n2 N (zk_vsub (zk_c 99) j) with
    | true => [(90, [b, l], [zk_c 108, zk_c 8, j, n, zk_c 1, w])]
    | false => []
  | _ => []
def zk_sn1 (N : zk_N) (q : zk_G) : List zk_G := match zk_as 90 q with
  | some ([b, l, _, f], [i, _, n, d]) => match zk_eqi (zk_fci N i) 110 && zk_nz N d && zk_n2 N (zk_vsub (zk_c 7) n) with
    | true => N.2.2.2.flatMap (zk_sn2 N b l f n)
    | false => []
  | _ => []
theorem zk_sn1_ok {E : zk_E} {N : zk_N} (hN : zk_ok E N) (hc : zk_cl N) {q : zk_G} (hq : q ∈ N.2.2.2) : ∀ x ∈ zk_sn1 N q, zk_tru E N.1 x := by
  have ht := zk_tru_of hN hc q hq
  intro x hx
  unfold zk_sn1 at hx
  split at hx
  · rename_i b l z f i K n d hu
    have e := zk_as_of hu
    subst e
    obtain ⟨h1, h2, h3⟩ := ht
    split at hx
    · rename_i cd
      simp only [Bool.and_eq_true] at cd
      obtain ⟨⟨c1, c2⟩, c3⟩ := cd
      have c1 := zk_fci_of (n := 110) hN c1
      have c2 := zk_nz_ok hN c2
      have c3 := zk_n2_ok hN c3
      rw [zk_vsub_i, zk_c_i] at c3
      simp only [List.map_cons, List.map_nil, zq_6, zq_7, zq_8, zq_9, zq_20, zq_21, zq_22, zq_25, zq_26, zq_28, zq_30, zq_40, zq_51, zq_52, zq_53, zq_54, zq_55, zq_64, zq_65, zq_68, zq_72, zq_73, zq_85, zq_74, zq_75, zq_76, zq_71, zq_86, zq_87, zq_80, zq_41, zq_42, zq_43, zq_94, zq_95, zq_47, zq_48, zq_96, zq_97, zq_88, zq_89, zq_90, zq_93, zq_61, zq_62, zq_1, zq_2, zq_3, zq_4, zq_5, zx_90] at h1
      rw [c1] at h1
      obtain ⟨-, -, hF⟩ := h1
      have hF : zx_F 110 [E.2 b, E.2 l, E.2 z] [zk_i E n] (zk_i E K).toNat = ([zk_i E d], [E.2 f]) := hF
      obtain ⟨d', f', e1, e2⟩ := zy_snr (b := E.2 b) (l := E.2 l) (z := E.2 z) (n := zk_i E n) (zk_i E K).toNat
      rw [hF] at e1
      have ed : zk_i E d = d' := by
        have := congrArg (fun p => p.1.getD 0 0) e1
        exact this
      have ef : E.2 f = f' := by
        have := congrArg (fun p => p.2.getD 0 (fun _ => 0)) e1
        exact this
      have e3 : E.2 f = zy_to (zy_lit (E.2 b) (E.2 l) (zk_i E n)) (E.2 z) 100 := by
        rcases e2 with ⟨e2, -⟩ | ⟨-, e2⟩
        · exact absurd (ed.trans e2) c2
        · exact ef.trans e2
      obtain ⟨y, hy, hx1⟩ := List.mem_flatMap.mp hx
      obtain ⟨t1, t2, t3⟩ := zk_tru_of hN hc y hy
      unfold zk_sn2 at hx1
      split at hx1
      · rename_i a j w hu2
        have e4 := zk_as_of hu2
        subst e4
        split at hx1
        · rename_i cc
          simp only [Bool.and_eq_true] at cc
          obtain ⟨⟨k1, k2⟩, k3⟩ := cc
          have k1 := Nat.eq_of_beq_eq_true k1
          have k2 := zk_n2_ok hN k2
          have k3 := zk_n2_ok hN k3
          rw [zk_vsub_i, zk_c_i] at k3
          simp only [List.map_cons, List.map_nil, zk_S] at t1
          rw [k1, e3] at t1
          have t1 : (if (zk_i E j).toNat < 100 then zy_lit (E.2 b) (E.2 l) (zk_i E n) (zk_i E j).toNat else E.2 z (zk_i E j).toNat) = zk_i E w := t1
          rw [if_pos (by omega)] at t1
          have t1 : (zx_F 108 [E.2 b, E.2 l] [(((zk_i E j).toNat : Nat) : Int), zk_i E n] 8).1.getD 1 0 = zk_i E w := t1
          rw [Int.toNat_of_nonneg k2] at t1
          have hlc := zy_lcd (b := E.2 b) (l := E.2 l) (c := zk_i E j) (n := zk_i E n) (by omega)
          rw [t1] at hlc
          rw [List.mem_singleton.mp hx1]
          refine ⟨?_, fun a ha => ?_, fun v hv => ?_⟩
          · simp only [List.map_cons, List.map_nil, zq_6, zq_7, zq_8, zq_9, zq_20, zq_21, zq_22, zq_25, zq_26, zq_28, zq_30, zq_40, zq_51, zq_52, zq_53, zq_54, zq_55, zq_64, zq_65, zq_68, zq_72, zq_73, zq_85, zq_74, zq_75, zq_76, zq_71, zq_86, zq_87, zq_80, zq_41, zq_42, zq_43, zq_94, zq_95, zq_47, zq_48, zq_96, zq_97, zq_88, zq_89, zq_90, zq_93, zq_61, zq_62, zq_1, zq_2, zq_3, zq_4, zq_5, zx_90]
            rw [zk_c_i, zk_c_i, zk_c_i]
            exact ⟨by decide, by decide, hlc⟩
          · simp only [List.mem_cons, List.not_mem_nil, or_false] at ha
            rcases ha with rfl | rfl
            · exact h2 _ (by simp)
            · exact h2 _ (by simp)
          · simp only [List.mem_cons, List.not_mem_nil, or_false] at hv
            rcases hv with rfl | rfl | rfl | rfl | rfl | rfl
            · exact zk_c_sv
            · exact zk_c_sv
            · exact t3 _ (by simp)
            · exact h3 _ (by simp)
            · exact zk_c_sv
            · exact t3 _ (by simp)
        · cases hx1
      · cases hx1
    · cases hx
  · cases hx
def zk_rsn : zk_Rl := zk_nr fun N => some (zk_addGs N (N.2.2.2.flatMap (zk_sn1 N)))
theorem zk_rsn_ok : zk_Rok zk_rsn := zk_nr_ok fun E n => zk_add_gd (f := fun N => N.2.2.2.flatMap (zk_sn1 N)) fun N hN hc hn x hx => by
  obtain ⟨y, hy1, hy2⟩ := List.mem_flatMap.mp hx
  rw [← hn]
  exact zk_sn1_ok hN hc hy1 x hy2
def zk_dk1 (N : zk_N) (q : zk_G) : List zk_G := match zk_as 90 q with
  | some ([b, l], [i, K, n, d, s]) => match zk_eqi (zk_fci N i) 111 with
    | true => (N.2.2.2.flatMap (zk_k68y N b n)).flatMap fun b' => (N.2.2.2.flatMap (zk_k68y N l n)).map fun l' => (90, [b', l'], [zk_c 112, K, n, d, s])
    | false => []
  | _ => []
theorem zk_dk1_ok {E : zk_E} {N : zk_N} (hN : zk_ok E N) (hc : zk_cl N) {q : zk_G} (hq : q ∈ N.2.2.2) : ∀ x ∈ zk_dk1 N q, zk_tru E N.1 x := by
  have ht := zk_tru_of hN hc q hq
  intro x hx
  unfold zk_dk1 at hx
  split at hx
  · rename_i b l i K n d s hu
    have e := zk_as_of hu
    subst e
    obtain ⟨h1, h2, h3⟩ := ht
    split at hx
    · rename_i cd
      have cd := zk_fci_of (n := 111) hN cd
      simp only [List.map_cons, List.map_nil, zq_6, zq_7, zq_8, zq_9, zq_20, zq_21, zq_22, zq_25, zq_26, zq_28, zq_30, zq_40, zq_51, zq_52, zq_53, zq_54, zq_55, zq_64, zq_65, zq_68, zq_72, zq_73, zq_85, zq_74, zq_75, zq_76, zq_71, zq_86, zq_87, zq_80, zq_41, zq_42, zq_43, zq_94, zq_95, zq_47, zq_48, zq_96, zq_97, zq_88, zq_89, zq_90, zq_93, zq_61, zq_62, zq_1, zq_2, zq_3, zq_4, zq_5, zx_90] at h1
      rw [cd] at h1
      obtain ⟨-, p2, hF⟩ := h1
      have hF : zx_F 111 [E.2 b, E.2 l] [zk_i E n] (zk_i E K).toNat = ([zk_i E d, zk_i E s], []) := hF
      obtain ⟨b', hb, hx1⟩ := List.mem_flatMap.mp hx
      obtain ⟨l', hl, hx2⟩ := List.mem_map.mp hx1
      obtain ⟨y, hy, hb⟩ := List.mem_flatMap.mp hb
      obtain ⟨w, hw, hl⟩ := List.mem_flatMap.mp hl
      obtain ⟨hb1, hb2⟩ := zk_k68y_of hN hc hy hb
      obtain ⟨hl1, hl2⟩ := zk_k68y_of hN hc hw hl
      obtain ⟨d', s', e1, e2⟩ := zy_dk hb1 hl1 (zk_i E K).toNat
      rw [hF] at e1
      rw [← e1] at e2
      subst hx2
      refine ⟨?_, fun a ha => ?_, fun v hv => ?_⟩
      · simp only [List.map_cons, List.map_nil, zq_6, zq_7, zq_8, zq_9, zq_20, zq_21, zq_22, zq_25, zq_26, zq_28, zq_30, zq_40, zq_51, zq_52, zq_53, zq_54, zq_55, zq_64, zq_65, zq_68, zq_72, zq_73, zq_85, zq_74, zq_75, zq_76, zq_71, zq_86, zq_87, zq_80, zq_41, zq_42, zq_43, zq_94, zq_95, zq_47, zq_48, zq_96, zq_97, zq_88, zq_89, zq_90, zq_93, zq_61, zq_62, zq_1, zq_2, zq_3, zq_4, zq_5, zx_90]
        rw [zk_c_i]
        exact ⟨by decide, p2, e2⟩
      · simp only [List.mem_cons, List.not_mem_nil, or_false] at ha
        rcases ha with rfl | rfl
        · exact hb2
        · exact hl2
      · rcases List.mem_cons.mp hv with rfl | hv
        · exact zk_c_sv
        · exact h3 _ (List.mem_cons_of_mem _ hv)
    · cases hx
  · cases hx
def zk_rdk : zk_Rl := zk_nr fun N => some (zk_addGs N (N.2.2.2.flatMap (zk_dk1 N)))
theorem zk_rdk_ok : zk_Rok zk_rdk := zk_nr_ok fun E n => zk_add_gd (f := fun N => N.2.2.2.flatMap (zk_dk1 N)) fun N hN hc hn x hx => by
  obtain ⟨y, hy1, hy2⟩ := List.mem_flatMap.mp hx
  rw [← hn]
  exact zk_dk1_ok hN hc hy1 x hy2
end
