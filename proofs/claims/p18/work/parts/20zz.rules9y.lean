noncomputable section
/-! A CELL'S LIGHT: both sides' told functions come to the same (wip/p41/mk9y.py) -/
theorem zy_lc_0 {b : zx_Rw} {l : zx_Rw} {c : Int} {n : Int} : zx_F 108 [b, l] [c, n] 0 = ([(0 : Int), (0 : Int)], []) := rfl
set_option maxRecDepth 20000 in
theorem zy_lc_s {k : Nat} {b : zx_Rw} {l : zx_Rw} {c : Int} {n : Int} {s : Int} (h : zx_F 108 [b, l] [c, n] k = ([0, s], [])) : zx_F 108 [b, l] [c, n] (k + 1) =
  (([(if (if ((k : Int) + (1 : Int)) ≤ n then (1 : Int) else 0) = 0 then (1 : Int) else (0 : Int)), (if (if ((k : Int) + (1 : Int)) ≤ n then (1 : Int) else 0) = 0 then s else (zx_op 7 (s + (if (if (1 : Int) ≤ ((b ((k : Int)).toNat) - ((if (if (0 : Int) ≤ ((zx_op 83 c (10 : Int)) - (zx_op 83 (l ((k : Int)).toNat) (10 : Int))) then (1 : Int) else 0) = 0 then ((0 : Int) - ((zx_op 83 c (10 : Int)) - (zx_op 83 (l ((k : Int)).toNat) (10 : Int)))) else ((zx_op 83 c (10 : Int)) - (zx_op 83 (l ((k : Int)).toNat) (10 : Int)))) + (if (if (0 : Int) ≤ ((zx_op 82 c (10 : Int)) - (zx_op 82 (l ((k : Int)).toNat) (10 : Int))) then (1 : Int) else 0) = 0 then ((0 : Int) - ((zx_op 82 c (10 : Int)) - (zx_op 82 (l ((k : Int)).toNat) (10 : Int)))) else ((zx_op 82 c (10 : Int)) - (zx_op 82 (l ((k : Int)).toNat) (10 : Int)))))) then (1 : Int) else 0) = 0 then (0 : Int) else ((b ((k : Int)).toNat) - ((if (if (0 : Int) ≤ ((zx_op 83 c (10 : Int)) - (zx_op 83 (l ((k : Int)).toNat) (10 : Int))) then (1 : Int) else 0) = 0 then ((0 : Int) - ((zx_op 83 c (10 : Int)) - (zx_op 83 (l ((k : Int)).toNat) (10 : Int)))) else ((zx_op 83 c (10 : Int)) - (zx_op 83 (l ((k : Int)).toNat) (10 : Int)))) + (if (if (0 : Int) ≤ ((zx_op 82 c (10 : Int)) - (zx_op 82 (l ((k : Int)).toNat) (10 : Int))) then (1 : Int) else 0) = 0 then ((0 : Int) - ((zx_op 82 c (10 : Int)) - (zx_op 82 (l ((k : Int)).toNat) (10 : Int)))) else ((zx_op 82 c (10 : Int)) - (zx_op 82 (l ((k : Int)).toNat) (10 : Int)))))))) (0 : Int)))], [])) := by
  rw [zy_turn h]
  rfl
theorem zy_lr_0 {b : zx_Rw} {l : zx_Rw} {c : Int} {n : Int} : zx_F 109 [b, l] [c, n] 0 = ([(0 : Int), (0 : Int)], []) := rfl
set_option maxRecDepth 20000 in
theorem zy_lr_s {k : Nat} {b : zx_Rw} {l : zx_Rw} {c : Int} {n : Int} {s : Int} (h : zx_F 109 [b, l] [c, n] k = ([0, s], [])) : zx_F 109 [b, l] [c, n] (k + 1) =
  (([(if (if ((k : Int) + (1 : Int)) ≤ n then (1 : Int) else 0) = 0 then (1 : Int) else (0 : Int)), (if (if ((k : Int) + (1 : Int)) ≤ n then (1 : Int) else 0) = 0 then s else (zx_op 7 (s + (if (if (1 : Int) ≤ ((b ((k : Int)).toNat) - ((if (if (0 : Int) ≤ ((zx_op 83 (l ((k : Int)).toNat) (10 : Int)) - (zx_op 83 c (10 : Int))) then (1 : Int) else 0) = 0 then ((0 : Int) - ((zx_op 83 (l ((k : Int)).toNat) (10 : Int)) - (zx_op 83 c (10 : Int)))) else ((zx_op 83 (l ((k : Int)).toNat) (10 : Int)) - (zx_op 83 c (10 : Int)))) + (if (if (0 : Int) ≤ ((zx_op 82 (l ((k : Int)).toNat) (10 : Int)) - (zx_op 82 c (10 : Int))) then (1 : Int) else 0) = 0 then ((0 : Int) - ((zx_op 82 (l ((k : Int)).toNat) (10 : Int)) - (zx_op 82 c (10 : Int)))) else ((zx_op 82 (l ((k : Int)).toNat) (10 : Int)) - (zx_op 82 c (10 : Int)))))) then (1 : Int) else 0) = 0 then (0 : Int) else ((b ((k : Int)).toNat) - ((if (if (0 : Int) ≤ ((zx_op 83 (l ((k : Int)).toNat) (10 : Int)) - (zx_op 83 c (10 : Int))) then (1 : Int) else 0) = 0 then ((0 : Int) - ((zx_op 83 (l ((k : Int)).toNat) (10 : Int)) - (zx_op 83 c (10 : Int)))) else ((zx_op 83 (l ((k : Int)).toNat) (10 : Int)) - (zx_op 83 c (10 : Int)))) + (if (if (0 : Int) ≤ ((zx_op 82 (l ((k : Int)).toNat) (10 : Int)) - (zx_op 82 c (10 : Int))) then (1 : Int) else 0) = 0 then ((0 : Int) - ((zx_op 82 (l ((k : Int)).toNat) (10 : Int)) - (zx_op 82 c (10 : Int)))) else ((zx_op 82 (l ((k : Int)).toNat) (10 : Int)) - (zx_op 82 c (10 : Int)))))))) (0 : Int)))], [])) := by
  rw [zy_turn h]
  rfl
theorem zy_ab {x y : Int} : (if (if (0 : Int) ≤ (x - y) then (1 : Int) else 0) = 0 then ((0 : Int) - (x - y)) else (x - y)) = (if (if (0 : Int) ≤ (y - x) then (1 : Int) else 0) = 0 then ((0 : Int) - (y - x)) else (y - x)) := by
  rw [zy_if, zy_if]
  split <;> split <;> omega
theorem zy_li {b l b' l' : zx_Rw} {c n : Int} (hb : ∀ j : Nat, (j : Int) < n → b' j = b j) (hl : ∀ j : Nat, (j : Int) < n → l' j = l j) : ∀ K : Nat, ∃ d s, zx_F 108 [b, l] [c, n] K = ([d, s], []) ∧ zx_F 109 [b', l'] [c, n] K = ([d, s], [])
  | 0 => ⟨0, 0, zy_lc_0, zy_lr_0⟩
  | K + 1 => by
    obtain ⟨d, s, e1, e2⟩ := zy_li hb hl K
    by_cases hd : d = 0
    · subst hd
      by_cases hk : (K : Int) + 1 ≤ n
      · have h1 := hb ((K : Int)).toNat (by omega)
        have h2 := hl ((K : Int)).toNat (by omega)
        refine ⟨_, _, zy_lc_s e1, ?_⟩
        rw [zy_lr_s e2, h1, h2, zy_ab (x := zx_op 83 (l ((K : Int)).toNat) (10 : Int)) (y := zx_op 83 c (10 : Int)), zy_ab (x := zx_op 82 (l ((K : Int)).toNat) (10 : Int)) (y := zx_op 82 c (10 : Int))]
      · refine ⟨1, s, ?_, ?_⟩
        · rw [zy_lc_s e1]
          simp only [zy_if]
          simp only [if_neg hk]
        · rw [zy_lr_s e2]
          simp only [zy_if]
          simp only [if_neg hk]
    · exact ⟨d, s, zy_stay e1 hd, zy_stay e2 hd⟩
def zk_k68y (N : zk_N) (f : Nat) (n : zk_V) (q : zk_G) : List Nat := match zk_as 68 q with
  | some ([f', g], [a, b, k]) => match Nat.beq f' f && zk_eqE N a (zk_c 0) && zk_eqE N b (zk_c 0) && zk_n2 N (zk_vsub k n) with
    | true => [g]
    | false => []
  | _ => []
theorem zk_k68y_of {E : zk_E} {N : zk_N} (hN : zk_ok E N) (hc : zk_cl N) {f : Nat} {n : zk_V} {q : zk_G} (hq : q ∈ N.2.2.2) {g : Nat} (h : g ∈ zk_k68y N f n q) : (∀ j : Nat, (j : Int) < zk_i E n → E.2 g j = E.2 f j) ∧ g < N.1 := by
  have ht := zk_tru_of hN hc q hq
  unfold zk_k68y at h
  split at h
  · rename_i f' g' a b k hu
    have e := zk_as_of hu
    subst e
    obtain ⟨h1, h2, h3⟩ := ht
    split at h
    · rename_i cd
      simp only [Bool.and_eq_true] at cd
      obtain ⟨⟨⟨c1, c2⟩, c3⟩, c4⟩ := cd
      have c1 := Nat.eq_of_beq_eq_true c1
      have c2 := zk_eqE_of hN c2
      have c3 := zk_eqE_of hN c3
      have c4 := zk_n2_ok hN c4
      rw [zk_vsub_i] at c4
      rw [zk_c_i] at c2 c3
      subst c1
      rw [List.mem_singleton.mp h]
      simp only [List.map_cons, List.map_nil, zq_6, zq_7, zq_8, zq_9, zq_20, zq_21, zq_22, zq_25, zq_26, zq_28, zq_30, zq_40, zq_51, zq_52, zq_53, zq_54, zq_55, zq_64, zq_65, zq_68, zq_72, zq_73, zq_85, zq_74, zq_75, zq_76, zq_71, zq_86, zq_87, zq_80, zq_41, zq_42, zq_43, zq_94, zq_95, zq_47, zq_48, zq_96, zq_97, zq_88, zq_89, zq_90, zq_93, zq_61, zq_62, zq_1, zq_2, zq_3, zq_4, zq_5] at h1
      rw [c2, c3] at h1
      refine ⟨fun j hj => ?_, h2 _ (by simp)⟩
      have := h1 j (by omega)
      rw [show (0 : Int).toNat + j = j by simp] at this
      exact this.symm
    · cases h
  · cases h
def zk_li1 (N : zk_N) (q : zk_G) : List zk_G := match zk_as 90 q with
  | some ([b, l], [i, K, c, n, d, s]) => match zk_eqi (zk_fci N i) 108 with
    | true => (N.2.2.2.flatMap (zk_k68y N b n)).flatMap fun b' => (N.2.2.2.flatMap (zk_k68y N l n)).map fun l' => (90, [b', l'], [zk_c 109, K, c, n, d, s])
    | false => []
  | _ => []
theorem zk_li1_ok {E : zk_E} {N : zk_N} (hN : zk_ok E N) (hc : zk_cl N) {q : zk_G} (hq : q ∈ N.2.2.2) : ∀ x ∈ zk_li1 N q, zk_tru E N.1 x := by
  have ht := zk_tru_of hN hc q hq
  intro x hx
  unfold zk_li1 at hx
  split at hx
  · rename_i b l i K c n d s hu
    have e := zk_as_of hu
    subst e
    obtain ⟨h1, h2, h3⟩ := ht
    split at hx
    · rename_i cd
      have cd := zk_fci_of (n := 108) hN cd
      simp only [List.map_cons, List.map_nil, zq_6, zq_7, zq_8, zq_9, zq_20, zq_21, zq_22, zq_25, zq_26, zq_28, zq_30, zq_40, zq_51, zq_52, zq_53, zq_54, zq_55, zq_64, zq_65, zq_68, zq_72, zq_73, zq_85, zq_74, zq_75, zq_76, zq_71, zq_86, zq_87, zq_80, zq_41, zq_42, zq_43, zq_94, zq_95, zq_47, zq_48, zq_96, zq_97, zq_88, zq_89, zq_90, zq_93, zq_61, zq_62, zq_1, zq_2, zq_3, zq_4, zq_5, zx_90] at h1
      rw [cd] at h1
      obtain ⟨-, p2, hF⟩ := h1
      have hF : zx_F 108 [E.2 b, E.2 l] [zk_i E c, zk_i E n] (zk_i E K).toNat = ([zk_i E d, zk_i E s], []) := hF
      obtain ⟨b', hb, hx⟩ := List.mem_flatMap.mp hx
      obtain ⟨l', hl, hx⟩ := List.mem_map.mp hx
      obtain ⟨y, hy, hb⟩ := List.mem_flatMap.mp hb
      obtain ⟨w, hw, hl⟩ := List.mem_flatMap.mp hl
      obtain ⟨hb1, hb2⟩ := zk_k68y_of hN hc hy hb
      obtain ⟨hl1, hl2⟩ := zk_k68y_of hN hc hw hl
      obtain ⟨d', s', e1, e2⟩ := zy_li hb1 hl1 (c := zk_i E c) (zk_i E K).toNat
      rw [hF] at e1
      rw [← e1] at e2
      subst hx
      refine ⟨?_, fun a ha => ?_, fun v hv => ?_⟩
      · simp only [List.map_cons, List.map_nil, zq_6, zq_7, zq_8, zq_9, zq_20, zq_21, zq_22, zq_25, zq_26, zq_28, zq_30, zq_40, zq_51, zq_52, zq_53, zq_54, zq_55, zq_64, zq_65, zq_68, zq_72, zq_73, zq_85, zq_74, zq_75, zq_76, zq_71, zq_86, zq_87, zq_80, zq_41, zq_42, zq_43, zq_94, zq_95, zq_47, zq_48, zq_96, zq_97, zq_88, zq_89, zq_90, zq_93, zq_61, zq_62, zq_1, zq_2, zq_3, zq_4, zq_5, zx_90]
        rw [zk_c_i]
        exact ⟨by decide, p2, e2⟩
      · simp only [List.mem_cons, List.not_mem_nil, or_false] at ha
        rcases ha with rfl | rfl
        · exact hb2
        · exact hl2
      · rcases List.mem_cons.mp hv with rfl | hv
        · exact zk_c_sv
        · exact h3 _ (List.mem_cons_of_mem _ hv)
    · cases hx
  · cases hx
def zk_rli : zk_Rl := zk_nr fun N => some (zk_addGs N (N.2.2.2.flatMap (zk_li1 N)))
theorem zk_rli_ok : zk_Rok zk_rli := zk_nr_ok fun E n => zk_add_gd (f := fun N => N.2.2.2.flatMap (zk_li1 N)) fun N hN hc hn x hx => by
  obtain ⟨y, hy1, hy2⟩ := List.mem_flatMap.mp hx
  rw [← hn]
  exact zk_li1_ok hN hc hy1 x hy2
end
