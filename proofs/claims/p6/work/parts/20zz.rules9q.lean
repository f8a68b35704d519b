/-! WHAT BOTH READERS LAY CORRESPONDS: numbers, operands, lines (wip/p41/theory2.py) -/
theorem zy_o86 {a b : Int} : zx_op 86 a b = zx_nm a := rfl
theorem zy_n40 : zx_nm 40 = -1 := by decide
theorem zy_n33 : zx_nm 33 = -1 := by decide
theorem zy_n45 : zx_nm 45 = -1 := by decide
/-- the most that so many figures come to -/
def zy_pw : Nat → Int
  | 0 => 0
  | 1 => 9
  | 2 => 99
  | 3 => 999
  | _ => 9999
theorem zy_pw_s (K : Nat) : zy_pw K ≤ zy_pw (K + 1) := by
  match K with
  | 0 | 1 | 2 | 3 => decide
  | n + 4 => exact Int.le_refl _
theorem zy_pw_t {K : Nat} (h : (K : Int) ≤ 3) : 10 * zy_pw K + 9 ≤ zy_pw (K + 1) := by
  match K, h with
  | 0, _ | 1, _ | 2, _ | 3, _ => decide
  | n + 4, h => omega
/-- turns of a number's reading -/
def zy_ns (h : zx_Rw) (n : Int) (C : Nat → List Int) : Prop := ∀ (K : Nat) d x v, C K = [d, x, v] → (d ≠ 0 → C (K + 1) = [d, x, v]) ∧ (d = 0 → ((K : Int) ≤ 3 ∧ x + 1 ≤ n ∧ 48 ≤ h x.toNat ∧ h x.toNat ≤ 57) → C (K + 1) = [0, x + 1, 10 * v + h x.toNat - 48]) ∧ (d = 0 → ¬ ((K : Int) ≤ 3 ∧ x + 1 ≤ n ∧ 48 ≤ h x.toNat ∧ h x.toNat ≤ 57) → C (K + 1) = [1, x, v])
theorem zy_nu_0 {h : zx_Rw} {n a : Int} : (zx_F 2 [h] [n, a] 0).1 = [0, a, 0] := by
  rw [zx_F_0, zy_Dnu]
  simp [zy_nu, zx_ev, zx_evs, zx_sst]
theorem zy_nu_s {h : zx_Rw} {n a : Int} : zy_ns h n (fun K => (zx_F 2 [h] [n, a] K).1) := by
  intro K d x v hS
  obtain ⟨c1, c2⟩ := zx_F_s hS
  refine ⟨c1, fun hd0 hc => ?_, fun hd0 hc => ?_⟩
  · obtain ⟨q1, q2, q3, q4⟩ := hc
    show (zx_F 2 [h] [n, a] (K + 1)).1 = _
    rw [c2 hd0, zy_Dnu]
    simp [zy_nu, zx_ev, zx_evs, zx_sst, zx_R, q1, q2, q3, q4]
  · show (zx_F 2 [h] [n, a] (K + 1)).1 = _
    rw [c2 hd0, zy_Dnu]
    by_cases q1 : (K : Int) ≤ 3
    · by_cases q2 : x + 1 ≤ n
      · by_cases q3 : 48 ≤ h x.toNat
        · have q4 : ¬ h x.toNat ≤ 57 := fun q4 => hc ⟨q1, q2, q3, q4⟩
          simp [zy_nu, zx_ev, zx_evs, zx_sst, zx_R, q1, q2, q3, q4]
        · simp [zy_nu, zx_ev, zx_evs, zx_sst, zx_R, q1, q2, q3]
      · simp [zy_nu, zx_ev, zx_evs, zx_sst, zx_R, q1, q2]
    · simp [zy_nu, zx_ev, zx_evs, zx_sst, zx_R, q1]
theorem zy_dg {f g : zx_Rw} {n x : Int} (H : zy_H f g n) (h0 : 0 ≤ x) (h1 : x + 1 ≤ n) : (48 ≤ f x.toNat ∧ f x.toNat ≤ 57) ↔ (48 ≤ g x.toNat ∧ g x.toNat ≤ 57) := by
  obtain ⟨k1, k2, k3⟩ := H x h0 h1
  rw [k3]
  split <;> omega
theorem zy_nu_r {f g : zx_Rw} {n a : Int} (H : zy_H f g n) (ha : 0 ≤ a) : ∀ K : Nat, ∃ d x v, (zx_F 2 [f] [n, a] K).1 = [d, x, v] ∧ (zx_F 2 [g] [n, a] K).1 = [d, x, v] ∧ a ≤ x ∧ (K = 0 → d = 0 ∧ x = a) ∧ (¬ zy_D f n a → x = a ∧ (K ≠ 0 → d = 1)) ∧ (zy_D f n a → K ≠ 0 → a + 1 ≤ x) ∧ 0 ≤ v ∧ v ≤ zy_pw K
  | 0 => ⟨0, a, 0, zy_nu_0, zy_nu_0, Int.le_refl _, fun _ => ⟨rfl, rfl⟩, fun _ => ⟨rfl, fun h => absurd rfl h⟩, fun _ h => absurd rfl h, Int.le_refl _, Int.le_refl _⟩
  | K + 1 => by
    obtain ⟨d, x, v, e1, e2, e3, e4, e5, e6, e7, e8⟩ := zy_nu_r H ha K
    obtain ⟨c1, c2, c3⟩ := zy_nu_s K d x v e1
    obtain ⟨r1, r2, r3⟩ := zy_nu_s K d x v e2
    have hm := zy_pw_s K
    by_cases hd : d = 0
    · by_cases hc : (K : Int) ≤ 3 ∧ x + 1 ≤ n ∧ 48 ≤ f x.toNat ∧ f x.toNat ≤ 57
      · have hg := (zy_dg H (by omega) hc.2.1).mp hc.2.2
        have eg : g x.toNat = f x.toNat := by
          rw [(H x (by omega) hc.2.1).2.2, if_pos (by omega)]
        have ht := zy_pw_t hc.1
        have rr := r2 hd ⟨hc.1, hc.2.1, hg⟩
        rw [eg] at rr
        refine ⟨0, x + 1, 10 * v + f x.toNat - 48, c2 hd hc, rr, by omega, fun h => absurd h (Nat.succ_ne_zero _), fun hD => ?_, fun _ _ => by omega, by omega, by omega⟩
        have ex := (e5 hD).1
        subst ex
        exact absurd ⟨ha, hc.2.1, hc.2.2⟩ hD
      · have hg : ¬ ((K : Int) ≤ 3 ∧ x + 1 ≤ n ∧ 48 ≤ g x.toNat ∧ g x.toNat ≤ 57) := fun h => hc ⟨h.1, h.2.1, (zy_dg H (by omega) h.2.1).mpr h.2.2⟩
        refine ⟨1, x, v, c3 hd hc, r3 hd hg, e3, fun h => absurd h (Nat.succ_ne_zero _), fun hD => ⟨(e5 hD).1, fun _ => rfl⟩, fun hD _ => ?_, e7, by omega⟩
        by_cases hK : K = 0
        · have ex := (e4 hK).2
          subst ex
          exact absurd ⟨by omega, hD.2.1, hD.2.2⟩ hc
        · exact e6 hD hK
    · have hK : K ≠ 0 := fun h => hd (e4 h).1
      exact ⟨d, x, v, c1 hd, r1 hd, e3, fun h => absurd h (Nat.succ_ne_zero _), fun hD => ⟨(e5 hD).1, fun _ => (e5 hD).2 hK⟩, fun hD _ => e6 hD hK, e7, by omega⟩
/-- a number of a text: well if there is a digit and none behind it -/
theorem zy_fg_e {h : zx_Rw} {n a d x v : Int} (e : (zx_F 2 [h] [n, a] 5).1 = [d, x, v]) : (x ≠ a → ¬ (x + 1 ≤ n ∧ 48 ≤ h x.toNat ∧ h x.toNat ≤ 57) → (zx_F 3 [h] [n, a] 0).1 = [0, 1, x, 1]) ∧ (x = a → (zx_F 3 [h] [n, a] 0).1 = [0, 0, x, 1]) ∧ ((x + 1 ≤ n ∧ 48 ≤ h x.toNat ∧ h x.toNat ≤ 57) → (zx_F 3 [h] [n, a] 0).1 = [0, 0, x, 1]) ∧ zx_L 1 3 [h] [n, a] 0 = [1] ∧ zx_L 2 3 [h] [n, a] 0 = [v] := by
  have eG : ∀ P : List Int, zx_G 3 2 [h] P 5 = zx_F 2 [h] P 5 := fun P => zx_G_F (by decide) _ _ _
  refine ⟨fun h1 h2 => ?_, fun h1 => ?_, fun h1 => ?_, ?_, ?_⟩
  · rw [zx_F_0, zy_Dfg]
    by_cases q2 : x + 1 ≤ n
    · by_cases q3 : 48 ≤ h x.toNat
      · have q4 : ¬ h x.toNat ≤ 57 := fun q4 => h2 ⟨q2, q3, q4⟩
        simp [zy_fg, zx_ev, zx_evs, zx_sst, zx_R, zx_call, eG, e, h1, q2, q3, q4]
      · simp [zy_fg, zx_ev, zx_evs, zx_sst, zx_R, zx_call, eG, e, h1, q2, q3]
    · simp [zy_fg, zx_ev, zx_evs, zx_sst, zx_R, zx_call, eG, e, h1, q2]
  · rw [zx_F_0, zy_Dfg]
    simp [zy_fg, zx_ev, zx_evs, zx_sst, zx_R, zx_call, eG, e, h1]
  · rw [zx_F_0, zy_Dfg]
    obtain ⟨q2, q3, q4⟩ := h1
    simp [zy_fg, zx_ev, zx_evs, zx_sst, zx_R, zx_call, eG, e, q2, q3, q4]
  · rw [zx_L_0, zy_Qfg_1]
    simp [zy_Pfg_1, zx_ps, zx_p1, zx_ev, zx_evs, zx_sst]
  · rw [zx_L_0, zy_Qfg_2]
    simp [zy_Pfg_2, zx_ps, zx_p1, zx_ev, zx_evs, zx_sst, zx_R, zx_call, eG, e]
theorem zy_nm_v {v : Int} (h : 0 ≤ zx_nm v) : v < 128 ∧ ¬ (48 ≤ v ∧ v ≤ 57) ∧ v ≠ 40 ∧ v ≠ 33 ∧ v ≠ 45 ∧ zx_nm v ≤ 5 := by
  unfold zx_nm at h ⊢
  split
  · omega
  · split
    · omega
    · split
      · omega
      · split
        · omega
        · split
          · omega
          · split
            · omega
            · omega
theorem zy_nm_n {v : Int} (h : v < 97 ∨ 116 < v) : ¬ 0 ≤ zx_nm v := by
  unfold zx_nm
  rw [if_neg (by omega), if_neg (by omega), if_neg (by omega), if_neg (by omega), if_neg (by omega), if_neg (by omega)]
  decide
/-- the reference's figure, where no other sign stands, and the class's number -/
theorem zy_fig {f g : zx_Rw} {n a : Int} (H : zy_H f g n) (ha : 0 ≤ a) : ∃ d x v fg, (zx_F 2 [f] [n, a] 5).1 = [d, x, v] ∧ (zx_F 3 [g] [n, a] 0).1 = [0, fg, x, 1] ∧ zx_L 1 3 [g] [n, a] 0 = [1] ∧ zx_L 2 3 [g] [n, a] 0 = [v] ∧ 0 ≤ x ∧ (¬ zy_D f n a → x = a ∧ fg = 0) ∧ (zy_D f n a → (fg = 1 ∨ (fg = 0 ∧ zy_D f n x))) ∧ 0 ≤ v ∧ v ≤ 9999 := by
  obtain ⟨d, x, v, e1, e2, e3, -, e5, e6, e7, e8⟩ := zy_nu_r H ha 5
  obtain ⟨k1, k2, k3, k4, k5⟩ := zy_fg_e e2
  by_cases hD : zy_D f n a
  · have hx := e6 hD (by decide)
    by_cases hg : x + 1 ≤ n ∧ 48 ≤ g x.toNat ∧ g x.toNat ≤ 57
    · exact ⟨d, x, v, 0, e1, k3 hg, k4, k5, by omega, fun h => absurd hD h, fun _ => Or.inr ⟨rfl, by omega, hg.1, (zy_dg H (by omega) hg.1).mpr hg.2⟩, e7, e8⟩
    · exact ⟨d, x, v, 1, e1, k1 (by omega) hg, k4, k5, by omega, fun h => absurd hD h, fun _ => Or.inl rfl, e7, e8⟩
  · obtain ⟨m1, m2⟩ := e5 hD
    exact ⟨d, x, v, 0, e1, k2 m1, k4, k5, by omega, fun _ => ⟨m1, rfl⟩, fun h => absurd h hD, e7, e8⟩
set_option maxRecDepth 20000 in
set_option maxHeartbeats 4000000 in
theorem zy_cZ_F {c : Nat} (hd : zx_dn c = zy_cZ) (h3 : 2 < c) {f : zx_Rw} {n a : Int} : (zx_F c [f] [n, a] 0).1 = [(0 : Int), (if (if (a + (1 : Int)) ≤ n then (1 : Int) else 0) = 0 then (0 : Int) else (if (if (if (48 : Int) ≤ (f (a).toNat) then (1 : Int) else 0) ≠ 0 ∧ (if (f (a).toNat) ≤ (57 : Int) then (1 : Int) else 0) ≠ 0 then (1 : Int) else 0) = 0 then (if (if (0 : Int) ≤ (zx_op 86 (f (a).toNat) (0 : Int)) then (1 : Int) else 0) = 0 then (0 : Int) else (1 : Int)) else (1 : Int))), (if (if (a + (1 : Int)) ≤ n then (1 : Int) else 0) = 0 then a else (if (if (if (48 : Int) ≤ (f (a).toNat) then (1 : Int) else 0) ≠ 0 ∧ (if (f (a).toNat) ≤ (57 : Int) then (1 : Int) else 0) ≠ 0 then (1 : Int) else 0) = 0 then (if (if (0 : Int) ≤ (zx_op 86 (f (a).toNat) (0 : Int)) then (1 : Int) else 0) = 0 then a else (a + (1 : Int))) else ((zx_F 2 [f] [n, a] 5).1.getD 1 0)))] := by
  have e : (zy_cZ).2.2.1.map (zx_ev (zx_G c) [f] [] [n, a] 0 []) = [(0 : Int), (if (if (a + (1 : Int)) ≤ n then (1 : Int) else 0) = 0 then (0 : Int) else (if (if (if (48 : Int) ≤ (f (a).toNat) then (1 : Int) else 0) ≠ 0 ∧ (if (f (a).toNat) ≤ (57 : Int) then (1 : Int) else 0) ≠ 0 then (1 : Int) else 0) = 0 then (if (if (0 : Int) ≤ (zx_op 86 (f (a).toNat) (0 : Int)) then (1 : Int) else 0) = 0 then (0 : Int) else (1 : Int)) else (1 : Int))), (if (if (a + (1 : Int)) ≤ n then (1 : Int) else 0) = 0 then a else (if (if (if (48 : Int) ≤ (f (a).toNat) then (1 : Int) else 0) ≠ 0 ∧ (if (f (a).toNat) ≤ (57 : Int) then (1 : Int) else 0) ≠ 0 then (1 : Int) else 0) = 0 then (if (if (0 : Int) ≤ (zx_op 86 (f (a).toNat) (0 : Int)) then (1 : Int) else 0) = 0 then a else (a + (1 : Int))) else ((zx_G c 2 [f] [n, a] 5).1.getD 1 0)))] := rfl
  rw [zx_F_0, hd]
  refine e.trans ?_
  simp only [zx_G_F h3]
set_option maxRecDepth 20000 in
set_option maxHeartbeats 4000000 in
theorem zy_cZ_L0 {c : Nat} (hd : zx_pt 0 c = zy_cPZ_0) (h3 : 2 < c) {f : zx_Rw} {n a : Int} : zx_L 0 c [f] [n, a] 0 = (if (if (if (a + (1 : Int)) ≤ n then (1 : Int) else 0) ≠ 0 ∧ (if (if (48 : Int) ≤ (f (a).toNat) then (1 : Int) else 0) ≠ 0 ∧ (if (f (a).toNat) ≤ (57 : Int) then (1 : Int) else 0) ≠ 0 then (1 : Int) else 0) ≠ 0 then (1 : Int) else 0) = 0 then [] else [((zx_F 2 [f] [n, a] 5).1.getD 2 0)]) ++ ((if (if (if (a + (1 : Int)) ≤ n then (1 : Int) else 0) ≠ 0 ∧ (if (if (if (if (48 : Int) ≤ (f (a).toNat) then (1 : Int) else 0) ≠ 0 ∧ (if (f (a).toNat) ≤ (57 : Int) then (1 : Int) else 0) ≠ 0 then (1 : Int) else 0) = 0 then (1 : Int) else 0) ≠ 0 ∧ (if (0 : Int) ≤ (zx_op 86 (f (a).toNat) (0 : Int)) then (1 : Int) else 0) ≠ 0 then (1 : Int) else 0) ≠ 0 then (1 : Int) else 0) = 0 then [] else [((10000 : Int) + (zx_op 86 (f (a).toNat) (0 : Int)))]) ++ []) := by
  have e : zx_ps (zx_G c) (zx_LG 0 c) [f] [n, a] 0 [] (zy_cPZ_0).1 = (if (if (if (a + (1 : Int)) ≤ n then (1 : Int) else 0) ≠ 0 ∧ (if (if (48 : Int) ≤ (f (a).toNat) then (1 : Int) else 0) ≠ 0 ∧ (if (f (a).toNat) ≤ (57 : Int) then (1 : Int) else 0) ≠ 0 then (1 : Int) else 0) ≠ 0 then (1 : Int) else 0) = 0 then [] else [((zx_G c 2 [f] [n, a] 5).1.getD 2 0)]) ++ ((if (if (if (a + (1 : Int)) ≤ n then (1 : Int) else 0) ≠ 0 ∧ (if (if (if (if (48 : Int) ≤ (f (a).toNat) then (1 : Int) else 0) ≠ 0 ∧ (if (f (a).toNat) ≤ (57 : Int) then (1 : Int) else 0) ≠ 0 then (1 : Int) else 0) = 0 then (1 : Int) else 0) ≠ 0 ∧ (if (0 : Int) ≤ (zx_op 86 (f (a).toNat) (0 : Int)) then (1 : Int) else 0) ≠ 0 then (1 : Int) else 0) ≠ 0 then (1 : Int) else 0) = 0 then [] else [((10000 : Int) + (zx_op 86 (f (a).toNat) (0 : Int)))]) ++ []) := rfl
  rw [zx_L_0, hd]
  refine e.trans ?_
  simp only [zx_G_F h3]
set_option maxRecDepth 20000 in
set_option maxHeartbeats 4000000 in
theorem zy_rZ_F {r : Nat} (hd : zx_dn r = zy_rZ) (h3 : 3 < r) {g : zx_Rw} {n a : Int} : (zx_F r [g] [n, a] 0).1 = [(0 : Int), (if (if (if (if n ≤ a then (1 : Int) else 0) = 0 then (1 : Int) else 0) ≠ 0 ∧ (if (0 : Int) ≤ (zx_op 86 (g (a).toNat) (0 : Int)) then (1 : Int) else 0) ≠ 0 then (1 : Int) else 0) = 0 then (if (if (if (if n ≤ a then (1 : Int) else 0) = 0 then (1 : Int) else 0) ≠ 0 ∧ (if (if (if (if (g (a).toNat) = (33 : Int) then (1 : Int) else 0) = 0 then (1 : Int) else 0) ≠ 0 ∧ (if (if (g (a).toNat) = (45 : Int) then (1 : Int) else 0) = 0 then (1 : Int) else 0) ≠ 0 then (1 : Int) else 0) = 0 then (1 : Int) else 0) ≠ 0 then (1 : Int) else 0) = 0 then (if (if (if (if n ≤ a then (1 : Int) else 0) = 0 then (1 : Int) else 0) ≠ 0 ∧ (if (g (a).toNat) = (40 : Int) then (1 : Int) else 0) ≠ 0 then (1 : Int) else 0) = 0 then ((zx_F 3 [g] [n, a] 0).1.getD 1 0) else (0 : Int)) else (0 : Int)) else (1 : Int)), (if (if (if (if n ≤ a then (1 : Int) else 0) = 0 then (1 : Int) else 0) ≠ 0 ∧ (if (0 : Int) ≤ (zx_op 86 (g (a).toNat) (0 : Int)) then (1 : Int) else 0) ≠ 0 then (1 : Int) else 0) = 0 then (if (if (if (if n ≤ a then (1 : Int) else 0) = 0 then (1 : Int) else 0) ≠ 0 ∧ (if (if (if (if (g (a).toNat) = (33 : Int) then (1 : Int) else 0) = 0 then (1 : Int) else 0) ≠ 0 ∧ (if (if (g (a).toNat) = (45 : Int) then (1 : Int) else 0) = 0 then (1 : Int) else 0) ≠ 0 then (1 : Int) else 0) = 0 then (1 : Int) else 0) ≠ 0 then (1 : Int) else 0) = 0 then (if (if (if (if n ≤ a then (1 : Int) else 0) = 0 then (1 : Int) else 0) ≠ 0 ∧ (if (g (a).toNat) = (40 : Int) then (1 : Int) else 0) ≠ 0 then (1 : Int) else 0) = 0 then ((zx_F 3 [g] [n, a] 0).1.getD 2 0) else a) else a) else (a + (1 : Int))), (if (if (if (if n ≤ a then (1 : Int) else 0) = 0 then (1 : Int) else 0) ≠ 0 ∧ (if (0 : Int) ≤ (zx_op 86 (g (a).toNat) (0 : Int)) then (1 : Int) else 0) ≠ 0 then (1 : Int) else 0) = 0 then (if (if (if (if n ≤ a then (1 : Int) else 0) = 0 then (1 : Int) else 0) ≠ 0 ∧ (if (if (if (if (g (a).toNat) = (33 : Int) then (1 : Int) else 0) = 0 then (1 : Int) else 0) ≠ 0 ∧ (if (if (g (a).toNat) = (45 : Int) then (1 : Int) else 0) = 0 then (1 : Int) else 0) ≠ 0 then (1 : Int) else 0) = 0 then (1 : Int) else 0) ≠ 0 then (1 : Int) else 0) = 0 then (if (if (if (if n ≤ a then (1 : Int) else 0) = 0 then (1 : Int) else 0) ≠ 0 ∧ (if (g (a).toNat) = (40 : Int) then (1 : Int) else 0) ≠ 0 then (1 : Int) else 0) = 0 then ((zx_F 3 [g] [n, a] 0).1.getD 3 0) else (0 : Int)) else (0 : Int)) else (1 : Int))] := by
  have e : (zy_rZ).2.2.1.map (zx_ev (zx_G r) [g] [] [n, a] 0 []) = [(0 : Int), (if (if (if (if n ≤ a then (1 : Int) else 0) = 0 then (1 : Int) else 0) ≠ 0 ∧ (if (0 : Int) ≤ (zx_op 86 (g (a).toNat) (0 : Int)) then (1 : Int) else 0) ≠ 0 then (1 : Int) else 0) = 0 then (if (if (if (if n ≤ a then (1 : Int) else 0) = 0 then (1 : Int) else 0) ≠ 0 ∧ (if (if (if (if (g (a).toNat) = (33 : Int) then (1 : Int) else 0) = 0 then (1 : Int) else 0) ≠ 0 ∧ (if (if (g (a).toNat) = (45 : Int) then (1 : Int) else 0) = 0 then (1 : Int) else 0) ≠ 0 then (1 : Int) else 0) = 0 then (1 : Int) else 0) ≠ 0 then (1 : Int) else 0) = 0 then (if (if (if (if n ≤ a then (1 : Int) else 0) = 0 then (1 : Int) else 0) ≠ 0 ∧ (if (g (a).toNat) = (40 : Int) then (1 : Int) else 0) ≠ 0 then (1 : Int) else 0) = 0 then ((zx_G r 3 [g] [n, a] 0).1.getD 1 0) else (0 : Int)) else (0 : Int)) else (1 : Int)), (if (if (if (if n ≤ a then (1 : Int) else 0) = 0 then (1 : Int) else 0) ≠ 0 ∧ (if (0 : Int) ≤ (zx_op 86 (g (a).toNat) (0 : Int)) then (1 : Int) else 0) ≠ 0 then (1 : Int) else 0) = 0 then (if (if (if (if n ≤ a then (1 : Int) else 0) = 0 then (1 : Int) else 0) ≠ 0 ∧ (if (if (if (if (g (a).toNat) = (33 : Int) then (1 : Int) else 0) = 0 then (1 : Int) else 0) ≠ 0 ∧ (if (if (g (a).toNat) = (45 : Int) then (1 : Int) else 0) = 0 then (1 : Int) else 0) ≠ 0 then (1 : Int) else 0) = 0 then (1 : Int) else 0) ≠ 0 then (1 : Int) else 0) = 0 then (if (if (if (if n ≤ a then (1 : Int) else 0) = 0 then (1 : Int) else 0) ≠ 0 ∧ (if (g (a).toNat) = (40 : Int) then (1 : Int) else 0) ≠ 0 then (1 : Int) else 0) = 0 then ((zx_G r 3 [g] [n, a] 0).1.getD 2 0) else a) else a) else (a + (1 : Int))), (if (if (if (if n ≤ a then (1 : Int) else 0) = 0 then (1 : Int) else 0) ≠ 0 ∧ (if (0 : Int) ≤ (zx_op 86 (g (a).toNat) (0 : Int)) then (1 : Int) else 0) ≠ 0 then (1 : Int) else 0) = 0 then (if (if (if (if n ≤ a then (1 : Int) else 0) = 0 then (1 : Int) else 0) ≠ 0 ∧ (if (if (if (if (g (a).toNat) = (33 : Int) then (1 : Int) else 0) = 0 then (1 : Int) else 0) ≠ 0 ∧ (if (if (g (a).toNat) = (45 : Int) then (1 : Int) else 0) = 0 then (1 : Int) else 0) ≠ 0 then (1 : Int) else 0) = 0 then (1 : Int) else 0) ≠ 0 then (1 : Int) else 0) = 0 then (if (if (if (if n ≤ a then (1 : Int) else 0) = 0 then (1 : Int) else 0) ≠ 0 ∧ (if (g (a).toNat) = (40 : Int) then (1 : Int) else 0) ≠ 0 then (1 : Int) else 0) = 0 then ((zx_G r 3 [g] [n, a] 0).1.getD 3 0) else (0 : Int)) else (0 : Int)) else (1 : Int))] := rfl
  rw [zx_F_0, hd]
  refine e.trans ?_
  simp only [zx_G_F h3]
set_option maxRecDepth 20000 in
set_option maxHeartbeats 4000000 in
theorem zy_rZ_L1 {r : Nat} (hd : zx_pt 1 r = zy_rPZ_1) (h3 : 3 < r) {g : zx_Rw} {n a : Int} : zx_L 1 r [g] [n, a] 0 = (if (if (if (if n ≤ a then (1 : Int) else 0) = 0 then (1 : Int) else 0) ≠ 0 ∧ (if (0 : Int) ≤ (zx_op 86 (g (a).toNat) (0 : Int)) then (1 : Int) else 0) ≠ 0 then (1 : Int) else 0) = 0 then [] else [(2 : Int)]) ++ ((if (if (if (if (if (if (if (if n ≤ a then (1 : Int) else 0) = 0 then (1 : Int) else 0) ≠ 0 ∧ (if (0 : Int) ≤ (zx_op 86 (g (a).toNat) (0 : Int)) then (1 : Int) else 0) ≠ 0 then (1 : Int) else 0) = 0 then (1 : Int) else 0) ≠ 0 ∧ (if (if (if (if (if n ≤ a then (1 : Int) else 0) = 0 then (1 : Int) else 0) ≠ 0 ∧ (if (if (if (0 : Int) ≤ (zx_op 86 (g (a).toNat) (0 : Int)) then (1 : Int) else 0) = 0 then (1 : Int) else 0) ≠ 0 ∧ (if (if (if (if (g (a).toNat) = (33 : Int) then (1 : Int) else 0) = 0 then (1 : Int) else 0) ≠ 0 ∧ (if (if (g (a).toNat) = (45 : Int) then (1 : Int) else 0) = 0 then (1 : Int) else 0) ≠ 0 then (1 : Int) else 0) = 0 then (1 : Int) else 0) ≠ 0 then (1 : Int) else 0) ≠ 0 then (1 : Int) else 0) = 0 then (1 : Int) else 0) ≠ 0 ∧ (if (if (if (if n ≤ a then (1 : Int) else 0) = 0 then (1 : Int) else 0) ≠ 0 ∧ (if (if (if (0 : Int) ≤ (zx_op 86 (g (a).toNat) (0 : Int)) then (1 : Int) else 0) = 0 then (1 : Int) else 0) ≠ 0 ∧ (if (if (if (if (if (if (g (a).toNat) = (33 : Int) then (1 : Int) else 0) = 0 then (1 : Int) else 0) ≠ 0 ∧ (if (if (g (a).toNat) = (45 : Int) then (1 : Int) else 0) = 0 then (1 : Int) else 0) ≠ 0 then (1 : Int) else 0) = 0 then (1 : Int) else 0) = 0 then (1 : Int) else 0) ≠ 0 ∧ (if (g (a).toNat) = (40 : Int) then (1 : Int) else 0) ≠ 0 then (1 : Int) else 0) ≠ 0 then (1 : Int) else 0) ≠ 0 then (1 : Int) else 0) = 0 then (1 : Int) else 0) ≠ 0 then (1 : Int) else 0) ≠ 0 then (1 : Int) else 0) = 0 then (1 : Int) else 0) = 0 then (1 : Int) else 0) = 0 then [] else zx_L 1 3 [g] [n, a] 0) ++ []) := by
  have e : zx_ps (zx_G r) (zx_LG 1 r) [g] [n, a] 0 [] (zy_rPZ_1).1 = (if (if (if (if n ≤ a then (1 : Int) else 0) = 0 then (1 : Int) else 0) ≠ 0 ∧ (if (0 : Int) ≤ (zx_op 86 (g (a).toNat) (0 : Int)) then (1 : Int) else 0) ≠ 0 then (1 : Int) else 0) = 0 then [] else [(2 : Int)]) ++ ((if (if (if (if (if (if (if (if n ≤ a then (1 : Int) else 0) = 0 then (1 : Int) else 0) ≠ 0 ∧ (if (0 : Int) ≤ (zx_op 86 (g (a).toNat) (0 : Int)) then (1 : Int) else 0) ≠ 0 then (1 : Int) else 0) = 0 then (1 : Int) else 0) ≠ 0 ∧ (if (if (if (if (if n ≤ a then (1 : Int) else 0) = 0 then (1 : Int) else 0) ≠ 0 ∧ (if (if (if (0 : Int) ≤ (zx_op 86 (g (a).toNat) (0 : Int)) then (1 : Int) else 0) = 0 then (1 : Int) else 0) ≠ 0 ∧ (if (if (if (if (g (a).toNat) = (33 : Int) then (1 : Int) else 0) = 0 then (1 : Int) else 0) ≠ 0 ∧ (if (if (g (a).toNat) = (45 : Int) then (1 : Int) else 0) = 0 then (1 : Int) else 0) ≠ 0 then (1 : Int) else 0) = 0 then (1 : Int) else 0) ≠ 0 then (1 : Int) else 0) ≠ 0 then (1 : Int) else 0) = 0 then (1 : Int) else 0) ≠ 0 ∧ (if (if (if (if n ≤ a then (1 : Int) else 0) = 0 then (1 : Int) else 0) ≠ 0 ∧ (if (if (if (0 : Int) ≤ (zx_op 86 (g (a).toNat) (0 : Int)) then (1 : Int) else 0) = 0 then (1 : Int) else 0) ≠ 0 ∧ (if (if (if (if (if (if (g (a).toNat) = (33 : Int) then (1 : Int) else 0) = 0 then (1 : Int) else 0) ≠ 0 ∧ (if (if (g (a).toNat) = (45 : Int) then (1 : Int) else 0) = 0 then (1 : Int) else 0) ≠ 0 then (1 : Int) else 0) = 0 then (1 : Int) else 0) = 0 then (1 : Int) else 0) ≠ 0 ∧ (if (g (a).toNat) = (40 : Int) then (1 : Int) else 0) ≠ 0 then (1 : Int) else 0) ≠ 0 then (1 : Int) else 0) ≠ 0 then (1 : Int) else 0) = 0 then (1 : Int) else 0) ≠ 0 then (1 : Int) else 0) ≠ 0 then (1 : Int) else 0) = 0 then (1 : Int) else 0) = 0 then (1 : Int) else 0) = 0 then [] else zx_LG 1 r 3 [g] [n, a] 0) ++ []) := rfl
  rw [zx_L_0, hd]
  refine e.trans ?_
  simp only [zx_G_F h3, zx_LG_L h3]
set_option maxRecDepth 20000 in
set_option maxHeartbeats 4000000 in
theorem zy_rZ_L2 {r : Nat} (hd : zx_pt 2 r = zy_rPZ_2) (h3 : 3 < r) {g : zx_Rw} {n a : Int} : zx_L 2 r [g] [n, a] 0 = (if (if (if (if n ≤ a then (1 : Int) else 0) = 0 then (1 : Int) else 0) ≠ 0 ∧ (if (0 : Int) ≤ (zx_op 86 (g (a).toNat) (0 : Int)) then (1 : Int) else 0) ≠ 0 then (1 : Int) else 0) = 0 then [] else [(zx_op 86 (g (a).toNat) (0 : Int))]) ++ ((if (if (if (if (if (if (if (if n ≤ a then (1 : Int) else 0) = 0 then (1 : Int) else 0) ≠ 0 ∧ (if (0 : Int) ≤ (zx_op 86 (g (a).toNat) (0 : Int)) then (1 : Int) else 0) ≠ 0 then (1 : Int) else 0) = 0 then (1 : Int) else 0) ≠ 0 ∧ (if (if (if (if (if n ≤ a then (1 : Int) else 0) = 0 then (1 : Int) else 0) ≠ 0 ∧ (if (if (if (0 : Int) ≤ (zx_op 86 (g (a).toNat) (0 : Int)) then (1 : Int) else 0) = 0 then (1 : Int) else 0) ≠ 0 ∧ (if (if (if (if (g (a).toNat) = (33 : Int) then (1 : Int) else 0) = 0 then (1 : Int) else 0) ≠ 0 ∧ (if (if (g (a).toNat) = (45 : Int) then (1 : Int) else 0) = 0 then (1 : Int) else 0) ≠ 0 then (1 : Int) else 0) = 0 then (1 : Int) else 0) ≠ 0 then (1 : Int) else 0) ≠ 0 then (1 : Int) else 0) = 0 then (1 : Int) else 0) ≠ 0 ∧ (if (if (if (if n ≤ a then (1 : Int) else 0) = 0 then (1 : Int) else 0) ≠ 0 ∧ (if (if (if (0 : Int) ≤ (zx_op 86 (g (a).toNat) (0 : Int)) then (1 : Int) else 0) = 0 then (1 : Int) else 0) ≠ 0 ∧ (if (if (if (if (if (if (g (a).toNat) = (33 : Int) then (1 : Int) else 0) = 0 then (1 : Int) else 0) ≠ 0 ∧ (if (if (g (a).toNat) = (45 : Int) then (1 : Int) else 0) = 0 then (1 : Int) else 0) ≠ 0 then (1 : Int) else 0) = 0 then (1 : Int) else 0) = 0 then (1 : Int) else 0) ≠ 0 ∧ (if (g (a).toNat) = (40 : Int) then (1 : Int) else 0) ≠ 0 then (1 : Int) else 0) ≠ 0 then (1 : Int) else 0) ≠ 0 then (1 : Int) else 0) = 0 then (1 : Int) else 0) ≠ 0 then (1 : Int) else 0) ≠ 0 then (1 : Int) else 0) = 0 then (1 : Int) else 0) = 0 then (1 : Int) else 0) = 0 then [] else zx_L 2 3 [g] [n, a] 0) ++ []) := by
  have e : zx_ps (zx_G r) (zx_LG 2 r) [g] [n, a] 0 [] (zy_rPZ_2).1 = (if (if (if (if n ≤ a then (1 : Int) else 0) = 0 then (1 : Int) else 0) ≠ 0 ∧ (if (0 : Int) ≤ (zx_op 86 (g (a).toNat) (0 : Int)) then (1 : Int) else 0) ≠ 0 then (1 : Int) else 0) = 0 then [] else [(zx_op 86 (g (a).toNat) (0 : Int))]) ++ ((if (if (if (if (if (if (if (if n ≤ a then (1 : Int) else 0) = 0 then (1 : Int) else 0) ≠ 0 ∧ (if (0 : Int) ≤ (zx_op 86 (g (a).toNat) (0 : Int)) then (1 : Int) else 0) ≠ 0 then (1 : Int) else 0) = 0 then (1 : Int) else 0) ≠ 0 ∧ (if (if (if (if (if n ≤ a then (1 : Int) else 0) = 0 then (1 : Int) else 0) ≠ 0 ∧ (if (if (if (0 : Int) ≤ (zx_op 86 (g (a).toNat) (0 : Int)) then (1 : Int) else 0) = 0 then (1 : Int) else 0) ≠ 0 ∧ (if (if (if (if (g (a).toNat) = (33 : Int) then (1 : Int) else 0) = 0 then (1 : Int) else 0) ≠ 0 ∧ (if (if (g (a).toNat) = (45 : Int) then (1 : Int) else 0) = 0 then (1 : Int) else 0) ≠ 0 then (1 : Int) else 0) = 0 then (1 : Int) else 0) ≠ 0 then (1 : Int) else 0) ≠ 0 then (1 : Int) else 0) = 0 then (1 : Int) else 0) ≠ 0 ∧ (if (if (if (if n ≤ a then (1 : Int) else 0) = 0 then (1 : Int) else 0) ≠ 0 ∧ (if (if (if (0 : Int) ≤ (zx_op 86 (g (a).toNat) (0 : Int)) then (1 : Int) else 0) = 0 then (1 : Int) else 0) ≠ 0 ∧ (if (if (if (if (if (if (g (a).toNat) = (33 : Int) then (1 : Int) else 0) = 0 then (1 : Int) else 0) ≠ 0 ∧ (if (if (g (a).toNat) = (45 : Int) then (1 : Int) else 0) = 0 then (1 : Int) else 0) ≠ 0 then (1 : Int) else 0) = 0 then (1 : Int) else 0) = 0 then (1 : Int) else 0) ≠ 0 ∧ (if (g (a).toNat) = (40 : Int) then (1 : Int) else 0) ≠ 0 then (1 : Int) else 0) ≠ 0 then (1 : Int) else 0) ≠ 0 then (1 : Int) else 0) = 0 then (1 : Int) else 0) ≠ 0 then (1 : Int) else 0) ≠ 0 then (1 : Int) else 0) = 0 then (1 : Int) else 0) = 0 then (1 : Int) else 0) = 0 then [] else zx_LG 2 r 3 [g] [n, a] 0) ++ []) := rfl
  rw [zx_L_0, hd]
  refine e.trans ?_
  simp only [zx_G_F h3, zx_LG_L h3]
set_option maxRecDepth 20000 in
set_option maxHeartbeats 4000000 in
theorem zy_cO_F {c iL iO : Nat} (hd : zx_dn c = zy_cO iL iO) (h3 : 2 < c) (h1 : iL < c) (h2 : iO < c) {f : zx_Rw} {n a : Int} : (zx_F c [f] [n, a] 0).1 = [(0 : Int), (if (if (a + (1 : Int)) ≤ n then (1 : Int) else 0) = 0 then (0 : Int) else (if (if (if (48 : Int) ≤ (f (a).toNat) then (1 : Int) else 0) ≠ 0 ∧ (if (f (a).toNat) ≤ (57 : Int) then (1 : Int) else 0) ≠ 0 then (1 : Int) else 0) = 0 then (if (if (0 : Int) ≤ (zx_op 86 (f (a).toNat) (0 : Int)) then (1 : Int) else 0) = 0 then (if (if (f (a).toNat) = (40 : Int) then (1 : Int) else 0) = 0 then (if (if (if (if (if (f (a).toNat) = (33 : Int) then (1 : Int) else 0) = 0 then (1 : Int) else 0) ≠ 0 ∧ (if (if (f (a).toNat) = (45 : Int) then (1 : Int) else 0) = 0 then (1 : Int) else 0) ≠ 0 then (1 : Int) else 0) = 0 then (1 : Int) else 0) = 0 then (0 : Int) else ((zx_F iO [f] [n, (a + (1 : Int))] 0).1.getD 1 0)) else (if ((zx_F iL [f] [n, (a + (1 : Int))] 130).1.getD 1 0) ≠ 0 ∧ (if (if (((zx_F iL [f] [n, (a + (1 : Int))] 130).1.getD 2 0) + (1 : Int)) ≤ n then (1 : Int) else 0) ≠ 0 ∧ (if (f (((zx_F iL [f] [n, (a + (1 : Int))] 130).1.getD 2 0)).toNat) = (41 : Int) then (1 : Int) else 0) ≠ 0 then (1 : Int) else 0) ≠ 0 then (1 : Int) else 0)) else (1 : Int)) else (1 : Int))), (if (if (a + (1 : Int)) ≤ n then (1 : Int) else 0) = 0 then a else (if (if (if (48 : Int) ≤ (f (a).toNat) then (1 : Int) else 0) ≠ 0 ∧ (if (f (a).toNat) ≤ (57 : Int) then (1 : Int) else 0) ≠ 0 then (1 : Int) else 0) = 0 then (if (if (0 : Int) ≤ (zx_op 86 (f (a).toNat) (0 : Int)) then (1 : Int) else 0) = 0 then (if (if (f (a).toNat) = (40 : Int) then (1 : Int) else 0) = 0 then (if (if (if (if (if (f (a).toNat) = (33 : Int) then (1 : Int) else 0) = 0 then (1 : Int) else 0) ≠ 0 ∧ (if (if (f (a).toNat) = (45 : Int) then (1 : Int) else 0) = 0 then (1 : Int) else 0) ≠ 0 then (1 : Int) else 0) = 0 then (1 : Int) else 0) = 0 then a else ((zx_F iO [f] [n, (a + (1 : Int))] 0).1.getD 2 0)) else (if (if ((zx_F iL [f] [n, (a + (1 : Int))] 130).1.getD 1 0) ≠ 0 ∧ (if (if (((zx_F iL [f] [n, (a + (1 : Int))] 130).1.getD 2 0) + (1 : Int)) ≤ n then (1 : Int) else 0) ≠ 0 ∧ (if (f (((zx_F iL [f] [n, (a + (1 : Int))] 130).1.getD 2 0)).toNat) = (41 : Int) then (1 : Int) else 0) ≠ 0 then (1 : Int) else 0) ≠ 0 then (1 : Int) else 0) = 0 then ((zx_F iL [f] [n, (a + (1 : Int))] 130).1.getD 2 0) else (((zx_F iL [f] [n, (a + (1 : Int))] 130).1.getD 2 0) + (1 : Int)))) else (a + (1 : Int))) else ((zx_F 2 [f] [n, a] 5).1.getD 1 0)))] := by
  have e : (zy_cO iL iO).2.2.1.map (zx_ev (zx_G c) [f] [] [n, a] 0 []) = [(0 : Int), (if (if (a + (1 : Int)) ≤ n then (1 : Int) else 0) = 0 then (0 : Int) else (if (if (if (48 : Int) ≤ (f (a).toNat) then (1 : Int) else 0) ≠ 0 ∧ (if (f (a).toNat) ≤ (57 : Int) then (1 : Int) else 0) ≠ 0 then (1 : Int) else 0) = 0 then (if (if (0 : Int) ≤ (zx_op 86 (f (a).toNat) (0 : Int)) then (1 : Int) else 0) = 0 then (if (if (f (a).toNat) = (40 : Int) then (1 : Int) else 0) = 0 then (if (if (if (if (if (f (a).toNat) = (33 : Int) then (1 : Int) else 0) = 0 then (1 : Int) else 0) ≠ 0 ∧ (if (if (f (a).toNat) = (45 : Int) then (1 : Int) else 0) = 0 then (1 : Int) else 0) ≠ 0 then (1 : Int) else 0) = 0 then (1 : Int) else 0) = 0 then (0 : Int) else ((zx_G c iO [f] [n, (a + (1 : Int))] 0).1.getD 1 0)) else (if ((zx_G c iL [f] [n, (a + (1 : Int))] 130).1.getD 1 0) ≠ 0 ∧ (if (if (((zx_G c iL [f] [n, (a + (1 : Int))] 130).1.getD 2 0) + (1 : Int)) ≤ n then (1 : Int) else 0) ≠ 0 ∧ (if (f (((zx_G c iL [f] [n, (a + (1 : Int))] 130).1.getD 2 0)).toNat) = (41 : Int) then (1 : Int) else 0) ≠ 0 then (1 : Int) else 0) ≠ 0 then (1 : Int) else 0)) else (1 : Int)) else (1 : Int))), (if (if (a + (1 : Int)) ≤ n then (1 : Int) else 0) = 0 then a else (if (if (if (48 : Int) ≤ (f (a).toNat) then (1 : Int) else 0) ≠ 0 ∧ (if (f (a).toNat) ≤ (57 : Int) then (1 : Int) else 0) ≠ 0 then (1 : Int) else 0) = 0 then (if (if (0 : Int) ≤ (zx_op 86 (f (a).toNat) (0 : Int)) then (1 : Int) else 0) = 0 then (if (if (f (a).toNat) = (40 : Int) then (1 : Int) else 0) = 0 then (if (if (if (if (if (f (a).toNat) = (33 : Int) then (1 : Int) else 0) = 0 then (1 : Int) else 0) ≠ 0 ∧ (if (if (f (a).toNat) = (45 : Int) then (1 : Int) else 0) = 0 then (1 : Int) else 0) ≠ 0 then (1 : Int) else 0) = 0 then (1 : Int) else 0) = 0 then a else ((zx_G c iO [f] [n, (a + (1 : Int))] 0).1.getD 2 0)) else (if (if ((zx_G c iL [f] [n, (a + (1 : Int))] 130).1.getD 1 0) ≠ 0 ∧ (if (if (((zx_G c iL [f] [n, (a + (1 : Int))] 130).1.getD 2 0) + (1 : Int)) ≤ n then (1 : Int) else 0) ≠ 0 ∧ (if (f (((zx_G c iL [f] [n, (a + (1 : Int))] 130).1.getD 2 0)).toNat) = (41 : Int) then (1 : Int) else 0) ≠ 0 then (1 : Int) else 0) ≠ 0 then (1 : Int) else 0) = 0 then ((zx_G c iL [f] [n, (a + (1 : Int))] 130).1.getD 2 0) else (((zx_G c iL [f] [n, (a + (1 : Int))] 130).1.getD 2 0) + (1 : Int)))) else (a + (1 : Int))) else ((zx_G c 2 [f] [n, a] 5).1.getD 1 0)))] := rfl
  rw [zx_F_0, hd]
  refine e.trans ?_
  simp only [zx_G_F h3, zx_G_F h1, zx_G_F h2]
set_option maxRecDepth 20000 in
set_option maxHeartbeats 4000000 in
theorem zy_cO_L0 {c iL iO : Nat} (hd : zx_pt 0 c = zy_cPO_0 iL iO) (h3 : 2 < c) (h1 : iL < c) (h2 : iO < c) {f : zx_Rw} {n a : Int} : zx_L 0 c [f] [n, a] 0 = (if (if (if (a + (1 : Int)) ≤ n then (1 : Int) else 0) ≠ 0 ∧ (if (if (48 : Int) ≤ (f (a).toNat) then (1 : Int) else 0) ≠ 0 ∧ (if (f (a).toNat) ≤ (57 : Int) then (1 : Int) else 0) ≠ 0 then (1 : Int) else 0) ≠ 0 then (1 : Int) else 0) = 0 then [] else [((zx_F 2 [f] [n, a] 5).1.getD 2 0)]) ++ ((if (if (if (a + (1 : Int)) ≤ n then (1 : Int) else 0) ≠ 0 ∧ (if (if (if (if (48 : Int) ≤ (f (a).toNat) then (1 : Int) else 0) ≠ 0 ∧ (if (f (a).toNat) ≤ (57 : Int) then (1 : Int) else 0) ≠ 0 then (1 : Int) else 0) = 0 then (1 : Int) else 0) ≠ 0 ∧ (if (0 : Int) ≤ (zx_op 86 (f (a).toNat) (0 : Int)) then (1 : Int) else 0) ≠ 0 then (1 : Int) else 0) ≠ 0 then (1 : Int) else 0) = 0 then [] else [((10000 : Int) + (zx_op 86 (f (a).toNat) (0 : Int)))]) ++ ((if (if (if (a + (1 : Int)) ≤ n then (1 : Int) else 0) ≠ 0 ∧ (if (if (if (if (48 : Int) ≤ (f (a).toNat) then (1 : Int) else 0) ≠ 0 ∧ (if (f (a).toNat) ≤ (57 : Int) then (1 : Int) else 0) ≠ 0 then (1 : Int) else 0) = 0 then (1 : Int) else 0) ≠ 0 ∧ (if (if (if (0 : Int) ≤ (zx_op 86 (f (a).toNat) (0 : Int)) then (1 : Int) else 0) = 0 then (1 : Int) else 0) ≠ 0 ∧ (if (f (a).toNat) = (40 : Int) then (1 : Int) else 0) ≠ 0 then (1 : Int) else 0) ≠ 0 then (1 : Int) else 0) ≠ 0 then (1 : Int) else 0) = 0 then [] else zx_L 0 iL [f] [n, (a + (1 : Int))] 130) ++ ((if (if (if (a + (1 : Int)) ≤ n then (1 : Int) else 0) ≠ 0 ∧ (if (if (if (if (48 : Int) ≤ (f (a).toNat) then (1 : Int) else 0) ≠ 0 ∧ (if (f (a).toNat) ≤ (57 : Int) then (1 : Int) else 0) ≠ 0 then (1 : Int) else 0) = 0 then (1 : Int) else 0) ≠ 0 ∧ (if (if (if (0 : Int) ≤ (zx_op 86 (f (a).toNat) (0 : Int)) then (1 : Int) else 0) = 0 then (1 : Int) else 0) ≠ 0 ∧ (if (if (if (f (a).toNat) = (40 : Int) then (1 : Int) else 0) = 0 then (1 : Int) else 0) ≠ 0 ∧ (if (if (if (if (f (a).toNat) = (33 : Int) then (1 : Int) else 0) = 0 then (1 : Int) else 0) ≠ 0 ∧ (if (if (f (a).toNat) = (45 : Int) then (1 : Int) else 0) = 0 then (1 : Int) else 0) ≠ 0 then (1 : Int) else 0) = 0 then (1 : Int) else 0) ≠ 0 then (1 : Int) else 0) ≠ 0 then (1 : Int) else 0) ≠ 0 then (1 : Int) else 0) ≠ 0 then (1 : Int) else 0) = 0 then [] else zx_L 0 iO [f] [n, (a + (1 : Int))] 0) ++ ((if (if (if (a + (1 : Int)) ≤ n then (1 : Int) else 0) ≠ 0 ∧ (if (if (if (if (48 : Int) ≤ (f (a).toNat) then (1 : Int) else 0) ≠ 0 ∧ (if (f (a).toNat) ≤ (57 : Int) then (1 : Int) else 0) ≠ 0 then (1 : Int) else 0) = 0 then (1 : Int) else 0) ≠ 0 ∧ (if (if (if (0 : Int) ≤ (zx_op 86 (f (a).toNat) (0 : Int)) then (1 : Int) else 0) = 0 then (1 : Int) else 0) ≠ 0 ∧ (if (if (if (f (a).toNat) = (40 : Int) then (1 : Int) else 0) = 0 then (1 : Int) else 0) ≠ 0 ∧ (if (if (if (if (f (a).toNat) = (33 : Int) then (1 : Int) else 0) = 0 then (1 : Int) else 0) ≠ 0 ∧ (if (if (f (a).toNat) = (45 : Int) then (1 : Int) else 0) = 0 then (1 : Int) else 0) ≠ 0 then (1 : Int) else 0) = 0 then (1 : Int) else 0) ≠ 0 then (1 : Int) else 0) ≠ 0 then (1 : Int) else 0) ≠ 0 then (1 : Int) else 0) ≠ 0 then (1 : Int) else 0) = 0 then [] else [(if (if (f (a).toNat) = (33 : Int) then (1 : Int) else 0) = 0 then (-126 : Int) else (-33 : Int))]) ++ [])))) := by
  have e : zx_ps (zx_G c) (zx_LG 0 c) [f] [n, a] 0 [] (zy_cPO_0 iL iO).1 = (if (if (if (a + (1 : Int)) ≤ n then (1 : Int) else 0) ≠ 0 ∧ (if (if (48 : Int) ≤ (f (a).toNat) then (1 : Int) else 0) ≠ 0 ∧ (if (f (a).toNat) ≤ (57 : Int) then (1 : Int) else 0) ≠ 0 then (1 : Int) else 0) ≠ 0 then (1 : Int) else 0) = 0 then [] else [((zx_G c 2 [f] [n, a] 5).1.getD 2 0)]) ++ ((if (if (if (a + (1 : Int)) ≤ n then (1 : Int) else 0) ≠ 0 ∧ (if (if (if (if (48 : Int) ≤ (f (a).toNat) then (1 : Int) else 0) ≠ 0 ∧ (if (f (a).toNat) ≤ (57 : Int) then (1 : Int) else 0) ≠ 0 then (1 : Int) else 0) = 0 then (1 : Int) else 0) ≠ 0 ∧ (if (0 : Int) ≤ (zx_op 86 (f (a).toNat) (0 : Int)) then (1 : Int) else 0) ≠ 0 then (1 : Int) else 0) ≠ 0 then (1 : Int) else 0) = 0 then [] else [((10000 : Int) + (zx_op 86 (f (a).toNat) (0 : Int)))]) ++ ((if (if (if (a + (1 : Int)) ≤ n then (1 : Int) else 0) ≠ 0 ∧ (if (if (if (if (48 : Int) ≤ (f (a).toNat) then (1 : Int) else 0) ≠ 0 ∧ (if (f (a).toNat) ≤ (57 : Int) then (1 : Int) else 0) ≠ 0 then (1 : Int) else 0) = 0 then (1 : Int) else 0) ≠ 0 ∧ (if (if (if (0 : Int) ≤ (zx_op 86 (f (a).toNat) (0 : Int)) then (1 : Int) else 0) = 0 then (1 : Int) else 0) ≠ 0 ∧ (if (f (a).toNat) = (40 : Int) then (1 : Int) else 0) ≠ 0 then (1 : Int) else 0) ≠ 0 then (1 : Int) else 0) ≠ 0 then (1 : Int) else 0) = 0 then [] else zx_LG 0 c iL [f] [n, (a + (1 : Int))] 130) ++ ((if (if (if (a + (1 : Int)) ≤ n then (1 : Int) else 0) ≠ 0 ∧ (if (if (if (if (48 : Int) ≤ (f (a).toNat) then (1 : Int) else 0) ≠ 0 ∧ (if (f (a).toNat) ≤ (57 : Int) then (1 : Int) else 0) ≠ 0 then (1 : Int) else 0) = 0 then (1 : Int) else 0) ≠ 0 ∧ (if (if (if (0 : Int) ≤ (zx_op 86 (f (a).toNat) (0 : Int)) then (1 : Int) else 0) = 0 then (1 : Int) else 0) ≠ 0 ∧ (if (if (if (f (a).toNat) = (40 : Int) then (1 : Int) else 0) = 0 then (1 : Int) else 0) ≠ 0 ∧ (if (if (if (if (f (a).toNat) = (33 : Int) then (1 : Int) else 0) = 0 then (1 : Int) else 0) ≠ 0 ∧ (if (if (f (a).toNat) = (45 : Int) then (1 : Int) else 0) = 0 then (1 : Int) else 0) ≠ 0 then (1 : Int) else 0) = 0 then (1 : Int) else 0) ≠ 0 then (1 : Int) else 0) ≠ 0 then (1 : Int) else 0) ≠ 0 then (1 : Int) else 0) ≠ 0 then (1 : Int) else 0) = 0 then [] else zx_LG 0 c iO [f] [n, (a + (1 : Int))] 0) ++ ((if (if (if (a + (1 : Int)) ≤ n then (1 : Int) else 0) ≠ 0 ∧ (if (if (if (if (48 : Int) ≤ (f (a).toNat) then (1 : Int) else 0) ≠ 0 ∧ (if (f (a).toNat) ≤ (57 : Int) then (1 : Int) else 0) ≠ 0 then (1 : Int) else 0) = 0 then (1 : Int) else 0) ≠ 0 ∧ (if (if (if (0 : Int) ≤ (zx_op 86 (f (a).toNat) (0 : Int)) then (1 : Int) else 0) = 0 then (1 : Int) else 0) ≠ 0 ∧ (if (if (if (f (a).toNat) = (40 : Int) then (1 : Int) else 0) = 0 then (1 : Int) else 0) ≠ 0 ∧ (if (if (if (if (f (a).toNat) = (33 : Int) then (1 : Int) else 0) = 0 then (1 : Int) else 0) ≠ 0 ∧ (if (if (f (a).toNat) = (45 : Int) then (1 : Int) else 0) = 0 then (1 : Int) else 0) ≠ 0 then (1 : Int) else 0) = 0 then (1 : Int) else 0) ≠ 0 then (1 : Int) else 0) ≠ 0 then (1 : Int) else 0) ≠ 0 then (1 : Int) else 0) ≠ 0 then (1 : Int) else 0) = 0 then [] else [(if (if (f (a).toNat) = (33 : Int) then (1 : Int) else 0) = 0 then (-126 : Int) else (-33 : Int))]) ++ [])))) := rfl
  rw [zx_L_0, hd]
  refine e.trans ?_
  simp only [zx_G_F h3, zx_G_F h1, zx_G_F h2, zx_LG_L h1, zx_LG_L h2]
set_option maxRecDepth 20000 in
set_option maxHeartbeats 4000000 in
theorem zy_rO_F {r jL jO : Nat} (hd : zx_dn r = zy_rO jL jO) (h3 : 3 < r) (h1 : jL < r) (h2 : jO < r) {g : zx_Rw} {n a : Int} : (zx_F r [g] [n, a] 0).1 = [(0 : Int), (if (if (if (if n ≤ a then (1 : Int) else 0) = 0 then (1 : Int) else 0) ≠ 0 ∧ (if (0 : Int) ≤ (zx_op 86 (g (a).toNat) (0 : Int)) then (1 : Int) else 0) ≠ 0 then (1 : Int) else 0) = 0 then (if (if (if (if n ≤ a then (1 : Int) else 0) = 0 then (1 : Int) else 0) ≠ 0 ∧ (if (if (if (if (g (a).toNat) = (33 : Int) then (1 : Int) else 0) = 0 then (1 : Int) else 0) ≠ 0 ∧ (if (if (g (a).toNat) = (45 : Int) then (1 : Int) else 0) = 0 then (1 : Int) else 0) ≠ 0 then (1 : Int) else 0) = 0 then (1 : Int) else 0) ≠ 0 then (1 : Int) else 0) = 0 then (if (if (if (if n ≤ a then (1 : Int) else 0) = 0 then (1 : Int) else 0) ≠ 0 ∧ (if (g (a).toNat) = (40 : Int) then (1 : Int) else 0) ≠ 0 then (1 : Int) else 0) = 0 then ((zx_F 3 [g] [n, a] 0).1.getD 1 0) else (if ((zx_F jL [g] [n, (a + (1 : Int))] 130).1.getD 1 0) ≠ 0 ∧ (if (if (((zx_F jL [g] [n, (a + (1 : Int))] 130).1.getD 2 0) + (1 : Int)) ≤ n then (1 : Int) else 0) ≠ 0 ∧ (if (g (((zx_F jL [g] [n, (a + (1 : Int))] 130).1.getD 2 0)).toNat) = (41 : Int) then (1 : Int) else 0) ≠ 0 then (1 : Int) else 0) ≠ 0 then (1 : Int) else 0)) else ((zx_F jO [g] [n, (a + (1 : Int))] 0).1.getD 1 0)) else (1 : Int)), (if (if (if (if n ≤ a then (1 : Int) else 0) = 0 then (1 : Int) else 0) ≠ 0 ∧ (if (0 : Int) ≤ (zx_op 86 (g (a).toNat) (0 : Int)) then (1 : Int) else 0) ≠ 0 then (1 : Int) else 0) = 0 then (if (if (if (if n ≤ a then (1 : Int) else 0) = 0 then (1 : Int) else 0) ≠ 0 ∧ (if (if (if (if (g (a).toNat) = (33 : Int) then (1 : Int) else 0) = 0 then (1 : Int) else 0) ≠ 0 ∧ (if (if (g (a).toNat) = (45 : Int) then (1 : Int) else 0) = 0 then (1 : Int) else 0) ≠ 0 then (1 : Int) else 0) = 0 then (1 : Int) else 0) ≠ 0 then (1 : Int) else 0) = 0 then (if (if (if (if n ≤ a then (1 : Int) else 0) = 0 then (1 : Int) else 0) ≠ 0 ∧ (if (g (a).toNat) = (40 : Int) then (1 : Int) else 0) ≠ 0 then (1 : Int) else 0) = 0 then ((zx_F 3 [g] [n, a] 0).1.getD 2 0) else (if (if ((zx_F jL [g] [n, (a + (1 : Int))] 130).1.getD 1 0) ≠ 0 ∧ (if (if (((zx_F jL [g] [n, (a + (1 : Int))] 130).1.getD 2 0) + (1 : Int)) ≤ n then (1 : Int) else 0) ≠ 0 ∧ (if (g (((zx_F jL [g] [n, (a + (1 : Int))] 130).1.getD 2 0)).toNat) = (41 : Int) then (1 : Int) else 0) ≠ 0 then (1 : Int) else 0) ≠ 0 then (1 : Int) else 0) = 0 then ((zx_F jL [g] [n, (a + (1 : Int))] 130).1.getD 2 0) else (((zx_F jL [g] [n, (a + (1 : Int))] 130).1.getD 2 0) + (1 : Int)))) else ((zx_F jO [g] [n, (a + (1 : Int))] 0).1.getD 2 0)) else (a + (1 : Int))), (if (if (if (if n ≤ a then (1 : Int) else 0) = 0 then (1 : Int) else 0) ≠ 0 ∧ (if (0 : Int) ≤ (zx_op 86 (g (a).toNat) (0 : Int)) then (1 : Int) else 0) ≠ 0 then (1 : Int) else 0) = 0 then (if (if (if (if n ≤ a then (1 : Int) else 0) = 0 then (1 : Int) else 0) ≠ 0 ∧ (if (if (if (if (g (a).toNat) = (33 : Int) then (1 : Int) else 0) = 0 then (1 : Int) else 0) ≠ 0 ∧ (if (if (g (a).toNat) = (45 : Int) then (1 : Int) else 0) = 0 then (1 : Int) else 0) ≠ 0 then (1 : Int) else 0) = 0 then (1 : Int) else 0) ≠ 0 then (1 : Int) else 0) = 0 then (if (if (if (if n ≤ a then (1 : Int) else 0) = 0 then (1 : Int) else 0) ≠ 0 ∧ (if (g (a).toNat) = (40 : Int) then (1 : Int) else 0) ≠ 0 then (1 : Int) else 0) = 0 then ((zx_F 3 [g] [n, a] 0).1.getD 3 0) else ((zx_F jL [g] [n, (a + (1 : Int))] 130).1.getD 3 0)) else (((zx_F jO [g] [n, (a + (1 : Int))] 0).1.getD 3 0) + (1 : Int))) else (1 : Int))] := by
  have e : (zy_rO jL jO).2.2.1.map (zx_ev (zx_G r) [g] [] [n, a] 0 []) = [(0 : Int), (if (if (if (if n ≤ a then (1 : Int) else 0) = 0 then (1 : Int) else 0) ≠ 0 ∧ (if (0 : Int) ≤ (zx_op 86 (g (a).toNat) (0 : Int)) then (1 : Int) else 0) ≠ 0 then (1 : Int) else 0) = 0 then (if (if (if (if n ≤ a then (1 : Int) else 0) = 0 then (1 : Int) else 0) ≠ 0 ∧ (if (if (if (if (g (a).toNat) = (33 : Int) then (1 : Int) else 0) = 0 then (1 : Int) else 0) ≠ 0 ∧ (if (if (g (a).toNat) = (45 : Int) then (1 : Int) else 0) = 0 then (1 : Int) else 0) ≠ 0 then (1 : Int) else 0) = 0 then (1 : Int) else 0) ≠ 0 then (1 : Int) else 0) = 0 then (if (if (if (if n ≤ a then (1 : Int) else 0) = 0 then (1 : Int) else 0) ≠ 0 ∧ (if (g (a).toNat) = (40 : Int) then (1 : Int) else 0) ≠ 0 then (1 : Int) else 0) = 0 then ((zx_G r 3 [g] [n, a] 0).1.getD 1 0) else (if ((zx_G r jL [g] [n, (a + (1 : Int))] 130).1.getD 1 0) ≠ 0 ∧ (if (if (((zx_G r jL [g] [n, (a + (1 : Int))] 130).1.getD 2 0) + (1 : Int)) ≤ n then (1 : Int) else 0) ≠ 0 ∧ (if (g (((zx_G r jL [g] [n, (a + (1 : Int))] 130).1.getD 2 0)).toNat) = (41 : Int) then (1 : Int) else 0) ≠ 0 then (1 : Int) else 0) ≠ 0 then (1 : Int) else 0)) else ((zx_G r jO [g] [n, (a + (1 : Int))] 0).1.getD 1 0)) else (1 : Int)), (if (if (if (if n ≤ a then (1 : Int) else 0) = 0 then (1 : Int) else 0) ≠ 0 ∧ (if (0 : Int) ≤ (zx_op 86 (g (a).toNat) (0 : Int)) then (1 : Int) else 0) ≠ 0 then (1 : Int) else 0) = 0 then (if (if (if (if n ≤ a then (1 : Int) else 0) = 0 then (1 : Int) else 0) ≠ 0 ∧ (if (if (if (if (g (a).toNat) = (33 : Int) then (1 : Int) else 0) = 0 then (1 : Int) else 0) ≠ 0 ∧ (if (if (g (a).toNat) = (45 : Int) then (1 : Int) else 0) = 0 then (1 : Int) else 0) ≠ 0 then (1 : Int) else 0) = 0 then (1 : Int) else 0) ≠ 0 then (1 : Int) else 0) = 0 then (if (if (if (if n ≤ a then (1 : Int) else 0) = 0 then (1 : Int) else 0) ≠ 0 ∧ (if (g (a).toNat) = (40 : Int) then (1 : Int) else 0) ≠ 0 then (1 : Int) else 0) = 0 then ((zx_G r 3 [g] [n, a] 0).1.getD 2 0) else (if (if ((zx_G r jL [g] [n, (a + (1 : Int))] 130).1.getD 1 0) ≠ 0 ∧ (if (if (((zx_G r jL [g] [n, (a + (1 : Int))] 130).1.getD 2 0) + (1 : Int)) ≤ n then (1 : Int) else 0) ≠ 0 ∧ (if (g (((zx_G r jL [g] [n, (a + (1 : Int))] 130).1.getD 2 0)).toNat) = (41 : Int) then (1 : Int) else 0) ≠ 0 then (1 : Int) else 0) ≠ 0 then (1 : Int) else 0) = 0 then ((zx_G r jL [g] [n, (a + (1 : Int))] 130).1.getD 2 0) else (((zx_G r jL [g] [n, (a + (1 : Int))] 130).1.getD 2 0) + (1 : Int)))) else ((zx_G r jO [g] [n, (a + (1 : Int))] 0).1.getD 2 0)) else (a + (1 : Int))), (if (if (if (if n ≤ a then (1 : Int) else 0) = 0 then (1 : Int) else 0) ≠ 0 ∧ (if (0 : Int) ≤ (zx_op 86 (g (a).toNat) (0 : Int)) then (1 : Int) else 0) ≠ 0 then (1 : Int) else 0) = 0 then (if (if (if (if n ≤ a then (1 : Int) else 0) = 0 then (1 : Int) else 0) ≠ 0 ∧ (if (if (if (if (g (a).toNat) = (33 : Int) then (1 : Int) else 0) = 0 then (1 : Int) else 0) ≠ 0 ∧ (if (if (g (a).toNat) = (45 : Int) then (1 : Int) else 0) = 0 then (1 : Int) else 0) ≠ 0 then (1 : Int) else 0) = 0 then (1 : Int) else 0) ≠ 0 then (1 : Int) else 0) = 0 then (if (if (if (if n ≤ a then (1 : Int) else 0) = 0 then (1 : Int) else 0) ≠ 0 ∧ (if (g (a).toNat) = (40 : Int) then (1 : Int) else 0) ≠ 0 then (1 : Int) else 0) = 0 then ((zx_G r 3 [g] [n, a] 0).1.getD 3 0) else ((zx_G r jL [g] [n, (a + (1 : Int))] 130).1.getD 3 0)) else (((zx_G r jO [g] [n, (a + (1 : Int))] 0).1.getD 3 0) + (1 : Int))) else (1 : Int))] := rfl
  rw [zx_F_0, hd]
  refine e.trans ?_
  simp only [zx_G_F h3, zx_G_F h1, zx_G_F h2]
set_option maxRecDepth 20000 in
set_option maxHeartbeats 4000000 in
theorem zy_rO_L1 {r jL jO : Nat} (hd : zx_pt 1 r = zy_rPO_1 jL jO) (h3 : 3 < r) (h1 : jL < r) (h2 : jO < r) {g : zx_Rw} {n a : Int} : zx_L 1 r [g] [n, a] 0 = (if (if (if (if n ≤ a then (1 : Int) else 0) = 0 then (1 : Int) else 0) ≠ 0 ∧ (if (0 : Int) ≤ (zx_op 86 (g (a).toNat) (0 : Int)) then (1 : Int) else 0) ≠ 0 then (1 : Int) else 0) = 0 then [] else [(2 : Int)]) ++ ((if (if (if (if n ≤ a then (1 : Int) else 0) = 0 then (1 : Int) else 0) ≠ 0 ∧ (if (if (if (0 : Int) ≤ (zx_op 86 (g (a).toNat) (0 : Int)) then (1 : Int) else 0) = 0 then (1 : Int) else 0) ≠ 0 ∧ (if (if (if (if (g (a).toNat) = (33 : Int) then (1 : Int) else 0) = 0 then (1 : Int) else 0) ≠ 0 ∧ (if (if (g (a).toNat) = (45 : Int) then (1 : Int) else 0) = 0 then (1 : Int) else 0) ≠ 0 then (1 : Int) else 0) = 0 then (1 : Int) else 0) ≠ 0 then (1 : Int) else 0) ≠ 0 then (1 : Int) else 0) = 0 then [] else zx_L 1 jO [g] [n, (a + (1 : Int))] 0) ++ ((if (if (if (if n ≤ a then (1 : Int) else 0) = 0 then (1 : Int) else 0) ≠ 0 ∧ (if (if (if (0 : Int) ≤ (zx_op 86 (g (a).toNat) (0 : Int)) then (1 : Int) else 0) = 0 then (1 : Int) else 0) ≠ 0 ∧ (if (if (if (if (g (a).toNat) = (33 : Int) then (1 : Int) else 0) = 0 then (1 : Int) else 0) ≠ 0 ∧ (if (if (g (a).toNat) = (45 : Int) then (1 : Int) else 0) = 0 then (1 : Int) else 0) ≠ 0 then (1 : Int) else 0) = 0 then (1 : Int) else 0) ≠ 0 then (1 : Int) else 0) ≠ 0 then (1 : Int) else 0) = 0 then [] else [(if (if (g (a).toNat) = (33 : Int) then (1 : Int) else 0) = 0 then (4 : Int) else (3 : Int))]) ++ ((if (if (if (if n ≤ a then (1 : Int) else 0) = 0 then (1 : Int) else 0) ≠ 0 ∧ (if (if (if (0 : Int) ≤ (zx_op 86 (g (a).toNat) (0 : Int)) then (1 : Int) else 0) = 0 then (1 : Int) else 0) ≠ 0 ∧ (if (if (if (if (if (if (g (a).toNat) = (33 : Int) then (1 : Int) else 0) = 0 then (1 : Int) else 0) ≠ 0 ∧ (if (if (g (a).toNat) = (45 : Int) then (1 : Int) else 0) = 0 then (1 : Int) else 0) ≠ 0 then (1 : Int) else 0) = 0 then (1 : Int) else 0) = 0 then (1 : Int) else 0) ≠ 0 ∧ (if (g (a).toNat) = (40 : Int) then (1 : Int) else 0) ≠ 0 then (1 : Int) else 0) ≠ 0 then (1 : Int) else 0) ≠ 0 then (1 : Int) else 0) = 0 then [] else zx_L 1 jL [g] [n, (a + (1 : Int))] 130) ++ ((if (if (if (if (if (if (if (if n ≤ a then (1 : Int) else 0) = 0 then (1 : Int) else 0) ≠ 0 ∧ (if (0 : Int) ≤ (zx_op 86 (g (a).toNat) (0 : Int)) then (1 : Int) else 0) ≠ 0 then (1 : Int) else 0) = 0 then (1 : Int) else 0) ≠ 0 ∧ (if (if (if (if (if n ≤ a then (1 : Int) else 0) = 0 then (1 : Int) else 0) ≠ 0 ∧ (if (if (if (0 : Int) ≤ (zx_op 86 (g (a).toNat) (0 : Int)) then (1 : Int) else 0) = 0 then (1 : Int) else 0) ≠ 0 ∧ (if (if (if (if (g (a).toNat) = (33 : Int) then (1 : Int) else 0) = 0 then (1 : Int) else 0) ≠ 0 ∧ (if (if (g (a).toNat) = (45 : Int) then (1 : Int) else 0) = 0 then (1 : Int) else 0) ≠ 0 then (1 : Int) else 0) = 0 then (1 : Int) else 0) ≠ 0 then (1 : Int) else 0) ≠ 0 then (1 : Int) else 0) = 0 then (1 : Int) else 0) ≠ 0 ∧ (if (if (if (if n ≤ a then (1 : Int) else 0) = 0 then (1 : Int) else 0) ≠ 0 ∧ (if (if (if (0 : Int) ≤ (zx_op 86 (g (a).toNat) (0 : Int)) then (1 : Int) else 0) = 0 then (1 : Int) else 0) ≠ 0 ∧ (if (if (if (if (if (if (g (a).toNat) = (33 : Int) then (1 : Int) else 0) = 0 then (1 : Int) else 0) ≠ 0 ∧ (if (if (g (a).toNat) = (45 : Int) then (1 : Int) else 0) = 0 then (1 : Int) else 0) ≠ 0 then (1 : Int) else 0) = 0 then (1 : Int) else 0) = 0 then (1 : Int) else 0) ≠ 0 ∧ (if (g (a).toNat) = (40 : Int) then (1 : Int) else 0) ≠ 0 then (1 : Int) else 0) ≠ 0 then (1 : Int) else 0) ≠ 0 then (1 : Int) else 0) = 0 then (1 : Int) else 0) ≠ 0 then (1 : Int) else 0) ≠ 0 then (1 : Int) else 0) = 0 then (1 : Int) else 0) = 0 then (1 : Int) else 0) = 0 then [] else zx_L 1 3 [g] [n, a] 0) ++ [])))) := by
  have e : zx_ps (zx_G r) (zx_LG 1 r) [g] [n, a] 0 [] (zy_rPO_1 jL jO).1 = (if (if (if (if n ≤ a then (1 : Int) else 0) = 0 then (1 : Int) else 0) ≠ 0 ∧ (if (0 : Int) ≤ (zx_op 86 (g (a).toNat) (0 : Int)) then (1 : Int) else 0) ≠ 0 then (1 : Int) else 0) = 0 then [] else [(2 : Int)]) ++ ((if (if (if (if n ≤ a then (1 : Int) else 0) = 0 then (1 : Int) else 0) ≠ 0 ∧ (if (if (if (0 : Int) ≤ (zx_op 86 (g (a).toNat) (0 : Int)) then (1 : Int) else 0) = 0 then (1 : Int) else 0) ≠ 0 ∧ (if (if (if (if (g (a).toNat) = (33 : Int) then (1 : Int) else 0) = 0 then (1 : Int) else 0) ≠ 0 ∧ (if (if (g (a).toNat) = (45 : Int) then (1 : Int) else 0) = 0 then (1 : Int) else 0) ≠ 0 then (1 : Int) else 0) = 0 then (1 : Int) else 0) ≠ 0 then (1 : Int) else 0) ≠ 0 then (1 : Int) else 0) = 0 then [] else zx_LG 1 r jO [g] [n, (a + (1 : Int))] 0) ++ ((if (if (if (if n ≤ a then (1 : Int) else 0) = 0 then (1 : Int) else 0) ≠ 0 ∧ (if (if (if (0 : Int) ≤ (zx_op 86 (g (a).toNat) (0 : Int)) then (1 : Int) else 0) = 0 then (1 : Int) else 0) ≠ 0 ∧ (if (if (if (if (g (a).toNat) = (33 : Int) then (1 : Int) else 0) = 0 then (1 : Int) else 0) ≠ 0 ∧ (if (if (g (a).toNat) = (45 : Int) then (1 : Int) else 0) = 0 then (1 : Int) else 0) ≠ 0 then (1 : Int) else 0) = 0 then (1 : Int) else 0) ≠ 0 then (1 : Int) else 0) ≠ 0 then (1 : Int) else 0) = 0 then [] else [(if (if (g (a).toNat) = (33 : Int) then (1 : Int) else 0) = 0 then (4 : Int) else (3 : Int))]) ++ ((if (if (if (if n ≤ a then (1 : Int) else 0) = 0 then (1 : Int) else 0) ≠ 0 ∧ (if (if (if (0 : Int) ≤ (zx_op 86 (g (a).toNat) (0 : Int)) then (1 : Int) else 0) = 0 then (1 : Int) else 0) ≠ 0 ∧ (if (if (if (if (if (if (g (a).toNat) = (33 : Int) then (1 : Int) else 0) = 0 then (1 : Int) else 0) ≠ 0 ∧ (if (if (g (a).toNat) = (45 : Int) then (1 : Int) else 0) = 0 then (1 : Int) else 0) ≠ 0 then (1 : Int) else 0) = 0 then (1 : Int) else 0) = 0 then (1 : Int) else 0) ≠ 0 ∧ (if (g (a).toNat) = (40 : Int) then (1 : Int) else 0) ≠ 0 then (1 : Int) else 0) ≠ 0 then (1 : Int) else 0) ≠ 0 then (1 : Int) else 0) = 0 then [] else zx_LG 1 r jL [g] [n, (a + (1 : Int))] 130) ++ ((if (if (if (if (if (if (if (if n ≤ a then (1 : Int) else 0) = 0 then (1 : Int) else 0) ≠ 0 ∧ (if (0 : Int) ≤ (zx_op 86 (g (a).toNat) (0 : Int)) then (1 : Int) else 0) ≠ 0 then (1 : Int) else 0) = 0 then (1 : Int) else 0) ≠ 0 ∧ (if (if (if (if (if n ≤ a then (1 : Int) else 0) = 0 then (1 : Int) else 0) ≠ 0 ∧ (if (if (if (0 : Int) ≤ (zx_op 86 (g (a).toNat) (0 : Int)) then (1 : Int) else 0) = 0 then (1 : Int) else 0) ≠ 0 ∧ (if (if (if (if (g (a).toNat) = (33 : Int) then (1 : Int) else 0) = 0 then (1 : Int) else 0) ≠ 0 ∧ (if (if (g (a).toNat) = (45 : Int) then (1 : Int) else 0) = 0 then (1 : Int) else 0) ≠ 0 then (1 : Int) else 0) = 0 then (1 : Int) else 0) ≠ 0 then (1 : Int) else 0) ≠ 0 then (1 : Int) else 0) = 0 then (1 : Int) else 0) ≠ 0 ∧ (if (if (if (if n ≤ a then (1 : Int) else 0) = 0 then (1 : Int) else 0) ≠ 0 ∧ (if (if (if (0 : Int) ≤ (zx_op 86 (g (a).toNat) (0 : Int)) then (1 : Int) else 0) = 0 then (1 : Int) else 0) ≠ 0 ∧ (if (if (if (if (if (if (g (a).toNat) = (33 : Int) then (1 : Int) else 0) = 0 then (1 : Int) else 0) ≠ 0 ∧ (if (if (g (a).toNat) = (45 : Int) then (1 : Int) else 0) = 0 then (1 : Int) else 0) ≠ 0 then (1 : Int) else 0) = 0 then (1 : Int) else 0) = 0 then (1 : Int) else 0) ≠ 0 ∧ (if (g (a).toNat) = (40 : Int) then (1 : Int) else 0) ≠ 0 then (1 : Int) else 0) ≠ 0 then (1 : Int) else 0) ≠ 0 then (1 : Int) else 0) = 0 then (1 : Int) else 0) ≠ 0 then (1 : Int) else 0) ≠ 0 then (1 : Int) else 0) = 0 then (1 : Int) else 0) = 0 then (1 : Int) else 0) = 0 then [] else zx_LG 1 r 3 [g] [n, a] 0) ++ [])))) := rfl
  rw [zx_L_0, hd]
  refine e.trans ?_
  simp only [zx_G_F h3, zx_G_F h1, zx_G_F h2, zx_LG_L h3, zx_LG_L h1, zx_LG_L h2]
set_option maxRecDepth 20000 in
set_option maxHeartbeats 4000000 in
theorem zy_rO_L2 {r jL jO : Nat} (hd : zx_pt 2 r = zy_rPO_2 jL jO) (h3 : 3 < r) (h1 : jL < r) (h2 : jO < r) {g : zx_Rw} {n a : Int} : zx_L 2 r [g] [n, a] 0 = (if (if (if (if n ≤ a then (1 : Int) else 0) = 0 then (1 : Int) else 0) ≠ 0 ∧ (if (0 : Int) ≤ (zx_op 86 (g (a).toNat) (0 : Int)) then (1 : Int) else 0) ≠ 0 then (1 : Int) else 0) = 0 then [] else [(zx_op 86 (g (a).toNat) (0 : Int))]) ++ ((if (if (if (if n ≤ a then (1 : Int) else 0) = 0 then (1 : Int) else 0) ≠ 0 ∧ (if (if (if (0 : Int) ≤ (zx_op 86 (g (a).toNat) (0 : Int)) then (1 : Int) else 0) = 0 then (1 : Int) else 0) ≠ 0 ∧ (if (if (if (if (g (a).toNat) = (33 : Int) then (1 : Int) else 0) = 0 then (1 : Int) else 0) ≠ 0 ∧ (if (if (g (a).toNat) = (45 : Int) then (1 : Int) else 0) = 0 then (1 : Int) else 0) ≠ 0 then (1 : Int) else 0) = 0 then (1 : Int) else 0) ≠ 0 then (1 : Int) else 0) ≠ 0 then (1 : Int) else 0) = 0 then [] else zx_L 2 jO [g] [n, (a + (1 : Int))] 0) ++ ((if (if (if (if n ≤ a then (1 : Int) else 0) = 0 then (1 : Int) else 0) ≠ 0 ∧ (if (if (if (0 : Int) ≤ (zx_op 86 (g (a).toNat) (0 : Int)) then (1 : Int) else 0) = 0 then (1 : Int) else 0) ≠ 0 ∧ (if (if (if (if (g (a).toNat) = (33 : Int) then (1 : Int) else 0) = 0 then (1 : Int) else 0) ≠ 0 ∧ (if (if (g (a).toNat) = (45 : Int) then (1 : Int) else 0) = 0 then (1 : Int) else 0) ≠ 0 then (1 : Int) else 0) = 0 then (1 : Int) else 0) ≠ 0 then (1 : Int) else 0) ≠ 0 then (1 : Int) else 0) = 0 then [] else [(0 : Int)]) ++ ((if (if (if (if n ≤ a then (1 : Int) else 0) = 0 then (1 : Int) else 0) ≠ 0 ∧ (if (if (if (0 : Int) ≤ (zx_op 86 (g (a).toNat) (0 : Int)) then (1 : Int) else 0) = 0 then (1 : Int) else 0) ≠ 0 ∧ (if (if (if (if (if (if (g (a).toNat) = (33 : Int) then (1 : Int) else 0) = 0 then (1 : Int) else 0) ≠ 0 ∧ (if (if (g (a).toNat) = (45 : Int) then (1 : Int) else 0) = 0 then (1 : Int) else 0) ≠ 0 then (1 : Int) else 0) = 0 then (1 : Int) else 0) = 0 then (1 : Int) else 0) ≠ 0 ∧ (if (g (a).toNat) = (40 : Int) then (1 : Int) else 0) ≠ 0 then (1 : Int) else 0) ≠ 0 then (1 : Int) else 0) ≠ 0 then (1 : Int) else 0) = 0 then [] else zx_L 2 jL [g] [n, (a + (1 : Int))] 130) ++ ((if (if (if (if (if (if (if (if n ≤ a then (1 : Int) else 0) = 0 then (1 : Int) else 0) ≠ 0 ∧ (if (0 : Int) ≤ (zx_op 86 (g (a).toNat) (0 : Int)) then (1 : Int) else 0) ≠ 0 then (1 : Int) else 0) = 0 then (1 : Int) else 0) ≠ 0 ∧ (if (if (if (if (if n ≤ a then (1 : Int) else 0) = 0 then (1 : Int) else 0) ≠ 0 ∧ (if (if (if (0 : Int) ≤ (zx_op 86 (g (a).toNat) (0 : Int)) then (1 : Int) else 0) = 0 then (1 : Int) else 0) ≠ 0 ∧ (if (if (if (if (g (a).toNat) = (33 : Int) then (1 : Int) else 0) = 0 then (1 : Int) else 0) ≠ 0 ∧ (if (if (g (a).toNat) = (45 : Int) then (1 : Int) else 0) = 0 then (1 : Int) else 0) ≠ 0 then (1 : Int) else 0) = 0 then (1 : Int) else 0) ≠ 0 then (1 : Int) else 0) ≠ 0 then (1 : Int) else 0) = 0 then (1 : Int) else 0) ≠ 0 ∧ (if (if (if (if n ≤ a then (1 : Int) else 0) = 0 then (1 : Int) else 0) ≠ 0 ∧ (if (if (if (0 : Int) ≤ (zx_op 86 (g (a).toNat) (0 : Int)) then (1 : Int) else 0) = 0 then (1 : Int) else 0) ≠ 0 ∧ (if (if (if (if (if (if (g (a).toNat) = (33 : Int) then (1 : Int) else 0) = 0 then (1 : Int) else 0) ≠ 0 ∧ (if (if (g (a).toNat) = (45 : Int) then (1 : Int) else 0) = 0 then (1 : Int) else 0) ≠ 0 then (1 : Int) else 0) = 0 then (1 : Int) else 0) = 0 then (1 : Int) else 0) ≠ 0 ∧ (if (g (a).toNat) = (40 : Int) then (1 : Int) else 0) ≠ 0 then (1 : Int) else 0) ≠ 0 then (1 : Int) else 0) ≠ 0 then (1 : Int) else 0) = 0 then (1 : Int) else 0) ≠ 0 then (1 : Int) else 0) ≠ 0 then (1 : Int) else 0) = 0 then (1 : Int) else 0) = 0 then (1 : Int) else 0) = 0 then [] else zx_L 2 3 [g] [n, a] 0) ++ [])))) := by
  have e : zx_ps (zx_G r) (zx_LG 2 r) [g] [n, a] 0 [] (zy_rPO_2 jL jO).1 = (if (if (if (if n ≤ a then (1 : Int) else 0) = 0 then (1 : Int) else 0) ≠ 0 ∧ (if (0 : Int) ≤ (zx_op 86 (g (a).toNat) (0 : Int)) then (1 : Int) else 0) ≠ 0 then (1 : Int) else 0) = 0 then [] else [(zx_op 86 (g (a).toNat) (0 : Int))]) ++ ((if (if (if (if n ≤ a then (1 : Int) else 0) = 0 then (1 : Int) else 0) ≠ 0 ∧ (if (if (if (0 : Int) ≤ (zx_op 86 (g (a).toNat) (0 : Int)) then (1 : Int) else 0) = 0 then (1 : Int) else 0) ≠ 0 ∧ (if (if (if (if (g (a).toNat) = (33 : Int) then (1 : Int) else 0) = 0 then (1 : Int) else 0) ≠ 0 ∧ (if (if (g (a).toNat) = (45 : Int) then (1 : Int) else 0) = 0 then (1 : Int) else 0) ≠ 0 then (1 : Int) else 0) = 0 then (1 : Int) else 0) ≠ 0 then (1 : Int) else 0) ≠ 0 then (1 : Int) else 0) = 0 then [] else zx_LG 2 r jO [g] [n, (a + (1 : Int))] 0) ++ ((if (if (if (if n ≤ a then (1 : Int) else 0) = 0 then (1 : Int) else 0) ≠ 0 ∧ (if (if (if (0 : Int) ≤ (zx_op 86 (g (a).toNat) (0 : Int)) then (1 : Int) else 0) = 0 then (1 : Int) else 0) ≠ 0 ∧ (if (if (if (if (g (a).toNat) = (33 : Int) then (1 : Int) else 0) = 0 then (1 : Int) else 0) ≠ 0 ∧ (if (if (g (a).toNat) = (45 : Int) then (1 : Int) else 0) = 0 then (1 : Int) else 0) ≠ 0 then (1 : Int) else 0) = 0 then (1 : Int) else 0) ≠ 0 then (1 : Int) else 0) ≠ 0 then (1 : Int) else 0) = 0 then [] else [(0 : Int)]) ++ ((if (if (if (if n ≤ a then (1 : Int) else 0) = 0 then (1 : Int) else 0) ≠ 0 ∧ (if (if (if (0 : Int) ≤ (zx_op 86 (g (a).toNat) (0 : Int)) then (1 : Int) else 0) = 0 then (1 : Int) else 0) ≠ 0 ∧ (if (if (if (if (if (if (g (a).toNat) = (33 : Int) then (1 : Int) else 0) = 0 then (1 : Int) else 0) ≠ 0 ∧ (if (if (g (a).toNat) = (45 : Int) then (1 : Int) else 0) = 0 then (1 : Int) else 0) ≠ 0 then (1 : Int) else 0) = 0 then (1 : Int) else 0) = 0 then (1 : Int) else 0) ≠ 0 ∧ (if (g (a).toNat) = (40 : Int) then (1 : Int) else 0) ≠ 0 then (1 : Int) else 0) ≠ 0 then (1 : Int) else 0) ≠ 0 then (1 : Int) else 0) = 0 then [] else zx_LG 2 r jL [g] [n, (a + (1 : Int))] 130) ++ ((if (if (if (if (if (if (if (if n ≤ a then (1 : Int) else 0) = 0 then (1 : Int) else 0) ≠ 0 ∧ (if (0 : Int) ≤ (zx_op 86 (g (a).toNat) (0 : Int)) then (1 : Int) else 0) ≠ 0 then (1 : Int) else 0) = 0 then (1 : Int) else 0) ≠ 0 ∧ (if (if (if (if (if n ≤ a then (1 : Int) else 0) = 0 then (1 : Int) else 0) ≠ 0 ∧ (if (if (if (0 : Int) ≤ (zx_op 86 (g (a).toNat) (0 : Int)) then (1 : Int) else 0) = 0 then (1 : Int) else 0) ≠ 0 ∧ (if (if (if (if (g (a).toNat) = (33 : Int) then (1 : Int) else 0) = 0 then (1 : Int) else 0) ≠ 0 ∧ (if (if (g (a).toNat) = (45 : Int) then (1 : Int) else 0) = 0 then (1 : Int) else 0) ≠ 0 then (1 : Int) else 0) = 0 then (1 : Int) else 0) ≠ 0 then (1 : Int) else 0) ≠ 0 then (1 : Int) else 0) = 0 then (1 : Int) else 0) ≠ 0 ∧ (if (if (if (if n ≤ a then (1 : Int) else 0) = 0 then (1 : Int) else 0) ≠ 0 ∧ (if (if (if (0 : Int) ≤ (zx_op 86 (g (a).toNat) (0 : Int)) then (1 : Int) else 0) = 0 then (1 : Int) else 0) ≠ 0 ∧ (if (if (if (if (if (if (g (a).toNat) = (33 : Int) then (1 : Int) else 0) = 0 then (1 : Int) else 0) ≠ 0 ∧ (if (if (g (a).toNat) = (45 : Int) then (1 : Int) else 0) = 0 then (1 : Int) else 0) ≠ 0 then (1 : Int) else 0) = 0 then (1 : Int) else 0) = 0 then (1 : Int) else 0) ≠ 0 ∧ (if (g (a).toNat) = (40 : Int) then (1 : Int) else 0) ≠ 0 then (1 : Int) else 0) ≠ 0 then (1 : Int) else 0) ≠ 0 then (1 : Int) else 0) = 0 then (1 : Int) else 0) ≠ 0 then (1 : Int) else 0) ≠ 0 then (1 : Int) else 0) = 0 then (1 : Int) else 0) = 0 then (1 : Int) else 0) = 0 then [] else zx_LG 2 r 3 [g] [n, a] 0) ++ [])))) := rfl
  rw [zx_L_0, hd]
  refine e.trans ?_
  simp only [zx_G_F h3, zx_G_F h1, zx_G_F h2, zx_LG_L h3, zx_LG_L h1, zx_LG_L h2]
set_option maxRecDepth 8000 in
set_option maxHeartbeats 40000000 in
theorem zy_op0 {f g : zx_Rw} {n : Int} (H : zy_H f g n) {c r : Nat} (hc : zx_dn c = zy_cZ) (hc0 : zx_pt 0 c = zy_cPZ_0) (hr : zx_dn r = zy_rZ) (hr1 : zx_pt 1 r = zy_rPZ_1) (hr2 : zx_pt 2 r = zy_rPZ_2) (c2 : 2 < c) (r3 : 3 < r) : ∀ a, 0 ≤ a → zy_T f n 1 (zy_s c f n a 0 1) (zy_s c f n a 0 2) (zy_l 0 c f n a 0) (zy_s r g n a 0 1) (zy_s r g n a 0 2) (zy_s r g n a 0 3) (zy_l 1 r g n a 0) (zy_l 2 r g n a 0) := fun a ha => by
  suffices key : ∃ cg ca rg ra rl, (zx_F c [f] [n, a] 0).1 = [0, cg, ca] ∧ (zx_F r [g] [n, a] 0).1 = [0, rg, ra, rl] ∧ zy_T f n 1 cg ca (zx_L 0 c [f] [n, a] 0) rg ra rl (zx_L 1 r [g] [n, a] 0) (zx_L 2 r [g] [n, a] 0) by
    obtain ⟨cg, ca, rg, ra, rl, e1, e2, e3⟩ := key
    unfold zy_s
    rw [e1, e2]
    exact e3
  obtain ⟨d, x, v, fg, n1, n2, l1, l2, n3, n4, n5, n6, n7⟩ := zy_fig H ha
  have rf : (a + 1 ≤ n → ¬ 0 ≤ zx_nm (g a.toNat) ∧ g a.toNat ≠ 33 ∧ g a.toNat ≠ 45 ∧ g a.toNat ≠ 40) → (zx_F r [g] [n, a] 0).1 = [0, fg, x, 1] ∧ zx_L 1 r [g] [n, a] 0 = [1] ∧ zx_L 2 r [g] [n, a] 0 = [v] := fun h => by
    rw [zy_rZ_F hr r3, zy_rZ_L1 hr1 r3, zy_rZ_L2 hr2 r3]
    by_cases hb : n ≤ a
    · refine ⟨?_, ?_, ?_⟩
      · simp [zy_o86, hb, n2]
      · simp [zy_o86, hb, l1]
      · simp [zy_o86, hb, l2]
    · obtain ⟨q1, q2, q3, q4⟩ := h (by omega)
      refine ⟨?_, ?_, ?_⟩
      · simp [zy_o86, hb, q1, q2, q3, q4, n2]
      · simp [zy_o86, hb, q1, q2, q3, q4, l1]
      · simp [zy_o86, hb, q1, q2, q3, q4, l2]
  by_cases hb : a + 1 ≤ n
  · obtain ⟨k1, k2, k3⟩ := H a ha hb
    have hb2 : ¬ n ≤ a := by omega
    by_cases hdg : 48 ≤ f a.toNat ∧ f a.toNat ≤ 57
    · have eg : g a.toNat = f a.toNat := by
        rw [k3, if_pos (by omega)]
      obtain ⟨q1, q2⟩ := hdg
      have ec : (zx_F c [f] [n, a] 0).1 = [0, 1, x] := by
        rw [zy_cZ_F hc c2]
        simp [zy_o86, hb, q1, q2, n1]
      have el : zx_L 0 c [f] [n, a] 0 = [v] := by
        rw [zy_cZ_L0 hc0 c2]
        simp [zy_o86, hb, q1, q2, n1]
      obtain ⟨r1, r2, r3'⟩ := rf (fun _ => by rw [eg]; exact ⟨zy_nm_n (by omega), by omega, by omega, by omega⟩)
      refine ⟨1, x, fg, x, 1, ec, r1, rfl, n3, ?_⟩
      rw [el, r2, r3']
      rcases n5 ⟨ha, hb, q1, q2⟩ with h | ⟨h, h'⟩
      · refine Or.inl ⟨h, rfl, rfl, ?_, zy_gd_push n6⟩
        have o2 : zy_ok2 1 v := Or.inl ⟨rfl, n6, n7⟩
        have := zy_rel_one o2
        rw [show zy_st2 1 v = v from if_pos rfl] at this
        exact this
      · exact Or.inr ⟨h, Or.inr ⟨rfl, h'⟩⟩
    · have hnd : ¬ zy_D f n a := fun h => hdg ⟨h.2.2.1, h.2.2.2⟩
      obtain ⟨ex, efg⟩ := n4 hnd
      have hd2 : 48 ≤ f a.toNat → ¬ f a.toNat ≤ 57 := fun h h' => hdg ⟨h, h'⟩
      by_cases hnm : 0 ≤ zx_nm (f a.toNat)
      · obtain ⟨v1, -, v2, v3, v4, v5⟩ := zy_nm_v hnm
        have eg : g a.toNat = f a.toNat := by
          rw [k3, if_pos v1]
        have ec : (zx_F c [f] [n, a] 0).1 = [0, 1, a + 1] ∧ zx_L 0 c [f] [n, a] 0 = [10000 + zx_nm (f a.toNat)] := by
          rw [zy_cZ_F hc c2, zy_cZ_L0 hc0 c2]
          by_cases q1 : 48 ≤ f a.toNat
          · have q2 := hd2 q1
            exact ⟨by simp [zy_o86, hb, q1, q2, hnm], by simp [zy_o86, hb, q1, q2, hnm]⟩
          · exact ⟨by simp [zy_o86, hb, q1, hnm], by simp [zy_o86, hb, q1, hnm]⟩
        have er : (zx_F r [g] [n, a] 0).1 = [0, 1, a + 1, 1] ∧ zx_L 1 r [g] [n, a] 0 = [2] ∧ zx_L 2 r [g] [n, a] 0 = [zx_nm (f a.toNat)] := by
          rw [zy_rZ_F hr r3, zy_rZ_L1 hr1 r3, zy_rZ_L2 hr2 r3]
          have q1 : 0 ≤ zx_nm (g a.toNat) := by rw [eg]; exact hnm
          exact ⟨by simp [zy_o86, hb2, q1], by simp [zy_o86, hb2, q1], by simp [zy_o86, hb2, q1, eg, hnm]⟩
        refine ⟨1, a + 1, 1, a + 1, 1, ec.1, er.1, rfl, by omega, ?_⟩
        rw [ec.2, er.2.1, er.2.2]
        refine Or.inl ⟨rfl, rfl, rfl, ?_, zy_gd_push (by omega)⟩
        have o2 : zy_ok2 2 (zx_nm (f a.toNat)) := Or.inr (Or.inl ⟨rfl, hnm, v5⟩)
        have := zy_rel_one o2
        rw [show zy_st2 2 (zx_nm (f a.toNat)) = 10000 + zx_nm (f a.toNat) from by unfold zy_st2; rw [if_neg (by decide), if_pos rfl]] at this
        exact this
      · have hgn : ¬ 0 ≤ zx_nm (g a.toNat) := by
          rw [k3]
          split
          · exact hnm
          · exact zy_nm_n (by omega)
        have hg40 : g a.toNat = 40 ↔ f a.toNat = 40 := by rw [k3]; split <;> omega
        have hg33 : g a.toNat = 33 ↔ f a.toNat = 33 := by rw [k3]; split <;> omega
        have hg45 : g a.toNat = 45 ↔ f a.toNat = 45 := by rw [k3]; split <;> omega
        have ec : (zx_F c [f] [n, a] 0).1 = [0, 0, a] := by
          rw [zy_cZ_F hc c2]
          by_cases q1 : 48 ≤ f a.toNat
          · have q2 := hd2 q1
            simp [zy_o86, hb, q1, q2, hnm]
          · simp [zy_o86, hb, q1, hnm]
        by_cases h40 : g a.toNat = 40
        · skip
          have er : (zx_F r [g] [n, a] 0).1 = [0, 0, a, 0] := by
            rw [zy_rZ_F hr r3]
            simp [zy_o86, hb2, hgn, h40, zy_n40]
          exact ⟨0, a, 0, a, 0, ec, er, rfl, ha, Or.inr ⟨rfl, Or.inl rfl⟩⟩
        · by_cases h33 : g a.toNat = 33
          · skip
            have er : (zx_F r [g] [n, a] 0).1 = [0, 0, a, 1] := by
              rw [zy_rZ_F hr r3]
              simp [zy_o86, hb2, hgn, h33, zy_n33, zy_n45]
            exact ⟨0, a, 0, a, 1, ec, er, rfl, ha, Or.inr ⟨rfl, Or.inl rfl⟩⟩
          · by_cases h45 : g a.toNat = 45
            · skip
              have er : (zx_F r [g] [n, a] 0).1 = [0, 0, a, 1] := by
                rw [zy_rZ_F hr r3]
                simp [zy_o86, hb2, hgn, h45, zy_n33, zy_n45]
              exact ⟨0, a, 0, a, 1, ec, er, rfl, ha, Or.inr ⟨rfl, Or.inl rfl⟩⟩
            · exact ⟨0, a, fg, x, 1, ec, (rf (fun _ => ⟨hgn, h33, h45, h40⟩)).1, ex.symm, ha, Or.inr ⟨efg, Or.inl rfl⟩⟩
  · have ec : (zx_F c [f] [n, a] 0).1 = [0, 0, a] := by
      rw [zy_cZ_F hc c2]
      simp [zy_o86, hb]
    obtain ⟨ex, efg⟩ := n4 (fun h => hb h.2.1)
    exact ⟨0, a, fg, x, 1, ec, (rf (fun h => absurd h hb)).1, ex.symm, ha, Or.inr ⟨efg, Or.inl rfl⟩⟩
set_option maxRecDepth 8000 in
set_option maxHeartbeats 40000000 in
theorem zy_opS {f g : zx_Rw} {n : Int} (H : zy_H f g n) {c r iL iO jL jO : Nat} (hc : zx_dn c = zy_cO iL iO) (hc0 : zx_pt 0 c = zy_cPO_0 iL iO) (hr : zx_dn r = zy_rO jL jO) (hr1 : zx_pt 1 r = zy_rPO_1 jL jO) (hr2 : zx_pt 2 r = zy_rPO_2 jL jO) (i1 : iL < c) (i2 : iO < c) (j1 : jL < r) (j2 : jO < r) (c2 : 2 < c) (r3 : 3 < r) {hh : Nat} (hh1 : 1 ≤ hh) (hL : ∀ x, 0 ≤ x → zy_T f n hh (zy_s iL f n x 130 1) (zy_s iL f n x 130 2) (zy_l 0 iL f n x 130) (zy_s jL g n x 130 1) (zy_s jL g n x 130 2) (zy_s jL g n x 130 3) (zy_l 1 jL g n x 130) (zy_l 2 jL g n x 130)) (hO : ∀ x, 0 ≤ x → zy_T f n hh (zy_s iO f n x 0 1) (zy_s iO f n x 0 2) (zy_l 0 iO f n x 0) (zy_s jO g n x 0 1) (zy_s jO g n x 0 2) (zy_s jO g n x 0 3) (zy_l 1 jO g n x 0) (zy_l 2 jO g n x 0)) : ∀ a, 0 ≤ a → zy_T f n hh (zy_s c f n a 0 1) (zy_s c f n a 0 2) (zy_l 0 c f n a 0) (zy_s r g n a 0 1) (zy_s r g n a 0 2) (zy_s r g n a 0 3) (zy_l 1 r g n a 0) (zy_l 2 r g n a 0) := fun a ha => by
  suffices key : ∃ cg ca rg ra rl, (zx_F c [f] [n, a] 0).1 = [0, cg, ca] ∧ (zx_F r [g] [n, a] 0).1 = [0, rg, ra, rl] ∧ zy_T f n hh cg ca (zx_L 0 c [f] [n, a] 0) rg ra rl (zx_L 1 r [g] [n, a] 0) (zx_L 2 r [g] [n, a] 0) by
    obtain ⟨cg, ca, rg, ra, rl, e1, e2, e3⟩ := key
    unfold zy_s
    rw [e1, e2]
    exact e3
  obtain ⟨d, x, v, fg, n1, n2, l1, l2, n3, n4, n5, n6, n7⟩ := zy_fig H ha
  have rf : (a + 1 ≤ n → ¬ 0 ≤ zx_nm (g a.toNat) ∧ g a.toNat ≠ 33 ∧ g a.toNat ≠ 45 ∧ g a.toNat ≠ 40) → (zx_F r [g] [n, a] 0).1 = [0, fg, x, 1] ∧ zx_L 1 r [g] [n, a] 0 = [1] ∧ zx_L 2 r [g] [n, a] 0 = [v] := fun h => by
    rw [zy_rO_F hr r3 j1 j2, zy_rO_L1 hr1 r3 j1 j2, zy_rO_L2 hr2 r3 j1 j2]
    by_cases hb : n ≤ a
    · refine ⟨?_, ?_, ?_⟩
      · simp [zy_o86, hb, n2]
      · simp [zy_o86, hb, l1]
      · simp [zy_o86, hb, l2]
    · obtain ⟨q1, q2, q3, q4⟩ := h (by omega)
      refine ⟨?_, ?_, ?_⟩
      · simp [zy_o86, hb, q1, q2, q3, q4, n2]
      · simp [zy_o86, hb, q1, q2, q3, q4, l1]
      · simp [zy_o86, hb, q1, q2, q3, q4, l2]
  by_cases hb : a + 1 ≤ n
  · obtain ⟨k1, k2, k3⟩ := H a ha hb
    have hb2 : ¬ n ≤ a := by omega
    by_cases hdg : 48 ≤ f a.toNat ∧ f a.toNat ≤ 57
    · have eg : g a.toNat = f a.toNat := by
        rw [k3, if_pos (by omega)]
      obtain ⟨q1, q2⟩ := hdg
      have ec : (zx_F c [f] [n, a] 0).1 = [0, 1, x] := by
        rw [zy_cO_F hc c2 i1 i2]
        simp [zy_o86, hb, q1, q2, n1]
      have el : zx_L 0 c [f] [n, a] 0 = [v] := by
        rw [zy_cO_L0 hc0 c2 i1 i2]
        simp [zy_o86, hb, q1, q2, n1]
      obtain ⟨r1, r2, r3'⟩ := rf (fun _ => by rw [eg]; exact ⟨zy_nm_n (by omega), by omega, by omega, by omega⟩)
      refine ⟨1, x, fg, x, 1, ec, r1, rfl, n3, ?_⟩
      rw [el, r2, r3']
      rcases n5 ⟨ha, hb, q1, q2⟩ with h | ⟨h, h'⟩
      · refine Or.inl ⟨h, rfl, rfl, ?_, zy_gd_mono (zy_gd_push n6) hh1⟩
        have o2 : zy_ok2 1 v := Or.inl ⟨rfl, n6, n7⟩
        have := zy_rel_one o2
        rw [show zy_st2 1 v = v from if_pos rfl] at this
        exact this
      · exact Or.inr ⟨h, Or.inr ⟨rfl, h'⟩⟩
    · have hnd : ¬ zy_D f n a := fun h => hdg ⟨h.2.2.1, h.2.2.2⟩
      obtain ⟨ex, efg⟩ := n4 hnd
      have hd2 : 48 ≤ f a.toNat → ¬ f a.toNat ≤ 57 := fun h h' => hdg ⟨h, h'⟩
      by_cases hnm : 0 ≤ zx_nm (f a.toNat)
      · obtain ⟨v1, -, v2, v3, v4, v5⟩ := zy_nm_v hnm
        have eg : g a.toNat = f a.toNat := by
          rw [k3, if_pos v1]
        have ec : (zx_F c [f] [n, a] 0).1 = [0, 1, a + 1] ∧ zx_L 0 c [f] [n, a] 0 = [10000 + zx_nm (f a.toNat)] := by
          rw [zy_cO_F hc c2 i1 i2, zy_cO_L0 hc0 c2 i1 i2]
          by_cases q1 : 48 ≤ f a.toNat
          · have q2 := hd2 q1
            exact ⟨by simp [zy_o86, hb, q1, q2, hnm], by simp [zy_o86, hb, q1, q2, hnm]⟩
          · exact ⟨by simp [zy_o86, hb, q1, hnm], by simp [zy_o86, hb, q1, hnm]⟩
        have er : (zx_F r [g] [n, a] 0).1 = [0, 1, a + 1, 1] ∧ zx_L 1 r [g] [n, a] 0 = [2] ∧ zx_L 2 r [g] [n, a] 0 = [zx_nm (f a.toNat)] := by
          rw [zy_rO_F hr r3 j1 j2, zy_rO_L1 hr1 r3 j1 j2, zy_rO_L2 hr2 r3 j1 j2]
          have q1 : 0 ≤ zx_nm (g a.toNat) := by rw [eg]; exact hnm
          exact ⟨by simp [zy_o86, hb2, q1], by simp [zy_o86, hb2, q1], by simp [zy_o86, hb2, q1, eg, hnm]⟩
        refine ⟨1, a + 1, 1, a + 1, 1, ec.1, er.1, rfl, by omega, ?_⟩
        rw [ec.2, er.2.1, er.2.2]
        refine Or.inl ⟨rfl, rfl, rfl, ?_, zy_gd_mono (zy_gd_push (by omega)) hh1⟩
        have o2 : zy_ok2 2 (zx_nm (f a.toNat)) := Or.inr (Or.inl ⟨rfl, hnm, v5⟩)
        have := zy_rel_one o2
        rw [show zy_st2 2 (zx_nm (f a.toNat)) = 10000 + zx_nm (f a.toNat) from by unfold zy_st2; rw [if_neg (by decide), if_pos rfl]] at this
        exact this
      · have hgn : ¬ 0 ≤ zx_nm (g a.toNat) := by
          rw [k3]
          split
          · exact hnm
          · exact zy_nm_n (by omega)
        have hg40 : g a.toNat = 40 ↔ f a.toNat = 40 := by rw [k3]; split <;> omega
        have hg33 : g a.toNat = 33 ↔ f a.toNat = 33 := by rw [k3]; split <;> omega
        have hg45 : g a.toNat = 45 ↔ f a.toNat = 45 := by rw [k3]; split <;> omega
        by_cases h40 : f a.toNat = 40
        · have g40 := hg40.mpr h40
          have z1 : ¬ (48 ≤ f a.toNat) := by omega
          have T := hL (a + 1) (by omega)
          unfold zy_s at T
          generalize hu : (zx_F iL [f] [n, a + 1] 130).1.getD 1 0 = u at T
          generalize hv : (zx_F iL [f] [n, a + 1] 130).1.getD 2 0 = v' at T
          generalize hu' : (zx_F jL [g] [n, a + 1] 130).1.getD 1 0 = u' at T
          generalize hv' : (zx_F jL [g] [n, a + 1] 130).1.getD 2 0 = w' at T
          generalize hw' : (zx_F jL [g] [n, a + 1] 130).1.getD 3 0 = l' at T
          rw [List.getD_eq_getElem?_getD] at hu hv hu' hv' hw'
          have cl : zx_L 0 c [f] [n, a] 0 = zy_l 0 iL f n (a + 1) 130 := by
            rw [zy_cO_L0 hc0 c2 i1 i2]
            simp [zy_o86, hb, z1, hnm, h40, zy_n40, zy_l]
          have rl1 : zx_L 1 r [g] [n, a] 0 = zy_l 1 jL g n (a + 1) 130 := by
            rw [zy_rO_L1 hr1 r3 j1 j2]
            simp [zy_o86, hb2, hgn, g40, zy_n40, zy_l]
          have rl2 : zx_L 2 r [g] [n, a] 0 = zy_l 2 jL g n (a + 1) 130 := by
            rw [zy_rO_L2 hr2 r3 j1 j2]
            simp [zy_o86, hb2, hgn, g40, zy_n40, zy_l]
          have cc : (u ≠ 0 ∧ v' + 1 ≤ n ∧ f v'.toNat = 41 → (zx_F c [f] [n, a] 0).1 = [0, 1, v' + 1]) ∧ (¬ (u ≠ 0 ∧ v' + 1 ≤ n ∧ f v'.toNat = 41) → (zx_F c [f] [n, a] 0).1 = [0, 0, v']) := by
            rw [zy_cO_F hc c2 i1 i2]
            refine ⟨fun h => ?_, fun h => ?_⟩
            · obtain ⟨p1, p2, p3⟩ := h
              simp [zy_o86, hb, z1, hnm, h40, zy_n40, hu, hv, p1, p2, p3]
            · by_cases p1 : u = 0
              · simp [zy_o86, hb, z1, hnm, h40, zy_n40, hu, hv, p1]
              · by_cases p2 : v' + 1 ≤ n
                · have p3 : ¬ f v'.toNat = 41 := fun p3 => h ⟨p1, p2, p3⟩
                  simp [zy_o86, hb, z1, hnm, h40, zy_n40, hu, hv, p1, p2, p3]
                · simp [zy_o86, hb, z1, hnm, h40, zy_n40, hu, hv, p1, p2]
          have rr : (u' ≠ 0 ∧ w' + 1 ≤ n ∧ g w'.toNat = 41 → (zx_F r [g] [n, a] 0).1 = [0, 1, w' + 1, l']) ∧ (¬ (u' ≠ 0 ∧ w' + 1 ≤ n ∧ g w'.toNat = 41) → (zx_F r [g] [n, a] 0).1 = [0, 0, w', l']) := by
            rw [zy_rO_F hr r3 j1 j2]
            refine ⟨fun h => ?_, fun h => ?_⟩
            · obtain ⟨p1, p2, p3⟩ := h
              simp [zy_o86, hb2, hgn, g40, zy_n40, hu', hv', hw', p1, p2, p3]
            · by_cases p1 : u' = 0
              · simp [zy_o86, hb2, hgn, g40, zy_n40, hu', hv', hw', p1]
              · by_cases p2 : w' + 1 ≤ n
                · have p3 : ¬ g w'.toNat = 41 := fun p3 => h ⟨p1, p2, p3⟩
                  simp [zy_o86, hb2, hgn, g40, zy_n40, hu', hv', hw', p1, p2, p3]
                · simp [zy_o86, hb2, hgn, g40, zy_n40, hu', hv', hw', p1, p2]
          rw [cl, rl1, rl2]
          obtain ⟨t1, t2, t3⟩ := T
          subst t1
          rcases t3 with ⟨t3, t4, t5, t6, t7⟩ | ⟨t3, t4⟩
          · by_cases hcl : v' + 1 ≤ n ∧ f v'.toNat = 41
            · have hcg : g v'.toNat = 41 := by
                obtain ⟨m1, m2, m3⟩ := H v' t2 hcl.1
                rw [m3, if_pos (by omega)]
                exact hcl.2
              exact ⟨_, _, _, _, _, cc.1 ⟨by omega, hcl⟩, rr.1 ⟨by omega, hcl.1, hcg⟩, rfl, by omega, Or.inl ⟨rfl, rfl, t5, t6, t7⟩⟩
            · have hcg : ¬ (v' + 1 ≤ n ∧ g v'.toNat = 41) := fun h => by
                obtain ⟨m1, m2, m3⟩ := H v' t2 h.1
                have h2 := h.2
                rw [m3] at h2
                refine hcl ⟨h.1, ?_⟩
                split at h2 <;> omega
              exact ⟨_, _, _, _, _, cc.2 (fun h => hcl h.2), rr.2 (fun h => hcg h.2), rfl, t2, Or.inr ⟨rfl, Or.inl rfl⟩⟩
          · refine ⟨_, _, _, _, _, cc.2 (fun h => ?_), rr.2 (fun h => h.1 t3), rfl, t2, Or.inr ⟨rfl, Or.inl rfl⟩⟩
            rcases t4 with t4 | ⟨-, t4⟩
            · exact h.1 t4
            · have := t4.2.2.1
              have := t4.2.2.2
              have := h.2.2
              omega
        · by_cases hneg : f a.toNat = 33 ∨ f a.toNat = 45
          · have T := hO (a + 1) (by omega)
            unfold zy_s at T
            have z1 : ¬ (48 ≤ f a.toNat) := by omega
            obtain ⟨s, sm, s5, s6, s7, s8, s9, s10⟩ : ∃ s m : Int, (f a.toNat = 33 → s = -33 ∧ m = 3) ∧ (f a.toNat = 45 → s = -126 ∧ m = 4) ∧ zy_ok2 m 0 ∧ zy_st2 m 0 = s ∧ (s = -33 ∨ s = -126) ∧ (m = 3 ∨ m = 4) := by
              rcases hneg with h | h
              · exact ⟨-33, 3, fun _ => ⟨rfl, rfl⟩, fun h' => by omega, Or.inr (Or.inr (Or.inl rfl)), rfl, Or.inl rfl, Or.inl rfl⟩
              · exact ⟨-126, 4, fun h' => by omega, fun _ => ⟨rfl, rfl⟩, Or.inr (Or.inr (Or.inr (Or.inl rfl))), rfl, Or.inr rfl, Or.inr rfl⟩
            have ec : (zx_F c [f] [n, a] 0).1 = [0, (zx_F iO [f] [n, a + 1] 0).1.getD 1 0, (zx_F iO [f] [n, a + 1] 0).1.getD 2 0] ∧ zx_L 0 c [f] [n, a] 0 = zy_l 0 iO f n (a + 1) 0 ++ [s] := by
              rw [zy_cO_F hc c2 i1 i2, zy_cO_L0 hc0 c2 i1 i2]
              rcases hneg with h | h
              · have hs := (s5 h).1
                exact ⟨by simp [zy_o86, hb, z1, hnm, h40, h, zy_n33, zy_n45], by simp [zy_o86, hb, z1, hnm, h40, h, zy_n33, zy_n45, zy_l, hs]⟩
              · have hs := (s6 h).1
                exact ⟨by simp [zy_o86, hb, z1, hnm, h40, h, zy_n33, zy_n45], by simp [zy_o86, hb, z1, hnm, h40, h, zy_n33, zy_n45, zy_l, hs]⟩
            have er : (zx_F r [g] [n, a] 0).1 = [0, (zx_F jO [g] [n, a + 1] 0).1.getD 1 0, (zx_F jO [g] [n, a + 1] 0).1.getD 2 0, (zx_F jO [g] [n, a + 1] 0).1.getD 3 0 + 1] ∧ zx_L 1 r [g] [n, a] 0 = zy_l 1 jO g n (a + 1) 0 ++ [sm] ∧ zx_L 2 r [g] [n, a] 0 = zy_l 2 jO g n (a + 1) 0 ++ [0] := by
              rw [zy_rO_F hr r3 j1 j2, zy_rO_L1 hr1 r3 j1 j2, zy_rO_L2 hr2 r3 j1 j2]
              rcases hneg with h | h
              · have hs := (s5 h).2
                have h := hg33.mpr h
                exact ⟨by simp [zy_o86, hb2, hgn, h, zy_n33, zy_n45], by simp [zy_o86, hb2, hgn, h, zy_n33, zy_n45, zy_l, hs], by simp [zy_o86, hb2, hgn, h, zy_n33, zy_n45, zy_l]⟩
              · have hs := (s6 h).2
                have h := hg45.mpr h
                exact ⟨by simp [zy_o86, hb2, hgn, h, zy_n33, zy_n45], by simp [zy_o86, hb2, hgn, h, zy_n33, zy_n45, zy_l, hs], by simp [zy_o86, hb2, hgn, h, zy_n33, zy_n45, zy_l]⟩
            refine ⟨_, _, _, _, _, ec.1, er.1, ?_⟩
            rw [ec.2, er.2.1, er.2.2]
            obtain ⟨t1, t2, t3⟩ := T
            refine ⟨t1, t2, t3.imp (fun q => ⟨q.1, q.2.1, ?_, ?_, zy_gd_un q.2.2.2.2 s9⟩) id⟩
            · rw [q.2.2.1, List.length_append]
              simp
            · have := zy_rel_one s7
              rw [s8] at this
              exact zy_rel_app q.2.2.2.1 this
          · have ec : (zx_F c [f] [n, a] 0).1 = [0, 0, a] := by
              rw [zy_cO_F hc c2 i1 i2]
              have z1 : ¬ f a.toNat = 33 := fun h => hneg (Or.inl h)
              have z2 : ¬ f a.toNat = 45 := fun h => hneg (Or.inr h)
              by_cases q1 : 48 ≤ f a.toNat
              · have q2 := hd2 q1
                simp [zy_o86, hb, q1, q2, hnm, h40, z1, z2]
              · simp [zy_o86, hb, q1, hnm, h40, z1, z2]
            exact ⟨0, a, fg, x, 1, ec, (rf (fun _ => ⟨hgn, fun h => hneg (Or.inl (hg33.mp h)), fun h => hneg (Or.inr (hg45.mp h)), fun h => h40 (hg40.mp h)⟩)).1, ex.symm, ha, Or.inr ⟨efg, Or.inl rfl⟩⟩
  · have ec : (zx_F c [f] [n, a] 0).1 = [0, 0, a] := by
      rw [zy_cO_F hc c2 i1 i2]
      simp [zy_o86, hb]
    obtain ⟨ex, efg⟩ := n4 (fun h => hb h.2.1)
    exact ⟨0, a, fg, x, 1, ec, (rf (fun h => absurd h hb)).1, ex.symm, ha, Or.inr ⟨efg, Or.inl rfl⟩⟩
