noncomputable section
/-! THREE SUMS OR FOUR THAT CANNOT ALL HOLD: such a way is none -/
def zk_cg3 (f : zk_V) (N : zk_N) : Option zk_N := match zk_any (fun g => zk_shr (zk_vsub (zk_c (-1)) f) g && zk_n2 N (zk_vsub (zk_vsub (zk_c (-1)) f) g)) N.2.2.1 with
  | true => none
  | false => some N
theorem zk_cg3_gd {E : zk_E} {n : Nat} {f : zk_V} (h1 : 0 ≤ zk_i E f) : zk_gd E n (zk_cg3 f) := by
  intro N hN hc hn
  unfold zk_cg3
  split
  · rename_i h
    rw [zk_any_eq] at h
    obtain ⟨g, hg, h⟩ := List.any_eq_true.mp h
    rw [Bool.and_eq_true] at h
    have h2 := zk_n2_ok hN h.2
    have h3 := hN.2.1 g hg
    rw [zk_vsub_i, zk_vsub_i, zk_c_i] at h2
    omega
  · exact zk_id_gd N hN hc hn
def zk_rc3 : zk_Rl := zk_nr (zk_on (fun N => N.2.2.1) zk_cg3)
theorem zk_rc3_ok : zk_Rok zk_rc3 := zk_nr_ok fun _ _ => zk_on_gd fun N h _ _ f hf => zk_cg3_gd (h.2.1 f hf)
end
