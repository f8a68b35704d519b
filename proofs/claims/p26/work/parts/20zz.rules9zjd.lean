noncomputable section
/-! ALIKE BUT FOR A PIECE, looked for among the facts that can be meant alone -/
def zk_r65k : zk_Rl := zk_nr fun N => some (zk_addGs N ((zk_kd 65 N).flatMap fun a => (zk_kd 2 N ++ zk_kd 8 N).flatMap (zk_h65 N a)))
theorem zk_r65k_ok : zk_Rok zk_r65k := zk_nr_ok fun E n => zk_add_gd (f := fun N => (zk_kd 65 N).flatMap fun a => (zk_kd 2 N ++ zk_kd 8 N).flatMap (zk_h65 N a)) fun N hN hc hn x hx => by
  obtain ⟨a, ha, hx⟩ := List.mem_flatMap.mp hx
  obtain ⟨b, hb, hx⟩ := List.mem_flatMap.mp hx
  rw [← hn]
  exact zk_h65_ok hN hc (zk_kd_m ha) ((List.mem_append.mp hb).elim zk_kd_m zk_kd_m) x hx
end
