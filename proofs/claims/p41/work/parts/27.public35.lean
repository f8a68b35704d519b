def zk_k_trace : zk_K := (124, 49, (153, [(152, (-2147483648), 2147483647), (64, 0, 100)], [], [(3, [63], [zk_c (-2147483648), zk_c 2147483647])]), zk_hp0, [(3, 0, [], 0), (0, 0, zk_y 152)], zk_xM 153 [] 0 (-2147483648) 2147483647)
theorem zk_kb_trace : zk_Kb zk_PT zk_CT zk_tab 100000 zk_k_trace = true := by decide +kernel
