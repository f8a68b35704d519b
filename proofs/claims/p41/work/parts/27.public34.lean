def zk_k_body : zk_K := (115, 49, (153, [(152, (-2147483648), 2147483647), (62, 0, 50)], [], [(3, [61], [zk_c 0, zk_c 7])]), zk_hp0, [(3, 0, [], 0), (0, 0, zk_y 152)], zk_xM 153 [(51, 1), (52, 0)] 0 (-2147483648) 2147483647)
theorem zk_kb_body : zk_Kb zk_PT zk_CT zk_tab 100000 zk_k_body = true := by decide +kernel
