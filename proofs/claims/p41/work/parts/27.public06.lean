def zk_k_feed : zk_K := (30, 49, (153, [(152, (-2147483648), 2147483647), (15, 0, 120)], [], [(3, [14], [zk_c 0, zk_c 255])]), zk_hp0, [(3, 0, [], 0), (0, 0, zk_y 152)], zk_xM 153 [(11, 1), (12, 0)] 0 (-2147483648) 2147483647)
theorem zk_kb_feed : zk_Kb zk_PT zk_CT zk_tab 100000 zk_k_feed = true := by decide +kernel
