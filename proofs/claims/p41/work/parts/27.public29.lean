def zk_k_led : zk_K := (105, 49, (153, [(152, (-2147483648), 2147483647)], [], [(3, [56], [zk_c (-2147483648), zk_c 2147483647])]), zk_hp0, [(3, 0, [], 0), (0, 0, zk_y 152)], zk_xM 153 [] 0 (-2147483648) 2147483647)
theorem zk_kb_led : zk_Kb zk_PT zk_CT zk_tab 100000 zk_k_led = true := by decide +kernel
