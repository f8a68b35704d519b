def zk_k_taken : zk_K := zk_Kg 134 49 [(152, (-2147483648), 2147483647), (153, (-2147483648), 2147483647)] [(3, 0, [], 0), (0, 0, zk_y 152), (0, 0, zk_y 153)] (zk_xM 154 [] 0 (-2147483648) 2147483647)
theorem zk_kb_taken : zk_Kb zk_PT zk_CT zk_tab 100000 zk_k_taken = true := by decide +kernel
