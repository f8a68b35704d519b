def zk_k_count : zk_K := zk_Kg 136 49 [(152, (-2147483648), 2147483647)] [(3, 0, [], 0), (0, 0, zk_y 152)] (zk_xM 153 [] 0 (-2147483648) 2147483647)
theorem zk_kb_count : zk_Kb zk_PT zk_CT zk_tab 100000 zk_k_count = true := by decide +kernel
