def zk_k_day : zk_K := zk_Kg 102 49 [(152, (-2147483648), 2147483647)] [(3, 0, [], 0), (0, 0, zk_y 152)] (zk_xM 153 [(3, 0), (4, 0), (16, 0), (17, 0), (47, 0)] 0 (-2147483648) 2147483647)
theorem zk_kb_day : zk_Kb zk_PT zk_CT zk_tab 100000 zk_k_day = true := by decide +kernel
