def zk_k_boy : zk_K := zk_Kg 4 49 [(152, (-2147483648), 2147483647)] [(3, 0, [], 0), (0, 0, zk_y 152)] (zk_xM 153 [(1, 1), (6, 0), (7, 0), (10, 0)] 0 (-2147483648) 2147483647)
theorem zk_kb_boy : zk_Kb zk_PT zk_CT zk_tab 100000 zk_k_boy = true := by decide +kernel
