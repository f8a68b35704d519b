def zk_k_beds : zk_K := zk_Kg 67 49 [(152, (-2147483648), 2147483647)] [(3, 0, [], 0), (0, 0, zk_y 152)] (zk_xM 153 [(30, 2), (31, 0), (32, 0)] 0 (-2147483648) 2147483647)
theorem zk_kb_beds : zk_Kb zk_PT zk_CT zk_tab 100000 zk_k_beds = true := by decide +kernel
