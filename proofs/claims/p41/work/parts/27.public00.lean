def zk_k_barn : zk_K := zk_Kg 0 49 [(152, (-2147483648), 2147483647), (153, (-2147483648), 2147483647)] [(3, 0, [], 0), (0, 0, zk_y 152), (0, 0, zk_y 153)] (zk_xM 154 [(1, 0), (2, 0), (3, 0), (4, 0), (5, 0)] 0 (-2147483648) 2147483647)
theorem zk_kb_barn : zk_Kb zk_PT zk_CT zk_tab 100000 zk_k_barn = true := by decide +kernel
