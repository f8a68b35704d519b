def zk_k_where : zk_K := zk_Kg 87 49 [(152, (-2147483648), 2147483647), (153, (-2147483648), 2147483647)] [(3, 0, [], 0), (0, 0, zk_y 152), (0, 0, zk_y 153)] (zk_xM 154 [(37, 2), (37, 4), (37, 5), (38, 0), (39, 0)] 0 (-2147483648) 2147483647)
theorem zk_kb_where : zk_Kb zk_PT zk_CT zk_tab 100000 zk_k_where = true := by decide +kernel
