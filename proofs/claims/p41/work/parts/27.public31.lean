def zk_k_back : zk_K := zk_Kg 108 49 [] [(3, 0, [], 0)] (zk_xM 152 [(3, 0), (4, 0), (47, 0)] 0 (-2147483648) 2147483647)
theorem zk_kb_back : zk_Kb zk_PT zk_CT zk_tab 100000 zk_k_back = true := by decide +kernel
