def zk_k_image : zk_K := zk_Kg 106 49 [] [(3, 0, [], 0)] (zk_xM 152 [(46, 1), (48, 0), (49, 0), (50, 0)] 0 (-2147483648) 2147483647)
theorem zk_kb_image : zk_Kb zk_PT zk_CT zk_tab 100000 zk_k_image = true := by decide +kernel
