def zk_k_body : zk_K := zk_Kg 115 49 [(152, (-2147483648), 2147483647)] [(3, 0, [], 0), (0, 0, zk_y 152)] (zk_xM 153 [(51, 1), (52, 0)] 0 (-2147483648) 2147483647)
theorem zk_kb_body : zk_Kb zk_PT zk_CT zk_tab 100000 zk_k_body = true := by decide +kernel
