def zk_k_element : zk_K := zk_Kg 132 49 [(152, (-2147483648), 2147483647), (153, (-2147483648), 2147483647)] [(3, 0, [], 0), (0, 0, zk_y 152), (0, 0, zk_y 153)] (zk_xM 154 [] 1 (-9223372036854775808) 9223372036854775807)
theorem zk_kb_element : zk_Kb zk_PT zk_CT zk_tab 100000 zk_k_element = true := by decide +kernel
