def zk_k_redo : zk_K := zk_Kg 113 49 [] [(3, 0, [], 0)] (zk_xM 152 [(1, 3), (1, 4), (3, 0), (4, 0), (5, 0), (6, 0), (7, 0), (8, 0), (9, 0), (10, 0), (41, 4)] 0 (-2147483648) 2147483647)
theorem zk_kb_redo : zk_Kb zk_PT zk_CT zk_tab 100000 zk_k_redo = true := by decide +kernel
