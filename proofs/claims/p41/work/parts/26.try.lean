def zk_k_barn : zk_K := zk_Kp 0 2 [(1, 0), (2, 0), (3, 0), (4, 0), (5, 0)]
theorem zk_kb_barn : zk_Kb zk_PT [] zk_tab 100000 zk_k_barn = true := by decide +kernel
def zk_k_lamp : zk_K := zk_Kp 16 2 [(1, 2), (8, 0), (9, 0)]
theorem zk_kb_lamp : zk_Kb zk_PT [] zk_tab 100000 zk_k_lamp = true := by decide +kernel
def zk_k_mend : zk_K := zk_Kp 18 3 [(1, 3), (1, 4), (3, 0), (4, 0), (5, 0), (6, 0), (7, 0), (8, 0), (9, 0), (10, 0), (41, 4), (41, 5), (42, 0), (43, 0), (44, 0), (45, 0)]
theorem zk_kb_mend : zk_Kb zk_PT [] zk_tab 100000 zk_k_mend = true := by decide +kernel
def zk_k_feed : zk_K := zk_Kp 30 1 [(11, 1), (12, 0)]
theorem zk_kb_feed : zk_Kb zk_PT [] zk_tab 100000 zk_k_feed = true := by decide +kernel
def zk_k_trace : zk_K := zk_Kp 124 1 []
theorem zk_kb_trace : zk_Kb zk_PT [] zk_tab 100000 zk_k_trace = true := by decide +kernel
def zk_k_count : zk_K := zk_Kp 136 1 []
theorem zk_kb_count : zk_Kb zk_PT [] zk_tab 100000 zk_k_count = true := by decide +kernel
