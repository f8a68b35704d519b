def zk_k_share : zk_K := zk_Kg 97 49 [(152, (-2147483648), 2147483647), (153, (-2147483648), 2147483647)] [(3, 0, [], 0), (0, 0, zk_y 152), (0, 0, zk_y 153)] (zk_xM 154 [] 0 (-2147483648) 2147483647)
theorem zk_kb_share : zk_Kb zk_PT zk_CT zk_tab 100000 zk_k_share = true := by decide +kernel
def zk_k_drawn : zk_K := zk_Kg 101 49 [(152, (-2147483648), 2147483647), (153, (-2147483648), 2147483647), (154, (-2147483648), 2147483647)] [(3, 0, [], 0), (0, 0, zk_y 152), (0, 0, zk_y 153), (0, 0, zk_y 154)] (zk_xM 155 [(16, 0), (17, 0), (18, 0), (18, 1), (18, 3), (18, 4), (20, 0), (21, 0), (22, 0), (23, 0), (24, 0), (27, 0)] 0 (-2147483648) 2147483647)
theorem zk_kb_drawn : zk_Kb zk_PT zk_CT zk_tab 100000 zk_k_drawn = true := by decide +kernel
def zk_k_day : zk_K := zk_Kg 102 49 [(152, (-2147483648), 2147483647)] [(3, 0, [], 0), (0, 0, zk_y 152)] (zk_xM 153 [(3, 0), (4, 0), (16, 0), (17, 0), (47, 0)] 0 (-2147483648) 2147483647)
theorem zk_kb_day : zk_Kb zk_PT zk_CT zk_tab 100000 zk_k_day = true := by decide +kernel
def zk_k_fork : zk_K := zk_Kg 103 49 [(152, (-2147483648), 2147483647), (153, (-2147483648), 2147483647)] [(3, 0, [], 0), (0, 0, zk_y 152), (0, 0, zk_y 153)] (zk_xM 154 [(3, 0), (47, 0)] 0 (-2147483648) 2147483647)
theorem zk_kb_fork : zk_Kb zk_PT zk_CT zk_tab 100000 zk_k_fork = true := by decide +kernel
def zk_k_letOut : zk_K := zk_Kg 104 49 [(152, (-2147483648), 2147483647)] [(3, 0, [], 0), (0, 0, zk_y 152)] (zk_xM 153 [(3, 0), (47, 0)] 0 (-2147483648) 2147483647)
theorem zk_kb_letOut : zk_Kb zk_PT zk_CT zk_tab 100000 zk_k_letOut = true := by decide +kernel
def zk_k_led : zk_K := zk_Kg 105 49 [(152, (-2147483648), 2147483647)] [(3, 0, [], 0), (0, 0, zk_y 152)] (zk_xM 153 [] 0 (-2147483648) 2147483647)
theorem zk_kb_led : zk_Kb zk_PT zk_CT zk_tab 100000 zk_k_led = true := by decide +kernel
def zk_k_image : zk_K := zk_Kg 106 49 [] [(3, 0, [], 0)] (zk_xM 152 [(46, 1), (48, 0), (49, 0), (50, 0)] 0 (-2147483648) 2147483647)
theorem zk_kb_image : zk_Kb zk_PT zk_CT zk_tab 100000 zk_k_image = true := by decide +kernel
def zk_k_back : zk_K := zk_Kg 108 49 [] [(3, 0, [], 0)] (zk_xM 152 [(3, 0), (4, 0), (47, 0)] 0 (-2147483648) 2147483647)
theorem zk_kb_back : zk_Kb zk_PT zk_CT zk_tab 100000 zk_k_back = true := by decide +kernel
def zk_k_undo : zk_K := zk_Kg 111 49 [] [(3, 0, [], 0)] (zk_xM 152 [(1, 3), (1, 4), (3, 0), (4, 0), (5, 0), (6, 0), (7, 0), (8, 0), (9, 0), (10, 0), (41, 4)] 0 (-2147483648) 2147483647)
theorem zk_kb_undo : zk_Kb zk_PT zk_CT zk_tab 100000 zk_k_undo = true := by decide +kernel
def zk_k_redo : zk_K := zk_Kg 113 49 [] [(3, 0, [], 0)] (zk_xM 152 [(1, 3), (1, 4), (3, 0), (4, 0), (5, 0), (6, 0), (7, 0), (8, 0), (9, 0), (10, 0), (41, 4)] 0 (-2147483648) 2147483647)
theorem zk_kb_redo : zk_Kb zk_PT zk_CT zk_tab 100000 zk_k_redo = true := by decide +kernel
def zk_k_body : zk_K := zk_Kg 115 49 [(152, (-2147483648), 2147483647)] [(3, 0, [], 0), (0, 0, zk_y 152)] (zk_xM 153 [(51, 1), (52, 0)] 0 (-2147483648) 2147483647)
theorem zk_kb_body : zk_Kb zk_PT zk_CT zk_tab 100000 zk_k_body = true := by decide +kernel
def zk_k_trace : zk_K := zk_Kg 124 49 [(152, (-2147483648), 2147483647)] [(3, 0, [], 0), (0, 0, zk_y 152)] (zk_xM 153 [] 0 (-2147483648) 2147483647)
theorem zk_kb_trace : zk_Kb zk_PT zk_CT zk_tab 100000 zk_k_trace = true := by decide +kernel
def zk_k_keep : zk_K := zk_Kg 125 49 [(152, (-2147483648), 2147483647), (153, (-2147483648), 2147483647)] [(3, 0, [], 0), (0, 0, zk_y 152), (0, 0, zk_y 153)] (zk_xM 154 [(55, 0), (55, 1), (55, 3), (57, 0), (57, 1), (57, 3), (59, 0), (59, 1), (59, 3), (61, 0), (61, 1), (61, 3), (63, 0), (63, 1), (63, 3), (65, 0), (65, 1), (65, 3)] 0 (-2147483648) 2147483647)
theorem zk_kb_keep : zk_Kb zk_PT zk_CT zk_tab 100000 zk_k_keep = true := by decide +kernel
def zk_k_row : zk_K := zk_Kg 127 49 [(152, (-2147483648), 2147483647), (153, (-2147483648), 2147483647), (154, (-2147483648), 2147483647)] [(3, 0, [], 0), (0, 0, zk_y 152), (0, 0, zk_y 153), (0, 0, zk_y 154)] (zk_xM 155 [(55, 0), (55, 1), (55, 2), (55, 3), (56, 0), (57, 0), (57, 1), (57, 2), (57, 3), (58, 0), (59, 0), (59, 1), (59, 2), (59, 3), (60, 0), (61, 0), (61, 1), (61, 2), (61, 3), (62, 0), (63, 0), (63, 1), (63, 2), (63, 3), (64, 0), (65, 0), (65, 1), (65, 2), (65, 3), (66, 0)] 0 (-2147483648) 2147483647)
theorem zk_kb_row : zk_Kb zk_PT zk_CT zk_tab 100000 zk_k_row = true := by decide +kernel
def zk_k_put : zk_K := zk_Kg 129 49 [(152, (-2147483648), 2147483647), (153, (-2147483648), 2147483647), (154, (-9223372036854775808), 9223372036854775807)] [(3, 0, [], 0), (0, 0, zk_y 152), (0, 0, zk_y 153), (1, 0, zk_y 154)] (zk_xM 155 [(56, 0), (58, 0), (60, 0), (62, 0), (64, 0), (66, 0)] 0 (-2147483648) 2147483647)
theorem zk_kb_put : zk_Kb zk_PT zk_CT zk_tab 100000 zk_k_put = true := by decide +kernel
