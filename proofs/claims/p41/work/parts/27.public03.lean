def zk_k_where : zk_K := zk_Kg 87 49 [(152, (-2147483648), 2147483647), (153, (-2147483648), 2147483647)] [(3, 0, [], 0), (0, 0, zk_y 152), (0, 0, zk_y 153)] (zk_xM 154 [(37, 2), (37, 4), (37, 5), (38, 0), (39, 0)] 0 (-2147483648) 2147483647)
theorem zk_kb_where : zk_Kb zk_PT zk_CT zk_tab 100000 zk_k_where = true := by decide +kernel
def zk_k_stays : zk_K := zk_Kg 88 49 [(152, (-2147483648), 2147483647), (153, (-2147483648), 2147483647), (154, (-2147483648), 2147483647)] [(3, 0, [], 0), (0, 0, zk_y 152), (0, 0, zk_y 153), (0, 0, zk_y 154)] (zk_xM 155 [(37, 2), (37, 4), (37, 5), (38, 0), (39, 0)] 0 (-2147483648) 2147483647)
theorem zk_kb_stays : zk_Kb zk_PT zk_CT zk_tab 100000 zk_k_stays = true := by decide +kernel
def zk_k_meet : zk_K := zk_Kg 89 49 [(152, (-2147483648), 2147483647), (153, (-2147483648), 2147483647), (154, (-2147483648), 2147483647)] [(3, 0, [], 0), (0, 0, zk_y 152), (0, 0, zk_y 153), (0, 0, zk_y 154)] (zk_xM 155 [(37, 2), (37, 4), (37, 5), (38, 0), (39, 0)] 0 (-2147483648) 2147483647)
theorem zk_kb_meet : zk_Kb zk_PT zk_CT zk_tab 100000 zk_k_meet = true := by decide +kernel
def zk_k_darkest : zk_K := zk_Kg 90 49 [(152, (-2147483648), 2147483647)] [(3, 0, [], 0), (0, 0, zk_y 152)] (zk_xM 153 [(38, 0)] 0 (-2147483648) 2147483647)
theorem zk_kb_darkest : zk_Kb zk_PT zk_CT zk_tab 100000 zk_k_darkest = true := by decide +kernel
