def zk_ki0 : zk_K := zk_Kg 47 8 [(152, 0, 4), (153, (-2147483648), 2147483647), (154, 0, 1)] [(3, 1, [], 0), (0, 0, zk_y 152), (3, 14, [], 0), (0, 0, zk_y 153), (0, 0, zk_y 154)] (zk_xV 155 [(3, 0), (4, 0), (16, 0), (17, 0)])
def zk_KI0 : List zk_K := []
theorem zk_kib0 : zk_Kb zk_PT zk_KI0 zk_tab 100000 zk_ki0 = true := by decide +kernel
def zk_ki1 : zk_K := zk_Kg 55 10 [(152, (-2147483648), 2147483647), (153, (-2147483648), 2147483647)] [(3, 1, [], 0), (3, 14, [], 0), (0, 0, zk_y 152), (0, 0, zk_y 153)] (zk_xV 154 [(3, 0), (4, 0), (16, 0), (17, 0)])
def zk_KI1 : List zk_K := [zk_ki0]
theorem zk_kib1 : zk_Kb zk_PT zk_KI1 zk_tab 100000 zk_ki1 = true := by decide +kernel
def zk_ki2 : zk_K := zk_Kg 47 8 [(152, 0, 4), (153, (-2147483648), 2147483647), (154, 0, 1)] [(3, 18, [], 0), (0, 0, zk_y 152), (3, 14, [], 0), (0, 0, zk_y 153), (0, 0, zk_y 154)] (zk_xV 155 [(16, 0), (17, 0), (20, 0), (21, 0)])
def zk_KI2 : List zk_K := [zk_ki1, zk_ki0]
theorem zk_kib2 : zk_Kb zk_PT zk_KI2 zk_tab 100000 zk_ki2 = true := by decide +kernel
def zk_ki3 : zk_K := zk_Kg 55 10 [(152, (-2147483648), 2147483647), (153, (-2147483648), 2147483647)] [(3, 18, [], 0), (3, 14, [], 0), (0, 0, zk_y 152), (0, 0, zk_y 153)] (zk_xV 154 [(16, 0), (17, 0), (20, 0), (21, 0)])
def zk_KI3 : List zk_K := [zk_ki2, zk_ki1, zk_ki0]
theorem zk_kib3 : zk_Kb zk_PT zk_KI3 zk_tab 100000 zk_ki3 = true := by decide +kernel
def zk_CT : List zk_K := [zk_ki3, zk_ki2, zk_ki1, zk_ki0]
