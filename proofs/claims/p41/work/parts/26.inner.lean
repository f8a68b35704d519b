def zk_ki0 : zk_K := zk_Kg 7 6 [] [(3, 1, [], 0)] (zk_xV 152 [(10, 0)])
def zk_KI0 : List zk_K := []
theorem zk_kib0 : zk_Kb zk_PT zk_KI0 zk_tab 100000 zk_ki0 = true := by decide +kernel
def zk_ki1 : zk_K := zk_Kg 56 6 [] [(3, 1, [], 0)] (zk_xM 152 [] 0 0 255)
def zk_KI1 : List zk_K := [zk_ki0]
theorem zk_kib1 : zk_Kb zk_PT zk_KI1 zk_tab 100000 zk_ki1 = true := by decide +kernel
def zk_ki2 : zk_K := zk_Kg 47 8 [(152, 0, 4), (153, (-2147483648), 2147483647), (154, 0, 1)] [(3, 1, [], 0), (0, 0, zk_y 152), (3, 14, [], 0), (0, 0, zk_y 153), (0, 0, zk_y 154)] (zk_xV 155 [(3, 0), (4, 0), (16, 0), (17, 0)])
def zk_KI2 : List zk_K := [zk_ki1, zk_ki0]
theorem zk_kib2 : zk_Kb zk_PT zk_KI2 zk_tab 100000 zk_ki2 = true := by decide +kernel
def zk_ki3 : zk_K := zk_Kg 55 10 [(152, (-2147483648), 2147483647), (153, (-2147483648), 2147483647)] [(3, 1, [], 0), (3, 14, [], 0), (0, 0, zk_y 152), (0, 0, zk_y 153)] (zk_xV 154 [(3, 0), (4, 0), (16, 0), (17, 0)])
def zk_KI3 : List zk_K := [zk_ki2, zk_ki1, zk_ki0]
theorem zk_kib3 : zk_Kb zk_PT zk_KI3 zk_tab 100000 zk_ki3 = true := by decide +kernel
def zk_ki4 : zk_K := zk_Kg 7 6 [] [(3, 18, [], 0)] (zk_xV 152 [(27, 0)])
def zk_KI4 : List zk_K := [zk_ki3, zk_ki2, zk_ki1, zk_ki0]
theorem zk_kib4 : zk_Kb zk_PT zk_KI4 zk_tab 100000 zk_ki4 = true := by decide +kernel
def zk_ki5 : zk_K := zk_Kg 56 6 [] [(3, 18, [], 0)] (zk_xM 152 [] 0 0 255)
def zk_KI5 : List zk_K := [zk_ki4, zk_ki3, zk_ki2, zk_ki1, zk_ki0]
theorem zk_kib5 : zk_Kb zk_PT zk_KI5 zk_tab 100000 zk_ki5 = true := by decide +kernel
def zk_ki6 : zk_K := zk_Kg 47 8 [(152, 0, 4), (153, (-2147483648), 2147483647), (154, 0, 1)] [(3, 18, [], 0), (0, 0, zk_y 152), (3, 14, [], 0), (0, 0, zk_y 153), (0, 0, zk_y 154)] (zk_xV 155 [(16, 0), (17, 0), (20, 0), (21, 0)])
def zk_KI6 : List zk_K := [zk_ki5, zk_ki4, zk_ki3, zk_ki2, zk_ki1, zk_ki0]
theorem zk_kib6 : zk_Kb zk_PT zk_KI6 zk_tab 100000 zk_ki6 = true := by decide +kernel
def zk_ki7 : zk_K := zk_Kg 55 10 [(152, (-2147483648), 2147483647), (153, (-2147483648), 2147483647)] [(3, 18, [], 0), (3, 14, [], 0), (0, 0, zk_y 152), (0, 0, zk_y 153)] (zk_xV 154 [(16, 0), (17, 0), (20, 0), (21, 0)])
def zk_KI7 : List zk_K := [zk_ki6, zk_ki5, zk_ki4, zk_ki3, zk_ki2, zk_ki1, zk_ki0]
theorem zk_kib7 : zk_Kb zk_PT zk_KI7 zk_tab 100000 zk_ki7 = true := by decide +kernel
def zk_ki8 : zk_K := zk_Kg 45 6 [] [(3, 18, [], 0), (3, 1, [], 0)] (zk_xV 152 [(18, 0), (18, 1), (18, 3), (18, 4), (20, 0), (21, 0), (22, 0), (23, 0), (24, 0), (27, 0)])
def zk_KI8 : List zk_K := [zk_ki7, zk_ki6, zk_ki5, zk_ki4, zk_ki3, zk_ki2, zk_ki1, zk_ki0]
theorem zk_kib8 : zk_Kb zk_PT zk_KI8 zk_tab 100000 zk_ki8 = true := by decide +kernel
def zk_ki9 : zk_K := zk_Kg 6 8 [(152, (-2147483648), 2147483647), (153, (-1), 4)] [(3, 1, [], 0), (0, 0, zk_y 152), (0, 0, zk_y 153)] (zk_xM 154 [(1, 1), (6, 0), (7, 0), (10, 0)] 0 (-3) 7)
def zk_KI9 : List zk_K := [zk_ki8, zk_ki7, zk_ki6, zk_ki5, zk_ki4, zk_ki3, zk_ki2, zk_ki1, zk_ki0]
theorem zk_kib9 : zk_Kb zk_PT zk_KI9 zk_tab 100000 zk_ki9 = true := by decide +kernel
def zk_ki10 : zk_K := zk_Kg 12 12 [(152, (-2147483648), 2147483647), (153, 0, 8)] [(3, 0, [], 0), (3, 55, [], 0), (0, 0, zk_y 152), (0, 0, zk_y 153)] (zk_xM 154 [(1, 1), (6, 0), (7, 0), (10, 0)] 0 0 8)
def zk_KI10 : List zk_K := [zk_ki9, zk_ki8, zk_ki7, zk_ki6, zk_ki5, zk_ki4, zk_ki3, zk_ki2, zk_ki1, zk_ki0]
theorem zk_kib10 : zk_Kb zk_PT zk_KI10 zk_tab 100000 zk_ki10 = true := by decide +kernel
def zk_ki11 : zk_K := zk_Kg 12 12 [(152, (-2147483648), 2147483647), (153, 0, 8)] [(3, 0, [], 0), (3, 57, [], 0), (0, 0, zk_y 152), (0, 0, zk_y 153)] (zk_xM 154 [(1, 1), (6, 0), (7, 0), (10, 0)] 0 0 8)
def zk_KI11 : List zk_K := [zk_ki10, zk_ki9, zk_ki8, zk_ki7, zk_ki6, zk_ki5, zk_ki4, zk_ki3, zk_ki2, zk_ki1, zk_ki0]
theorem zk_kib11 : zk_Kb zk_PT zk_KI11 zk_tab 100000 zk_ki11 = true := by decide +kernel
def zk_ki12 : zk_K := zk_Kg 12 12 [(152, (-2147483648), 2147483647), (153, 0, 8)] [(3, 0, [], 0), (3, 59, [], 0), (0, 0, zk_y 152), (0, 0, zk_y 153)] (zk_xM 154 [(1, 1), (6, 0), (7, 0), (10, 0)] 0 0 8)
def zk_KI12 : List zk_K := [zk_ki11, zk_ki10, zk_ki9, zk_ki8, zk_ki7, zk_ki6, zk_ki5, zk_ki4, zk_ki3, zk_ki2, zk_ki1, zk_ki0]
theorem zk_kib12 : zk_Kb zk_PT zk_KI12 zk_tab 100000 zk_ki12 = true := by decide +kernel
def zk_ki13 : zk_K := zk_Kg 12 12 [(152, (-2147483648), 2147483647), (153, 0, 8)] [(3, 0, [], 0), (3, 61, [], 0), (0, 0, zk_y 152), (0, 0, zk_y 153)] (zk_xM 154 [(1, 1), (6, 0), (7, 0), (10, 0)] 0 0 8)
def zk_KI13 : List zk_K := [zk_ki12, zk_ki11, zk_ki10, zk_ki9, zk_ki8, zk_ki7, zk_ki6, zk_ki5, zk_ki4, zk_ki3, zk_ki2, zk_ki1, zk_ki0]
theorem zk_kib13 : zk_Kb zk_PT zk_KI13 zk_tab 100000 zk_ki13 = true := by decide +kernel
def zk_ki14 : zk_K := zk_Kg 12 12 [(152, (-2147483648), 2147483647), (153, 0, 8)] [(3, 0, [], 0), (3, 63, [], 0), (0, 0, zk_y 152), (0, 0, zk_y 153)] (zk_xM 154 [(1, 1), (6, 0), (7, 0), (10, 0)] 0 0 8)
def zk_KI14 : List zk_K := [zk_ki13, zk_ki12, zk_ki11, zk_ki10, zk_ki9, zk_ki8, zk_ki7, zk_ki6, zk_ki5, zk_ki4, zk_ki3, zk_ki2, zk_ki1, zk_ki0]
theorem zk_kib14 : zk_Kb zk_PT zk_KI14 zk_tab 100000 zk_ki14 = true := by decide +kernel
def zk_ki15 : zk_K := zk_Kg 12 12 [(152, (-2147483648), 2147483647), (153, 0, 8)] [(3, 0, [], 0), (3, 65, [], 0), (0, 0, zk_y 152), (0, 0, zk_y 153)] (zk_xM 154 [(1, 1), (6, 0), (7, 0), (10, 0)] 0 0 8)
def zk_KI15 : List zk_K := [zk_ki14, zk_ki13, zk_ki12, zk_ki11, zk_ki10, zk_ki9, zk_ki8, zk_ki7, zk_ki6, zk_ki5, zk_ki4, zk_ki3, zk_ki2, zk_ki1, zk_ki0]
theorem zk_kib15 : zk_Kb zk_PT zk_KI15 zk_tab 100000 zk_ki15 = true := by decide +kernel
def zk_CT : List zk_K := [zk_ki15, zk_ki14, zk_ki13, zk_ki12, zk_ki11, zk_ki10, zk_ki9, zk_ki8, zk_ki7, zk_ki6, zk_ki5, zk_ki4, zk_ki3, zk_ki2, zk_ki1, zk_ki0]
