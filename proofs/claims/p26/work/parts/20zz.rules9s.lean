noncomputable section
/-! WHAT BOTH READERS LAY CORRESPONDS: lines, the whole text (wip/p41/theory2.py) -/
def zy_cln (i : Nat) : zx_Df := (2, 0, [[(0, 0, [])], [(1, 0, []), (1, 1, []), (0, 0, []), (0, 0, []), (0, 130, []), (14, (i : Int), [2, 1, 0]), (1, 0, []), (1, 1, []), (0, 0, []), (0, 0, []), (0, 130, []), (14, (i : Int), [2, 1, 0]), (1, 0, []), (1, 1, []), (0, 0, []), (0, 0, []), (0, 130, []), (14, (i : Int), [2, 2, 0]), (0, 1, []), (5, 0, []), (1, 0, []), (9, 0, []), (1, 0, []), (1, 1, []), (0, 0, []), (0, 0, []), (0, 130, []), (14, (i : Int), [2, 2, 0]), (4, 0, []), (0, 63, []), (10, 0, []), (11, 0, []), (11, 0, []), (1, 0, []), (1, 0, []), (1, 1, []), (0, 0, []), (0, 0, []), (0, 130, []), (14, (i : Int), [2, 2, 0]), (0, 1, []), (5, 0, []), (0, 0, []), (0, 0, []), (0, 130, []), (14, (i : Int), [2, 1, 0]), (0, 1, []), (13, 0, []), (0, 0, []), (13, 0, [])], [(1, 0, []), (1, 1, []), (0, 0, []), (0, 0, []), (0, 130, []), (14, (i : Int), [2, 1, 0]), (1, 0, []), (1, 1, []), (0, 0, []), (0, 0, []), (0, 130, []), (14, (i : Int), [2, 2, 0]), (0, 1, []), (5, 0, []), (1, 0, []), (9, 0, []), (1, 0, []), (1, 1, []), (0, 0, []), (0, 0, []), (0, 130, []), (14, (i : Int), [2, 2, 0]), (4, 0, []), (0, 63, []), (10, 0, []), (11, 0, []), (11, 0, []), (1, 0, []), (1, 0, []), (1, 1, []), (0, 0, []), (0, 0, []), (0, 130, []), (14, (i : Int), [2, 2, 0]), (0, 1, []), (5, 0, []), (0, 0, []), (0, 0, []), (0, 130, []), (14, (i : Int), [2, 2, 0]), (1, 0, []), (1, 1, []), (0, 0, []), (0, 0, []), (0, 130, []), (14, (i : Int), [2, 2, 0]), (13, 0, [])]], [], [])
theorem zy_cDln : zx_dn 46 = zy_cln 45 := rfl
def zy_cPln_0 (i : Nat) : List zx_Pc × List zx_Pc := ([([(0, 1, [])], 1, [[(0, 130, [])], [(1, 0, [])], [(1, 1, [])]], [i, 0]), ([(1, 0, []), (1, 1, []), (0, 0, []), (0, 0, []), (0, 130, []), (14, (i : Int), [2, 1, 0]), (1, 0, []), (1, 1, []), (0, 0, []), (0, 0, []), (0, 130, []), (14, (i : Int), [2, 2, 0]), (0, 1, []), (5, 0, []), (1, 0, []), (9, 0, []), (1, 0, []), (1, 1, []), (0, 0, []), (0, 0, []), (0, 130, []), (14, (i : Int), [2, 2, 0]), (4, 0, []), (0, 63, []), (10, 0, []), (11, 0, []), (11, 0, [])], 0, [[(0, (-63), [])]], []), ([(1, 0, []), (1, 1, []), (0, 0, []), (0, 0, []), (0, 130, []), (14, (i : Int), [2, 1, 0]), (1, 0, []), (1, 1, []), (0, 0, []), (0, 0, []), (0, 130, []), (14, (i : Int), [2, 2, 0]), (0, 1, []), (5, 0, []), (1, 0, []), (9, 0, []), (1, 0, []), (1, 1, []), (0, 0, []), (0, 0, []), (0, 130, []), (14, (i : Int), [2, 2, 0]), (4, 0, []), (0, 63, []), (10, 0, []), (11, 0, []), (11, 0, [])], 1, [[(0, 130, [])], [(1, 0, [])], [(1, 0, []), (1, 1, []), (0, 0, []), (0, 0, []), (0, 130, []), (14, (i : Int), [2, 2, 0]), (0, 1, []), (5, 0, [])]], [i, 0]), ([(1, 0, []), (1, 1, []), (0, 0, []), (0, 0, []), (0, 130, []), (14, (i : Int), [2, 1, 0]), (1, 0, []), (1, 1, []), (0, 0, []), (0, 0, []), (0, 130, []), (14, (i : Int), [2, 1, 0]), (1, 0, []), (1, 1, []), (0, 0, []), (0, 0, []), (0, 130, []), (14, (i : Int), [2, 2, 0]), (0, 1, []), (5, 0, []), (1, 0, []), (9, 0, []), (1, 0, []), (1, 1, []), (0, 0, []), (0, 0, []), (0, 130, []), (14, (i : Int), [2, 2, 0]), (4, 0, []), (0, 63, []), (10, 0, []), (11, 0, []), (11, 0, []), (12, 0, []), (12, 0, []), (1, 0, []), (1, 0, []), (1, 1, []), (0, 0, []), (0, 0, []), (0, 130, []), (14, (i : Int), [2, 2, 0]), (0, 1, []), (5, 0, []), (0, 0, []), (0, 0, []), (0, 130, []), (14, (i : Int), [2, 1, 0]), (12, 0, []), (11, 0, []), (12, 0, []), (11, 0, [])], 0, [[(0, (-59), [])]], [])], [])
theorem zy_cQln_0 : zx_pt 0 46 = zy_cPln_0 45 := rfl
def zy_rln (i : Nat) : zx_Df := (3, 0, [[(0, 0, [])], [(1, 0, []), (1, 1, []), (0, 0, []), (0, 0, []), (0, 130, []), (14, (i : Int), [2, 1, 0]), (1, 0, []), (1, 1, []), (0, 0, []), (0, 0, []), (0, 130, []), (14, (i : Int), [2, 1, 0]), (1, 0, []), (1, 1, []), (0, 0, []), (0, 0, []), (0, 130, []), (14, (i : Int), [2, 2, 0]), (0, 1, []), (5, 0, []), (1, 0, []), (9, 0, []), (1, 0, []), (1, 1, []), (0, 0, []), (0, 0, []), (0, 130, []), (14, (i : Int), [2, 2, 0]), (4, 0, []), (0, 63, []), (10, 0, []), (11, 0, []), (11, 0, []), (1, 0, []), (1, 0, []), (1, 1, []), (0, 0, []), (0, 0, []), (0, 130, []), (14, (i : Int), [2, 2, 0]), (0, 1, []), (5, 0, []), (0, 0, []), (0, 0, []), (0, 130, []), (14, (i : Int), [2, 1, 0]), (0, 1, []), (13, 0, []), (0, 0, []), (13, 0, [])], [(1, 0, []), (1, 1, []), (0, 0, []), (0, 0, []), (0, 130, []), (14, (i : Int), [2, 1, 0]), (1, 0, []), (1, 1, []), (0, 0, []), (0, 0, []), (0, 130, []), (14, (i : Int), [2, 2, 0]), (0, 1, []), (5, 0, []), (1, 0, []), (9, 0, []), (1, 0, []), (1, 1, []), (0, 0, []), (0, 0, []), (0, 130, []), (14, (i : Int), [2, 2, 0]), (4, 0, []), (0, 63, []), (10, 0, []), (11, 0, []), (11, 0, []), (1, 0, []), (1, 0, []), (1, 1, []), (0, 0, []), (0, 0, []), (0, 130, []), (14, (i : Int), [2, 2, 0]), (0, 1, []), (5, 0, []), (0, 0, []), (0, 0, []), (0, 130, []), (14, (i : Int), [2, 2, 0]), (1, 0, []), (1, 1, []), (0, 0, []), (0, 0, []), (0, 130, []), (14, (i : Int), [2, 2, 0]), (13, 0, [])], [(1, 0, []), (1, 1, []), (0, 0, []), (0, 0, []), (0, 130, []), (14, (i : Int), [2, 1, 0]), (1, 0, []), (1, 1, []), (0, 0, []), (0, 0, []), (0, 130, []), (14, (i : Int), [2, 2, 0]), (0, 1, []), (5, 0, []), (1, 0, []), (9, 0, []), (1, 0, []), (1, 1, []), (0, 0, []), (0, 0, []), (0, 130, []), (14, (i : Int), [2, 2, 0]), (4, 0, []), (0, 63, []), (10, 0, []), (11, 0, []), (11, 0, []), (1, 0, []), (1, 1, []), (0, 0, []), (0, 0, []), (0, 130, []), (14, (i : Int), [2, 3, 0]), (1, 0, []), (1, 0, []), (1, 1, []), (0, 0, []), (0, 0, []), (0, 130, []), (14, (i : Int), [2, 2, 0]), (0, 1, []), (5, 0, []), (0, 0, []), (0, 0, []), (0, 130, []), (14, (i : Int), [2, 3, 0]), (5, 0, []), (1, 0, []), (1, 1, []), (0, 0, []), (0, 0, []), (0, 130, []), (14, (i : Int), [2, 3, 0]), (13, 0, [])]], [], [])
theorem zy_rDln : zx_dn 91 = zy_rln 90 := rfl
def zy_rPln_1 (i : Nat) : List zx_Pc × List zx_Pc := ([([(0, 1, [])], 1, [[(0, 130, [])], [(1, 0, [])], [(1, 1, [])]], [i, 0]), ([(1, 0, []), (1, 1, []), (0, 0, []), (0, 0, []), (0, 130, []), (14, (i : Int), [2, 1, 0]), (1, 0, []), (1, 1, []), (0, 0, []), (0, 0, []), (0, 130, []), (14, (i : Int), [2, 2, 0]), (0, 1, []), (5, 0, []), (1, 0, []), (9, 0, []), (1, 0, []), (1, 1, []), (0, 0, []), (0, 0, []), (0, 130, []), (14, (i : Int), [2, 2, 0]), (4, 0, []), (0, 63, []), (10, 0, []), (11, 0, []), (11, 0, [])], 1, [[(0, 130, [])], [(1, 0, [])], [(1, 0, []), (1, 1, []), (0, 0, []), (0, 0, []), (0, 130, []), (14, (i : Int), [2, 2, 0]), (0, 1, []), (5, 0, [])]], [i, 0])], [])
theorem zy_rQln_1 : zx_pt 1 91 = zy_rPln_1 90 := rfl
def zy_rPln_2 (i : Nat) : List zx_Pc × List zx_Pc := ([([(0, 1, [])], 1, [[(0, 130, [])], [(1, 0, [])], [(1, 1, [])]], [i, 0]), ([(1, 0, []), (1, 1, []), (0, 0, []), (0, 0, []), (0, 130, []), (14, (i : Int), [2, 1, 0]), (1, 0, []), (1, 1, []), (0, 0, []), (0, 0, []), (0, 130, []), (14, (i : Int), [2, 2, 0]), (0, 1, []), (5, 0, []), (1, 0, []), (9, 0, []), (1, 0, []), (1, 1, []), (0, 0, []), (0, 0, []), (0, 130, []), (14, (i : Int), [2, 2, 0]), (4, 0, []), (0, 63, []), (10, 0, []), (11, 0, []), (11, 0, [])], 1, [[(0, 130, [])], [(1, 0, [])], [(1, 0, []), (1, 1, []), (0, 0, []), (0, 0, []), (0, 130, []), (14, (i : Int), [2, 2, 0]), (0, 1, []), (5, 0, [])]], [i, 0])], [])
theorem zy_rQln_2 : zx_pt 2 91 = zy_rPln_2 90 := rfl
def zy_rPln_3 (i : Nat) : List zx_Pc × List zx_Pc := ([([(0, 1, [])], 0, [[(1, 2, []), (1, 0, []), (1, 1, []), (0, 0, []), (0, 0, []), (0, 130, []), (14, (i : Int), [2, 1, 0]), (1, 0, []), (1, 1, []), (0, 0, []), (0, 0, []), (0, 130, []), (14, (i : Int), [2, 2, 0]), (0, 1, []), (5, 0, []), (1, 0, []), (9, 0, []), (1, 0, []), (1, 1, []), (0, 0, []), (0, 0, []), (0, 130, []), (14, (i : Int), [2, 2, 0]), (4, 0, []), (0, 63, []), (10, 0, []), (11, 0, []), (11, 0, []), (1, 0, []), (1, 1, []), (0, 0, []), (0, 0, []), (0, 130, []), (14, (i : Int), [2, 3, 0]), (0, 0, []), (13, 0, []), (5, 0, [])]], [])], [])
theorem zy_rQln_3 : zx_pt 3 91 = zy_rPln_3 90 := rfl
def zy_rPln_4 (i : Nat) : List zx_Pc × List zx_Pc := ([([(0, 1, [])], 0, [[(1, 2, []), (1, 0, []), (1, 1, []), (0, 0, []), (0, 0, []), (0, 130, []), (14, (i : Int), [2, 1, 0]), (1, 0, []), (1, 1, []), (0, 0, []), (0, 0, []), (0, 130, []), (14, (i : Int), [2, 2, 0]), (0, 1, []), (5, 0, []), (1, 0, []), (9, 0, []), (1, 0, []), (1, 1, []), (0, 0, []), (0, 0, []), (0, 130, []), (14, (i : Int), [2, 2, 0]), (4, 0, []), (0, 63, []), (10, 0, []), (11, 0, []), (11, 0, []), (1, 0, []), (1, 1, []), (0, 0, []), (0, 0, []), (0, 130, []), (14, (i : Int), [2, 3, 0]), (1, 0, []), (1, 0, []), (1, 1, []), (0, 0, []), (0, 0, []), (0, 130, []), (14, (i : Int), [2, 2, 0]), (0, 1, []), (5, 0, []), (0, 0, []), (0, 0, []), (0, 130, []), (14, (i : Int), [2, 3, 0]), (5, 0, []), (1, 0, []), (1, 1, []), (0, 0, []), (0, 0, []), (0, 130, []), (14, (i : Int), [2, 3, 0]), (13, 0, []), (5, 0, [])]], [])], [])
theorem zy_rQln_4 : zx_pt 4 91 = zy_rPln_4 90 := rfl
def zy_crd (i : Nat) : zx_Df := (1, 0, [[(0, 0, [])], [(1, 0, []), (0, 0, []), (0, 0, []), (0, 0, []), (0, 0, []), (14, (i : Int), [2, 1, 0])], [(1, 0, []), (0, 0, []), (0, 0, []), (0, 0, []), (0, 0, []), (14, (i : Int), [2, 2, 0])]], [[(3, 1, []), (3, 2, []), (0, 1, []), (5, 0, []), (1, 0, []), (9, 0, []), (3, 2, []), (4, 0, []), (0, 59, []), (10, 0, []), (11, 0, []), (11, 0, []), (0, 0, []), (0, 1, []), (13, 0, [])], [(3, 1, []), (3, 2, []), (0, 1, []), (5, 0, []), (1, 0, []), (9, 0, []), (3, 2, []), (4, 0, []), (0, 59, []), (10, 0, []), (11, 0, []), (11, 0, []), (1, 0, []), (3, 2, []), (0, 1, []), (5, 0, []), (0, 0, []), (0, 0, []), (0, 0, []), (14, (i : Int), [2, 1, 0]), (3, 1, []), (13, 0, [])], [(3, 1, []), (3, 2, []), (0, 1, []), (5, 0, []), (1, 0, []), (9, 0, []), (3, 2, []), (4, 0, []), (0, 59, []), (10, 0, []), (11, 0, []), (11, 0, []), (1, 0, []), (3, 2, []), (0, 1, []), (5, 0, []), (0, 0, []), (0, 0, []), (0, 0, []), (14, (i : Int), [2, 2, 0]), (3, 2, []), (13, 0, [])]], [])
theorem zy_cDrd : zx_dn 47 = zy_crd 46 := rfl
def zy_cPrd_0 (i : Nat) : List zx_Pc × List zx_Pc := ([([(0, 1, [])], 1, [[(0, 0, [])], [(1, 0, [])], [(0, 0, [])]], [i, 0])], [([(3, 1, []), (3, 2, []), (0, 1, []), (5, 0, []), (1, 0, []), (9, 0, []), (3, 2, []), (4, 0, []), (0, 59, []), (10, 0, []), (11, 0, []), (11, 0, [])], 1, [[(0, 0, [])], [(1, 0, [])], [(3, 2, []), (0, 1, []), (5, 0, [])]], [i, 0])])
theorem zy_cQrd_0 : zx_pt 0 47 = zy_cPrd_0 46 := rfl
def zy_rrd (i : Nat) : zx_Df := (1, 0, [[(0, 0, [])], [(1, 0, []), (0, 0, []), (0, 0, []), (0, 0, []), (0, 0, []), (14, (i : Int), [3, 1, 0])], [(1, 0, []), (0, 0, []), (0, 0, []), (0, 0, []), (0, 0, []), (14, (i : Int), [3, 2, 0])], [(1, 0, []), (0, 0, []), (0, 0, []), (0, 0, []), (0, 0, []), (14, (i : Int), [3, 3, 0])]], [[(3, 1, []), (3, 2, []), (0, 1, []), (5, 0, []), (1, 0, []), (9, 0, []), (3, 2, []), (4, 0, []), (0, 59, []), (10, 0, []), (11, 0, []), (11, 0, []), (0, 0, []), (0, 1, []), (13, 0, [])], [(3, 1, []), (3, 2, []), (0, 1, []), (5, 0, []), (1, 0, []), (9, 0, []), (3, 2, []), (4, 0, []), (0, 59, []), (10, 0, []), (11, 0, []), (11, 0, []), (1, 0, []), (3, 2, []), (0, 1, []), (5, 0, []), (3, 3, []), (0, 0, []), (0, 0, []), (14, (i : Int), [3, 1, 0]), (3, 1, []), (13, 0, [])], [(3, 1, []), (3, 2, []), (0, 1, []), (5, 0, []), (1, 0, []), (9, 0, []), (3, 2, []), (4, 0, []), (0, 59, []), (10, 0, []), (11, 0, []), (11, 0, []), (1, 0, []), (3, 2, []), (0, 1, []), (5, 0, []), (3, 3, []), (0, 0, []), (0, 0, []), (14, (i : Int), [3, 2, 0]), (3, 2, []), (13, 0, [])], [(3, 1, []), (3, 2, []), (0, 1, []), (5, 0, []), (1, 0, []), (9, 0, []), (3, 2, []), (4, 0, []), (0, 59, []), (10, 0, []), (11, 0, []), (11, 0, []), (3, 3, []), (1, 0, []), (3, 2, []), (0, 1, []), (5, 0, []), (3, 3, []), (0, 0, []), (0, 0, []), (14, (i : Int), [3, 3, 0]), (5, 0, []), (3, 3, []), (13, 0, [])]], [])
theorem zy_rDrd : zx_dn 92 = zy_rrd 91 := rfl
def zy_rPrd_1 (i : Nat) : List zx_Pc × List zx_Pc := ([([(0, 1, [])], 1, [[(0, 0, [])], [(1, 0, [])], [(0, 0, [])], [(0, 0, [])]], [i, 0])], [([(3, 1, []), (3, 2, []), (0, 1, []), (5, 0, []), (1, 0, []), (9, 0, []), (3, 2, []), (4, 0, []), (0, 59, []), (10, 0, []), (11, 0, []), (11, 0, [])], 1, [[(0, 0, [])], [(1, 0, [])], [(3, 2, []), (0, 1, []), (5, 0, [])], [(3, 3, [])]], [i, 0])])
theorem zy_rQrd_1 : zx_pt 1 92 = zy_rPrd_1 91 := rfl
def zy_rPrd_2 (i : Nat) : List zx_Pc × List zx_Pc := ([([(0, 1, [])], 1, [[(0, 0, [])], [(1, 0, [])], [(0, 0, [])], [(0, 0, [])]], [i, 0])], [([(3, 1, []), (3, 2, []), (0, 1, []), (5, 0, []), (1, 0, []), (9, 0, []), (3, 2, []), (4, 0, []), (0, 59, []), (10, 0, []), (11, 0, []), (11, 0, [])], 1, [[(0, 0, [])], [(1, 0, [])], [(3, 2, []), (0, 1, []), (5, 0, [])], [(3, 3, [])]], [i, 0])])
theorem zy_rQrd_2 : zx_pt 2 92 = zy_rPrd_2 91 := rfl
def zy_rPrd_3 (i : Nat) : List zx_Pc × List zx_Pc := ([([(0, 1, [])], 1, [[(0, 0, [])], [(1, 0, [])], [(0, 0, [])], [(0, 0, [])]], [i, 0])], [([(3, 1, []), (3, 2, []), (0, 1, []), (5, 0, []), (1, 0, []), (9, 0, []), (3, 2, []), (4, 0, []), (0, 59, []), (10, 0, []), (11, 0, []), (11, 0, [])], 1, [[(0, 0, [])], [(1, 0, [])], [(3, 2, []), (0, 1, []), (5, 0, [])], [(3, 3, [])]], [i, 0])])
theorem zy_rQrd_3 : zx_pt 3 92 = zy_rPrd_3 91 := rfl
def zy_rPrd_4 (i : Nat) : List zx_Pc × List zx_Pc := ([([(0, 1, [])], 1, [[(0, 0, [])], [(1, 0, [])], [(0, 0, [])], [(0, 0, [])]], [i, 0])], [([(3, 1, []), (3, 2, []), (0, 1, []), (5, 0, []), (1, 0, []), (9, 0, []), (3, 2, []), (4, 0, []), (0, 59, []), (10, 0, []), (11, 0, []), (11, 0, [])], 1, [[(0, 0, [])], [(1, 0, [])], [(3, 2, []), (0, 1, []), (5, 0, [])], [(3, 3, [])]], [i, 0])])
theorem zy_rQrd_4 : zx_pt 4 92 = zy_rPrd_4 91 := rfl
theorem zy_rel_p : ∀ {C A W : List Int}, zy_rel C A W → ∃ l : List (Int × Int), (∀ q ∈ l, zy_ok2 q.1 q.2) ∧ C = zy_m1 l ∧ A = l.map Prod.fst ∧ W = l.map Prod.snd
  | [], [], [], _ => ⟨[], fun _ h => absurd h List.not_mem_nil, rfl, rfl, rfl⟩
  | c :: C, a :: A, w :: W, h => by
    obtain ⟨⟨h1, h2⟩, h3⟩ := h
    obtain ⟨l, g1, g2, g3, g4⟩ := zy_rel_p h3
    refine ⟨(a, w) :: l, fun q hq => ?_, ?_, ?_, ?_⟩
    · rcases List.mem_cons.mp hq with rfl | hq
      · exact h1
      · exact g1 q hq
    · rw [h2, g2]
      rfl
    · rw [g3]
      rfl
    · rw [g4]
      rfl
  | [], [], _ :: _, h => h.elim
  | [], _ :: _, _, h => h.elim
  | _ :: _, [], _, h => h.elim
  | _ :: _, _ :: _, [], h => h.elim
theorem zy_gd_ne {h : Nat} {l : List (Int × Int)} (g : zy_gd h (zy_m1 l)) : l ≠ [] := fun e => by
  rw [e] at g
  obtain ⟨v, hv⟩ := g.2.2 fun _ => 0
  have := hv []
  cases this
/-- a line of the text, the class's and the reference's -/
def zy_LT (f g : zx_Rw) (n a l0 cg x rg l : Int) : Prop := (zx_F 46 [f] [n, a] 0).1 = [0, cg, x] ∧ (zx_F 91 [g] [n, a, l0] 0).1 = [0, rg, x, l] ∧ 0 ≤ x ∧ ((rg = 1 ∧ cg = 1 ∧ ∃ q : List (Int × Int) × List (Int × Int), zy_lok q ∧ l = (q.1.length + q.2.length : Nat) ∧ zx_L 0 46 [f] [n, a] 0 = zy_tm q.1 ++ (zy_m1 q.2 ++ [-59]) ∧ zx_L 1 91 [g] [n, a, l0] 0 = (q.1 ++ q.2).map Prod.fst ∧ zx_L 2 91 [g] [n, a, l0] 0 = (q.1 ++ q.2).map Prod.snd ∧ zx_L 3 91 [g] [n, a, l0] 0 = [l0 + (q.1.length : Int)] ∧ zx_L 4 91 [g] [n, a, l0] 0 = [l0 + ((q.1.length + q.2.length : Nat) : Int)]) ∨ (rg = 0 ∧ (cg = 0 ∨ (cg = 1 ∧ zy_D f n x))))
set_option maxRecDepth 8000 in
set_option maxHeartbeats 4000000 in
theorem zy_line {f g : zx_Rw} {n : Int} (H : zy_H f g n) (hI : ∀ x, 0 ≤ x → zy_T f n 36 (zy_s 45 f n x 130 1) (zy_s 45 f n x 130 2) (zy_l 0 45 f n x 130) (zy_s 90 g n x 130 1) (zy_s 90 g n x 130 2) (zy_s 90 g n x 130 3) (zy_l 1 90 g n x 130) (zy_l 2 90 g n x 130)) {a l0 : Int} (ha : 0 ≤ a) : ∃ cg x rg l, zy_LT f g n a l0 cg x rg l := by
  have eC : ∀ P K, zx_G 46 45 [f] P K = zx_F 45 [f] P K := fun P K => zx_G_F (by decide) _ _ _
  have eR : ∀ P K, zx_G 91 90 [g] P K = zx_F 90 [g] P K := fun P K => zx_G_F (by decide) _ _ _
  have lC : ∀ P K, zx_LG 0 46 45 [f] P K = zx_L 0 45 [f] P K := fun P K => zx_LG_L (by decide) _ _ _
  have lR : ∀ k P K, zx_LG k 91 90 [g] P K = zx_L k 90 [g] P K := fun k P K => zx_LG_L (by decide) _ _ _
  have T := hI a ha
  unfold zy_s zy_l at T
  generalize hcg : (zx_F 45 [f] [n, a] 130).1.getD 1 0 = cg at T
  generalize hca : (zx_F 45 [f] [n, a] 130).1.getD 2 0 = x at T
  generalize hrg : (zx_F 90 [g] [n, a] 130).1.getD 1 0 = rg at T
  generalize hra : (zx_F 90 [g] [n, a] 130).1.getD 2 0 = y at T
  generalize hrl : (zx_F 90 [g] [n, a] 130).1.getD 3 0 = l at T
  generalize hL0 : zx_L 0 45 [f] [n, a] 130 = C0 at T
  generalize hL1 : zx_L 1 90 [g] [n, a] 130 = A0 at T
  generalize hL2 : zx_L 2 90 [g] [n, a] 130 = W0 at T
  rw [List.getD_eq_getElem?_getD] at hcg hca hrg hra hrl
  obtain ⟨t1, t2, t3⟩ := T
  subst t1
  rcases t3 with ⟨t3, t4, t5, t6, t7⟩ | ⟨t3, t4⟩
  · subst t3 t4
    obtain ⟨V, v1, v2, v3, v4⟩ := zy_rel_p t6
    rw [v2] at t7
    have vo : zy_oks V := ⟨v1, t7⟩
    have hl : l = (V.length : Int) := by rw [t5, v3, List.length_map]
    by_cases hq : x + 1 ≤ n ∧ f x.toNat = 63
    · obtain ⟨q1, q2⟩ := hq
      have q3 : g x.toNat = 63 := by
        rw [(H x t2 q1).2.2, if_pos (by rw [q2]; decide)]
        exact q2
      have T := hI (x + 1) (Int.le_add_one t2)
      unfold zy_s zy_l at T
      generalize hcg' : (zx_F 45 [f] [n, x + 1] 130).1.getD 1 0 = cg at T
      generalize hca' : (zx_F 45 [f] [n, x + 1] 130).1.getD 2 0 = z at T
      generalize hrg' : (zx_F 90 [g] [n, x + 1] 130).1.getD 1 0 = rg at T
      generalize hra' : (zx_F 90 [g] [n, x + 1] 130).1.getD 2 0 = y at T
      generalize hrl' : (zx_F 90 [g] [n, x + 1] 130).1.getD 3 0 = l' at T
      generalize hM0 : zx_L 0 45 [f] [n, x + 1] 130 = C1 at T
      generalize hM1 : zx_L 1 90 [g] [n, x + 1] 130 = A1 at T
      generalize hM2 : zx_L 2 90 [g] [n, x + 1] 130 = W1 at T
      rw [List.getD_eq_getElem?_getD] at hcg' hca' hrg' hra' hrl'
      obtain ⟨u1, u2, u3⟩ := T
      subst u1
      have ec : (zx_F 46 [f] [n, a] 0).1 = [0, cg, z] := by
        rw [zx_F_0, zy_cDln]
        simp [zy_cln, zx_ev, zx_evs, zx_sst, zx_call, zx_R, eC, hcg, hca, hcg', hca', q1, q2]
      have er : (zx_F 91 [g] [n, a, l0] 0).1 = [0, rg, z, l + l'] := by
        rw [zx_F_0, zy_rDln]
        simp [zy_rln, zx_ev, zx_evs, zx_sst, zx_call, zx_R, eR, hrg, hra, hrl, hrg', hra', hrl', q1, q3]
      refine ⟨cg, z, rg, l + l', ec, er, u2, ?_⟩
      rcases u3 with ⟨u3, u4, u5, u6, u7⟩ | u3
      · subst u3 u4
        obtain ⟨W, w1, w2, w3, w4⟩ := zy_rel_p u6
        rw [w2] at u7
        have wo : zy_oks W := ⟨w1, u7⟩
        have hl' : l' = (W.length : Int) := by rw [u5, w3, List.length_map]
        have vne := zy_gd_ne t7
        have etm : zy_tm V = zy_m1 V ++ [-63] := by
          cases V with
          | nil => exact absurd rfl vne
          | cons _ _ => rfl
        refine Or.inl ⟨rfl, rfl, (V, W), ⟨Or.inr vo, wo⟩, by rw [hl, hl']; simp, ?_, ?_, ?_, ?_, ?_⟩
        · rw [zx_L_0, zy_cQln_0, etm]
          simp [zy_cPln_0, zx_ps, zx_p1, zx_ev, zx_evs, zx_sst, zx_call, zx_R, eC, lC, hL0, hM0, hcg, hca, hcg', hca', q1, q2, v2, w2]
        · rw [zx_L_0, zy_rQln_1, List.map_append]
          simp [zy_rPln_1, zx_ps, zx_p1, zx_ev, zx_evs, zx_sst, zx_call, zx_R, eR, lR, hL1, hL2, hM1, hM2, hrg, hra, q1, q3, v3, w3]
        · rw [zx_L_0, zy_rQln_2, List.map_append]
          simp [zy_rPln_2, zx_ps, zx_p1, zx_ev, zx_evs, zx_sst, zx_call, zx_R, eR, lR, hL1, hL2, hM1, hM2, hrg, hra, q1, q3, v4, w4]
        · rw [zx_L_0, zy_rQln_3]
          simp [zy_rPln_3, zx_ps, zx_p1, zx_ev, zx_evs, zx_sst, zx_call, zx_R, eR, lR, hL1, hL2, hM1, hM2, hrg, hra, hrl, q1, q3, hl]
        · rw [zx_L_0, zy_rQln_4]
          simp [zy_rPln_4, zx_ps, zx_p1, zx_ev, zx_evs, zx_sst, zx_call, zx_R, eR, lR, hL1, hL2, hM1, hM2, hrg, hra, hrl, hrl', q1, q3, hl, hl']
      · exact Or.inr u3
    · have hg : ¬ (x + 1 ≤ n ∧ g x.toNat = 63) := fun h => by
        obtain ⟨m1, m2, m3⟩ := H x t2 h.1
        have h2 := h.2
        rw [m3] at h2
        refine hq ⟨h.1, ?_⟩
        clear hcg hca hrg hra hrl t5
        split at h2 <;> omega
      have ec : (zx_F 46 [f] [n, a] 0).1 = [0, 1, x] := by
        rw [zx_F_0, zy_cDln]
        by_cases q1 : x + 1 ≤ n
        · have q2 : ¬ f x.toNat = 63 := fun q2 => hq ⟨q1, q2⟩
          simp [zy_cln, zx_ev, zx_evs, zx_sst, zx_call, zx_R, eC, hcg, hca, q1, q2]
        · simp [zy_cln, zx_ev, zx_evs, zx_sst, zx_call, zx_R, eC, hcg, hca, q1]
      have er : (zx_F 91 [g] [n, a, l0] 0).1 = [0, 1, x, l] := by
        rw [zx_F_0, zy_rDln]
        by_cases q1 : x + 1 ≤ n
        · have q2 : ¬ g x.toNat = 63 := fun q2 => hg ⟨q1, q2⟩
          simp [zy_rln, zx_ev, zx_evs, zx_sst, zx_call, zx_R, eR, hrg, hra, hrl, q1, q2]
        · simp [zy_rln, zx_ev, zx_evs, zx_sst, zx_call, zx_R, eR, hrg, hra, hrl, q1]
      refine ⟨1, x, 1, l, ec, er, t2, Or.inl ⟨rfl, rfl, ([], V), ⟨Or.inl rfl, vo⟩, by rw [hl]; simp, ?_, ?_, ?_, ?_, ?_⟩⟩
      · rw [zx_L_0, zy_cQln_0]
        by_cases q1 : x + 1 ≤ n
        · have q2 : ¬ f x.toNat = 63 := fun q2 => hq ⟨q1, q2⟩
          simp [zy_cPln_0, zx_ps, zx_p1, zx_ev, zx_evs, zx_sst, zx_call, zx_R, eC, lC, hL0, hcg, hca, q1, q2, v2, zy_tm]
        · simp [zy_cPln_0, zx_ps, zx_p1, zx_ev, zx_evs, zx_sst, zx_call, zx_R, eC, lC, hL0, hcg, hca, q1, v2, zy_tm]
      · rw [zx_L_0, zy_rQln_1]
        by_cases q1 : x + 1 ≤ n
        · have q2 : ¬ g x.toNat = 63 := fun q2 => hg ⟨q1, q2⟩
          simp [zy_rPln_1, zx_ps, zx_p1, zx_ev, zx_evs, zx_sst, zx_call, zx_R, eR, lR, hL1, hL2, hrg, hra, q1, q2, v3]
        · simp [zy_rPln_1, zx_ps, zx_p1, zx_ev, zx_evs, zx_sst, zx_call, zx_R, eR, lR, hL1, hL2, hrg, hra, q1, v3]
      · rw [zx_L_0, zy_rQln_2]
        by_cases q1 : x + 1 ≤ n
        · have q2 : ¬ g x.toNat = 63 := fun q2 => hg ⟨q1, q2⟩
          simp [zy_rPln_2, zx_ps, zx_p1, zx_ev, zx_evs, zx_sst, zx_call, zx_R, eR, lR, hL1, hL2, hrg, hra, q1, q2, v4]
        · simp [zy_rPln_2, zx_ps, zx_p1, zx_ev, zx_evs, zx_sst, zx_call, zx_R, eR, lR, hL1, hL2, hrg, hra, q1, v4]
      · rw [zx_L_0, zy_rQln_3]
        by_cases q1 : x + 1 ≤ n
        · have q2 : ¬ g x.toNat = 63 := fun q2 => hg ⟨q1, q2⟩
          simp [zy_rPln_3, zx_ps, zx_p1, zx_ev, zx_evs, zx_sst, zx_call, zx_R, eR, lR, hL1, hL2, hrg, hra, hrl, q1, q2, hl]
        · simp [zy_rPln_3, zx_ps, zx_p1, zx_ev, zx_evs, zx_sst, zx_call, zx_R, eR, lR, hL1, hL2, hrg, hra, hrl, q1, hl]
      · rw [zx_L_0, zy_rQln_4]
        by_cases q1 : x + 1 ≤ n
        · have q2 : ¬ g x.toNat = 63 := fun q2 => hg ⟨q1, q2⟩
          simp [zy_rPln_4, zx_ps, zx_p1, zx_ev, zx_evs, zx_sst, zx_call, zx_R, eR, lR, hL1, hL2, hrg, hra, hrl, q1, q2, hl]
        · simp [zy_rPln_4, zx_ps, zx_p1, zx_ev, zx_evs, zx_sst, zx_call, zx_R, eR, lR, hL1, hL2, hrg, hra, hrl, q1, hl]
  · subst t3
    have er : (zx_F 91 [g] [n, a, l0] 0).1 = [0, 0, x, l] := by
      rw [zx_F_0, zy_rDln]
      simp [zy_rln, zx_ev, zx_evs, zx_sst, zx_call, zx_R, eR, hrg, hra, hrl]
    rcases t4 with t4 | ⟨t4, t5⟩
    · subst t4
      have ec : (zx_F 46 [f] [n, a] 0).1 = [0, 0, x] := by
        rw [zx_F_0, zy_cDln]
        simp [zy_cln, zx_ev, zx_evs, zx_sst, zx_call, zx_R, eC, hcg, hca]
      exact ⟨0, x, 0, l, ec, er, t2, Or.inr ⟨rfl, Or.inl rfl⟩⟩
    · subst t4
      have q2 : ¬ f x.toNat = 63 := by
        clear hcg hca hrg hra hrl
        have := t5.2.2.2
        omega
      have q1 := t5.2.1
      have ec : (zx_F 46 [f] [n, a] 0).1 = [0, 1, x] := by
        rw [zx_F_0, zy_cDln]
        simp [zy_cln, zx_ev, zx_evs, zx_sst, zx_call, zx_R, eC, hcg, hca, q1, q2]
      exact ⟨1, x, 0, l, ec, er, t2, Or.inr ⟨rfl, Or.inr ⟨rfl, t5⟩⟩⟩
set_option maxHeartbeats 1000000 in
theorem zy_crd_0g {c i : Nat} (hd : zx_dn c = zy_crd i) (hp0 : zx_pt 0 c = zy_cPrd_0 i) (hi : i < c) {f : zx_Rw} {n : Int} : (zx_F c [f] [n] 0).1 = [0, (zx_F i [f] [n, 0] 0).1.getD 1 0, (zx_F i [f] [n, 0] 0).1.getD 2 0] ∧ zx_L 0 c [f] [n] 0 = zx_L 0 i [f] [n, 0] 0 := by
  have eC : ∀ P K, zx_G c i [f] P K = zx_F i [f] P K := fun P K => zx_G_F hi _ _ _
  have lC : ∀ k P K, zx_LG k c i [f] P K = zx_L k i [f] P K := fun k P K => zx_LG_L hi _ _ _
  refine ⟨?_, ?_⟩
  · rw [zx_F_0, hd]
    simp [zy_crd, zx_ev, zx_evs, zx_sst, zx_call, zx_R, eC]
  · rw [zx_L_0, hp0]
    simp [zy_cPrd_0, zx_ps, zx_p1, zx_ev, zx_evs, zx_sst, zx_call, zx_R, lC]
theorem zy_crd_0 {f : zx_Rw} {n : Int} : (zx_F 47 [f] [n] 0).1 = [0, (zx_F 46 [f] [n, 0] 0).1.getD 1 0, (zx_F 46 [f] [n, 0] 0).1.getD 2 0] ∧ zx_L 0 47 [f] [n] 0 = zx_L 0 46 [f] [n, 0] 0 := zy_crd_0g zy_cDrd zy_cQrd_0 (by decide)
set_option maxHeartbeats 2000000 in
theorem zy_crd_sg {c i : Nat} (hd : zx_dn c = zy_crd i) (hp0 : zx_pt 0 c = zy_cPrd_0 i) (hi : i < c) {f : zx_Rw} {n : Int} {K : Nat} {d u x : Int} (hS : (zx_F c [f] [n] K).1 = [d, u, x]) : (d ≠ 0 → (zx_F c [f] [n] (K + 1)).1 = [d, u, x] ∧ zx_L 0 c [f] [n] (K + 1) = zx_L 0 c [f] [n] K) ∧ (d = 0 → (u ≠ 0 ∧ x + 1 ≤ n ∧ f x.toNat = 59) → (zx_F c [f] [n] (K + 1)).1 = [0, (zx_F i [f] [n, (x + 1)] 0).1.getD 1 0, (zx_F i [f] [n, (x + 1)] 0).1.getD 2 0] ∧ zx_L 0 c [f] [n] (K + 1) = zx_L 0 c [f] [n] K ++ zx_L 0 i [f] [n, x + 1] 0) ∧ (d = 0 → ¬ (u ≠ 0 ∧ x + 1 ≤ n ∧ f x.toNat = 59) → (zx_F c [f] [n] (K + 1)).1 = [1, u, x] ∧ zx_L 0 c [f] [n] (K + 1) = zx_L 0 c [f] [n] K) := by
  have eC : ∀ P K, zx_G c i [f] P K = zx_F i [f] P K := fun P K => zx_G_F hi _ _ _
  have lC : ∀ k P K, zx_LG k c i [f] P K = zx_L k i [f] P K := fun k P K => zx_LG_L hi _ _ _
  obtain ⟨c1, c2⟩ := zx_F_s hS
  obtain ⟨l0a, l0b⟩ := zx_L_s (g := 0) hS
  refine ⟨fun hd0 => ⟨c1 hd0, l0a hd0⟩, fun hd0 hc => ?_, fun hd0 hc => ?_⟩
  · obtain ⟨q1, q2, q3⟩ := hc
    refine ⟨?_, ?_⟩
    · rw [c2 hd0, hd]
      simp [zy_crd, zx_ev, zx_evs, zx_sst, zx_call, zx_R, eC, q1, q2, q3]
    · rw [l0b hd0, hp0]
      simp [zy_cPrd_0, zx_ps, zx_p1, zx_ev, zx_evs, zx_sst, zx_call, zx_R, lC, q1, q2, q3]
  · by_cases q1 : u = 0
    · skip
      refine ⟨?_, ?_⟩
      · rw [c2 hd0, hd]
        simp [zy_crd, zx_ev, zx_evs, zx_sst, zx_call, zx_R, eC, q1]
      · rw [l0b hd0, hp0]
        simp [zy_cPrd_0, zx_ps, zx_p1, zx_ev, zx_evs, zx_sst, zx_call, zx_R, lC, q1]
    · by_cases q2 : x + 1 ≤ n
      · have q3 : ¬ f x.toNat = 59 := fun q3 => hc ⟨q1, q2, q3⟩
        refine ⟨?_, ?_⟩
        · rw [c2 hd0, hd]
          simp [zy_crd, zx_ev, zx_evs, zx_sst, zx_call, zx_R, eC, q1, q2, q3]
        · rw [l0b hd0, hp0]
          simp [zy_cPrd_0, zx_ps, zx_p1, zx_ev, zx_evs, zx_sst, zx_call, zx_R, lC, q1, q2, q3]
      · skip
        refine ⟨?_, ?_⟩
        · rw [c2 hd0, hd]
          simp [zy_crd, zx_ev, zx_evs, zx_sst, zx_call, zx_R, eC, q1, q2]
        · rw [l0b hd0, hp0]
          simp [zy_cPrd_0, zx_ps, zx_p1, zx_ev, zx_evs, zx_sst, zx_call, zx_R, lC, q1, q2]
theorem zy_crd_s {f : zx_Rw} {n : Int} {K : Nat} {d u x : Int} (hS : (zx_F 47 [f] [n] K).1 = [d, u, x]) : (d ≠ 0 → (zx_F 47 [f] [n] (K + 1)).1 = [d, u, x] ∧ zx_L 0 47 [f] [n] (K + 1) = zx_L 0 47 [f] [n] K) ∧ (d = 0 → (u ≠ 0 ∧ x + 1 ≤ n ∧ f x.toNat = 59) → (zx_F 47 [f] [n] (K + 1)).1 = [0, (zx_F 46 [f] [n, (x + 1)] 0).1.getD 1 0, (zx_F 46 [f] [n, (x + 1)] 0).1.getD 2 0] ∧ zx_L 0 47 [f] [n] (K + 1) = zx_L 0 47 [f] [n] K ++ zx_L 0 46 [f] [n, x + 1] 0) ∧ (d = 0 → ¬ (u ≠ 0 ∧ x + 1 ≤ n ∧ f x.toNat = 59) → (zx_F 47 [f] [n] (K + 1)).1 = [1, u, x] ∧ zx_L 0 47 [f] [n] (K + 1) = zx_L 0 47 [f] [n] K) := zy_crd_sg zy_cDrd zy_cQrd_0 (by decide) hS
set_option maxHeartbeats 1000000 in
theorem zy_rrd_0g {c i : Nat} (hd : zx_dn c = zy_rrd i) (hp1 : zx_pt 1 c = zy_rPrd_1 i) (hp2 : zx_pt 2 c = zy_rPrd_2 i) (hp3 : zx_pt 3 c = zy_rPrd_3 i) (hp4 : zx_pt 4 c = zy_rPrd_4 i) (hi : i < c) {g : zx_Rw} {n : Int} : (zx_F c [g] [n] 0).1 = [0, (zx_F i [g] [n, 0, 0] 0).1.getD 1 0, (zx_F i [g] [n, 0, 0] 0).1.getD 2 0, (zx_F i [g] [n, 0, 0] 0).1.getD 3 0] ∧ zx_L 1 c [g] [n] 0 = zx_L 1 i [g] [n, 0, 0] 0 ∧ zx_L 2 c [g] [n] 0 = zx_L 2 i [g] [n, 0, 0] 0 ∧ zx_L 3 c [g] [n] 0 = zx_L 3 i [g] [n, 0, 0] 0 ∧ zx_L 4 c [g] [n] 0 = zx_L 4 i [g] [n, 0, 0] 0 := by
  have eC : ∀ P K, zx_G c i [g] P K = zx_F i [g] P K := fun P K => zx_G_F hi _ _ _
  have lC : ∀ k P K, zx_LG k c i [g] P K = zx_L k i [g] P K := fun k P K => zx_LG_L hi _ _ _
  refine ⟨?_, ?_, ?_, ?_, ?_⟩
  · rw [zx_F_0, hd]
    simp [zy_rrd, zx_ev, zx_evs, zx_sst, zx_call, zx_R, eC]
  · rw [zx_L_0, hp1]
    simp [zy_rPrd_1, zx_ps, zx_p1, zx_ev, zx_evs, zx_sst, zx_call, zx_R, lC]
  · rw [zx_L_0, hp2]
    simp [zy_rPrd_2, zx_ps, zx_p1, zx_ev, zx_evs, zx_sst, zx_call, zx_R, lC]
  · rw [zx_L_0, hp3]
    simp [zy_rPrd_3, zx_ps, zx_p1, zx_ev, zx_evs, zx_sst, zx_call, zx_R, lC]
  · rw [zx_L_0, hp4]
    simp [zy_rPrd_4, zx_ps, zx_p1, zx_ev, zx_evs, zx_sst, zx_call, zx_R, lC]
theorem zy_rrd_0 {g : zx_Rw} {n : Int} : (zx_F 92 [g] [n] 0).1 = [0, (zx_F 91 [g] [n, 0, 0] 0).1.getD 1 0, (zx_F 91 [g] [n, 0, 0] 0).1.getD 2 0, (zx_F 91 [g] [n, 0, 0] 0).1.getD 3 0] ∧ zx_L 1 92 [g] [n] 0 = zx_L 1 91 [g] [n, 0, 0] 0 ∧ zx_L 2 92 [g] [n] 0 = zx_L 2 91 [g] [n, 0, 0] 0 ∧ zx_L 3 92 [g] [n] 0 = zx_L 3 91 [g] [n, 0, 0] 0 ∧ zx_L 4 92 [g] [n] 0 = zx_L 4 91 [g] [n, 0, 0] 0 := zy_rrd_0g zy_rDrd zy_rQrd_1 zy_rQrd_2 zy_rQrd_3 zy_rQrd_4 (by decide)
set_option maxHeartbeats 2000000 in
theorem zy_rrd_sg {c i : Nat} (hd : zx_dn c = zy_rrd i) (hp1 : zx_pt 1 c = zy_rPrd_1 i) (hp2 : zx_pt 2 c = zy_rPrd_2 i) (hp3 : zx_pt 3 c = zy_rPrd_3 i) (hp4 : zx_pt 4 c = zy_rPrd_4 i) (hi : i < c) {g : zx_Rw} {n : Int} {K : Nat} {d u x l : Int} (hS : (zx_F c [g] [n] K).1 = [d, u, x, l]) : (d ≠ 0 → (zx_F c [g] [n] (K + 1)).1 = [d, u, x, l] ∧ zx_L 1 c [g] [n] (K + 1) = zx_L 1 c [g] [n] K ∧ zx_L 2 c [g] [n] (K + 1) = zx_L 2 c [g] [n] K ∧ zx_L 3 c [g] [n] (K + 1) = zx_L 3 c [g] [n] K ∧ zx_L 4 c [g] [n] (K + 1) = zx_L 4 c [g] [n] K) ∧ (d = 0 → (u ≠ 0 ∧ x + 1 ≤ n ∧ g x.toNat = 59) → (zx_F c [g] [n] (K + 1)).1 = [0, (zx_F i [g] [n, (x + 1), l] 0).1.getD 1 0, (zx_F i [g] [n, (x + 1), l] 0).1.getD 2 0, l + (zx_F i [g] [n, (x + 1), l] 0).1.getD 3 0] ∧ zx_L 1 c [g] [n] (K + 1) = zx_L 1 c [g] [n] K ++ zx_L 1 i [g] [n, x + 1, l] 0 ∧ zx_L 2 c [g] [n] (K + 1) = zx_L 2 c [g] [n] K ++ zx_L 2 i [g] [n, x + 1, l] 0 ∧ zx_L 3 c [g] [n] (K + 1) = zx_L 3 c [g] [n] K ++ zx_L 3 i [g] [n, x + 1, l] 0 ∧ zx_L 4 c [g] [n] (K + 1) = zx_L 4 c [g] [n] K ++ zx_L 4 i [g] [n, x + 1, l] 0) ∧ (d = 0 → ¬ (u ≠ 0 ∧ x + 1 ≤ n ∧ g x.toNat = 59) → (zx_F c [g] [n] (K + 1)).1 = [1, u, x, l] ∧ zx_L 1 c [g] [n] (K + 1) = zx_L 1 c [g] [n] K ∧ zx_L 2 c [g] [n] (K + 1) = zx_L 2 c [g] [n] K ∧ zx_L 3 c [g] [n] (K + 1) = zx_L 3 c [g] [n] K ∧ zx_L 4 c [g] [n] (K + 1) = zx_L 4 c [g] [n] K) := by
  have eC : ∀ P K, zx_G c i [g] P K = zx_F i [g] P K := fun P K => zx_G_F hi _ _ _
  have lC : ∀ k P K, zx_LG k c i [g] P K = zx_L k i [g] P K := fun k P K => zx_LG_L hi _ _ _
  obtain ⟨c1, c2⟩ := zx_F_s hS
  obtain ⟨l1a, l1b⟩ := zx_L_s (g := 1) hS
  obtain ⟨l2a, l2b⟩ := zx_L_s (g := 2) hS
  obtain ⟨l3a, l3b⟩ := zx_L_s (g := 3) hS
  obtain ⟨l4a, l4b⟩ := zx_L_s (g := 4) hS
  refine ⟨fun hd0 => ⟨c1 hd0, l1a hd0, l2a hd0, l3a hd0, l4a hd0⟩, fun hd0 hc => ?_, fun hd0 hc => ?_⟩
  · obtain ⟨q1, q2, q3⟩ := hc
    refine ⟨?_, ?_, ?_, ?_, ?_⟩
    · rw [c2 hd0, hd]
      simp [zy_rrd, zx_ev, zx_evs, zx_sst, zx_call, zx_R, eC, q1, q2, q3]
    · rw [l1b hd0, hp1]
      simp [zy_rPrd_1, zx_ps, zx_p1, zx_ev, zx_evs, zx_sst, zx_call, zx_R, lC, q1, q2, q3]
    · rw [l2b hd0, hp2]
      simp [zy_rPrd_2, zx_ps, zx_p1, zx_ev, zx_evs, zx_sst, zx_call, zx_R, lC, q1, q2, q3]
    · rw [l3b hd0, hp3]
      simp [zy_rPrd_3, zx_ps, zx_p1, zx_ev, zx_evs, zx_sst, zx_call, zx_R, lC, q1, q2, q3]
    · rw [l4b hd0, hp4]
      simp [zy_rPrd_4, zx_ps, zx_p1, zx_ev, zx_evs, zx_sst, zx_call, zx_R, lC, q1, q2, q3]
  · by_cases q1 : u = 0
    · skip
      refine ⟨?_, ?_, ?_, ?_, ?_⟩
      · rw [c2 hd0, hd]
        simp [zy_rrd, zx_ev, zx_evs, zx_sst, zx_call, zx_R, eC, q1]
      · rw [l1b hd0, hp1]
        simp [zy_rPrd_1, zx_ps, zx_p1, zx_ev, zx_evs, zx_sst, zx_call, zx_R, lC, q1]
      · rw [l2b hd0, hp2]
        simp [zy_rPrd_2, zx_ps, zx_p1, zx_ev, zx_evs, zx_sst, zx_call, zx_R, lC, q1]
      · rw [l3b hd0, hp3]
        simp [zy_rPrd_3, zx_ps, zx_p1, zx_ev, zx_evs, zx_sst, zx_call, zx_R, lC, q1]
      · rw [l4b hd0, hp4]
        simp [zy_rPrd_4, zx_ps, zx_p1, zx_ev, zx_evs, zx_sst, zx_call, zx_R, lC, q1]
    · by_cases q2 : x + 1 ≤ n
      · have q3 : ¬ g x.toNat = 59 := fun q3 => hc ⟨q1, q2, q3⟩
        refine ⟨?_, ?_, ?_, ?_, ?_⟩
        · rw [c2 hd0, hd]
          simp [zy_rrd, zx_ev, zx_evs, zx_sst, zx_call, zx_R, eC, q1, q2, q3]
        · rw [l1b hd0, hp1]
          simp [zy_rPrd_1, zx_ps, zx_p1, zx_ev, zx_evs, zx_sst, zx_call, zx_R, lC, q1, q2, q3]
        · rw [l2b hd0, hp2]
          simp [zy_rPrd_2, zx_ps, zx_p1, zx_ev, zx_evs, zx_sst, zx_call, zx_R, lC, q1, q2, q3]
        · rw [l3b hd0, hp3]
          simp [zy_rPrd_3, zx_ps, zx_p1, zx_ev, zx_evs, zx_sst, zx_call, zx_R, lC, q1, q2, q3]
        · rw [l4b hd0, hp4]
          simp [zy_rPrd_4, zx_ps, zx_p1, zx_ev, zx_evs, zx_sst, zx_call, zx_R, lC, q1, q2, q3]
      · skip
        refine ⟨?_, ?_, ?_, ?_, ?_⟩
        · rw [c2 hd0, hd]
          simp [zy_rrd, zx_ev, zx_evs, zx_sst, zx_call, zx_R, eC, q1, q2]
        · rw [l1b hd0, hp1]
          simp [zy_rPrd_1, zx_ps, zx_p1, zx_ev, zx_evs, zx_sst, zx_call, zx_R, lC, q1, q2]
        · rw [l2b hd0, hp2]
          simp [zy_rPrd_2, zx_ps, zx_p1, zx_ev, zx_evs, zx_sst, zx_call, zx_R, lC, q1, q2]
        · rw [l3b hd0, hp3]
          simp [zy_rPrd_3, zx_ps, zx_p1, zx_ev, zx_evs, zx_sst, zx_call, zx_R, lC, q1, q2]
        · rw [l4b hd0, hp4]
          simp [zy_rPrd_4, zx_ps, zx_p1, zx_ev, zx_evs, zx_sst, zx_call, zx_R, lC, q1, q2]
/-- lines' places -/
theorem zy_rrd_s {g : zx_Rw} {n : Int} {K : Nat} {d u x l : Int} (hS : (zx_F 92 [g] [n] K).1 = [d, u, x, l]) : (d ≠ 0 → (zx_F 92 [g] [n] (K + 1)).1 = [d, u, x, l] ∧ zx_L 1 92 [g] [n] (K + 1) = zx_L 1 92 [g] [n] K ∧ zx_L 2 92 [g] [n] (K + 1) = zx_L 2 92 [g] [n] K ∧ zx_L 3 92 [g] [n] (K + 1) = zx_L 3 92 [g] [n] K ∧ zx_L 4 92 [g] [n] (K + 1) = zx_L 4 92 [g] [n] K) ∧ (d = 0 → (u ≠ 0 ∧ x + 1 ≤ n ∧ g x.toNat = 59) → (zx_F 92 [g] [n] (K + 1)).1 = [0, (zx_F 91 [g] [n, (x + 1), l] 0).1.getD 1 0, (zx_F 91 [g] [n, (x + 1), l] 0).1.getD 2 0, l + (zx_F 91 [g] [n, (x + 1), l] 0).1.getD 3 0] ∧ zx_L 1 92 [g] [n] (K + 1) = zx_L 1 92 [g] [n] K ++ zx_L 1 91 [g] [n, x + 1, l] 0 ∧ zx_L 2 92 [g] [n] (K + 1) = zx_L 2 92 [g] [n] K ++ zx_L 2 91 [g] [n, x + 1, l] 0 ∧ zx_L 3 92 [g] [n] (K + 1) = zx_L 3 92 [g] [n] K ++ zx_L 3 91 [g] [n, x + 1, l] 0 ∧ zx_L 4 92 [g] [n] (K + 1) = zx_L 4 92 [g] [n] K ++ zx_L 4 91 [g] [n, x + 1, l] 0) ∧ (d = 0 → ¬ (u ≠ 0 ∧ x + 1 ≤ n ∧ g x.toNat = 59) → (zx_F 92 [g] [n] (K + 1)).1 = [1, u, x, l] ∧ zx_L 1 92 [g] [n] (K + 1) = zx_L 1 92 [g] [n] K ∧ zx_L 2 92 [g] [n] (K + 1) = zx_L 2 92 [g] [n] K ∧ zx_L 3 92 [g] [n] (K + 1) = zx_L 3 92 [g] [n] K ∧ zx_L 4 92 [g] [n] (K + 1) = zx_L 4 92 [g] [n] K) := zy_rrd_sg zy_rDrd zy_rQrd_1 zy_rQrd_2 zy_rQrd_3 zy_rQrd_4 (by decide) hS
def zy_tes : Int → List (List (Int × Int) × List (Int × Int)) → List Int
  | _, [] => []
  | k, q :: r => (k + (q.1.length : Int)) :: zy_tes (k + ((q.1.length + q.2.length : Nat) : Int)) r
def zy_les : Int → List (List (Int × Int) × List (Int × Int)) → List Int
  | _, [] => []
  | k, q :: r => (k + ((q.1.length + q.2.length : Nat) : Int)) :: zy_les (k + ((q.1.length + q.2.length : Nat) : Int)) r
def zy_acs (ls : List (List (Int × Int) × List (Int × Int))) : List (Int × Int) := ls.flatMap fun q => q.1 ++ q.2
theorem zy_code_sn {q : List (Int × Int) × List (Int × Int)} : ∀ {ls : List (List (Int × Int) × List (Int × Int))}, zy_code (ls ++ [q]) = zy_code ls ++ (zy_tm q.1 ++ (zy_m1 q.2 ++ [-59]))
  | [] => by
    show zy_tm q.1 ++ (zy_m1 q.2 ++ (-59 :: zy_code [])) = zy_code [] ++ _
    rfl
  | p :: r => by
    show zy_tm p.1 ++ (zy_m1 p.2 ++ (-59 :: zy_code (r ++ [q]))) = (zy_tm p.1 ++ (zy_m1 p.2 ++ (-59 :: zy_code r))) ++ _
    rw [zy_code_sn, List.append_assoc, List.append_assoc]
    rfl
theorem zy_tot_sn {q : List (Int × Int) × List (Int × Int)} : ∀ {ls : List (List (Int × Int) × List (Int × Int))}, zy_tot (ls ++ [q]) = zy_tot ls + (q.1.length + q.2.length)
  | [] => by
    show q.1.length + q.2.length + zy_tot [] = zy_tot [] + _
    show q.1.length + q.2.length + 0 = 0 + _
    omega
  | p :: r => by
    show p.1.length + p.2.length + zy_tot (r ++ [q]) = p.1.length + p.2.length + zy_tot r + _
    rw [zy_tot_sn]
    omega
theorem zy_tes_sn {q : List (Int × Int) × List (Int × Int)} : ∀ {ls : List (List (Int × Int) × List (Int × Int))} {k : Int}, zy_tes k (ls ++ [q]) = zy_tes k ls ++ [k + (zy_tot ls : Int) + (q.1.length : Int)]
  | [], k => by
    show [k + (q.1.length : Int)] = [k + ((0 : Nat) : Int) + (q.1.length : Int)]
    rw [show k + ((0 : Nat) : Int) = k by omega]
  | p :: r, k => by
    show _ :: zy_tes _ (r ++ [q]) = _ :: (zy_tes _ r ++ _)
    rw [zy_tes_sn]
    congr 3
    rw [show k + ((p.1.length + p.2.length : Nat) : Int) + (zy_tot r : Int) = k + (zy_tot (p :: r) : Int) from by
      show k + ((p.1.length + p.2.length : Nat) : Int) + (zy_tot r : Int) = k + ((p.1.length + p.2.length + zy_tot r : Nat) : Int)
      omega]
theorem zy_les_sn {q : List (Int × Int) × List (Int × Int)} : ∀ {ls : List (List (Int × Int) × List (Int × Int))} {k : Int}, zy_les k (ls ++ [q]) = zy_les k ls ++ [k + (zy_tot ls : Int) + ((q.1.length + q.2.length : Nat) : Int)]
  | [], k => by
    show [k + ((q.1.length + q.2.length : Nat) : Int)] = [k + ((0 : Nat) : Int) + ((q.1.length + q.2.length : Nat) : Int)]
    rw [show k + ((0 : Nat) : Int) = k by omega]
  | p :: r, k => by
    show _ :: zy_les _ (r ++ [q]) = _ :: (zy_les _ r ++ _)
    rw [zy_les_sn]
    congr 3
    rw [show k + ((p.1.length + p.2.length : Nat) : Int) + (zy_tot r : Int) = k + (zy_tot (p :: r) : Int) from by
      show k + ((p.1.length + p.2.length : Nat) : Int) + (zy_tot r : Int) = k + ((p.1.length + p.2.length + zy_tot r : Nat) : Int)
      omega]
theorem zy_acs_sn {q : List (Int × Int) × List (Int × Int)} {ls : List (List (Int × Int) × List (Int × Int))} : zy_acs (ls ++ [q]) = zy_acs ls ++ (q.1 ++ q.2) := by
  unfold zy_acs
  rw [List.flatMap_append]
  simp
/-- what both have read -/
def zy_RT (f g : zx_Rw) (n : Int) (K : Nat) (cg x rg l : Int) : Prop := 0 ≤ x ∧ ((rg = 1 ∧ cg = 1 ∧ ∃ ls, ls ≠ [] ∧ (∀ q ∈ ls, zy_lok q) ∧ l = (zy_tot ls : Int) ∧ zx_L 0 47 [f] [n] K = zy_code ls ∧ zx_L 1 92 [g] [n] K = (zy_acs ls).map Prod.fst ∧ zx_L 2 92 [g] [n] K = (zy_acs ls).map Prod.snd ∧ zx_L 3 92 [g] [n] K = zy_tes 0 ls ∧ zx_L 4 92 [g] [n] K = zy_les 0 ls) ∨ (rg = 0 ∧ (cg = 0 ∨ (cg = 1 ∧ zy_D f n x))))
theorem zy_read {f g : zx_Rw} {n : Int} (H : zy_H f g n) (hI : ∀ x, 0 ≤ x → zy_T f n 36 (zy_s 45 f n x 130 1) (zy_s 45 f n x 130 2) (zy_l 0 45 f n x 130) (zy_s 90 g n x 130 1) (zy_s 90 g n x 130 2) (zy_s 90 g n x 130 3) (zy_l 1 90 g n x 130) (zy_l 2 90 g n x 130)) : ∀ K : Nat, ∃ d cg x rg l, (zx_F 47 [f] [n] K).1 = [d, cg, x] ∧ (zx_F 92 [g] [n] K).1 = [d, rg, x, l] ∧ zy_RT f g n K cg x rg l
  | 0 => by
    obtain ⟨cg, x, rg, l, e1, e2, e3, e4⟩ := zy_line H hI (a := 0) (l0 := 0) (Int.le_refl _)
    obtain ⟨c1, c2⟩ := zy_crd_0 (f := f) (n := n)
    obtain ⟨r1, r2, r3, r4, r5⟩ := zy_rrd_0 (g := g) (n := n)
    rw [e1] at c1
    rw [e2] at r1
    refine ⟨0, cg, x, rg, l, c1, r1, e3, ?_⟩
    rcases e4 with ⟨e4, e5, q, q1, q2, q3, q4, q5, q6, q7⟩ | e4
    · refine Or.inl ⟨e4, e5, [q], by simp, fun y hy => by rw [List.mem_singleton.mp hy]; exact q1, ?_, ?_, ?_, ?_, ?_, ?_⟩
      · rw [q2]
        rfl
      · rw [c2, q3]
        rfl
      · rw [r2, q4]
        unfold zy_acs
        simp
      · rw [r3, q5]
        unfold zy_acs
        simp
      · rw [r4, q6]
        rfl
      · rw [r5, q7]
        rfl
    · exact Or.inr e4
  | K + 1 => by
    obtain ⟨d, cg, x, rg, l, e1, e2, e3, e4⟩ := zy_read H hI K
    obtain ⟨c1, c2, c3⟩ := zy_crd_s e1
    obtain ⟨r1, r2, r3⟩ := zy_rrd_s e2
    by_cases hd : d = 0
    · rcases e4 with ⟨e4, e5, ls, s1, s2, s3, s4, s5, s6, s7, s8⟩ | ⟨e4, e5⟩
      · subst e4 e5
        by_cases hc : x + 1 ≤ n ∧ f x.toNat = 59
        · have hg : g x.toNat = 59 := by
            rw [(H x e3 hc.1).2.2, if_pos (by omega)]
            exact hc.2
          obtain ⟨k1, k2⟩ := c2 hd ⟨by decide, hc⟩
          obtain ⟨m1, m2, m3, m4, m5⟩ := r2 hd ⟨by decide, hc.1, hg⟩
          obtain ⟨cg, y, rg, l', a1, a2, a3, a4⟩ := zy_line H hI (a := x + 1) (l0 := l) (by omega)
          rw [a1] at k1
          rw [a2] at m1
          refine ⟨0, cg, y, rg, l + l', k1, m1, a3, ?_⟩
          rcases a4 with ⟨a4, a5, q, q1, q2, q3, q4, q5, q6, q7⟩ | a4
          · refine Or.inl ⟨a4, a5, ls ++ [q], by simp, fun y hy => ?_, ?_, ?_, ?_, ?_, ?_, ?_⟩
            · rcases List.mem_append.mp hy with hy | hy
              · exact s2 y hy
              · rw [List.mem_singleton.mp hy]
                exact q1
            · rw [zy_tot_sn, s3, q2]
              omega
            · rw [k2, s4, q3, zy_code_sn]
            · rw [m2, s5, q4, zy_acs_sn]
              exact List.map_append.symm
            · rw [m3, s6, q5, zy_acs_sn]
              exact List.map_append.symm
            · rw [m4, s7, q6, zy_tes_sn, s3, Int.zero_add]
            · rw [m5, s8, q7, zy_les_sn, s3, Int.zero_add]
          · exact Or.inr a4
        · have hg : ¬ (x + 1 ≤ n ∧ g x.toNat = 59) := fun h => by
            obtain ⟨m1, m2, m3⟩ := H x e3 h.1
            have h2 := h.2
            rw [m3] at h2
            refine hc ⟨h.1, ?_⟩
            split at h2 <;> omega
          obtain ⟨k1, k2⟩ := c3 hd fun h => hc h.2
          obtain ⟨m1, m2, m3, m4, m5⟩ := r3 hd fun h => hg h.2
          exact ⟨1, 1, x, 1, l, k1, m1, e3, Or.inl ⟨rfl, rfl, ls, s1, s2, s3, by rw [k2, s4], by rw [m2, s5], by rw [m3, s6], by rw [m4, s7], by rw [m5, s8]⟩⟩
      · obtain ⟨k1, -⟩ := c3 hd (fun h => by
          rcases e5 with e5 | ⟨-, e5⟩
          · exact h.1 e5
          · have := e5.2.2.2
            have := h.2.2
            omega)
        obtain ⟨m1, -⟩ := r3 hd (fun h => h.1 e4)
        exact ⟨1, cg, x, rg, l, k1, m1, e3, Or.inr ⟨e4, e5⟩⟩
    · obtain ⟨k1, k2⟩ := c1 hd
      obtain ⟨m1, m2, m3, m4, m5⟩ := r1 hd
      refine ⟨d, cg, x, rg, l, k1, m1, e3, ?_⟩
      rcases e4 with ⟨e4, e5, ls, s1, s2, s3, s4, s5, s6, s7, s8⟩ | e4
      · exact Or.inl ⟨e4, e5, ls, s1, s2, s3, by rw [k2, s4], by rw [m2, s5], by rw [m3, s6], by rw [m4, s7], by rw [m5, s8]⟩
      · exact Or.inr e4
theorem zy_five {f g : zx_Rw} {n : Int} (H : zy_H f g n) {o : Nat} (ho : o < 7) {hh : Nat} (h0 : ∀ x, 0 ≤ x → zy_T f n hh (zy_s (4 + 6 * o) f n x 0 1) (zy_s (4 + 6 * o) f n x 0 2) (zy_l 0 (4 + 6 * o) f n x 0) (zy_s (49 + 6 * o) g n x 0 1) (zy_s (49 + 6 * o) g n x 0 2) (zy_s (49 + 6 * o) g n x 0 3) (zy_l 1 (49 + 6 * o) g n x 0) (zy_l 2 (49 + 6 * o) g n x 0)) : ∀ x, 0 ≤ x → zy_T f n (hh + 5) (zy_s (9 + 6 * o) f n x 130 1) (zy_s (9 + 6 * o) f n x 130 2) (zy_l 0 (9 + 6 * o) f n x 130) (zy_s (54 + 6 * o) g n x 130 1) (zy_s (54 + 6 * o) g n x 130 2) (zy_s (54 + 6 * o) g n x 130 3) (zy_l 1 (54 + 6 * o) g n x 130) (zy_l 2 (54 + 6 * o) g n x 130) := by
  have h1 := zy_L1_r (zy_cD1 o ho) (zy_cQ1_0 o ho) (zy_rD1 o ho) (zy_rQ1_1 o ho) (zy_rQ1_2 o ho) (by omega) (by omega) H h0
  have h2 := zy_L2_r (zy_cD2 o ho) (zy_cQ2_0 o ho) (zy_rD2 o ho) (zy_rQ2_1 o ho) (zy_rQ2_2 o ho) (by omega) (by omega) H h1
  have h3 := zy_L3_r (zy_cD3 o ho) (zy_cQ3_0 o ho) (zy_rD3 o ho) (zy_rQ3_1 o ho) (zy_rQ3_2 o ho) (by omega) (by omega) H h2
  have h4 := zy_L4_r (zy_cD4 o ho) (zy_cQ4_0 o ho) (zy_rD4 o ho) (zy_rQ4_1 o ho) (zy_rQ4_2 o ho) (by omega) (by omega) H h3
  have h5 := zy_L5_r (zy_cD5 o ho) (zy_cQ5_0 o ho) (zy_rD5 o ho) (zy_rQ5_1 o ho) (zy_rQ5_2 o ho) (by omega) (by omega) H h4
  exact h5
theorem zy_all {f g : zx_Rw} {n : Int} (H : zy_H f g n) : ∀ o, o < 7 → (∀ x, 0 ≤ x → zy_T f n (5 * o + 1) (zy_s (4 + 6 * o) f n x 0 1) (zy_s (4 + 6 * o) f n x 0 2) (zy_l 0 (4 + 6 * o) f n x 0) (zy_s (49 + 6 * o) g n x 0 1) (zy_s (49 + 6 * o) g n x 0 2) (zy_s (49 + 6 * o) g n x 0 3) (zy_l 1 (49 + 6 * o) g n x 0) (zy_l 2 (49 + 6 * o) g n x 0)) ∧ ∀ x, 0 ≤ x → zy_T f n (5 * o + 6) (zy_s (9 + 6 * o) f n x 130 1) (zy_s (9 + 6 * o) f n x 130 2) (zy_l 0 (9 + 6 * o) f n x 130) (zy_s (54 + 6 * o) g n x 130 1) (zy_s (54 + 6 * o) g n x 130 2) (zy_s (54 + 6 * o) g n x 130 3) (zy_l 1 (54 + 6 * o) g n x 130) (zy_l 2 (54 + 6 * o) g n x 130)
  | 0, _ => by
    have h0 := zy_op0 H zy_cDZ zy_cQZ_0 zy_rDZ zy_rQZ_1 zy_rQZ_2 (by decide) (by decide)
    exact ⟨h0, zy_five H (o := 0) (by decide) h0⟩
  | o + 1, ho => by
    obtain ⟨a1, a2⟩ := zy_all H o (by omega)
    have hz : o < 6 := by omega
    have hO : ∀ x, 0 ≤ x → zy_T f n (5 * o + 6) (zy_s (4 + 6 * o) f n x 0 1) (zy_s (4 + 6 * o) f n x 0 2) (zy_l 0 (4 + 6 * o) f n x 0) (zy_s (49 + 6 * o) g n x 0 1) (zy_s (49 + 6 * o) g n x 0 2) (zy_s (49 + 6 * o) g n x 0 3) (zy_l 1 (49 + 6 * o) g n x 0) (zy_l 2 (49 + 6 * o) g n x 0) := fun x hx => by
      obtain ⟨b1, b2, b3⟩ := a1 x hx
      exact ⟨b1, b2, b3.imp (fun q => ⟨q.1, q.2.1, q.2.2.1, q.2.2.2.1, zy_gd_mono q.2.2.2.2 (by omega)⟩) id⟩
    have h0 := zy_opS H (zy_cDO o hz) (zy_cQO_0 o hz) (zy_rDO o hz) (zy_rQO_1 o hz) (zy_rQO_2 o hz) (by omega) (by omega) (by omega) (by omega) (by omega) (by omega) (by omega) a2 hO
    exact ⟨h0, zy_five H ho h0⟩
theorem zy_both {f g : zx_Rw} {n : Int} (H : zy_H f g n) : ∀ K : Nat, ∃ d cg x rg l, (zx_F 47 [f] [n] K).1 = [d, cg, x] ∧ (zx_F 92 [g] [n] K).1 = [d, rg, x, l] ∧ zy_RT f g n K cg x rg l := zy_read H ((zy_all H 6 (by decide)).2)
def zy_crs (i : Nat) : zx_Df := (1, 0, [[(0, 0, [])], [(1, 0, []), (0, 0, []), (0, 0, []), (0, 0, []), (0, 130, []), (14, (i : Int), [1, 1, 0]), (1, 0, []), (0, 0, []), (0, 0, []), (0, 0, []), (0, 130, []), (14, (i : Int), [1, 2, 0]), (1, 0, []), (10, 0, []), (11, 0, []), (0, (-1), []), (1, 0, []), (0, 0, []), (0, 0, []), (0, 0, []), (0, 130, []), (14, (i : Int), [1, 2, 0]), (13, 0, [])]], [], [])
theorem zy_cDrs : zx_dn 48 = zy_crs 47 := rfl
def zy_rrs (i : Nat) : zx_Df := (1, 0, [[(0, 0, [])], [(1, 0, []), (0, 0, []), (0, 0, []), (0, 0, []), (0, 130, []), (14, (i : Int), [1, 1, 0]), (1, 0, []), (0, 0, []), (0, 0, []), (0, 0, []), (0, 130, []), (14, (i : Int), [1, 2, 0]), (1, 0, []), (10, 0, []), (11, 0, []), (0, (-1), []), (1, 0, []), (0, 0, []), (0, 0, []), (0, 0, []), (0, 130, []), (14, (i : Int), [1, 2, 0]), (13, 0, [])]], [], [])
theorem zy_rDrs : zx_dn 93 = zy_rrs 92 := rfl
theorem zy_crs_e {f : zx_Rw} {n d u x : Int} (e : (zx_F 47 [f] [n] 130).1 = [d, u, x]) : (zx_F 48 [f] [n] 0).1 = [0, if u ≠ 0 ∧ x = n then -1 else x] := by
  have eC : ∀ P K, zx_G 48 47 [f] P K = zx_F 47 [f] P K := fun P K => zx_G_F (by decide) _ _ _
  rw [zx_F_0, zy_cDrs]
  by_cases h1 : u = 0
  · simp [zy_crs, zx_ev, zx_evs, zx_sst, zx_call, zx_R, eC, e, h1]
  · by_cases h2 : x = n
    · simp [zy_crs, zx_ev, zx_evs, zx_sst, zx_call, zx_R, eC, e, h1, h2]
    · simp [zy_crs, zx_ev, zx_evs, zx_sst, zx_call, zx_R, eC, e, h1, h2]
theorem zy_rrs_e {g : zx_Rw} {n d u x l : Int} (e : (zx_F 92 [g] [n] 130).1 = [d, u, x, l]) : (zx_F 93 [g] [n] 0).1 = [0, if u ≠ 0 ∧ x = n then -1 else x] := by
  have eC : ∀ P K, zx_G 93 92 [g] P K = zx_F 92 [g] P K := fun P K => zx_G_F (by decide) _ _ _
  rw [zx_F_0, zy_rDrs]
  by_cases h1 : u = 0
  · simp [zy_rrs, zx_ev, zx_evs, zx_sst, zx_call, zx_R, eC, e, h1]
  · by_cases h2 : x = n
    · simp [zy_rrs, zx_ev, zx_evs, zx_sst, zx_call, zx_R, eC, e, h1, h2]
    · simp [zy_rrs, zx_ev, zx_evs, zx_sst, zx_call, zx_R, eC, e, h1, h2]
/-- both readers answer the same -/
theorem zy_fin {f g : zx_Rw} {n : Int} (H : zy_H f g n) : (zx_F 48 [f] [n] 0).1 = (zx_F 93 [g] [n] 0).1 := by
  obtain ⟨d, cg, x, rg, l, a1, a2, a3, a4⟩ := zy_both H 130
  rw [zy_crs_e a1, zy_rrs_e a2]
  rcases a4 with ⟨q1, q2, -⟩ | ⟨q1, q2⟩
  · rw [q1, q2]
  · rw [if_neg (c := rg ≠ 0 ∧ x = n) (fun h => h.1 q1)]
    rcases q2 with q2 | ⟨-, q2⟩
    · rw [if_neg (fun h => h.1 q2)]
    · have := q2.2.1
      rw [if_neg (fun h => by have := h.2; omega)]
end
