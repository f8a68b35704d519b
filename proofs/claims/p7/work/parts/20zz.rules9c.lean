/-! BOTH READERS OF A TEXT COME TO THE SAME (wip/p41/theory.py) -/
def zy_L1 (i : Nat) : zx_Df := (2, 0, [[(0, 0, [])], [(1, 0, []), (1, 1, []), (0, 0, []), (0, 0, []), (0, 0, []), (14, (i : Int), [2, 1, 0])], [(1, 0, []), (1, 1, []), (0, 0, []), (0, 0, []), (0, 0, []), (14, (i : Int), [2, 2, 0])]], [[(3, 1, []), (3, 2, []), (0, 1, []), (5, 0, []), (1, 0, []), (9, 0, []), (3, 2, []), (4, 0, []), (0, 42, []), (10, 0, []), (12, 0, []), (3, 2, []), (4, 0, []), (0, 47, []), (10, 0, []), (12, 0, []), (3, 2, []), (4, 0, []), (0, 37, []), (10, 0, []), (12, 0, []), (11, 0, []), (11, 0, []), (12, 0, []), (11, 0, []), (11, 0, []), (0, 0, []), (0, 1, []), (13, 0, [])], [(3, 1, []), (3, 2, []), (0, 1, []), (5, 0, []), (1, 0, []), (9, 0, []), (3, 2, []), (4, 0, []), (0, 42, []), (10, 0, []), (12, 0, []), (3, 2, []), (4, 0, []), (0, 47, []), (10, 0, []), (12, 0, []), (3, 2, []), (4, 0, []), (0, 37, []), (10, 0, []), (12, 0, []), (11, 0, []), (11, 0, []), (12, 0, []), (11, 0, []), (11, 0, []), (1, 0, []), (3, 2, []), (0, 1, []), (5, 0, []), (0, 0, []), (0, 0, []), (0, 0, []), (14, (i : Int), [2, 1, 0]), (3, 1, []), (13, 0, [])], [(3, 1, []), (3, 2, []), (0, 1, []), (5, 0, []), (1, 0, []), (9, 0, []), (3, 2, []), (4, 0, []), (0, 42, []), (10, 0, []), (12, 0, []), (3, 2, []), (4, 0, []), (0, 47, []), (10, 0, []), (12, 0, []), (3, 2, []), (4, 0, []), (0, 37, []), (10, 0, []), (12, 0, []), (11, 0, []), (11, 0, []), (12, 0, []), (11, 0, []), (11, 0, []), (1, 0, []), (3, 2, []), (0, 1, []), (5, 0, []), (0, 0, []), (0, 0, []), (0, 0, []), (14, (i : Int), [2, 2, 0]), (3, 2, []), (13, 0, [])]], [])
def zy_L2 (i : Nat) : zx_Df := (2, 0, [[(0, 0, [])], [(1, 0, []), (1, 1, []), (0, 0, []), (0, 0, []), (0, 130, []), (14, (i : Int), [2, 1, 0])], [(1, 0, []), (1, 1, []), (0, 0, []), (0, 0, []), (0, 130, []), (14, (i : Int), [2, 2, 0])]], [[(3, 1, []), (3, 2, []), (0, 1, []), (5, 0, []), (1, 0, []), (9, 0, []), (3, 2, []), (4, 0, []), (0, 43, []), (10, 0, []), (12, 0, []), (3, 2, []), (4, 0, []), (0, 45, []), (10, 0, []), (12, 0, []), (11, 0, []), (12, 0, []), (11, 0, []), (11, 0, []), (0, 0, []), (0, 1, []), (13, 0, [])], [(3, 1, []), (3, 2, []), (0, 1, []), (5, 0, []), (1, 0, []), (9, 0, []), (3, 2, []), (4, 0, []), (0, 43, []), (10, 0, []), (12, 0, []), (3, 2, []), (4, 0, []), (0, 45, []), (10, 0, []), (12, 0, []), (11, 0, []), (12, 0, []), (11, 0, []), (11, 0, []), (1, 0, []), (3, 2, []), (0, 1, []), (5, 0, []), (0, 0, []), (0, 0, []), (0, 130, []), (14, (i : Int), [2, 1, 0]), (3, 1, []), (13, 0, [])], [(3, 1, []), (3, 2, []), (0, 1, []), (5, 0, []), (1, 0, []), (9, 0, []), (3, 2, []), (4, 0, []), (0, 43, []), (10, 0, []), (12, 0, []), (3, 2, []), (4, 0, []), (0, 45, []), (10, 0, []), (12, 0, []), (11, 0, []), (12, 0, []), (11, 0, []), (11, 0, []), (1, 0, []), (3, 2, []), (0, 1, []), (5, 0, []), (0, 0, []), (0, 0, []), (0, 130, []), (14, (i : Int), [2, 2, 0]), (3, 2, []), (13, 0, [])]], [])
def zy_L3 (i : Nat) : zx_Df := (2, 0, [[(0, 0, [])], [(1, 0, []), (1, 1, []), (0, 0, []), (0, 0, []), (0, 130, []), (14, (i : Int), [2, 1, 0])], [(1, 0, []), (1, 1, []), (0, 0, []), (0, 0, []), (0, 130, []), (14, (i : Int), [2, 2, 0])]], [[(2, 0, []), (0, 0, []), (9, 0, []), (3, 1, []), (3, 2, []), (0, 1, []), (5, 0, []), (1, 0, []), (9, 0, []), (3, 2, []), (4, 0, []), (0, 60, []), (10, 0, []), (12, 0, []), (3, 2, []), (4, 0, []), (0, 61, []), (10, 0, []), (12, 0, []), (3, 2, []), (4, 0, []), (0, 62, []), (10, 0, []), (12, 0, []), (11, 0, []), (11, 0, []), (12, 0, []), (11, 0, []), (11, 0, []), (11, 0, []), (0, 0, []), (0, 1, []), (13, 0, [])], [(2, 0, []), (0, 0, []), (9, 0, []), (3, 1, []), (3, 2, []), (0, 1, []), (5, 0, []), (1, 0, []), (9, 0, []), (3, 2, []), (4, 0, []), (0, 60, []), (10, 0, []), (12, 0, []), (3, 2, []), (4, 0, []), (0, 61, []), (10, 0, []), (12, 0, []), (3, 2, []), (4, 0, []), (0, 62, []), (10, 0, []), (12, 0, []), (11, 0, []), (11, 0, []), (12, 0, []), (11, 0, []), (11, 0, []), (11, 0, []), (1, 0, []), (3, 2, []), (0, 1, []), (5, 0, []), (0, 0, []), (0, 0, []), (0, 130, []), (14, (i : Int), [2, 1, 0]), (3, 1, []), (13, 0, [])], [(2, 0, []), (0, 0, []), (9, 0, []), (3, 1, []), (3, 2, []), (0, 1, []), (5, 0, []), (1, 0, []), (9, 0, []), (3, 2, []), (4, 0, []), (0, 60, []), (10, 0, []), (12, 0, []), (3, 2, []), (4, 0, []), (0, 61, []), (10, 0, []), (12, 0, []), (3, 2, []), (4, 0, []), (0, 62, []), (10, 0, []), (12, 0, []), (11, 0, []), (11, 0, []), (12, 0, []), (11, 0, []), (11, 0, []), (11, 0, []), (1, 0, []), (3, 2, []), (0, 1, []), (5, 0, []), (0, 0, []), (0, 0, []), (0, 130, []), (14, (i : Int), [2, 2, 0]), (3, 2, []), (13, 0, [])]], [])
def zy_L4 (i : Nat) : zx_Df := (2, 0, [[(0, 0, [])], [(1, 0, []), (1, 1, []), (0, 0, []), (0, 0, []), (0, 130, []), (14, (i : Int), [2, 1, 0])], [(1, 0, []), (1, 1, []), (0, 0, []), (0, 0, []), (0, 130, []), (14, (i : Int), [2, 2, 0])]], [[(3, 1, []), (3, 2, []), (0, 1, []), (5, 0, []), (1, 0, []), (9, 0, []), (3, 2, []), (4, 0, []), (0, 38, []), (10, 0, []), (11, 0, []), (11, 0, []), (0, 0, []), (0, 1, []), (13, 0, [])], [(3, 1, []), (3, 2, []), (0, 1, []), (5, 0, []), (1, 0, []), (9, 0, []), (3, 2, []), (4, 0, []), (0, 38, []), (10, 0, []), (11, 0, []), (11, 0, []), (1, 0, []), (3, 2, []), (0, 1, []), (5, 0, []), (0, 0, []), (0, 0, []), (0, 130, []), (14, (i : Int), [2, 1, 0]), (3, 1, []), (13, 0, [])], [(3, 1, []), (3, 2, []), (0, 1, []), (5, 0, []), (1, 0, []), (9, 0, []), (3, 2, []), (4, 0, []), (0, 38, []), (10, 0, []), (11, 0, []), (11, 0, []), (1, 0, []), (3, 2, []), (0, 1, []), (5, 0, []), (0, 0, []), (0, 0, []), (0, 130, []), (14, (i : Int), [2, 2, 0]), (3, 2, []), (13, 0, [])]], [])
def zy_L5 (i : Nat) : zx_Df := (2, 0, [[(0, 0, [])], [(1, 0, []), (1, 1, []), (0, 0, []), (0, 0, []), (0, 130, []), (14, (i : Int), [2, 1, 0])], [(1, 0, []), (1, 1, []), (0, 0, []), (0, 0, []), (0, 130, []), (14, (i : Int), [2, 2, 0])]], [[(3, 1, []), (3, 2, []), (0, 1, []), (5, 0, []), (1, 0, []), (9, 0, []), (3, 2, []), (4, 0, []), (0, 124, []), (10, 0, []), (11, 0, []), (11, 0, []), (0, 0, []), (0, 1, []), (13, 0, [])], [(3, 1, []), (3, 2, []), (0, 1, []), (5, 0, []), (1, 0, []), (9, 0, []), (3, 2, []), (4, 0, []), (0, 124, []), (10, 0, []), (11, 0, []), (11, 0, []), (1, 0, []), (3, 2, []), (0, 1, []), (5, 0, []), (0, 0, []), (0, 0, []), (0, 130, []), (14, (i : Int), [2, 1, 0]), (3, 1, []), (13, 0, [])], [(3, 1, []), (3, 2, []), (0, 1, []), (5, 0, []), (1, 0, []), (9, 0, []), (3, 2, []), (4, 0, []), (0, 124, []), (10, 0, []), (11, 0, []), (11, 0, []), (1, 0, []), (3, 2, []), (0, 1, []), (5, 0, []), (0, 0, []), (0, 0, []), (0, 130, []), (14, (i : Int), [2, 2, 0]), (3, 2, []), (13, 0, [])]], [])
def zy_C (iL : Nat) (iO : Nat) : zx_Df := (2, 0, [[(0, 0, [])], [(1, 1, []), (0, 1, []), (5, 0, []), (1, 0, []), (9, 0, []), (0, 48, []), (1, 1, []), (4, 0, []), (9, 0, []), (1, 1, []), (4, 0, []), (0, 57, []), (9, 0, []), (11, 0, []), (0, 1, []), (0, 0, []), (1, 1, []), (4, 0, []), (0, 0, []), (8, 86, []), (9, 0, []), (0, 1, []), (1, 1, []), (4, 0, []), (0, 40, []), (10, 0, []), (1, 0, []), (1, 1, []), (0, 1, []), (5, 0, []), (0, 0, []), (0, 0, []), (0, 130, []), (14, (iL : Int), [2, 1, 0]), (1, 0, []), (1, 1, []), (0, 1, []), (5, 0, []), (0, 0, []), (0, 0, []), (0, 130, []), (14, (iL : Int), [2, 2, 0]), (0, 1, []), (5, 0, []), (1, 0, []), (9, 0, []), (1, 0, []), (1, 1, []), (0, 1, []), (5, 0, []), (0, 0, []), (0, 0, []), (0, 130, []), (14, (iL : Int), [2, 2, 0]), (4, 0, []), (0, 41, []), (10, 0, []), (11, 0, []), (11, 0, []), (1, 1, []), (4, 0, []), (0, 33, []), (10, 0, []), (12, 0, []), (1, 1, []), (4, 0, []), (0, 45, []), (10, 0, []), (12, 0, []), (11, 0, []), (12, 0, []), (1, 0, []), (1, 1, []), (0, 1, []), (5, 0, []), (0, 0, []), (0, 0, []), (0, 0, []), (14, (iO : Int), [2, 1, 0]), (0, 0, []), (13, 0, []), (13, 0, []), (13, 0, []), (13, 0, []), (0, 0, []), (13, 0, [])], [(1, 1, []), (0, 1, []), (5, 0, []), (1, 0, []), (9, 0, []), (0, 48, []), (1, 1, []), (4, 0, []), (9, 0, []), (1, 1, []), (4, 0, []), (0, 57, []), (9, 0, []), (11, 0, []), (1, 0, []), (1, 1, []), (0, 0, []), (0, 0, []), (0, 5, []), (14, 2, [2, 1, 0]), (0, 0, []), (1, 1, []), (4, 0, []), (0, 0, []), (8, 86, []), (9, 0, []), (1, 1, []), (0, 1, []), (5, 0, []), (1, 1, []), (4, 0, []), (0, 40, []), (10, 0, []), (1, 0, []), (1, 1, []), (0, 1, []), (5, 0, []), (0, 0, []), (0, 0, []), (0, 130, []), (14, (iL : Int), [2, 1, 0]), (1, 0, []), (1, 1, []), (0, 1, []), (5, 0, []), (0, 0, []), (0, 0, []), (0, 130, []), (14, (iL : Int), [2, 2, 0]), (0, 1, []), (5, 0, []), (1, 0, []), (9, 0, []), (1, 0, []), (1, 1, []), (0, 1, []), (5, 0, []), (0, 0, []), (0, 0, []), (0, 130, []), (14, (iL : Int), [2, 2, 0]), (4, 0, []), (0, 41, []), (10, 0, []), (11, 0, []), (11, 0, []), (1, 0, []), (1, 1, []), (0, 1, []), (5, 0, []), (0, 0, []), (0, 0, []), (0, 130, []), (14, (iL : Int), [2, 2, 0]), (0, 1, []), (5, 0, []), (1, 0, []), (1, 1, []), (0, 1, []), (5, 0, []), (0, 0, []), (0, 0, []), (0, 130, []), (14, (iL : Int), [2, 2, 0]), (13, 0, []), (1, 1, []), (4, 0, []), (0, 33, []), (10, 0, []), (12, 0, []), (1, 1, []), (4, 0, []), (0, 45, []), (10, 0, []), (12, 0, []), (11, 0, []), (12, 0, []), (1, 0, []), (1, 1, []), (0, 1, []), (5, 0, []), (0, 0, []), (0, 0, []), (0, 0, []), (14, (iO : Int), [2, 2, 0]), (1, 1, []), (13, 0, []), (13, 0, []), (13, 0, []), (13, 0, []), (1, 1, []), (13, 0, [])]], [], [])
def zy_R (iL : Nat) (iO : Nat) : zx_Df := (2, 0, [[(0, 0, [])], [(1, 0, []), (1, 1, []), (9, 0, []), (12, 0, []), (0, 0, []), (1, 1, []), (4, 0, []), (0, 0, []), (8, 86, []), (9, 0, []), (11, 0, []), (0, 1, []), (1, 0, []), (1, 1, []), (9, 0, []), (12, 0, []), (1, 1, []), (4, 0, []), (0, 33, []), (10, 0, []), (12, 0, []), (1, 1, []), (4, 0, []), (0, 45, []), (10, 0, []), (12, 0, []), (11, 0, []), (12, 0, []), (11, 0, []), (1, 0, []), (1, 1, []), (0, 1, []), (5, 0, []), (0, 0, []), (0, 0, []), (0, 0, []), (14, (iO : Int), [2, 1, 0]), (1, 0, []), (1, 1, []), (9, 0, []), (12, 0, []), (1, 1, []), (4, 0, []), (0, 40, []), (10, 0, []), (11, 0, []), (1, 0, []), (1, 1, []), (0, 1, []), (5, 0, []), (0, 0, []), (0, 0, []), (0, 130, []), (14, (iL : Int), [2, 1, 0]), (1, 0, []), (1, 1, []), (0, 1, []), (5, 0, []), (0, 0, []), (0, 0, []), (0, 130, []), (14, (iL : Int), [2, 2, 0]), (0, 1, []), (5, 0, []), (1, 0, []), (9, 0, []), (1, 0, []), (1, 1, []), (0, 1, []), (5, 0, []), (0, 0, []), (0, 0, []), (0, 130, []), (14, (iL : Int), [2, 2, 0]), (4, 0, []), (0, 41, []), (10, 0, []), (11, 0, []), (11, 0, []), (1, 0, []), (1, 1, []), (0, 0, []), (0, 0, []), (0, 0, []), (14, 3, [2, 1, 0]), (13, 0, []), (13, 0, []), (13, 0, [])], [(1, 0, []), (1, 1, []), (9, 0, []), (12, 0, []), (0, 0, []), (1, 1, []), (4, 0, []), (0, 0, []), (8, 86, []), (9, 0, []), (11, 0, []), (1, 1, []), (0, 1, []), (5, 0, []), (1, 0, []), (1, 1, []), (9, 0, []), (12, 0, []), (1, 1, []), (4, 0, []), (0, 33, []), (10, 0, []), (12, 0, []), (1, 1, []), (4, 0, []), (0, 45, []), (10, 0, []), (12, 0, []), (11, 0, []), (12, 0, []), (11, 0, []), (1, 0, []), (1, 1, []), (0, 1, []), (5, 0, []), (0, 0, []), (0, 0, []), (0, 0, []), (14, (iO : Int), [2, 2, 0]), (1, 0, []), (1, 1, []), (9, 0, []), (12, 0, []), (1, 1, []), (4, 0, []), (0, 40, []), (10, 0, []), (11, 0, []), (1, 0, []), (1, 1, []), (0, 1, []), (5, 0, []), (0, 0, []), (0, 0, []), (0, 130, []), (14, (iL : Int), [2, 1, 0]), (1, 0, []), (1, 1, []), (0, 1, []), (5, 0, []), (0, 0, []), (0, 0, []), (0, 130, []), (14, (iL : Int), [2, 2, 0]), (0, 1, []), (5, 0, []), (1, 0, []), (9, 0, []), (1, 0, []), (1, 1, []), (0, 1, []), (5, 0, []), (0, 0, []), (0, 0, []), (0, 130, []), (14, (iL : Int), [2, 2, 0]), (4, 0, []), (0, 41, []), (10, 0, []), (11, 0, []), (11, 0, []), (1, 0, []), (1, 1, []), (0, 1, []), (5, 0, []), (0, 0, []), (0, 0, []), (0, 130, []), (14, (iL : Int), [2, 2, 0]), (0, 1, []), (5, 0, []), (1, 0, []), (1, 1, []), (0, 1, []), (5, 0, []), (0, 0, []), (0, 0, []), (0, 130, []), (14, (iL : Int), [2, 2, 0]), (13, 0, []), (1, 0, []), (1, 1, []), (0, 0, []), (0, 0, []), (0, 0, []), (14, 3, [2, 2, 0]), (13, 0, []), (13, 0, []), (13, 0, [])]], [], [])
def zy_C0 : zx_Df := (2, 0, [[(0, 0, [])], [(1, 1, []), (0, 1, []), (5, 0, []), (1, 0, []), (9, 0, []), (0, 48, []), (1, 1, []), (4, 0, []), (9, 0, []), (1, 1, []), (4, 0, []), (0, 57, []), (9, 0, []), (11, 0, []), (0, 1, []), (0, 0, []), (1, 1, []), (4, 0, []), (0, 0, []), (8, 86, []), (9, 0, []), (0, 1, []), (0, 0, []), (13, 0, []), (13, 0, []), (0, 0, []), (13, 0, [])], [(1, 1, []), (0, 1, []), (5, 0, []), (1, 0, []), (9, 0, []), (0, 48, []), (1, 1, []), (4, 0, []), (9, 0, []), (1, 1, []), (4, 0, []), (0, 57, []), (9, 0, []), (11, 0, []), (1, 0, []), (1, 1, []), (0, 0, []), (0, 0, []), (0, 5, []), (14, 2, [2, 1, 0]), (0, 0, []), (1, 1, []), (4, 0, []), (0, 0, []), (8, 86, []), (9, 0, []), (1, 1, []), (0, 1, []), (5, 0, []), (1, 1, []), (13, 0, []), (13, 0, []), (1, 1, []), (13, 0, [])]], [], [])
def zy_R0 : zx_Df := (2, 0, [[(0, 0, [])], [(1, 0, []), (1, 1, []), (9, 0, []), (12, 0, []), (0, 0, []), (1, 1, []), (4, 0, []), (0, 0, []), (8, 86, []), (9, 0, []), (11, 0, []), (0, 1, []), (1, 0, []), (1, 1, []), (9, 0, []), (12, 0, []), (1, 1, []), (4, 0, []), (0, 33, []), (10, 0, []), (12, 0, []), (1, 1, []), (4, 0, []), (0, 45, []), (10, 0, []), (12, 0, []), (11, 0, []), (12, 0, []), (11, 0, []), (0, 0, []), (1, 0, []), (1, 1, []), (9, 0, []), (12, 0, []), (1, 1, []), (4, 0, []), (0, 40, []), (10, 0, []), (11, 0, []), (0, 0, []), (1, 0, []), (1, 1, []), (0, 0, []), (0, 0, []), (0, 0, []), (14, 3, [2, 1, 0]), (13, 0, []), (13, 0, []), (13, 0, [])], [(1, 0, []), (1, 1, []), (9, 0, []), (12, 0, []), (0, 0, []), (1, 1, []), (4, 0, []), (0, 0, []), (8, 86, []), (9, 0, []), (11, 0, []), (1, 1, []), (0, 1, []), (5, 0, []), (1, 0, []), (1, 1, []), (9, 0, []), (12, 0, []), (1, 1, []), (4, 0, []), (0, 33, []), (10, 0, []), (12, 0, []), (1, 1, []), (4, 0, []), (0, 45, []), (10, 0, []), (12, 0, []), (11, 0, []), (12, 0, []), (11, 0, []), (1, 1, []), (1, 0, []), (1, 1, []), (9, 0, []), (12, 0, []), (1, 1, []), (4, 0, []), (0, 40, []), (10, 0, []), (11, 0, []), (1, 1, []), (1, 0, []), (1, 1, []), (0, 0, []), (0, 0, []), (0, 0, []), (14, 3, [2, 2, 0]), (13, 0, []), (13, 0, []), (13, 0, [])]], [], [])
def zy_ln (i : Nat) : zx_Df := (2, 0, [[(0, 0, [])], [(1, 0, []), (1, 1, []), (0, 0, []), (0, 0, []), (0, 130, []), (14, (i : Int), [2, 1, 0]), (1, 0, []), (1, 1, []), (0, 0, []), (0, 0, []), (0, 130, []), (14, (i : Int), [2, 1, 0]), (1, 0, []), (1, 1, []), (0, 0, []), (0, 0, []), (0, 130, []), (14, (i : Int), [2, 2, 0]), (0, 1, []), (5, 0, []), (1, 0, []), (9, 0, []), (1, 0, []), (1, 1, []), (0, 0, []), (0, 0, []), (0, 130, []), (14, (i : Int), [2, 2, 0]), (4, 0, []), (0, 63, []), (10, 0, []), (11, 0, []), (11, 0, []), (1, 0, []), (1, 0, []), (1, 1, []), (0, 0, []), (0, 0, []), (0, 130, []), (14, (i : Int), [2, 2, 0]), (0, 1, []), (5, 0, []), (0, 0, []), (0, 0, []), (0, 130, []), (14, (i : Int), [2, 1, 0]), (0, 1, []), (13, 0, []), (0, 0, []), (13, 0, [])], [(1, 0, []), (1, 1, []), (0, 0, []), (0, 0, []), (0, 130, []), (14, (i : Int), [2, 1, 0]), (1, 0, []), (1, 1, []), (0, 0, []), (0, 0, []), (0, 130, []), (14, (i : Int), [2, 2, 0]), (0, 1, []), (5, 0, []), (1, 0, []), (9, 0, []), (1, 0, []), (1, 1, []), (0, 0, []), (0, 0, []), (0, 130, []), (14, (i : Int), [2, 2, 0]), (4, 0, []), (0, 63, []), (10, 0, []), (11, 0, []), (11, 0, []), (1, 0, []), (1, 0, []), (1, 1, []), (0, 0, []), (0, 0, []), (0, 130, []), (14, (i : Int), [2, 2, 0]), (0, 1, []), (5, 0, []), (0, 0, []), (0, 0, []), (0, 130, []), (14, (i : Int), [2, 2, 0]), (1, 0, []), (1, 1, []), (0, 0, []), (0, 0, []), (0, 130, []), (14, (i : Int), [2, 2, 0]), (13, 0, [])]], [], [])
def zy_rd (i : Nat) : zx_Df := (1, 0, [[(0, 0, [])], [(1, 0, []), (0, 0, []), (0, 0, []), (0, 0, []), (0, 0, []), (14, (i : Int), [2, 1, 0])], [(1, 0, []), (0, 0, []), (0, 0, []), (0, 0, []), (0, 0, []), (14, (i : Int), [2, 2, 0])]], [[(3, 1, []), (3, 2, []), (0, 1, []), (5, 0, []), (1, 0, []), (9, 0, []), (3, 2, []), (4, 0, []), (0, 59, []), (10, 0, []), (11, 0, []), (11, 0, []), (0, 0, []), (0, 1, []), (13, 0, [])], [(3, 1, []), (3, 2, []), (0, 1, []), (5, 0, []), (1, 0, []), (9, 0, []), (3, 2, []), (4, 0, []), (0, 59, []), (10, 0, []), (11, 0, []), (11, 0, []), (1, 0, []), (3, 2, []), (0, 1, []), (5, 0, []), (0, 0, []), (0, 0, []), (0, 0, []), (14, (i : Int), [2, 1, 0]), (3, 1, []), (13, 0, [])], [(3, 1, []), (3, 2, []), (0, 1, []), (5, 0, []), (1, 0, []), (9, 0, []), (3, 2, []), (4, 0, []), (0, 59, []), (10, 0, []), (11, 0, []), (11, 0, []), (1, 0, []), (3, 2, []), (0, 1, []), (5, 0, []), (0, 0, []), (0, 0, []), (0, 0, []), (14, (i : Int), [2, 2, 0]), (3, 2, []), (13, 0, [])]], [])
def zy_rs (i : Nat) : zx_Df := (1, 0, [[(0, 0, [])], [(1, 0, []), (0, 0, []), (0, 0, []), (0, 0, []), (0, 130, []), (14, (i : Int), [1, 1, 0]), (1, 0, []), (0, 0, []), (0, 0, []), (0, 0, []), (0, 130, []), (14, (i : Int), [1, 2, 0]), (1, 0, []), (10, 0, []), (11, 0, []), (0, (-1), []), (1, 0, []), (0, 0, []), (0, 0, []), (0, 0, []), (0, 130, []), (14, (i : Int), [1, 2, 0]), (13, 0, [])]], [], [])
def zy_nu : zx_Df := (2, 0, [[(0, 0, [])], [(1, 1, [])]], [[(2, 0, []), (0, 3, []), (9, 0, []), (3, 1, []), (0, 1, []), (5, 0, []), (1, 0, []), (9, 0, []), (0, 48, []), (3, 1, []), (4, 0, []), (9, 0, []), (3, 1, []), (4, 0, []), (0, 57, []), (9, 0, []), (11, 0, []), (11, 0, []), (11, 0, []), (0, 0, []), (0, 1, []), (13, 0, [])], [(2, 0, []), (0, 3, []), (9, 0, []), (3, 1, []), (0, 1, []), (5, 0, []), (1, 0, []), (9, 0, []), (0, 48, []), (3, 1, []), (4, 0, []), (9, 0, []), (3, 1, []), (4, 0, []), (0, 57, []), (9, 0, []), (11, 0, []), (11, 0, []), (11, 0, []), (3, 1, []), (0, 1, []), (5, 0, []), (3, 1, []), (13, 0, [])]], [])
def zy_fg : zx_Df := (2, 0, [[(0, 0, [])], [(1, 0, []), (1, 1, []), (0, 0, []), (0, 0, []), (0, 5, []), (14, 2, [2, 1, 0]), (1, 1, []), (10, 0, []), (12, 0, []), (1, 0, []), (1, 1, []), (0, 0, []), (0, 0, []), (0, 5, []), (14, 2, [2, 1, 0]), (0, 1, []), (5, 0, []), (1, 0, []), (9, 0, []), (0, 48, []), (1, 0, []), (1, 1, []), (0, 0, []), (0, 0, []), (0, 5, []), (14, 2, [2, 1, 0]), (4, 0, []), (9, 0, []), (1, 0, []), (1, 1, []), (0, 0, []), (0, 0, []), (0, 5, []), (14, 2, [2, 1, 0]), (4, 0, []), (0, 57, []), (9, 0, []), (11, 0, []), (11, 0, []), (12, 0, []), (11, 0, [])], [(1, 0, []), (1, 1, []), (0, 0, []), (0, 0, []), (0, 5, []), (14, 2, [2, 1, 0])]], [], [])
theorem zy_cL1 : ∀ o, o < 7 → zx_dn (5 + 6 * o) = zy_L1 (4 + 6 * o) := fun o h => match o, h with
  | 0, _ => rfl
  | 1, _ => rfl
  | 2, _ => rfl
  | 3, _ => rfl
  | 4, _ => rfl
  | 5, _ => rfl
  | 6, _ => rfl
  | n + 7, h => absurd h (Nat.not_lt.mpr (Nat.le_add_left 7 n))
theorem zy_cL2 : ∀ o, o < 7 → zx_dn (6 + 6 * o) = zy_L2 (5 + 6 * o) := fun o h => match o, h with
  | 0, _ => rfl
  | 1, _ => rfl
  | 2, _ => rfl
  | 3, _ => rfl
  | 4, _ => rfl
  | 5, _ => rfl
  | 6, _ => rfl
  | n + 7, h => absurd h (Nat.not_lt.mpr (Nat.le_add_left 7 n))
theorem zy_cL3 : ∀ o, o < 7 → zx_dn (7 + 6 * o) = zy_L3 (6 + 6 * o) := fun o h => match o, h with
  | 0, _ => rfl
  | 1, _ => rfl
  | 2, _ => rfl
  | 3, _ => rfl
  | 4, _ => rfl
  | 5, _ => rfl
  | 6, _ => rfl
  | n + 7, h => absurd h (Nat.not_lt.mpr (Nat.le_add_left 7 n))
theorem zy_cL4 : ∀ o, o < 7 → zx_dn (8 + 6 * o) = zy_L4 (7 + 6 * o) := fun o h => match o, h with
  | 0, _ => rfl
  | 1, _ => rfl
  | 2, _ => rfl
  | 3, _ => rfl
  | 4, _ => rfl
  | 5, _ => rfl
  | 6, _ => rfl
  | n + 7, h => absurd h (Nat.not_lt.mpr (Nat.le_add_left 7 n))
theorem zy_cL5 : ∀ o, o < 7 → zx_dn (9 + 6 * o) = zy_L5 (8 + 6 * o) := fun o h => match o, h with
  | 0, _ => rfl
  | 1, _ => rfl
  | 2, _ => rfl
  | 3, _ => rfl
  | 4, _ => rfl
  | 5, _ => rfl
  | 6, _ => rfl
  | n + 7, h => absurd h (Nat.not_lt.mpr (Nat.le_add_left 7 n))
theorem zy_cO : ∀ o, o < 6 → zx_dn (4 + 6 * (o + 1)) = zy_C (9 + 6 * o) (4 + 6 * o) := fun o h => match o, h with
  | 0, _ => rfl
  | 1, _ => rfl
  | 2, _ => rfl
  | 3, _ => rfl
  | 4, _ => rfl
  | 5, _ => rfl
  | n + 6, h => absurd h (Nat.not_lt.mpr (Nat.le_add_left 6 n))
theorem zy_cO0 : zx_dn 4 = zy_C0 := rfl
theorem zy_cln : zx_dn 46 = zy_ln 45 := rfl
theorem zy_crd : zx_dn 47 = zy_rd 46 := rfl
theorem zy_crs : zx_dn 48 = zy_rs 47 := rfl
theorem zy_rL1 : ∀ o, o < 7 → zx_dn (50 + 6 * o) = zy_L1 (49 + 6 * o) := fun o h => match o, h with
  | 0, _ => rfl
  | 1, _ => rfl
  | 2, _ => rfl
  | 3, _ => rfl
  | 4, _ => rfl
  | 5, _ => rfl
  | 6, _ => rfl
  | n + 7, h => absurd h (Nat.not_lt.mpr (Nat.le_add_left 7 n))
theorem zy_rL2 : ∀ o, o < 7 → zx_dn (51 + 6 * o) = zy_L2 (50 + 6 * o) := fun o h => match o, h with
  | 0, _ => rfl
  | 1, _ => rfl
  | 2, _ => rfl
  | 3, _ => rfl
  | 4, _ => rfl
  | 5, _ => rfl
  | 6, _ => rfl
  | n + 7, h => absurd h (Nat.not_lt.mpr (Nat.le_add_left 7 n))
theorem zy_rL3 : ∀ o, o < 7 → zx_dn (52 + 6 * o) = zy_L3 (51 + 6 * o) := fun o h => match o, h with
  | 0, _ => rfl
  | 1, _ => rfl
  | 2, _ => rfl
  | 3, _ => rfl
  | 4, _ => rfl
  | 5, _ => rfl
  | 6, _ => rfl
  | n + 7, h => absurd h (Nat.not_lt.mpr (Nat.le_add_left 7 n))
theorem zy_rL4 : ∀ o, o < 7 → zx_dn (53 + 6 * o) = zy_L4 (52 + 6 * o) := fun o h => match o, h with
  | 0, _ => rfl
  | 1, _ => rfl
  | 2, _ => rfl
  | 3, _ => rfl
  | 4, _ => rfl
  | 5, _ => rfl
  | 6, _ => rfl
  | n + 7, h => absurd h (Nat.not_lt.mpr (Nat.le_add_left 7 n))
theorem zy_rL5 : ∀ o, o < 7 → zx_dn (54 + 6 * o) = zy_L5 (53 + 6 * o) := fun o h => match o, h with
  | 0, _ => rfl
  | 1, _ => rfl
  | 2, _ => rfl
  | 3, _ => rfl
  | 4, _ => rfl
  | 5, _ => rfl
  | 6, _ => rfl
  | n + 7, h => absurd h (Nat.not_lt.mpr (Nat.le_add_left 7 n))
theorem zy_rO : ∀ o, o < 6 → zx_dn (49 + 6 * (o + 1)) = zy_R (54 + 6 * o) (49 + 6 * o) := fun o h => match o, h with
  | 0, _ => rfl
  | 1, _ => rfl
  | 2, _ => rfl
  | 3, _ => rfl
  | 4, _ => rfl
  | 5, _ => rfl
  | n + 6, h => absurd h (Nat.not_lt.mpr (Nat.le_add_left 6 n))
theorem zy_rO0 : zx_dn 49 = zy_R0 := rfl
theorem zy_rln : zx_dn 91 = zy_ln 90 := rfl
theorem zy_rrd : zx_dn 92 = zy_rd 91 := rfl
theorem zy_rrs : zx_dn 93 = zy_rs 92 := rfl
theorem zy_dnu : zx_dn 2 = zy_nu := rfl
theorem zy_dfg : zx_dn 3 = zy_fg := rfl
/-- a number of a told function's state -/
def zy_s (id : Nat) (h : zx_Rw) (n a : Int) (K j : Nat) : Int := (zx_F id [h] [n, a] K).1.getD j 0
theorem zx_F_0 {id : Nat} {R : List zx_Rw} {P : List Int} : (zx_F id R P 0).1 = (zx_dn id).2.2.1.map (zx_ev (zx_G id) R [] P 0 []) := rfl
theorem zx_F_s {id : Nat} {R : List zx_Rw} {P : List Int} {K : Nat} {d : Int} {S : List Int} (h : (zx_F id R P K).1 = d :: S) : (d ≠ 0 → (zx_F id R P (K + 1)).1 = d :: S) ∧ (d = 0 → (zx_F id R P (K + 1)).1 = (zx_dn id).2.2.2.1.map (zx_ev (zx_G id) R (zx_F id R P K).2 P K (d :: S))) := by
  have e : zx_F id R P (K + 1) = if (zx_F id R P K).1.getD 0 0 = 0 then ((zx_dn id).2.2.2.1.map (zx_ev (zx_G id) R (zx_F id R P K).2 P K (zx_F id R P K).1), zx_sto (zx_G id) R (zx_F id R P K).2 P K (zx_F id R P K).1 (zx_dn id).2.2.2.2 (zx_F id R P K).2) else zx_F id R P K := rfl
  have e0 : (zx_F id R P K).1.getD 0 0 = d := by rw [h]; rfl
  rw [e, e0]
  refine ⟨fun hd => ?_, fun hd => ?_⟩
  · rw [if_neg hd, h]
  · rw [if_pos hd, h]
/-- turns of a loop over signs -/
def zy_st (h : zx_Rw) (n : Int) (sg : Int → Prop) (lim : Nat → Prop) (I : Nat → Int → Int) (C : Nat → List Int) : Prop := ∀ K d g x, C K = [d, g, x] → (d ≠ 0 → C (K + 1) = [d, g, x]) ∧ (d = 0 → (g ≠ 0 ∧ x + 1 ≤ n ∧ sg (h x.toNat) ∧ lim K) → C (K + 1) = [0, I 1 (x + 1), I 2 (x + 1)]) ∧ (d = 0 → ¬ (g ≠ 0 ∧ x + 1 ≤ n ∧ sg (h x.toNat) ∧ lim K) → C (K + 1) = [1, g, x])
/-- the class's tape and the reference's -/
def zy_H (f g : zx_Rw) (n : Int) : Prop := ∀ x : Int, 0 ≤ x → x + 1 ≤ n → 0 ≤ f x.toNat ∧ f x.toNat ≤ 255 ∧ g x.toNat = if f x.toNat < 128 then f x.toNat else f x.toNat - 256
def zy_D (f : zx_Rw) (n x : Int) : Prop := 0 ≤ x ∧ x + 1 ≤ n ∧ 48 ≤ f x.toNat ∧ f x.toNat ≤ 57
/-- what the class comes to and what the reference comes to -/
def zy_RR (f : zx_Rw) (n cg ca rg ra : Int) : Prop := ca = ra ∧ 0 ≤ ca ∧ ((rg = 1 ∧ cg = 1) ∨ (rg = 0 ∧ (cg = 0 ∨ (cg = 1 ∧ zy_D f n ca))))
theorem zy_lv {f g : zx_Rw} {n a : Int} (H : zy_H f g n) {sg : Int → Prop} (hsg : ∀ v, sg v → v < 128 ∧ ¬ (48 ≤ v ∧ v ≤ 57) ∧ 0 ≤ v) {lim : Nat → Prop} {IC IR : Nat → Int → Int} {C R : Nat → List Int} (ha : 0 ≤ a) (hI : ∀ x, 0 ≤ x → zy_RR f n (IC 1 x) (IC 2 x) (IR 1 x) (IR 2 x))
    (hC0 : C 0 = [0, IC 1 a, IC 2 a]) (hR0 : R 0 = [0, IR 1 a, IR 2 a]) (hCs : zy_st f n sg lim IC C) (hRs : zy_st g n sg lim IR R) : ∀ K, ∃ d cg ca rg ra, C K = [d, cg, ca] ∧ R K = [d, rg, ra] ∧ zy_RR f n cg ca rg ra
  | 0 => ⟨0, _, _, _, _, hC0, hR0, hI a ha⟩
  | K + 1 => by
    obtain ⟨d, cg, ca, rg, ra, e1, e2, e3⟩ := zy_lv H hsg ha hI hC0 hR0 hCs hRs K
    obtain ⟨c1, c2, c3⟩ := hCs K d cg ca e1
    obtain ⟨r1, r2, r3⟩ := hRs K d rg ra e2
    by_cases hd : d = 0
    · obtain ⟨q1, q2, q3⟩ := e3
      subst q1
      rcases q3 with ⟨q3, q4⟩ | ⟨q3, q4⟩
      · by_cases hx : ca + 1 ≤ n
        · obtain ⟨h1, h2, h3⟩ := H ca q2 hx
          have hs : sg (f ca.toNat) ↔ sg (g ca.toNat) := by
            rw [h3]
            split
            · exact Iff.rfl
            · rename_i hge
              refine ⟨fun h => absurd (hsg _ h).1 (by omega), fun h => absurd (hsg _ h).2.2 (by omega)⟩
          by_cases hc : cg ≠ 0 ∧ ca + 1 ≤ n ∧ sg (f ca.toNat) ∧ lim K
          · exact ⟨0, _, _, _, _, c2 hd hc, r2 hd ⟨by omega, hx, hs.mp hc.2.2.1, hc.2.2.2⟩, hI _ (by omega)⟩
          · refine ⟨1, _, _, _, _, c3 hd hc, r3 hd (fun hr => hc ⟨by omega, hx, hs.mpr hr.2.2.1, hr.2.2.2⟩), rfl, q2, Or.inl ⟨q3, q4⟩⟩
        · exact ⟨1, _, _, _, _, c3 hd (fun h => hx h.2.1), r3 hd (fun h => hx h.2.1), rfl, q2, Or.inl ⟨q3, q4⟩⟩
      · refine ⟨1, _, _, _, _, c3 hd (fun h => ?_), r3 hd (fun h => h.1 q3), rfl, q2, Or.inr ⟨q3, q4⟩⟩
        rcases q4 with q4 | ⟨-, q4⟩
        · exact h.1 q4
        · exact (hsg _ h.2.2.1).2.1 ⟨q4.2.2.1, q4.2.2.2⟩
    · exact ⟨d, _, _, _, _, c1 hd, r1 hd, e3⟩
theorem zy_L1_0 {id i : Nat} (hd : zx_dn id = zy_L1 i) (hi : i < id) {h : zx_Rw} {n a : Int} : (zx_F id [h] [n, a] 0).1 = [0, zy_s i h n a 0 1, zy_s i h n a 0 2] := by
  rw [zx_F_0, hd]
  simp [zy_L1, zx_ev, zx_evs, zx_sst, zx_call, zx_R, zx_G_F hi, zy_s]
theorem zy_L1_s {id i : Nat} (hd : zx_dn id = zy_L1 i) (hi : i < id) {h : zx_Rw} {n a : Int} : zy_st h n (fun v => v = 42 ∨ v = 47 ∨ v = 37) (fun _ => True) (fun j x => zy_s i h n x 0 j) (fun K => (zx_F id [h] [n, a] K).1) := by
  intro K d g x hS
  obtain ⟨c1, c2⟩ := zx_F_s hS
  refine ⟨c1, fun hd0 hc => ?_, fun hd0 hc => ?_⟩
  · obtain ⟨q1, q2, q3, q4⟩ := hc
    show (zx_F id [h] [n, a] (K + 1)).1 = _
    rw [c2 hd0, hd]
    rcases q3 with q3 | q3 | q3
    · simp [zy_L1, zx_ev, zx_evs, zx_sst, zx_call, zx_R, zx_G_F hi, zy_s, q1, q2, q3]
    · simp [zy_L1, zx_ev, zx_evs, zx_sst, zx_call, zx_R, zx_G_F hi, zy_s, q1, q2, q3]
    · simp [zy_L1, zx_ev, zx_evs, zx_sst, zx_call, zx_R, zx_G_F hi, zy_s, q1, q2, q3]
  · show (zx_F id [h] [n, a] (K + 1)).1 = _
    rw [c2 hd0, hd]
    by_cases hg : g = 0
    · simp [zy_L1, zx_ev, zx_evs, zx_sst, zx_call, zx_R, zx_G_F hi, zy_s, hg]
    · by_cases hx : x + 1 ≤ n
      · have hn : ¬ (h x.toNat = 42 ∨ h x.toNat = 47 ∨ h x.toNat = 37) := fun hs => hc ⟨hg, hx, hs, trivial⟩
        simp only [not_or] at hn
        simp [zy_L1, zx_ev, zx_evs, zx_sst, zx_call, zx_R, zx_G_F hi, zy_s, hg, hx, hn.1, hn.2.1, hn.2.2]
      · simp [zy_L1, zx_ev, zx_evs, zx_sst, zx_call, zx_R, zx_G_F hi, zy_s, hg, hx]
theorem zy_L1_r {c r i j : Nat} (hc : zx_dn c = zy_L1 i) (hr : zx_dn r = zy_L1 j) (hi : i < c) (hj : j < r) {f g : zx_Rw} {n : Int} (H : zy_H f g n) (hI : ∀ x, 0 ≤ x → zy_RR f n (zy_s i f n x 0 1) (zy_s i f n x 0 2) (zy_s j g n x 0 1) (zy_s j g n x 0 2)) : ∀ a, 0 ≤ a → zy_RR f n (zy_s c f n a 130 1) (zy_s c f n a 130 2) (zy_s r g n a 130 1) (zy_s r g n a 130 2) := fun a ha => by
  obtain ⟨d, cg, ca, rg, ra, e1, e2, e3⟩ := zy_lv H (sg := fun v => v = 42 ∨ v = 47 ∨ v = 37) (lim := fun _ => True) (IC := fun j x => zy_s i f n x 0 j) (IR := fun k x => zy_s j g n x 0 k) (C := fun K => (zx_F c [f] [n, a] K).1) (R := fun K => (zx_F r [g] [n, a] K).1) (fun v hv => by omega) ha hI (zy_L1_0 hc hi (a := a)) (zy_L1_0 hr hj (a := a)) (zy_L1_s hc hi (a := a)) (zy_L1_s hr hj (a := a)) 130
  unfold zy_s
  have e1 : (zx_F c [f] [n, a] 130).1 = [d, cg, ca] := e1
  have e2 : (zx_F r [g] [n, a] 130).1 = [d, rg, ra] := e2
  rw [e1, e2]
  exact e3
theorem zy_L2_0 {id i : Nat} (hd : zx_dn id = zy_L2 i) (hi : i < id) {h : zx_Rw} {n a : Int} : (zx_F id [h] [n, a] 0).1 = [0, zy_s i h n a 130 1, zy_s i h n a 130 2] := by
  rw [zx_F_0, hd]
  simp [zy_L2, zx_ev, zx_evs, zx_sst, zx_call, zx_R, zx_G_F hi, zy_s]
theorem zy_L2_s {id i : Nat} (hd : zx_dn id = zy_L2 i) (hi : i < id) {h : zx_Rw} {n a : Int} : zy_st h n (fun v => v = 43 ∨ v = 45) (fun _ => True) (fun j x => zy_s i h n x 130 j) (fun K => (zx_F id [h] [n, a] K).1) := by
  intro K d g x hS
  obtain ⟨c1, c2⟩ := zx_F_s hS
  refine ⟨c1, fun hd0 hc => ?_, fun hd0 hc => ?_⟩
  · obtain ⟨q1, q2, q3, q4⟩ := hc
    show (zx_F id [h] [n, a] (K + 1)).1 = _
    rw [c2 hd0, hd]
    rcases q3 with q3 | q3
    · simp [zy_L2, zx_ev, zx_evs, zx_sst, zx_call, zx_R, zx_G_F hi, zy_s, q1, q2, q3]
    · simp [zy_L2, zx_ev, zx_evs, zx_sst, zx_call, zx_R, zx_G_F hi, zy_s, q1, q2, q3]
  · show (zx_F id [h] [n, a] (K + 1)).1 = _
    rw [c2 hd0, hd]
    by_cases hg : g = 0
    · simp [zy_L2, zx_ev, zx_evs, zx_sst, zx_call, zx_R, zx_G_F hi, zy_s, hg]
    · by_cases hx : x + 1 ≤ n
      · have hn : ¬ (h x.toNat = 43 ∨ h x.toNat = 45) := fun hs => hc ⟨hg, hx, hs, trivial⟩
        simp only [not_or] at hn
        simp [zy_L2, zx_ev, zx_evs, zx_sst, zx_call, zx_R, zx_G_F hi, zy_s, hg, hx, hn.1, hn.2]
      · simp [zy_L2, zx_ev, zx_evs, zx_sst, zx_call, zx_R, zx_G_F hi, zy_s, hg, hx]
theorem zy_L2_r {c r i j : Nat} (hc : zx_dn c = zy_L2 i) (hr : zx_dn r = zy_L2 j) (hi : i < c) (hj : j < r) {f g : zx_Rw} {n : Int} (H : zy_H f g n) (hI : ∀ x, 0 ≤ x → zy_RR f n (zy_s i f n x 130 1) (zy_s i f n x 130 2) (zy_s j g n x 130 1) (zy_s j g n x 130 2)) : ∀ a, 0 ≤ a → zy_RR f n (zy_s c f n a 130 1) (zy_s c f n a 130 2) (zy_s r g n a 130 1) (zy_s r g n a 130 2) := fun a ha => by
  obtain ⟨d, cg, ca, rg, ra, e1, e2, e3⟩ := zy_lv H (sg := fun v => v = 43 ∨ v = 45) (lim := fun _ => True) (IC := fun j x => zy_s i f n x 130 j) (IR := fun k x => zy_s j g n x 130 k) (C := fun K => (zx_F c [f] [n, a] K).1) (R := fun K => (zx_F r [g] [n, a] K).1) (fun v hv => by omega) ha hI (zy_L2_0 hc hi (a := a)) (zy_L2_0 hr hj (a := a)) (zy_L2_s hc hi (a := a)) (zy_L2_s hr hj (a := a)) 130
  unfold zy_s
  have e1 : (zx_F c [f] [n, a] 130).1 = [d, cg, ca] := e1
  have e2 : (zx_F r [g] [n, a] 130).1 = [d, rg, ra] := e2
  rw [e1, e2]
  exact e3
theorem zy_L3_0 {id i : Nat} (hd : zx_dn id = zy_L3 i) (hi : i < id) {h : zx_Rw} {n a : Int} : (zx_F id [h] [n, a] 0).1 = [0, zy_s i h n a 130 1, zy_s i h n a 130 2] := by
  rw [zx_F_0, hd]
  simp [zy_L3, zx_ev, zx_evs, zx_sst, zx_call, zx_R, zx_G_F hi, zy_s]
theorem zy_L3_s {id i : Nat} (hd : zx_dn id = zy_L3 i) (hi : i < id) {h : zx_Rw} {n a : Int} : zy_st h n (fun v => v = 60 ∨ v = 61 ∨ v = 62) (fun K => K = 0) (fun j x => zy_s i h n x 130 j) (fun K => (zx_F id [h] [n, a] K).1) := by
  intro K d g x hS
  obtain ⟨c1, c2⟩ := zx_F_s hS
  refine ⟨c1, fun hd0 hc => ?_, fun hd0 hc => ?_⟩
  · obtain ⟨q1, q2, q3, q4⟩ := hc
    show (zx_F id [h] [n, a] (K + 1)).1 = _
    rw [c2 hd0, hd]
    have q4 : K = 0 := q4
    rcases q3 with q3 | q3 | q3
    · simp [zy_L3, zx_ev, zx_evs, zx_sst, zx_call, zx_R, zx_G_F hi, zy_s, q1, q2, q3, q4]
    · simp [zy_L3, zx_ev, zx_evs, zx_sst, zx_call, zx_R, zx_G_F hi, zy_s, q1, q2, q3, q4]
    · simp [zy_L3, zx_ev, zx_evs, zx_sst, zx_call, zx_R, zx_G_F hi, zy_s, q1, q2, q3, q4]
  · show (zx_F id [h] [n, a] (K + 1)).1 = _
    rw [c2 hd0, hd]
    by_cases hg : g = 0
    · simp [zy_L3, zx_ev, zx_evs, zx_sst, zx_call, zx_R, zx_G_F hi, zy_s, hg]
    · by_cases hx : x + 1 ≤ n
      · by_cases hk : K = 0
        · have hn : ¬ (h x.toNat = 60 ∨ h x.toNat = 61 ∨ h x.toNat = 62) := fun hs => hc ⟨hg, hx, hs, hk⟩
          simp only [not_or] at hn
          simp [zy_L3, zx_ev, zx_evs, zx_sst, zx_call, zx_R, zx_G_F hi, zy_s, hg, hx, hn.1, hn.2.1, hn.2.2]
        · simp [zy_L3, zx_ev, zx_evs, zx_sst, zx_call, zx_R, zx_G_F hi, zy_s, hg, hx, hk]
      · simp [zy_L3, zx_ev, zx_evs, zx_sst, zx_call, zx_R, zx_G_F hi, zy_s, hg, hx]
theorem zy_L3_r {c r i j : Nat} (hc : zx_dn c = zy_L3 i) (hr : zx_dn r = zy_L3 j) (hi : i < c) (hj : j < r) {f g : zx_Rw} {n : Int} (H : zy_H f g n) (hI : ∀ x, 0 ≤ x → zy_RR f n (zy_s i f n x 130 1) (zy_s i f n x 130 2) (zy_s j g n x 130 1) (zy_s j g n x 130 2)) : ∀ a, 0 ≤ a → zy_RR f n (zy_s c f n a 130 1) (zy_s c f n a 130 2) (zy_s r g n a 130 1) (zy_s r g n a 130 2) := fun a ha => by
  obtain ⟨d, cg, ca, rg, ra, e1, e2, e3⟩ := zy_lv H (sg := fun v => v = 60 ∨ v = 61 ∨ v = 62) (lim := fun K => K = 0) (IC := fun j x => zy_s i f n x 130 j) (IR := fun k x => zy_s j g n x 130 k) (C := fun K => (zx_F c [f] [n, a] K).1) (R := fun K => (zx_F r [g] [n, a] K).1) (fun v hv => by omega) ha hI (zy_L3_0 hc hi (a := a)) (zy_L3_0 hr hj (a := a)) (zy_L3_s hc hi (a := a)) (zy_L3_s hr hj (a := a)) 130
  unfold zy_s
  have e1 : (zx_F c [f] [n, a] 130).1 = [d, cg, ca] := e1
  have e2 : (zx_F r [g] [n, a] 130).1 = [d, rg, ra] := e2
  rw [e1, e2]
  exact e3
theorem zy_L4_0 {id i : Nat} (hd : zx_dn id = zy_L4 i) (hi : i < id) {h : zx_Rw} {n a : Int} : (zx_F id [h] [n, a] 0).1 = [0, zy_s i h n a 130 1, zy_s i h n a 130 2] := by
  rw [zx_F_0, hd]
  simp [zy_L4, zx_ev, zx_evs, zx_sst, zx_call, zx_R, zx_G_F hi, zy_s]
theorem zy_L4_s {id i : Nat} (hd : zx_dn id = zy_L4 i) (hi : i < id) {h : zx_Rw} {n a : Int} : zy_st h n (fun v => v = 38) (fun _ => True) (fun j x => zy_s i h n x 130 j) (fun K => (zx_F id [h] [n, a] K).1) := by
  intro K d g x hS
  obtain ⟨c1, c2⟩ := zx_F_s hS
  refine ⟨c1, fun hd0 hc => ?_, fun hd0 hc => ?_⟩
  · obtain ⟨q1, q2, q3, q4⟩ := hc
    show (zx_F id [h] [n, a] (K + 1)).1 = _
    rw [c2 hd0, hd]
    have q3 : h x.toNat = 38 := q3
    simp [zy_L4, zx_ev, zx_evs, zx_sst, zx_call, zx_R, zx_G_F hi, zy_s, q1, q2, q3]
  · show (zx_F id [h] [n, a] (K + 1)).1 = _
    rw [c2 hd0, hd]
    by_cases hg : g = 0
    · simp [zy_L4, zx_ev, zx_evs, zx_sst, zx_call, zx_R, zx_G_F hi, zy_s, hg]
    · by_cases hx : x + 1 ≤ n
      · have hn : ¬ (h x.toNat = 38) := fun hs => hc ⟨hg, hx, hs, trivial⟩
        simp [zy_L4, zx_ev, zx_evs, zx_sst, zx_call, zx_R, zx_G_F hi, zy_s, hg, hx, hn]
      · simp [zy_L4, zx_ev, zx_evs, zx_sst, zx_call, zx_R, zx_G_F hi, zy_s, hg, hx]
theorem zy_L4_r {c r i j : Nat} (hc : zx_dn c = zy_L4 i) (hr : zx_dn r = zy_L4 j) (hi : i < c) (hj : j < r) {f g : zx_Rw} {n : Int} (H : zy_H f g n) (hI : ∀ x, 0 ≤ x → zy_RR f n (zy_s i f n x 130 1) (zy_s i f n x 130 2) (zy_s j g n x 130 1) (zy_s j g n x 130 2)) : ∀ a, 0 ≤ a → zy_RR f n (zy_s c f n a 130 1) (zy_s c f n a 130 2) (zy_s r g n a 130 1) (zy_s r g n a 130 2) := fun a ha => by
  obtain ⟨d, cg, ca, rg, ra, e1, e2, e3⟩ := zy_lv H (sg := fun v => v = 38) (lim := fun _ => True) (IC := fun j x => zy_s i f n x 130 j) (IR := fun k x => zy_s j g n x 130 k) (C := fun K => (zx_F c [f] [n, a] K).1) (R := fun K => (zx_F r [g] [n, a] K).1) (fun v hv => by omega) ha hI (zy_L4_0 hc hi (a := a)) (zy_L4_0 hr hj (a := a)) (zy_L4_s hc hi (a := a)) (zy_L4_s hr hj (a := a)) 130
  unfold zy_s
  have e1 : (zx_F c [f] [n, a] 130).1 = [d, cg, ca] := e1
  have e2 : (zx_F r [g] [n, a] 130).1 = [d, rg, ra] := e2
  rw [e1, e2]
  exact e3
theorem zy_L5_0 {id i : Nat} (hd : zx_dn id = zy_L5 i) (hi : i < id) {h : zx_Rw} {n a : Int} : (zx_F id [h] [n, a] 0).1 = [0, zy_s i h n a 130 1, zy_s i h n a 130 2] := by
  rw [zx_F_0, hd]
  simp [zy_L5, zx_ev, zx_evs, zx_sst, zx_call, zx_R, zx_G_F hi, zy_s]
theorem zy_L5_s {id i : Nat} (hd : zx_dn id = zy_L5 i) (hi : i < id) {h : zx_Rw} {n a : Int} : zy_st h n (fun v => v = 124) (fun _ => True) (fun j x => zy_s i h n x 130 j) (fun K => (zx_F id [h] [n, a] K).1) := by
  intro K d g x hS
  obtain ⟨c1, c2⟩ := zx_F_s hS
  refine ⟨c1, fun hd0 hc => ?_, fun hd0 hc => ?_⟩
  · obtain ⟨q1, q2, q3, q4⟩ := hc
    show (zx_F id [h] [n, a] (K + 1)).1 = _
    rw [c2 hd0, hd]
    have q3 : h x.toNat = 124 := q3
    simp [zy_L5, zx_ev, zx_evs, zx_sst, zx_call, zx_R, zx_G_F hi, zy_s, q1, q2, q3]
  · show (zx_F id [h] [n, a] (K + 1)).1 = _
    rw [c2 hd0, hd]
    by_cases hg : g = 0
    · simp [zy_L5, zx_ev, zx_evs, zx_sst, zx_call, zx_R, zx_G_F hi, zy_s, hg]
    · by_cases hx : x + 1 ≤ n
      · have hn : ¬ (h x.toNat = 124) := fun hs => hc ⟨hg, hx, hs, trivial⟩
        simp [zy_L5, zx_ev, zx_evs, zx_sst, zx_call, zx_R, zx_G_F hi, zy_s, hg, hx, hn]
      · simp [zy_L5, zx_ev, zx_evs, zx_sst, zx_call, zx_R, zx_G_F hi, zy_s, hg, hx]
theorem zy_L5_r {c r i j : Nat} (hc : zx_dn c = zy_L5 i) (hr : zx_dn r = zy_L5 j) (hi : i < c) (hj : j < r) {f g : zx_Rw} {n : Int} (H : zy_H f g n) (hI : ∀ x, 0 ≤ x → zy_RR f n (zy_s i f n x 130 1) (zy_s i f n x 130 2) (zy_s j g n x 130 1) (zy_s j g n x 130 2)) : ∀ a, 0 ≤ a → zy_RR f n (zy_s c f n a 130 1) (zy_s c f n a 130 2) (zy_s r g n a 130 1) (zy_s r g n a 130 2) := fun a ha => by
  obtain ⟨d, cg, ca, rg, ra, e1, e2, e3⟩ := zy_lv H (sg := fun v => v = 124) (lim := fun _ => True) (IC := fun j x => zy_s i f n x 130 j) (IR := fun k x => zy_s j g n x 130 k) (C := fun K => (zx_F c [f] [n, a] K).1) (R := fun K => (zx_F r [g] [n, a] K).1) (fun v hv => by omega) ha hI (zy_L5_0 hc hi (a := a)) (zy_L5_0 hr hj (a := a)) (zy_L5_s hc hi (a := a)) (zy_L5_s hr hj (a := a)) 130
  unfold zy_s
  have e1 : (zx_F c [f] [n, a] 130).1 = [d, cg, ca] := e1
  have e2 : (zx_F r [g] [n, a] 130).1 = [d, rg, ra] := e2
  rw [e1, e2]
  exact e3
theorem zy_n40 : zx_nm 40 = -1 := by decide
theorem zy_n33 : zx_nm 33 = -1 := by decide
theorem zy_n45 : zx_nm 45 = -1 := by decide
/-- turns of a number's reading -/
def zy_ns (h : zx_Rw) (n : Int) (C : Nat → List Int) : Prop := ∀ (K : Nat) d x, C K = [d, x] → (d ≠ 0 → C (K + 1) = [d, x]) ∧ (d = 0 → ((K : Int) ≤ 3 ∧ x + 1 ≤ n ∧ 48 ≤ h x.toNat ∧ h x.toNat ≤ 57) → C (K + 1) = [0, x + 1]) ∧ (d = 0 → ¬ ((K : Int) ≤ 3 ∧ x + 1 ≤ n ∧ 48 ≤ h x.toNat ∧ h x.toNat ≤ 57) → C (K + 1) = [1, x])
theorem zy_nu_0 {h : zx_Rw} {n a : Int} : (zx_F 2 [h] [n, a] 0).1 = [0, a] := by
  rw [zx_F_0, zy_dnu]
  simp [zy_nu, zx_ev, zx_evs, zx_sst]
theorem zy_nu_s {h : zx_Rw} {n a : Int} : zy_ns h n (fun K => (zx_F 2 [h] [n, a] K).1) := by
  intro K d x hS
  obtain ⟨c1, c2⟩ := zx_F_s hS
  refine ⟨c1, fun hd0 hc => ?_, fun hd0 hc => ?_⟩
  · obtain ⟨q1, q2, q3, q4⟩ := hc
    show (zx_F 2 [h] [n, a] (K + 1)).1 = _
    rw [c2 hd0, zy_dnu]
    simp [zy_nu, zx_ev, zx_evs, zx_sst, zx_R, q1, q2, q3, q4]
  · show (zx_F 2 [h] [n, a] (K + 1)).1 = _
    rw [c2 hd0, zy_dnu]
    by_cases q1 : (K : Int) ≤ 3
    · by_cases q2 : x + 1 ≤ n
      · by_cases q3 : 48 ≤ h x.toNat
        · have q4 : ¬ h x.toNat ≤ 57 := fun q4 => hc ⟨q1, q2, q3, q4⟩
          simp [zy_nu, zx_ev, zx_evs, zx_sst, zx_R, q1, q2, q3, q4]
        · simp [zy_nu, zx_ev, zx_evs, zx_sst, zx_R, q1, q2, q3]
      · simp [zy_nu, zx_ev, zx_evs, zx_sst, zx_R, q1, q2]
    · simp [zy_nu, zx_ev, zx_evs, zx_sst, zx_R, q1]
theorem zy_dg {f g : zx_Rw} {n x : Int} (H : zy_H f g n) (h0 : 0 ≤ x) (h1 : x + 1 ≤ n) : (48 ≤ f x.toNat ∧ f x.toNat ≤ 57) ↔ (48 ≤ g x.toNat ∧ g x.toNat ≤ 57) := by
  obtain ⟨k1, k2, k3⟩ := H x h0 h1
  rw [k3]
  split <;> omega
theorem zy_nu_r {f g : zx_Rw} {n a : Int} (H : zy_H f g n) (ha : 0 ≤ a) : ∀ K : Nat, ∃ d x, (zx_F 2 [f] [n, a] K).1 = [d, x] ∧ (zx_F 2 [g] [n, a] K).1 = [d, x] ∧ a ≤ x ∧ (K = 0 → d = 0 ∧ x = a) ∧ (¬ zy_D f n a → x = a ∧ (K ≠ 0 → d = 1)) ∧ (zy_D f n a → K ≠ 0 → a + 1 ≤ x)
  | 0 => ⟨0, a, zy_nu_0, zy_nu_0, Int.le_refl _, fun _ => ⟨rfl, rfl⟩, fun _ => ⟨rfl, fun h => absurd rfl h⟩, fun _ h => absurd rfl h⟩
  | K + 1 => by
    obtain ⟨d, x, e1, e2, e3, e4, e5, e6⟩ := zy_nu_r H ha K
    obtain ⟨c1, c2, c3⟩ := zy_nu_s K d x e1
    obtain ⟨r1, r2, r3⟩ := zy_nu_s K d x e2
    by_cases hd : d = 0
    · by_cases hc : (K : Int) ≤ 3 ∧ x + 1 ≤ n ∧ 48 ≤ f x.toNat ∧ f x.toNat ≤ 57
      · have hg := (zy_dg H (by omega) hc.2.1).mp hc.2.2
        refine ⟨0, x + 1, c2 hd hc, r2 hd ⟨hc.1, hc.2.1, hg⟩, by omega, fun h => absurd h (Nat.succ_ne_zero _), fun hD => ?_, fun _ _ => by omega⟩
        have ex := (e5 hD).1
        subst ex
        exact absurd ⟨ha, hc.2.1, hc.2.2⟩ hD
      · have hg : ¬ ((K : Int) ≤ 3 ∧ x + 1 ≤ n ∧ 48 ≤ g x.toNat ∧ g x.toNat ≤ 57) := fun h => hc ⟨h.1, h.2.1, (zy_dg H (by omega) h.2.1).mpr h.2.2⟩
        refine ⟨1, x, c3 hd hc, r3 hd hg, e3, fun h => absurd h (Nat.succ_ne_zero _), fun hD => ⟨(e5 hD).1, fun _ => rfl⟩, fun hD _ => ?_⟩
        by_cases hK : K = 0
        · have ex := (e4 hK).2
          subst ex
          exact absurd ⟨by omega, hD.2.1, hD.2.2⟩ hc
        · exact e6 hD hK
    · have hK : K ≠ 0 := fun h => hd (e4 h).1
      exact ⟨d, x, c1 hd, r1 hd, e3, fun h => absurd h (Nat.succ_ne_zero _), fun hD => ⟨(e5 hD).1, fun _ => (e5 hD).2 hK⟩, fun hD _ => e6 hD hK⟩
/-- a number of a text: well if there is a digit and none behind it -/
theorem zy_fg_e {h : zx_Rw} {n a d x : Int} (e : (zx_F 2 [h] [n, a] 5).1 = [d, x]) : (x ≠ a → ¬ (x + 1 ≤ n ∧ 48 ≤ h x.toNat ∧ h x.toNat ≤ 57) → (zx_F 3 [h] [n, a] 0).1 = [0, 1, x]) ∧ (x = a → (zx_F 3 [h] [n, a] 0).1 = [0, 0, x]) ∧ ((x + 1 ≤ n ∧ 48 ≤ h x.toNat ∧ h x.toNat ≤ 57) → (zx_F 3 [h] [n, a] 0).1 = [0, 0, x]) := by
  have eG : ∀ P : List Int, zx_G 3 2 [h] P 5 = zx_F 2 [h] P 5 := fun P => zx_G_F (by decide) _ _ _
  refine ⟨fun h1 h2 => ?_, fun h1 => ?_, fun h1 => ?_⟩
  · rw [zx_F_0, zy_dfg]
    by_cases q2 : x + 1 ≤ n
    · by_cases q3 : 48 ≤ h x.toNat
      · have q4 : ¬ h x.toNat ≤ 57 := fun q4 => h2 ⟨q2, q3, q4⟩
        simp [zy_fg, zx_ev, zx_evs, zx_sst, zx_R, zx_call, eG, e, h1, q2, q3, q4]
      · simp [zy_fg, zx_ev, zx_evs, zx_sst, zx_R, zx_call, eG, e, h1, q2, q3]
    · simp [zy_fg, zx_ev, zx_evs, zx_sst, zx_R, zx_call, eG, e, h1, q2]
  · rw [zx_F_0, zy_dfg]
    simp [zy_fg, zx_ev, zx_evs, zx_sst, zx_R, zx_call, eG, e, h1]
  · rw [zx_F_0, zy_dfg]
    obtain ⟨q2, q3, q4⟩ := h1
    simp [zy_fg, zx_ev, zx_evs, zx_sst, zx_R, zx_call, eG, e, q2, q3, q4]
theorem zy_nm_v {v : Int} (h : 0 ≤ zx_nm v) : v < 128 ∧ ¬ (48 ≤ v ∧ v ≤ 57) ∧ v ≠ 40 ∧ v ≠ 33 ∧ v ≠ 45 := by
  unfold zx_nm at h
  split at h
  · omega
  · split at h
    · omega
    · split at h
      · omega
      · split at h
        · omega
        · split at h
          · omega
          · split at h
            · omega
            · omega
theorem zy_nm_n {v : Int} (h : v < 97 ∨ 116 < v) : ¬ 0 ≤ zx_nm v := by
  unfold zx_nm
  rw [if_neg (by omega), if_neg (by omega), if_neg (by omega), if_neg (by omega), if_neg (by omega), if_neg (by omega)]
  decide
/-- the reference's figure, where no other sign stands -/
theorem zy_fig {f g : zx_Rw} {n a : Int} (H : zy_H f g n) (ha : 0 ≤ a) : ∃ x fg, (zx_F 2 [f] [n, a] 5).1.getD 1 0 = x ∧ (zx_F 3 [g] [n, a] 0).1 = [0, fg, x] ∧ 0 ≤ x ∧ (¬ zy_D f n a → x = a ∧ fg = 0) ∧ (zy_D f n a → (fg = 1 ∨ (fg = 0 ∧ zy_D f n x))) := by
  obtain ⟨d, x, e1, e2, e3, -, e5, e6⟩ := zy_nu_r H ha 5
  obtain ⟨k1, k2, k3⟩ := zy_fg_e e2
  by_cases hD : zy_D f n a
  · have hx := e6 hD (by decide)
    by_cases hg : x + 1 ≤ n ∧ 48 ≤ g x.toNat ∧ g x.toNat ≤ 57
    · exact ⟨x, 0, by rw [e1]; rfl, k3 hg, by omega, fun h => absurd hD h, fun _ => Or.inr ⟨rfl, by omega, hg.1, (zy_dg H (by omega) hg.1).mpr hg.2⟩⟩
    · exact ⟨x, 1, by rw [e1]; rfl, k1 (by omega) hg, by omega, fun h => absurd hD h, fun _ => Or.inl rfl⟩
  · obtain ⟨k4, k5⟩ := e5 hD
    exact ⟨x, 0, by rw [e1]; rfl, k2 k4, by omega, fun _ => ⟨k4, rfl⟩, fun h => absurd h hD⟩
set_option maxRecDepth 8000 in
set_option maxHeartbeats 4000000 in
theorem zy_op0 {f g : zx_Rw} {n : Int} (H : zy_H f g n) {c r : Nat} (hc : zx_dn c = zy_C0) (hr : zx_dn r = zy_R0) (c2 : 2 < c) (r3 : 3 < r) : ∀ a, 0 ≤ a → zy_RR f n (zy_s c f n a 0 1) (zy_s c f n a 0 2) (zy_s r g n a 0 1) (zy_s r g n a 0 2) := fun a ha => by
  suffices key : ∃ cg ca rg ra, (zx_F c [f] [n, a] 0).1 = [0, cg, ca] ∧ (zx_F r [g] [n, a] 0).1 = [0, rg, ra] ∧ zy_RR f n cg ca rg ra by
    obtain ⟨cg, ca, rg, ra, e1, e2, e3⟩ := key
    unfold zy_s
    rw [e1, e2]
    exact e3
  obtain ⟨x, fg, n1, n2, n3, n4, n5⟩ := zy_fig H ha
  have rf : (a + 1 ≤ n → ¬ 0 ≤ zx_nm (g a.toNat) ∧ g a.toNat ≠ 33 ∧ g a.toNat ≠ 45 ∧ g a.toNat ≠ 40) → (zx_F r [g] [n, a] 0).1 = [0, fg, x] := fun h => by
    rw [zx_F_0, hr]
    by_cases hb : n ≤ a
    · simp [zy_R0, zx_ev, zx_evs, zx_sst, zx_call, zx_R, zx_op, zy_n40, zy_n33, zy_n45, zx_G_F r3, hb, n2]
    · obtain ⟨q1, q2, q3, q4⟩ := h (by omega)
      simp [zy_R0, zx_ev, zx_evs, zx_sst, zx_call, zx_R, zx_op, zy_n40, zy_n33, zy_n45, zx_G_F r3, hb, q1, q2, q3, q4, n2]
  by_cases hb : a + 1 ≤ n
  · obtain ⟨k1, k2, k3⟩ := H a ha hb
    have hb2 : ¬ n ≤ a := by omega
    by_cases hdg : 48 ≤ f a.toNat ∧ f a.toNat ≤ 57
    · have eg : g a.toNat = f a.toNat := by
        rw [k3, if_pos (by omega)]
      have ec : (zx_F c [f] [n, a] 0).1 = [0, 1, x] := by
        rw [zx_F_0, hc, ← n1]
        obtain ⟨q1, q2⟩ := hdg
        simp [zy_C0, zx_ev, zx_evs, zx_sst, zx_call, zx_R, zx_op, zy_n40, zy_n33, zy_n45, zx_G_F c2, hb, q1, q2]
      refine ⟨1, x, fg, x, ec, rf (fun _ => by rw [eg]; exact ⟨zy_nm_n (by omega), by omega, by omega, by omega⟩), rfl, n3, ?_⟩
      rcases n5 ⟨ha, hb, hdg⟩ with h | ⟨h, h'⟩
      · exact Or.inl ⟨h, rfl⟩
      · exact Or.inr ⟨h, Or.inr ⟨rfl, h'⟩⟩
    · have hnd : ¬ zy_D f n a := fun h => hdg ⟨h.2.2.1, h.2.2.2⟩
      obtain ⟨ex, efg⟩ := n4 hnd
      have hd2 : 48 ≤ f a.toNat → ¬ f a.toNat ≤ 57 := fun h h' => hdg ⟨h, h'⟩
      by_cases hnm : 0 ≤ zx_nm (f a.toNat)
      · obtain ⟨v1, -, v2, v3, v4⟩ := zy_nm_v hnm
        have eg : g a.toNat = f a.toNat := by
          rw [k3, if_pos v1]
        have ec : (zx_F c [f] [n, a] 0).1 = [0, 1, a + 1] := by
          rw [zx_F_0, hc]
          by_cases q1 : 48 ≤ f a.toNat
          · have q2 := hd2 q1
            simp [zy_C0, zx_ev, zx_evs, zx_sst, zx_call, zx_R, zx_op, zy_n40, zy_n33, zy_n45, zx_G_F c2, hb, q1, q2, hnm]
          · simp [zy_C0, zx_ev, zx_evs, zx_sst, zx_call, zx_R, zx_op, zy_n40, zy_n33, zy_n45, zx_G_F c2, hb, q1, hnm]
        have er : (zx_F r [g] [n, a] 0).1 = [0, 1, a + 1] := by
          rw [zx_F_0, hr]
          have q1 : 0 ≤ zx_nm (g a.toNat) := by rw [eg]; exact hnm
          simp [zy_R0, zx_ev, zx_evs, zx_sst, zx_call, zx_R, zx_op, zy_n40, zy_n33, zy_n45, zx_G_F r3, hb2, q1]
        exact ⟨1, a + 1, 1, a + 1, ec, er, rfl, by omega, Or.inl ⟨rfl, rfl⟩⟩
      · have hgn : ¬ 0 ≤ zx_nm (g a.toNat) := by
          rw [k3]
          split
          · exact hnm
          · exact zy_nm_n (by omega)
        have hg40 : g a.toNat = 40 ↔ f a.toNat = 40 := by rw [k3]; split <;> omega
        have hg33 : g a.toNat = 33 ↔ f a.toNat = 33 := by rw [k3]; split <;> omega
        have hg45 : g a.toNat = 45 ↔ f a.toNat = 45 := by rw [k3]; split <;> omega
        have ec : (zx_F c [f] [n, a] 0).1 = [0, 0, a] := by
          rw [zx_F_0, hc]
          by_cases q1 : 48 ≤ f a.toNat
          · have q2 := hd2 q1
            simp [zy_C0, zx_ev, zx_evs, zx_sst, zx_call, zx_R, zx_op, zy_n40, zy_n33, zy_n45, zx_G_F c2, hb, q1, q2, hnm]
          · simp [zy_C0, zx_ev, zx_evs, zx_sst, zx_call, zx_R, zx_op, zy_n40, zy_n33, zy_n45, zx_G_F c2, hb, q1, hnm]
        by_cases h40 : g a.toNat = 40
        · have er : (zx_F r [g] [n, a] 0).1 = [0, 0, a] := by
            rw [zx_F_0, hr]
            simp [zy_R0, zx_ev, zx_evs, zx_sst, zx_call, zx_R, zx_op, zy_n40, zy_n33, zy_n45, zx_G_F r3, hb2, hgn, h40]
          exact ⟨0, a, 0, a, ec, er, rfl, ha, Or.inr ⟨rfl, Or.inl rfl⟩⟩
        · by_cases h33 : g a.toNat = 33
          · have er : (zx_F r [g] [n, a] 0).1 = [0, 0, a] := by
              rw [zx_F_0, hr]
              simp [zy_R0, zx_ev, zx_evs, zx_sst, zx_call, zx_R, zx_op, zy_n40, zy_n33, zy_n45, zx_G_F r3, hb2, hgn, h33]
            exact ⟨0, a, 0, a, ec, er, rfl, ha, Or.inr ⟨rfl, Or.inl rfl⟩⟩
          · by_cases h45 : g a.toNat = 45
            · have er : (zx_F r [g] [n, a] 0).1 = [0, 0, a] := by
                rw [zx_F_0, hr]
                simp [zy_R0, zx_ev, zx_evs, zx_sst, zx_call, zx_R, zx_op, zy_n40, zy_n33, zy_n45, zx_G_F r3, hb2, hgn, h45]
              exact ⟨0, a, 0, a, ec, er, rfl, ha, Or.inr ⟨rfl, Or.inl rfl⟩⟩
            · exact ⟨0, a, fg, x, ec, rf (fun _ => ⟨hgn, h33, h45, h40⟩), ex.symm, ha, Or.inr ⟨efg, Or.inl rfl⟩⟩
  · have ec : (zx_F c [f] [n, a] 0).1 = [0, 0, a] := by
      rw [zx_F_0, hc]
      simp [zy_C0, zx_ev, zx_evs, zx_sst, zx_call, zx_R, zx_op, zy_n40, zy_n33, zy_n45, zx_G_F c2, hb]
    obtain ⟨ex, efg⟩ := n4 (fun h => hb h.2.1)
    exact ⟨0, a, fg, x, ec, rf (fun h => absurd h hb), ex.symm, ha, Or.inr ⟨efg, Or.inl rfl⟩⟩
set_option maxRecDepth 8000 in
set_option maxHeartbeats 4000000 in
theorem zy_opS {f g : zx_Rw} {n : Int} (H : zy_H f g n) {c r iL iO jL jO : Nat} (hc : zx_dn c = zy_C iL iO) (hr : zx_dn r = zy_R jL jO) (i1 : iL < c) (i2 : iO < c) (j1 : jL < r) (j2 : jO < r) (c2 : 2 < c) (r3 : 3 < r) (hL : ∀ x, 0 ≤ x → zy_RR f n (zy_s iL f n x 130 1) (zy_s iL f n x 130 2) (zy_s jL g n x 130 1) (zy_s jL g n x 130 2)) (hO : ∀ x, 0 ≤ x → zy_RR f n (zy_s iO f n x 0 1) (zy_s iO f n x 0 2) (zy_s jO g n x 0 1) (zy_s jO g n x 0 2)) : ∀ a, 0 ≤ a → zy_RR f n (zy_s c f n a 0 1) (zy_s c f n a 0 2) (zy_s r g n a 0 1) (zy_s r g n a 0 2) := fun a ha => by
  suffices key : ∃ cg ca rg ra, (zx_F c [f] [n, a] 0).1 = [0, cg, ca] ∧ (zx_F r [g] [n, a] 0).1 = [0, rg, ra] ∧ zy_RR f n cg ca rg ra by
    obtain ⟨cg, ca, rg, ra, e1, e2, e3⟩ := key
    unfold zy_s
    rw [e1, e2]
    exact e3
  obtain ⟨x, fg, n1, n2, n3, n4, n5⟩ := zy_fig H ha
  have rf : (a + 1 ≤ n → ¬ 0 ≤ zx_nm (g a.toNat) ∧ g a.toNat ≠ 33 ∧ g a.toNat ≠ 45 ∧ g a.toNat ≠ 40) → (zx_F r [g] [n, a] 0).1 = [0, fg, x] := fun h => by
    rw [zx_F_0, hr]
    by_cases hb : n ≤ a
    · simp [zy_R, zx_ev, zx_evs, zx_sst, zx_call, zx_R, zx_op, zy_n40, zy_n33, zy_n45, zx_G_F r3, zx_G_F j1, zx_G_F j2, hb, n2]
    · obtain ⟨q1, q2, q3, q4⟩ := h (by omega)
      simp [zy_R, zx_ev, zx_evs, zx_sst, zx_call, zx_R, zx_op, zy_n40, zy_n33, zy_n45, zx_G_F r3, zx_G_F j1, zx_G_F j2, hb, q1, q2, q3, q4, n2]
  by_cases hb : a + 1 ≤ n
  · obtain ⟨k1, k2, k3⟩ := H a ha hb
    have hb2 : ¬ n ≤ a := by omega
    by_cases hdg : 48 ≤ f a.toNat ∧ f a.toNat ≤ 57
    · have eg : g a.toNat = f a.toNat := by
        rw [k3, if_pos (by omega)]
      have ec : (zx_F c [f] [n, a] 0).1 = [0, 1, x] := by
        rw [zx_F_0, hc, ← n1]
        obtain ⟨q1, q2⟩ := hdg
        simp [zy_C, zx_ev, zx_evs, zx_sst, zx_call, zx_R, zx_op, zy_n40, zy_n33, zy_n45, zx_G_F c2, zx_G_F i1, zx_G_F i2, hb, q1, q2]
      refine ⟨1, x, fg, x, ec, rf (fun _ => by rw [eg]; exact ⟨zy_nm_n (by omega), by omega, by omega, by omega⟩), rfl, n3, ?_⟩
      rcases n5 ⟨ha, hb, hdg⟩ with h | ⟨h, h'⟩
      · exact Or.inl ⟨h, rfl⟩
      · exact Or.inr ⟨h, Or.inr ⟨rfl, h'⟩⟩
    · have hnd : ¬ zy_D f n a := fun h => hdg ⟨h.2.2.1, h.2.2.2⟩
      obtain ⟨ex, efg⟩ := n4 hnd
      have hd2 : 48 ≤ f a.toNat → ¬ f a.toNat ≤ 57 := fun h h' => hdg ⟨h, h'⟩
      by_cases hnm : 0 ≤ zx_nm (f a.toNat)
      · obtain ⟨v1, -, v2, v3, v4⟩ := zy_nm_v hnm
        have eg : g a.toNat = f a.toNat := by
          rw [k3, if_pos v1]
        have ec : (zx_F c [f] [n, a] 0).1 = [0, 1, a + 1] := by
          rw [zx_F_0, hc]
          by_cases q1 : 48 ≤ f a.toNat
          · have q2 := hd2 q1
            simp [zy_C, zx_ev, zx_evs, zx_sst, zx_call, zx_R, zx_op, zy_n40, zy_n33, zy_n45, zx_G_F c2, zx_G_F i1, zx_G_F i2, hb, q1, q2, hnm]
          · simp [zy_C, zx_ev, zx_evs, zx_sst, zx_call, zx_R, zx_op, zy_n40, zy_n33, zy_n45, zx_G_F c2, zx_G_F i1, zx_G_F i2, hb, q1, hnm]
        have er : (zx_F r [g] [n, a] 0).1 = [0, 1, a + 1] := by
          rw [zx_F_0, hr]
          have q1 : 0 ≤ zx_nm (g a.toNat) := by rw [eg]; exact hnm
          simp [zy_R, zx_ev, zx_evs, zx_sst, zx_call, zx_R, zx_op, zy_n40, zy_n33, zy_n45, zx_G_F r3, zx_G_F j1, zx_G_F j2, hb2, q1]
        exact ⟨1, a + 1, 1, a + 1, ec, er, rfl, by omega, Or.inl ⟨rfl, rfl⟩⟩
      · have hgn : ¬ 0 ≤ zx_nm (g a.toNat) := by
          rw [k3]
          split
          · exact hnm
          · exact zy_nm_n (by omega)
        have hg40 : g a.toNat = 40 ↔ f a.toNat = 40 := by rw [k3]; split <;> omega
        have hg33 : g a.toNat = 33 ↔ f a.toNat = 33 := by rw [k3]; split <;> omega
        have hg45 : g a.toNat = 45 ↔ f a.toNat = 45 := by rw [k3]; split <;> omega
        by_cases h40 : f a.toNat = 40
        · have g40 := hg40.mpr h40
          obtain ⟨l1, l2, l3⟩ := hL (a + 1) (by omega)
          have cc : ∀ u v, (u ≠ 0 ∧ v + 1 ≤ n ∧ f v.toNat = 41 → (zx_F iL [f] [n, a + 1] 130).1.getD 1 0 = u → (zx_F iL [f] [n, a + 1] 130).1.getD 2 0 = v → (zx_F c [f] [n, a] 0).1 = [0, 1, v + 1]) ∧ (¬ (u ≠ 0 ∧ v + 1 ≤ n ∧ f v.toNat = 41) → (zx_F iL [f] [n, a + 1] 130).1.getD 1 0 = u → (zx_F iL [f] [n, a + 1] 130).1.getD 2 0 = v → (zx_F c [f] [n, a] 0).1 = [0, 0, v]) := fun u v => by
            have q1 : ¬ (48 ≤ f a.toNat) := by omega
            rw [zx_F_0, hc]
            refine ⟨fun h eu ev => ?_, fun h eu ev => ?_⟩
            · rw [List.getD_eq_getElem?_getD] at eu ev
              obtain ⟨p1, p2, p3⟩ := h
              simp [zy_C, zx_ev, zx_evs, zx_sst, zx_call, zx_R, zx_op, zy_n40, zy_n33, zy_n45, zx_G_F c2, zx_G_F i1, zx_G_F i2, hb, q1, hnm, h40, eu, ev, p1, p2, p3]
            · rw [List.getD_eq_getElem?_getD] at eu ev
              by_cases p1 : u = 0
              · simp [zy_C, zx_ev, zx_evs, zx_sst, zx_call, zx_R, zx_op, zy_n40, zy_n33, zy_n45, zx_G_F c2, zx_G_F i1, zx_G_F i2, hb, q1, hnm, h40, eu, ev, p1]
              · by_cases p2 : v + 1 ≤ n
                · have p3 : ¬ f v.toNat = 41 := fun p3 => h ⟨p1, p2, p3⟩
                  simp [zy_C, zx_ev, zx_evs, zx_sst, zx_call, zx_R, zx_op, zy_n40, zy_n33, zy_n45, zx_G_F c2, zx_G_F i1, zx_G_F i2, hb, q1, hnm, h40, eu, ev, p1, p2, p3]
                · simp [zy_C, zx_ev, zx_evs, zx_sst, zx_call, zx_R, zx_op, zy_n40, zy_n33, zy_n45, zx_G_F c2, zx_G_F i1, zx_G_F i2, hb, q1, hnm, h40, eu, ev, p1, p2]
          have rr : ∀ u v, (u ≠ 0 ∧ v + 1 ≤ n ∧ g v.toNat = 41 → (zx_F jL [g] [n, a + 1] 130).1.getD 1 0 = u → (zx_F jL [g] [n, a + 1] 130).1.getD 2 0 = v → (zx_F r [g] [n, a] 0).1 = [0, 1, v + 1]) ∧ (¬ (u ≠ 0 ∧ v + 1 ≤ n ∧ g v.toNat = 41) → (zx_F jL [g] [n, a + 1] 130).1.getD 1 0 = u → (zx_F jL [g] [n, a + 1] 130).1.getD 2 0 = v → (zx_F r [g] [n, a] 0).1 = [0, 0, v]) := fun u v => by
            rw [zx_F_0, hr]
            refine ⟨fun h eu ev => ?_, fun h eu ev => ?_⟩
            · rw [List.getD_eq_getElem?_getD] at eu ev
              obtain ⟨p1, p2, p3⟩ := h
              simp [zy_R, zx_ev, zx_evs, zx_sst, zx_call, zx_R, zx_op, zy_n40, zy_n33, zy_n45, zx_G_F r3, zx_G_F j1, zx_G_F j2, hb2, hgn, g40, eu, ev, p1, p2, p3]
            · rw [List.getD_eq_getElem?_getD] at eu ev
              by_cases p1 : u = 0
              · simp [zy_R, zx_ev, zx_evs, zx_sst, zx_call, zx_R, zx_op, zy_n40, zy_n33, zy_n45, zx_G_F r3, zx_G_F j1, zx_G_F j2, hb2, hgn, g40, eu, ev, p1]
              · by_cases p2 : v + 1 ≤ n
                · have p3 : ¬ g v.toNat = 41 := fun p3 => h ⟨p1, p2, p3⟩
                  simp [zy_R, zx_ev, zx_evs, zx_sst, zx_call, zx_R, zx_op, zy_n40, zy_n33, zy_n45, zx_G_F r3, zx_G_F j1, zx_G_F j2, hb2, hgn, g40, eu, ev, p1, p2, p3]
                · simp [zy_R, zx_ev, zx_evs, zx_sst, zx_call, zx_R, zx_op, zy_n40, zy_n33, zy_n45, zx_G_F r3, zx_G_F j1, zx_G_F j2, hb2, hgn, g40, eu, ev, p1, p2]
          unfold zy_s at l1 l2 l3
          generalize hu : (zx_F iL [f] [n, a + 1] 130).1.getD 1 0 = u at l1 l2 l3
          generalize hv : (zx_F iL [f] [n, a + 1] 130).1.getD 2 0 = v at l1 l2 l3
          generalize hu' : (zx_F jL [g] [n, a + 1] 130).1.getD 1 0 = u' at l1 l2 l3
          generalize hv' : (zx_F jL [g] [n, a + 1] 130).1.getD 2 0 = v' at l1 l2 l3
          subst l1
          rcases l3 with ⟨l3, l4⟩ | ⟨l3, l4⟩
          · by_cases hcl : v + 1 ≤ n ∧ f v.toNat = 41
            · have hcg : g v.toNat = 41 := by
                obtain ⟨m1, m2, m3⟩ := H v l2 hcl.1
                rw [m3, if_pos (by omega)]
                exact hcl.2
              exact ⟨_, _, _, _, (cc u v).1 ⟨by omega, hcl⟩ hu hv, (rr u' v).1 ⟨by omega, hcl.1, hcg⟩ hu' hv', rfl, by omega, Or.inl ⟨rfl, rfl⟩⟩
            · have hcg : ¬ (v + 1 ≤ n ∧ g v.toNat = 41) := fun h => by
                obtain ⟨m1, m2, m3⟩ := H v l2 h.1
                have h2 := h.2
                rw [m3] at h2
                refine hcl ⟨h.1, ?_⟩
                split at h2 <;> omega
              exact ⟨_, _, _, _, (cc u v).2 (fun h => hcl h.2) hu hv, (rr u' v).2 (fun h => hcg h.2) hu' hv', rfl, l2, Or.inr ⟨rfl, Or.inl rfl⟩⟩
          · refine ⟨_, _, _, _, (cc u v).2 (fun h => ?_) hu hv, (rr u' v).2 (fun h => h.1 l3) hu' hv', rfl, l2, Or.inr ⟨rfl, Or.inl rfl⟩⟩
            rcases l4 with l4 | ⟨-, l4⟩
            · exact h.1 l4
            · have := l4.2.2.1
              have := h.2.2
              omega
        · by_cases hneg : f a.toNat = 33 ∨ f a.toNat = 45
          · have ec : (zx_F c [f] [n, a] 0).1 = [0, (zx_F iO [f] [n, a + 1] 0).1.getD 1 0, (zx_F iO [f] [n, a + 1] 0).1.getD 2 0] := by
              have q1 : ¬ (48 ≤ f a.toNat) := by omega
              rw [zx_F_0, hc]
              rcases hneg with h | h
              · simp [zy_C, zx_ev, zx_evs, zx_sst, zx_call, zx_R, zx_op, zy_n40, zy_n33, zy_n45, zx_G_F c2, zx_G_F i1, zx_G_F i2, hb, q1, hnm, h40, h]
              · simp [zy_C, zx_ev, zx_evs, zx_sst, zx_call, zx_R, zx_op, zy_n40, zy_n33, zy_n45, zx_G_F c2, zx_G_F i1, zx_G_F i2, hb, q1, hnm, h40, h]
            have er : (zx_F r [g] [n, a] 0).1 = [0, (zx_F jO [g] [n, a + 1] 0).1.getD 1 0, (zx_F jO [g] [n, a + 1] 0).1.getD 2 0] := by
              rw [zx_F_0, hr]
              rcases hneg with h | h
              · have h := hg33.mpr h
                simp [zy_R, zx_ev, zx_evs, zx_sst, zx_call, zx_R, zx_op, zy_n40, zy_n33, zy_n45, zx_G_F r3, zx_G_F j1, zx_G_F j2, hb2, hgn, h]
              · have h := hg45.mpr h
                simp [zy_R, zx_ev, zx_evs, zx_sst, zx_call, zx_R, zx_op, zy_n40, zy_n33, zy_n45, zx_G_F r3, zx_G_F j1, zx_G_F j2, hb2, hgn, h]
            exact ⟨_, _, _, _, ec, er, hO (a + 1) (by omega)⟩
          · have ec : (zx_F c [f] [n, a] 0).1 = [0, 0, a] := by
              rw [zx_F_0, hc]
              have z1 : ¬ f a.toNat = 33 := fun h => hneg (Or.inl h)
              have z2 : ¬ f a.toNat = 45 := fun h => hneg (Or.inr h)
              by_cases q1 : 48 ≤ f a.toNat
              · have q2 := hd2 q1
                simp [zy_C, zx_ev, zx_evs, zx_sst, zx_call, zx_R, zx_op, zy_n40, zy_n33, zy_n45, zx_G_F c2, zx_G_F i1, zx_G_F i2, hb, q1, q2, hnm, h40, z1, z2]
              · simp [zy_C, zx_ev, zx_evs, zx_sst, zx_call, zx_R, zx_op, zy_n40, zy_n33, zy_n45, zx_G_F c2, zx_G_F i1, zx_G_F i2, hb, q1, hnm, h40, z1, z2]
            exact ⟨0, a, fg, x, ec, rf (fun _ => ⟨hgn, fun h => hneg (Or.inl (hg33.mp h)), fun h => hneg (Or.inr (hg45.mp h)), fun h => h40 (hg40.mp h)⟩), ex.symm, ha, Or.inr ⟨efg, Or.inl rfl⟩⟩
  · have ec : (zx_F c [f] [n, a] 0).1 = [0, 0, a] := by
      rw [zx_F_0, hc]
      simp [zy_C, zx_ev, zx_evs, zx_sst, zx_call, zx_R, zx_op, zy_n40, zy_n33, zy_n45, zx_G_F c2, zx_G_F i1, zx_G_F i2, hb]
    obtain ⟨ex, efg⟩ := n4 (fun h => hb h.2.1)
    exact ⟨0, a, fg, x, ec, rf (fun h => absurd h hb), ex.symm, ha, Or.inr ⟨efg, Or.inl rfl⟩⟩
theorem zy_ln_e {id i : Nat} (hd : zx_dn id = zy_ln i) (hi : i < id) {h : zx_Rw} {n a u v : Int} (eu : (zx_F i [h] [n, a] 130).1.getD 1 0 = u) (ev : (zx_F i [h] [n, a] 130).1.getD 2 0 = v) : (u ≠ 0 → v + 1 ≤ n → h v.toNat = 63 → (zx_F id [h] [n, a] 0).1 = [0, zy_s i h n (v + 1) 130 1, zy_s i h n (v + 1) 130 2]) ∧ (u ≠ 0 → ¬ (v + 1 ≤ n ∧ h v.toNat = 63) → (zx_F id [h] [n, a] 0).1 = [0, 1, v]) ∧ (u = 0 → (zx_F id [h] [n, a] 0).1 = [0, 0, v]) := by
  rw [List.getD_eq_getElem?_getD] at eu ev
  refine ⟨fun p1 p2 p3 => ?_, fun p1 p2 => ?_, fun p1 => ?_⟩
  · rw [zx_F_0, hd]
    simp [zy_ln, zx_ev, zx_evs, zx_sst, zx_call, zx_R, zx_G_F hi, zy_s, eu, ev, p1, p2, p3]
  · rw [zx_F_0, hd]
    by_cases p3 : v + 1 ≤ n
    · have p4 : ¬ h v.toNat = 63 := fun p4 => p2 ⟨p3, p4⟩
      simp [zy_ln, zx_ev, zx_evs, zx_sst, zx_call, zx_R, zx_G_F hi, eu, ev, p1, p3, p4]
    · simp [zy_ln, zx_ev, zx_evs, zx_sst, zx_call, zx_R, zx_G_F hi, eu, ev, p1, p3]
  · rw [zx_F_0, hd]
    simp [zy_ln, zx_ev, zx_evs, zx_sst, zx_call, zx_R, zx_G_F hi, eu, ev, p1]
theorem zy_ln_r {c r i j : Nat} (hc : zx_dn c = zy_ln i) (hr : zx_dn r = zy_ln j) (i1 : i < c) (j1 : j < r) {f g : zx_Rw} {n : Int} (H : zy_H f g n) (hI : ∀ x, 0 ≤ x → zy_RR f n (zy_s i f n x 130 1) (zy_s i f n x 130 2) (zy_s j g n x 130 1) (zy_s j g n x 130 2)) : ∀ a, 0 ≤ a → zy_RR f n (zy_s c f n a 0 1) (zy_s c f n a 0 2) (zy_s r g n a 0 1) (zy_s r g n a 0 2) := fun a ha => by
  suffices key : ∃ cg ca rg ra, (zx_F c [f] [n, a] 0).1 = [0, cg, ca] ∧ (zx_F r [g] [n, a] 0).1 = [0, rg, ra] ∧ zy_RR f n cg ca rg ra by
    obtain ⟨cg, ca, rg, ra, e1, e2, e3⟩ := key
    unfold zy_s
    rw [e1, e2]
    exact e3
  obtain ⟨l1, l2, l3⟩ := hI a ha
  unfold zy_s at l1 l2 l3
  generalize hu : (zx_F i [f] [n, a] 130).1.getD 1 0 = u at l1 l2 l3
  generalize hv : (zx_F i [f] [n, a] 130).1.getD 2 0 = v at l1 l2 l3
  generalize hu' : (zx_F j [g] [n, a] 130).1.getD 1 0 = u' at l1 l2 l3
  generalize hv' : (zx_F j [g] [n, a] 130).1.getD 2 0 = v' at l1 l2 l3
  subst l1
  obtain ⟨c1, c2, c3⟩ := zy_ln_e hc i1 hu hv
  obtain ⟨r1, r2, r3⟩ := zy_ln_e hr j1 hu' hv'
  rcases l3 with ⟨l3, l4⟩ | ⟨l3, l4⟩
  · by_cases hq : v + 1 ≤ n ∧ f v.toNat = 63
    · have hg : g v.toNat = 63 := by
        obtain ⟨m1, m2, m3⟩ := H v l2 hq.1
        rw [m3, if_pos (by omega)]
        exact hq.2
      exact ⟨_, _, _, _, c1 (by omega) hq.1 hq.2, r1 (by omega) hq.1 hg, hI (v + 1) (by omega)⟩
    · have hg : ¬ (v + 1 ≤ n ∧ g v.toNat = 63) := fun h => by
        obtain ⟨m1, m2, m3⟩ := H v l2 h.1
        have h2 := h.2
        rw [m3] at h2
        refine hq ⟨h.1, ?_⟩
        split at h2 <;> omega
      exact ⟨_, _, _, _, c2 (by omega) hq, r2 (by omega) hg, rfl, l2, Or.inl ⟨rfl, rfl⟩⟩
  · rcases l4 with l4 | ⟨l4, l5⟩
    · exact ⟨_, _, _, _, c3 l4, r3 l3, rfl, l2, Or.inr ⟨rfl, Or.inl rfl⟩⟩
    · refine ⟨_, _, _, _, c2 (by omega) (fun h => ?_), r3 l3, rfl, l2, Or.inr ⟨rfl, Or.inr ⟨rfl, l5⟩⟩⟩
      have := l5.2.2.2
      have := h.2
      omega
theorem zy_rd_0 {id i : Nat} (hd : zx_dn id = zy_rd i) (hi : i < id) {h : zx_Rw} {n : Int} : (zx_F id [h] [n] 0).1 = [0, zy_s i h n 0 0 1, zy_s i h n 0 0 2] := by
  rw [zx_F_0, hd]
  simp [zy_rd, zx_ev, zx_evs, zx_sst, zx_call, zx_R, zx_G_F hi, zy_s]
theorem zy_rd_s {id i : Nat} (hd : zx_dn id = zy_rd i) (hi : i < id) {h : zx_Rw} {n : Int} : zy_st h n (fun v => v = 59) (fun _ => True) (fun j x => zy_s i h n x 0 j) (fun K => (zx_F id [h] [n] K).1) := by
  intro K d g x hS
  obtain ⟨c1, c2⟩ := zx_F_s hS
  refine ⟨c1, fun hd0 hc => ?_, fun hd0 hc => ?_⟩
  · obtain ⟨q1, q2, q3, q4⟩ := hc
    show (zx_F id [h] [n] (K + 1)).1 = _
    have q3 : h x.toNat = 59 := q3
    rw [c2 hd0, hd]
    simp [zy_rd, zx_ev, zx_evs, zx_sst, zx_call, zx_R, zx_G_F hi, zy_s, q1, q2, q3]
  · show (zx_F id [h] [n] (K + 1)).1 = _
    rw [c2 hd0, hd]
    by_cases hg : g = 0
    · simp [zy_rd, zx_ev, zx_evs, zx_sst, zx_call, zx_R, zx_G_F hi, hg]
    · by_cases hx : x + 1 ≤ n
      · have hn : ¬ h x.toNat = 59 := fun hs => hc ⟨hg, hx, hs, trivial⟩
        simp [zy_rd, zx_ev, zx_evs, zx_sst, zx_call, zx_R, zx_G_F hi, hg, hx, hn]
      · simp [zy_rd, zx_ev, zx_evs, zx_sst, zx_call, zx_R, zx_G_F hi, hg, hx]
theorem zy_rs_e {id i : Nat} (hd : zx_dn id = zy_rs i) (hi : i < id) {h : zx_Rw} {n d u v : Int} (e : (zx_F i [h] [n] 130).1 = [d, u, v]) : (u ≠ 0 → v = n → (zx_F id [h] [n] 0).1 = [0, -1]) ∧ (u = 0 ∨ v ≠ n → (zx_F id [h] [n] 0).1 = [0, v]) := by
  refine ⟨fun p1 p2 => ?_, fun p1 => ?_⟩
  · rw [zx_F_0, hd]
    simp [zy_rs, zx_ev, zx_evs, zx_sst, zx_call, zx_R, zx_G_F hi, e, p1, p2]
  · rw [zx_F_0, hd]
    rcases p1 with p1 | p1
    · simp [zy_rs, zx_ev, zx_evs, zx_sst, zx_call, zx_R, zx_G_F hi, e, p1]
    · by_cases p2 : u = 0
      · simp [zy_rs, zx_ev, zx_evs, zx_sst, zx_call, zx_R, zx_G_F hi, e, p2]
      · simp [zy_rs, zx_ev, zx_evs, zx_sst, zx_call, zx_R, zx_G_F hi, e, p1, p2]
theorem zy_all {f g : zx_Rw} {n : Int} (H : zy_H f g n) : ∀ o, o < 7 → (∀ a, 0 ≤ a → zy_RR f n (zy_s (4 + 6 * o) f n a 0 1) (zy_s (4 + 6 * o) f n a 0 2) (zy_s (49 + 6 * o) g n a 0 1) (zy_s (49 + 6 * o) g n a 0 2)) ∧ (∀ a, 0 ≤ a → zy_RR f n (zy_s (9 + 6 * o) f n a 130 1) (zy_s (9 + 6 * o) f n a 130 2) (zy_s (54 + 6 * o) g n a 130 1) (zy_s (54 + 6 * o) g n a 130 2)) := by
  have lev : ∀ o, o < 7 → (∀ a, 0 ≤ a → zy_RR f n (zy_s (4 + 6 * o) f n a 0 1) (zy_s (4 + 6 * o) f n a 0 2) (zy_s (49 + 6 * o) g n a 0 1) (zy_s (49 + 6 * o) g n a 0 2)) → (∀ a, 0 ≤ a → zy_RR f n (zy_s (9 + 6 * o) f n a 130 1) (zy_s (9 + 6 * o) f n a 130 2) (zy_s (54 + 6 * o) g n a 130 1) (zy_s (54 + 6 * o) g n a 130 2)) := fun o ho h0 => by
    have h1 := zy_L1_r (zy_cL1 o ho) (zy_rL1 o ho) (by omega) (by omega) H h0
    have h2 := zy_L2_r (zy_cL2 o ho) (zy_rL2 o ho) (by omega) (by omega) H h1
    have h3 := zy_L3_r (zy_cL3 o ho) (zy_rL3 o ho) (by omega) (by omega) H h2
    have h4 := zy_L4_r (zy_cL4 o ho) (zy_rL4 o ho) (by omega) (by omega) H h3
    exact zy_L5_r (zy_cL5 o ho) (zy_rL5 o ho) (by omega) (by omega) H h4
  intro o
  induction o with
  | zero =>
    intro ho
    have h0 := zy_op0 H (c := 4 + 6 * 0) (r := 49 + 6 * 0) zy_cO0 zy_rO0 (by decide) (by decide)
    exact ⟨h0, lev 0 ho h0⟩
  | succ o ih =>
    intro ho
    obtain ⟨i1, i2⟩ := ih (by omega)
    have h0 := zy_opS H (zy_cO o (by omega)) (zy_rO o (by omega)) (by omega) (by omega) (by omega) (by omega) (by omega) (by omega) i2 i1
    exact ⟨h0, lev (o + 1) ho h0⟩
/-- both come to the same -/
theorem zy_fin {f g : zx_Rw} {n : Int} (H : zy_H f g n) : (zx_F 48 [f] [n] 0).1 = (zx_F 93 [g] [n] 0).1 := by
  have h0 := (zy_all H 6 (by decide)).2
  have h1 := zy_ln_r zy_cln zy_rln (by decide) (by decide) H h0
  obtain ⟨d, cg, ca, rg, ra, e1, e2, q1, q2, q3⟩ := zy_lv H (sg := fun v => v = 59) (lim := fun _ => True) (IC := fun j x => zy_s 46 f n x 0 j) (IR := fun j x => zy_s 91 g n x 0 j) (C := fun K => (zx_F 47 [f] [n] K).1) (R := fun K => (zx_F 92 [g] [n] K).1) (fun v hv => by omega) (Int.le_refl 0) h1 (zy_rd_0 zy_crd (by decide)) (zy_rd_0 zy_rrd (by decide)) (zy_rd_s zy_crd (by decide)) (zy_rd_s zy_rrd (by decide)) 130
  obtain ⟨c1, c2⟩ := zy_rs_e zy_crs (by decide) (h := f) (n := n) e1
  obtain ⟨r1, r2⟩ := zy_rs_e zy_rrs (by decide) (h := g) (n := n) e2
  subst q1
  rcases q3 with ⟨q3, q4⟩ | ⟨q3, q4⟩
  · by_cases hn : ca = n
    · rw [c1 (by omega) hn, r1 (by omega) hn]
    · rw [c2 (Or.inr hn), r2 (Or.inr hn)]
  · rw [r2 (Or.inl q3)]
    rcases q4 with q4 | ⟨-, q4⟩
    · exact c2 (Or.inl q4)
    · exact c2 (Or.inr (by have := q4.2.1; omega))
