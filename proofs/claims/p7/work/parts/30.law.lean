/-! THE LAW'S OWN WALK: its constructors, its loop (wip/p41/law.py) -/
def zl_d0 : zk_C := (0, 11, [(3, 1, [], 0), (3, 11, [], 0), (3, 14, [], 0), (3, 18, [], 0), (3, 28, [], 0), (3, 30, [], 0), (3, 33, [], 0), (3, 37, [], 0), (3, 41, [], 0), (3, 46, [], 0), (3, 51, [], 0), (3, 54, [], 0)])
def zl_d1 : zk_C := (0, 4, [(0, 0, zk_y 8), (0, 0, zk_y 9), (0, 0, zk_y 10), (0, 0, zk_y 11), (0, 0, zk_y 12), (3, 2, [], 0), (3, 3, [], 0), (3, 4, [], 0), (3, 5, [], 0), (3, 6, [], 0), (3, 7, [], 0), (3, 8, [], 0), (3, 9, [], 0), (3, 10, [], 0)])
def zl_d2 : zk_C := (1, 5, [(0, 13, [], 0)])
def zl_d3 : zk_C := (1, 5, [(0, 14, [], 0)])
def zl_d4 : zk_C := (1, 5, [(0, 15, [], 0)])
def zl_d5 : zk_C := (1, 5, [(0, 16, [], 0)])
def zl_d6 : zk_C := (1, 8, [(0, 17, [], 0)])
def zl_d7 : zk_C := (1, 8, [(0, 18, [], 0)])
def zl_d8 : zk_C := (1, 6, [(0, 19, [], 0)])
def zl_d9 : zk_C := (1, 6, [(0, 20, [], 0)])
def zl_d10 : zk_C := (1, 5, [(0, 21, [], 0)])
def zl_d11 : zk_C := (0, 7, [(3, 12, [], 0), (0, 0, zk_y 23), (3, 13, [], 0), (0, 0, zk_y 25), (0, 0, zk_y 26)])
def zl_d12 : zk_C := (1, 120, [(0, 22, [], 0)])
def zl_d13 : zk_C := (1, 121, [(0, 24, [], 0)])
def zl_d14 : zk_C := (0, 5, [(3, 15, [], 0), (0, 0, zk_y 28), (3, 16, [], 0), (3, 17, [], 0)])
def zl_d15 : zk_C := (1, 121, [(0, 27, [], 0)])
def zl_d16 : zk_C := (1, 6, [(0, 29, [], 0)])
def zl_d17 : zk_C := (1, 64, [(0, 30, [], 0)])
def zl_d18 : zk_C := (0, 4, [(0, 0, zk_y 31), (0, 0, zk_y 32), (0, 0, zk_y 33), (0, 0, zk_y 34), (0, 0, zk_y 35), (3, 19, [], 0), (3, 20, [], 0), (3, 21, [], 0), (3, 22, [], 0), (3, 23, [], 0), (3, 24, [], 0), (3, 25, [], 0), (3, 26, [], 0), (3, 27, [], 0)])
def zl_d19 : zk_C := (1, 5, [(0, 36, [], 0)])
def zl_d20 : zk_C := (1, 5, [(0, 37, [], 0)])
def zl_d21 : zk_C := (1, 5, [(0, 38, [], 0)])
def zl_d22 : zk_C := (1, 5, [(0, 39, [], 0)])
def zl_d23 : zk_C := (1, 8, [(0, 40, [], 0)])
def zl_d24 : zk_C := (1, 8, [(0, 41, [], 0)])
def zl_d25 : zk_C := (1, 6, [(0, 42, [], 0)])
def zl_d26 : zk_C := (1, 6, [(0, 43, [], 0)])
def zl_d27 : zk_C := (1, 5, [(0, 44, [], 0)])
def zl_d28 : zk_C := (0, 9, [(3, 29, [], 0)])
def zl_d29 : zk_C := (1, 60, [(0, 45, [], 0)])
def zl_d30 : zk_C := (0, 1, [(3, 31, [], 0), (3, 32, [], 0), (0, 0, zk_y 48)])
def zl_d31 : zk_C := (1, 64, [(0, 46, [], 0)])
def zl_d32 : zk_C := (1, 64, [(0, 47, [], 0)])
def zl_d33 : zk_C := (0, 3, [(3, 34, [], 0), (3, 35, [], 0), (3, 36, [], 0)])
def zl_d34 : zk_C := (1, 5, [(0, 49, [], 0)])
def zl_d35 : zk_C := (1, 45, [(0, 50, [], 0)])
def zl_d36 : zk_C := (1, 54, [(0, 51, [], 0)])
def zl_d37 : zk_C := (0, 10, [(3, 38, [], 0), (3, 39, [], 0), (0, 0, zk_y 54), (3, 40, [], 0), (0, 0, zk_y 56), (0, 0, zk_y 57)])
def zl_d38 : zk_C := (1, 100, [(0, 52, [], 0)])
def zl_d39 : zk_C := (1, 100, [(0, 53, [], 0)])
def zl_d40 : zk_C := (1, 100, [(0, 55, [], 0)])
def zl_d41 : zk_C := (0, 2, [(3, 42, [], 0), (3, 43, [], 0), (3, 44, [], 0), (3, 45, [], 0), (0, 0, zk_y 62), (0, 0, zk_y 63)])
def zl_d42 : zk_C := (1, 40, [(0, 58, [], 0)])
def zl_d43 : zk_C := (1, 40, [(0, 59, [], 0)])
def zl_d44 : zk_C := (1, 40, [(0, 60, [], 0)])
def zl_d45 : zk_C := (1, 40, [(0, 61, [], 0)])
def zl_d46 : zk_C := (0, 6, [(3, 47, [], 0), (0, 0, zk_y 65), (3, 48, [], 0), (3, 49, [], 0), (3, 50, [], 0)])
def zl_d47 : zk_C := (1, 5, [(0, 64, [], 0)])
def zl_d48 : zk_C := (1, 5, [(0, 66, [], 0)])
def zl_d49 : zk_C := (1, 5, [(0, 67, [], 0)])
def zl_d50 : zk_C := (1, 5, [(0, 68, [], 0)])
def zl_d51 : zk_C := (0, 0, [(3, 52, [], 0), (0, 0, zk_y 70), (3, 53, [], 0), (0, 0, zk_y 72)])
def zl_d52 : zk_C := (1, 50, [(0, 69, [], 0)])
def zl_d53 : zk_C := (1, 24, [(0, 71, [], 0)])
def zl_d54 : zk_C := (5, 6, [(3, 55, [], 0), (3, 57, [], 0), (3, 59, [], 0), (3, 61, [], 0), (3, 63, [], 0), (3, 65, [], 0)])
def zl_d55 : zk_C := (0, 8, [(0, 0, zk_y 73), (0, 0, zk_y 74), (0, 0, zk_y 75), (0, 0, zk_y 76), (3, 56, [], 0)])
def zl_d56 : zk_C := (2, 60, [(0, 77, [], 0)])
def zl_d57 : zk_C := (0, 8, [(0, 0, zk_y 78), (0, 0, zk_y 79), (0, 0, zk_y 80), (0, 0, zk_y 81), (3, 58, [], 0)])
def zl_d58 : zk_C := (2, 60, [(0, 82, [], 0)])
def zl_d59 : zk_C := (0, 8, [(0, 0, zk_y 83), (0, 0, zk_y 84), (0, 0, zk_y 85), (0, 0, zk_y 86), (3, 60, [], 0)])
def zl_d60 : zk_C := (2, 60, [(0, 87, [], 0)])
def zl_d61 : zk_C := (0, 8, [(0, 0, zk_y 88), (0, 0, zk_y 89), (0, 0, zk_y 90), (0, 0, zk_y 91), (3, 62, [], 0)])
def zl_d62 : zk_C := (2, 60, [(0, 92, [], 0)])
def zl_d63 : zk_C := (0, 8, [(0, 0, zk_y 93), (0, 0, zk_y 94), (0, 0, zk_y 95), (0, 0, zk_y 96), (3, 64, [], 0)])
def zl_d64 : zk_C := (2, 60, [(0, 97, [], 0)])
def zl_d65 : zk_C := (0, 8, [(0, 0, zk_y 98), (0, 0, zk_y 99), (0, 0, zk_y 100), (0, 0, zk_y 101), (3, 66, [], 0)])
def zl_d66 : zk_C := (2, 60, [(0, 102, [], 0)])
def zl_d67 : zk_C := (0, 12, [(0, 0, zk_y 103), (0, 0, zk_y 8), (3, 68, [], 0), (3, 69, [], 0), (3, 70, [], 0), (3, 71, [], 0), (0, 0, zk_y 9), (3, 72, [], 0), (3, 73, [], 0), (0, 0, zk_y 10), (3, 74, [], 0), (3, 75, [], 0), (0, 0, zk_y 11), (0, 0, zk_y 12), (0, 0, zk_y 62), (0, 0, zk_y 118), (3, 76, [], 0), (3, 77, [], 0), (3, 78, [], 0), (3, 79, [], 0), (3, 80, [], 0), (0, 0, zk_y 23), (0, 0, zk_y 125), (0, 0, zk_y 126), (0, 0, zk_y 127), (0, 0, zk_y 128), (3, 81, [], 0), (3, 82, [], 0), (3, 83, [], 0), (3, 84, [], 0), (3, 85, [], 0), (3, 86, [], 0), (3, 87, [], 0), (0, 0, zk_y 136), (3, 88, [], 0), (3, 89, [], 0), (0, 0, zk_y 139), (3, 90, [], 0), (3, 91, [], 0), (0, 0, zk_y 142), (3, 92, [], 0), (3, 93, [], 0), (0, 0, zk_y 145), (3, 94, [], 0), (0, 0, zk_y 147), (0, 0, zk_y 148), (3, 95, [], 0), (3, 96, [], 0), (3, 97, [], 0), (0, 0, zk_y 70), (3, 98, [], 0), (0, 0, zk_y 72), (3, 99, [], 0), (3, 100, [], 0), (3, 101, [], 0), (3, 102, [], 0), (3, 103, [], 0)])
def zl_d68 : zk_C := (1, 5, [(0, 105, [], 0)])
def zl_d69 : zk_C := (1, 5, [(0, 106, [], 0)])
def zl_d70 : zk_C := (1, 5, [(0, 107, [], 0)])
def zl_d71 : zk_C := (1, 5, [(0, 108, [], 0)])
def zl_d72 : zk_C := (1, 8, [(0, 110, [], 0)])
def zl_d73 : zk_C := (1, 8, [(0, 111, [], 0)])
def zl_d74 : zk_C := (1, 7, [(0, 113, [], 0)])
def zl_d75 : zk_C := (1, 7, [(0, 114, [], 0)])
def zl_d76 : zk_C := (1, 40, [(0, 119, [], 0)])
def zl_d77 : zk_C := (1, 40, [(0, 120, [], 0)])
def zl_d78 : zk_C := (1, 40, [(0, 121, [], 0)])
def zl_d79 : zk_C := (1, 40, [(0, 122, [], 0)])
def zl_d80 : zk_C := (3, 120, [(0, 123, [], 0)])
def zl_d81 : zk_C := (3, 260, [(0, 129, [], 0)])
def zl_d82 : zk_C := (1, 260, [(0, 130, [], 0)])
def zl_d83 : zk_C := (1, 2, [(0, 131, [], 0)])
def zl_d84 : zk_C := (4, 122, [(0, 132, [], 0)])
def zl_d85 : zk_C := (4, 122, [(0, 133, [], 0)])
def zl_d86 : zk_C := (1, 6, [(0, 134, [], 0)])
def zl_d87 : zk_C := (1, 130, [(0, 135, [], 0)])
def zl_d88 : zk_C := (1, 5, [(0, 137, [], 0)])
def zl_d89 : zk_C := (1, 5, [(0, 138, [], 0)])
def zl_d90 : zk_C := (1, 60, [(0, 140, [], 0)])
def zl_d91 : zk_C := (1, 8, [(0, 141, [], 0)])
def zl_d92 : zk_C := (1, 600, [(0, 143, [], 0)])
def zl_d93 : zk_C := (1, 100, [(0, 144, [], 0)])
def zl_d94 : zk_C := (1, 5, [(0, 146, [], 0)])
def zl_d95 : zk_C := (1, 5, [(0, 149, [], 0)])
def zl_d96 : zk_C := (1, 5, [(0, 150, [], 0)])
def zl_d97 : zk_C := (1, 5, [(0, 151, [], 0)])
def zl_d98 : zk_C := (1, 50, [(0, 153, [], 0)])
def zl_d99 : zk_C := (1, 24, [(0, 155, [], 0)])
def zl_d100 : zk_C := (1, 6, [(0, 156, [], 0)])
def zl_d101 : zk_C := (1, 6, [(0, 157, [], 0)])
def zl_d102 : zk_C := (2, 360, [(0, 158, [], 0)])
def zl_d103 : zk_C := (2, 60, [(0, 159, [], 0)])
def zl_hp : List zk_C := [zl_d0, zl_d1, zl_d2, zl_d3, zl_d4, zl_d5, zl_d6, zl_d7, zl_d8, zl_d9, zl_d10, zl_d11, zl_d12, zl_d13, zl_d14, zl_d15, zl_d16, zl_d17, zl_d18, zl_d19, zl_d20, zl_d21, zl_d22, zl_d23, zl_d24, zl_d25, zl_d26, zl_d27, zl_d28, zl_d29, zl_d30, zl_d31, zl_d32, zl_d33, zl_d34, zl_d35, zl_d36, zl_d37, zl_d38, zl_d39, zl_d40, zl_d41, zl_d42, zl_d43, zl_d44, zl_d45, zl_d46, zl_d47, zl_d48, zl_d49, zl_d50, zl_d51, zl_d52, zl_d53, zl_d54, zl_d55, zl_d56, zl_d57, zl_d58, zl_d59, zl_d60, zl_d61, zl_d62, zl_d63, zl_d64, zl_d65, zl_d66, zl_d67, zl_d68, zl_d69, zl_d70, zl_d71, zl_d72, zl_d73, zl_d74, zl_d75, zl_d76, zl_d77, zl_d78, zl_d79, zl_d80, zl_d81, zl_d82, zl_d83, zl_d84, zl_d85, zl_d86, zl_d87, zl_d88, zl_d89, zl_d90, zl_d91, zl_d92, zl_d93, zl_d94, zl_d95, zl_d96, zl_d97, zl_d98, zl_d99, zl_d100, zl_d101, zl_d102, zl_d103]
def zl_w : zk_New := (173, [(160, 0, 3072), (161, (-6), 49), (162, (-6), 49), (163, (-6), 49), (164, (-6), 49), (165, (-6), 49), (166, (-6), 49), (167, 0, 60), (168, 0, 60), (169, 0, 60), (170, 0, 60), (171, 0, 60), (172, 0, 60), (8, 0, 5), (9, 0, 8), (10, 0, 6), (11, 0, 9), (12, 1, 20), (23, 0, 120), (25, 0, 121), (26, 0, 120), (28, 0, 121), (31, 0, 5), (32, 0, 8), (33, 0, 6), (34, 0, 9), (35, 1, 20), (48, (-2147483648), 2147483647), (54, 0, 100), (56, (-2147483648), 2147483647), (57, (-2147483648), 2147483647), (62, 0, 40), (63, 0, 40), (65, (-1), 5), (70, 0, 50), (72, 0, 100), (73, 0, 2), (74, (-1), 49), (75, 0, 4), (76, 0, 60), (78, 0, 2), (79, (-1), 49), (80, 0, 4), (81, 0, 60), (83, 0, 2), (84, (-1), 49), (85, 0, 4), (86, 0, 60), (88, 0, 2), (89, (-1), 49), (90, 0, 4), (91, 0, 60), (93, 0, 2), (94, (-1), 49), (95, 0, 4), (96, 0, 60), (98, 0, 2), (99, (-1), 49), (100, 0, 4), (101, 0, 60), (103, (-2147483648), 2147483647), (118, 0, 40), (125, 0, 120), (126, (-1), 120), (127, 0, 6), (128, 0, 121), (136, 0, 1), (139, (-2147483648), 2147483647), (142, (-2147483648), 2147483647), (145, 0, 100), (147, 0, 1), (148, 0, 5)], [([(62, (-1)), (118, (-1))], 40), ([(62, (-1)), (63, 1), (118, (-1))], 0), ([(62, 1), (63, (-1)), (118, 1)], 0), ([(65, 1), (147, (-1))], 1), ([(65, (-1)), (147, 6)], (-1))], [(22, [129, 130, 132, 133, 131], [([], 0), ([], 0)]), (62, [], [([(73, 1)], 0), ([], 1), ([(74, 1)], 0)]), (1, [156], [([], 0), ([(161, 1)], 0)]), (1, [157], [([], 0), ([(167, 1)], 0)]), (61, [], [([(73, 1)], 0), ([], 0), ([(161, 1)], 0), ([], (-1))]), (61, [], [([(73, 1)], 0), ([], 1), ([(161, 1)], 0), ([(74, 1)], 0)]), (61, [], [([(73, 1)], 0), ([], 2), ([(161, 1)], 0), ([(75, (-1))], (-2))]), (61, [], [([(73, 1)], 0), ([], 2), ([(167, 1)], 0), ([(76, 1)], 0)]), (61, [], [([(161, 1)], 0), ([], (-1)), ([(73, 1)], 0), ([], 0)]), (62, [], [([(78, 1)], 0), ([], 1), ([(79, 1)], 0)]), (1, [156], [([], 1), ([(162, 1)], 0)]), (1, [157], [([], 1), ([(168, 1)], 0)]), (61, [], [([(78, 1)], 0), ([], 0), ([(162, 1)], 0), ([], (-1))]), (61, [], [([(78, 1)], 0), ([], 1), ([(162, 1)], 0), ([(79, 1)], 0)]), (61, [], [([(78, 1)], 0), ([], 2), ([(162, 1)], 0), ([(80, (-1))], (-2))]), (61, [], [([(78, 1)], 0), ([], 2), ([(168, 1)], 0), ([(81, 1)], 0)]), (61, [], [([(162, 1)], 0), ([], (-1)), ([(78, 1)], 0), ([], 0)]), (62, [], [([(83, 1)], 0), ([], 1), ([(84, 1)], 0)]), (1, [156], [([], 2), ([(163, 1)], 0)]), (1, [157], [([], 2), ([(169, 1)], 0)]), (61, [], [([(83, 1)], 0), ([], 0), ([(163, 1)], 0), ([], (-1))]), (61, [], [([(83, 1)], 0), ([], 1), ([(163, 1)], 0), ([(84, 1)], 0)]), (61, [], [([(83, 1)], 0), ([], 2), ([(163, 1)], 0), ([(85, (-1))], (-2))]), (61, [], [([(83, 1)], 0), ([], 2), ([(169, 1)], 0), ([(86, 1)], 0)]), (61, [], [([(163, 1)], 0), ([], (-1)), ([(83, 1)], 0), ([], 0)]), (62, [], [([(88, 1)], 0), ([], 1), ([(89, 1)], 0)]), (1, [156], [([], 3), ([(164, 1)], 0)]), (1, [157], [([], 3), ([(170, 1)], 0)]), (61, [], [([(88, 1)], 0), ([], 0), ([(164, 1)], 0), ([], (-1))]), (61, [], [([(88, 1)], 0), ([], 1), ([(164, 1)], 0), ([(89, 1)], 0)]), (61, [], [([(88, 1)], 0), ([], 2), ([(164, 1)], 0), ([(90, (-1))], (-2))]), (61, [], [([(88, 1)], 0), ([], 2), ([(170, 1)], 0), ([(91, 1)], 0)]), (61, [], [([(164, 1)], 0), ([], (-1)), ([(88, 1)], 0), ([], 0)]), (62, [], [([(93, 1)], 0), ([], 1), ([(94, 1)], 0)]), (1, [156], [([], 4), ([(165, 1)], 0)]), (1, [157], [([], 4), ([(171, 1)], 0)]), (61, [], [([(93, 1)], 0), ([], 0), ([(165, 1)], 0), ([], (-1))]), (61, [], [([(93, 1)], 0), ([], 1), ([(165, 1)], 0), ([(94, 1)], 0)]), (61, [], [([(93, 1)], 0), ([], 2), ([(165, 1)], 0), ([(95, (-1))], (-2))]), (61, [], [([(93, 1)], 0), ([], 2), ([(171, 1)], 0), ([(96, 1)], 0)]), (61, [], [([(165, 1)], 0), ([], (-1)), ([(93, 1)], 0), ([], 0)]), (62, [], [([(98, 1)], 0), ([], 1), ([(99, 1)], 0)]), (1, [156], [([], 5), ([(166, 1)], 0)]), (1, [157], [([], 5), ([(172, 1)], 0)]), (61, [], [([(98, 1)], 0), ([], 0), ([(166, 1)], 0), ([], (-1))]), (61, [], [([(98, 1)], 0), ([], 1), ([(166, 1)], 0), ([(99, 1)], 0)]), (61, [], [([(98, 1)], 0), ([], 2), ([(166, 1)], 0), ([(100, (-1))], (-2))]), (61, [], [([(98, 1)], 0), ([], 2), ([(172, 1)], 0), ([(101, 1)], 0)]), (61, [], [([(166, 1)], 0), ([], (-1)), ([(98, 1)], 0), ([], 0)]), (68, [158, 77], [([], 0), ([], 0), ([], 60)]), (68, [158, 82], [([], 60), ([], 0), ([], 60)]), (68, [158, 87], [([], 120), ([], 0), ([], 60)]), (68, [158, 92], [([], 180), ([], 0), ([], 60)]), (68, [158, 97], [([], 240), ([], 0), ([], 60)]), (68, [158, 102], [([], 300), ([], 0), ([], 60)]), (87, [22, 123], [([(23, 1)], 0)]), (8, [13, 105], []), (8, [14, 106], []), (8, [15, 107], []), (8, [16, 108], []), (8, [17, 110], []), (8, [18, 111], []), (8, [58, 120], []), (8, [59, 119], []), (8, [60, 121], []), (8, [61, 122], []), (8, [64, 146], []), (8, [68, 151], []), (8, [69, 153], []), (8, [71, 155], []), (94, [27], [([(28, 1)], 0)]), (95, [27, 129, 130, 132, 133, 131], [([(28, 1)], 0), ([(136, 1)], 0)]), (68, [19, 113], [([], 0), ([], 0), ([(10, 1)], 0)]), (68, [20, 114], [([], 0), ([], 0), ([(10, 1)], 0)]), (41, [18], [([(9, 1)], 0), ([(8, 1)], 0)]), (43, [21, 18], [([(9, 1)], 0), ([(8, 1)], 0)]), (42, [58, 59, 60, 61], [([(8, 1)], 0)]), (68, [66, 149], [([], 0), ([], 0), ([(65, 1)], 0)]), (68, [67, 150], [([], 0), ([], 0), ([(65, 1)], 0)]), (61, [], [([(147, 1)], 0), ([], 1), ([(65, 1)], 0), ([(148, 1)], 0)]), (3, [13], [zk_c 0, zk_c 99]), (3, [14], [zk_c 0, zk_c 99]), (3, [15], [zk_c 0, zk_c 99]), (3, [16], [zk_c 0, zk_c 9]), (3, [17], [zk_c 0, zk_c 30]), (3, [18], [zk_c (-1), zk_c 4]), (3, [19], [zk_c 0, zk_c 99]), (3, [20], [zk_c 0, zk_c 19]), (3, [21], [zk_c (-2147483648), zk_c 2147483647]), (3, [22], [zk_c 0, zk_c 255]), (3, [24], [zk_c (-2147483648), zk_c 2147483647]), (3, [27], [zk_c (-2147483648), zk_c 2147483647]), (3, [29], [zk_c (-2147483648), zk_c 2147483647]), (3, [30], [zk_c (-2147483648), zk_c 2147483647]), (3, [36], [zk_c 0, zk_c 99]), (3, [37], [zk_c 0, zk_c 99]), (3, [38], [zk_c 0, zk_c 99]), (3, [39], [zk_c 0, zk_c 9]), (3, [40], [zk_c 0, zk_c 30]), (3, [41], [zk_c (-1), zk_c 4]), (3, [42], [zk_c 0, zk_c 99]), (3, [43], [zk_c 0, zk_c 19]), (3, [44], [zk_c (-2147483648), zk_c 2147483647]), (3, [45], [zk_c (-2147483648), zk_c 2147483647]), (3, [46], [zk_c (-2147483648), zk_c 2147483647]), (3, [47], [zk_c (-2147483648), zk_c 2147483647]), (3, [49], [zk_c (-2147483648), zk_c 2147483647]), (3, [50], [zk_c (-2147483648), zk_c 2147483647]), (3, [51], [zk_c (-2147483648), zk_c 2147483647]), (3, [52], [zk_c (-2147483648), zk_c 2147483647]), (3, [53], [zk_c 0, zk_c 99]), (3, [55], [zk_c (-2147483648), zk_c 2147483647]), (3, [58], [zk_c (-2147483648), zk_c 2147483647]), (3, [59], [zk_c (-2147483648), zk_c 2147483647]), (3, [60], [zk_c (-2147483648), zk_c 2147483647]), (3, [61], [zk_c (-2147483648), zk_c 2147483647]), (3, [64], [zk_c (-2147483648), zk_c 2147483647]), (3, [66], [zk_c 0, zk_c 99]), (3, [67], [zk_c 0, zk_c 99]), (3, [68], [zk_c (-2147483648), zk_c 2147483647]), (3, [69], [zk_c 0, zk_c 7]), (3, [71], [zk_c (-2147483648), zk_c 2147483647]), (3, [77], [zk_c (-9223372036854775808), zk_c 9223372036854775807]), (3, [82], [zk_c (-9223372036854775808), zk_c 9223372036854775807]), (3, [87], [zk_c (-9223372036854775808), zk_c 9223372036854775807]), (3, [92], [zk_c (-9223372036854775808), zk_c 9223372036854775807]), (3, [97], [zk_c (-9223372036854775808), zk_c 9223372036854775807]), (3, [102], [zk_c (-9223372036854775808), zk_c 9223372036854775807]), (3, [105], [zk_c 0, zk_c 99]), (3, [106], [zk_c 0, zk_c 99]), (3, [107], [zk_c 0, zk_c 99]), (3, [108], [zk_c 0, zk_c 9]), (3, [110], [zk_c 0, zk_c 30]), (3, [111], [zk_c (-1), zk_c 4]), (3, [113], [zk_c 0, zk_c 99]), (3, [114], [zk_c 0, zk_c 19]), (3, [119], [zk_c (-2147483648), zk_c 2147483647]), (3, [120], [zk_c (-2147483648), zk_c 2147483647]), (3, [121], [zk_c (-2147483648), zk_c 2147483647]), (3, [122], [zk_c (-2147483648), zk_c 2147483647]), (3, [123], [zk_c (-128), zk_c 127]), (3, [129], [zk_c (-128), zk_c 127]), (3, [130], [zk_c (-2147483648), zk_c 2147483647]), (3, [131], [zk_c 0, zk_c 61]), (3, [132], [zk_c 0, zk_c 121]), (3, [133], [zk_c 0, zk_c 121]), (3, [134], [zk_c (-2147483648), zk_c 2147483647]), (3, [135], [zk_c (-2147483648), zk_c 2147483647]), (3, [137], [zk_c 0, zk_c 99]), (3, [138], [zk_c (-2147483648), zk_c 2147483647]), (3, [140], [zk_c (-2147483648), zk_c 2147483647]), (3, [141], [zk_c (-2147483648), zk_c 2147483647]), (3, [143], [zk_c (-2147483648), zk_c 2147483647]), (3, [144], [zk_c (-2), zk_c 99]), (3, [146], [zk_c (-2147483648), zk_c 2147483647]), (3, [149], [zk_c 0, zk_c 99]), (3, [150], [zk_c 0, zk_c 99]), (3, [151], [zk_c (-2147483648), zk_c 2147483647]), (3, [153], [zk_c 0, zk_c 7]), (3, [155], [zk_c (-2147483648), zk_c 2147483647]), (3, [156], [zk_c (-6), zk_c 49]), (3, [157], [zk_c 0, zk_c 60]), (3, [158], [zk_c (-9223372036854775808), zk_c 9223372036854775807]), (3, [159], [zk_c (-9223372036854775808), zk_c 9223372036854775807])])
def zl_lc : List (Nat × zk_T) := [(0, (4, 9, zk_c 0)), (1, (3, 0, zk_c 0)), (2, (3, 67, zk_c 0)), (3, (0, 0, zk_y 160))]
def zl_m : zk_V := ([(160, -1)], 3072)
def zb_N0 : zk_N := (2, [(0, 0, 3072)], [], [(3, [0], [zk_c (-2147483648), zk_c 2147483647]), (3, [1], [zk_c 0, zk_c 0])])
def zl_N : zk_N := (8, zb_N0.2)
def zl_en : zk_Cx := (18, zl_N, zl_w, zl_hp, zl_lc, [], zl_m, (6, [], [], ([], 0), []))
def zl_thb (z : zk_Z) : zk_Th := zk_mtT 8 (zk_mtC 8 ([], []) zl_hp z.2.1) [(0, 0, zk_y 160)] (match zk_loc 3 z.2.2.1 with
  | some t => [t]
  | none => [])
def zl_th (z : zk_Z) : zk_Th := zk_dtG z.1 (zl_thb z) zl_w.2.2.2
def zk_CT : List zk_K := [zk_ki1, zk_ki2, zk_ki3, zk_kp5, zk_kp6, zk_kp7, zk_kp8, zk_kp9, zk_kp10, zk_kp11, zk_kp12, zk_kp13, zk_kp14, zk_kp15, zk_kp16, zk_kp17, zk_kp18, zk_kp19, zk_kp20, zk_kp21, zk_kp22, zk_kp23, zk_kp36, zk_kp41, zk_kp42, zk_kp43, zk_kp44, zk_kp45, zk_kp46, zk_kp47, zk_kp98, zk_kr4, zk_kr6, zk_kr7, zk_kr8, zk_kr9, zk_kr10, zk_kr11, zk_kr13, zk_kr15, zk_kr22, zk_kr28, zk_kr40, zk_kr54, zk_kr101, zk_kr146, zk_kr147, zk_kr148, zk_kr156, zk_kr157, zk_kr158, zk_kr159, zk_kr160, zk_kr161]
def zb_lw : Option (Nat × zb_Z) := zb_run zk_PT vwCl zk_ly0 zk_tab 1000 18 10 zm_law zm_law.2.2.2.2.2.1 ((zb_N0, [], [(0, (4, 9, zk_c 0))], []), 0, 0)
def zl_g8 : List zk_G := (8, [1, 1], []) :: zl_g
/-- the walk behind the constructors comes to the loop's world -/
def zl_entry (en : zk_Cx) (thf : zk_Z → zk_Th) (o : Option (Nat × zb_Z)) : Bool := match o with
  | some x => match zk_rel (zk_addGs x.2.1.1 zl_g8, x.2.1.2) with
    | some [N] => Nat.beq x.1 18 && zb_z1 x.2.1.1 && zk_fit en.2.1.1 (thf (N, x.2.1.2)) (N, x.2.1.2) en.2.2.1 en.2.2.2.1 en.2.2.2.2.1 en.2.2.2.2.2.1 && Nat.ble x.2.2.1 600000 && Nat.ble x.2.2.2 7302250
    | _ => false
  | none => false
theorem zl_A : zl_entry zl_en zl_th zb_lw = true := by decide +kernel
theorem zl_C : (zk_fitC zl_w zl_hp zl_lc [] && zk_svB zl_w.1 zl_m) = true := by decide +kernel
def zl_z : zk_Z := (zk_cat2 zl_w zl_N, zl_hp, zl_lc, [])
def zl_rows : List zk_I := zk_from 18 zm_law.2.2.2.2.2.1
def zl_s : zl_S := zl_str zm_law.2.2.1 zk_tab 11 zl_rows zl_z
theorem zl_B0 : zl_exs zk_PT zk_CT zk_RT zk_tab 100000 200 zm_law [zl_en] zl_s 46 = true := by decide +kernel
theorem zl_v0 : zl_way zk_PT zk_CT zk_RT zk_tab 100000 200 zm_law [zl_en] zl_s 0 = true := by decide +kernel
theorem zl_v1 : zl_way zk_PT zk_CT zk_RT zk_tab 100000 200 zm_law [zl_en] zl_s 1 = true := by decide +kernel
theorem zl_v3 : zl_way zk_PT zk_CT zk_RT zk_tab 100000 200 zm_law [zl_en] zl_s 3 = true := by decide +kernel
theorem zl_c4_0 : zl_case zk_PT zk_CT zk_RT zk_tab 99999 200 zm_law [zl_en] zl_s 4 0 = true := by decide +kernel
theorem zl_c4_1 : zl_case zk_PT zk_CT zk_RT zk_tab 99999 200 zm_law [zl_en] zl_s 4 1 = true := by decide +kernel
theorem zl_c4_2 : zl_case zk_PT zk_CT zk_RT zk_tab 99999 200 zm_law [zl_en] zl_s 4 2 = true := by decide +kernel
theorem zl_c4_3 : zl_case zk_PT zk_CT zk_RT zk_tab 99999 200 zm_law [zl_en] zl_s 4 3 = true := by decide +kernel
theorem zl_c4_4 : zl_case zk_PT zk_CT zk_RT zk_tab 99999 200 zm_law [zl_en] zl_s 4 4 = true := by decide +kernel
theorem zl_c4_5 : zl_case zk_PT zk_CT zk_RT zk_tab 99999 200 zm_law [zl_en] zl_s 4 5 = true := by decide +kernel
theorem zl_c4_6 : zl_case zk_PT zk_CT zk_RT zk_tab 99999 200 zm_law [zl_en] zl_s 4 6 = true := by decide +kernel
theorem zl_c4_7 : zl_case zk_PT zk_CT zk_RT zk_tab 99999 200 zm_law [zl_en] zl_s 4 7 = true := by decide +kernel
theorem zl_c4_8 : zl_case zk_PT zk_CT zk_RT zk_tab 99999 200 zm_law [zl_en] zl_s 4 8 = true := by decide +kernel
theorem zl_c4_9 : zl_case zk_PT zk_CT zk_RT zk_tab 99999 200 zm_law [zl_en] zl_s 4 9 = true := by decide +kernel
theorem zl_c4_10 : zl_case zk_PT zk_CT zk_RT zk_tab 99999 200 zm_law [zl_en] zl_s 4 10 = true := by decide +kernel
theorem zl_n4 : zl_cn zk_RT zk_tab zm_law zl_s 4 11 = true := by decide +kernel
theorem zl_v4 : zl_way zk_PT zk_CT zk_RT zk_tab 100000 200 zm_law [zl_en] zl_s 4 = true := zl_byc (k := 99999) zl_n4 fun i hi => match i, hi with
  | 0, _ => zl_c4_0
  | 1, _ => zl_c4_1
  | 2, _ => zl_c4_2
  | 3, _ => zl_c4_3
  | 4, _ => zl_c4_4
  | 5, _ => zl_c4_5
  | 6, _ => zl_c4_6
  | 7, _ => zl_c4_7
  | 8, _ => zl_c4_8
  | 9, _ => zl_c4_9
  | 10, _ => zl_c4_10
  | n + 11, h => absurd h (Nat.not_lt.mpr (Nat.le_add_left 11 n))
theorem zl_c5_0 : zl_case zk_PT zk_CT zk_RT zk_tab 99999 200 zm_law [zl_en] zl_s 5 0 = true := by decide +kernel
theorem zl_c5_1 : zl_case zk_PT zk_CT zk_RT zk_tab 99999 200 zm_law [zl_en] zl_s 5 1 = true := by decide +kernel
theorem zl_c5_2 : zl_case zk_PT zk_CT zk_RT zk_tab 99999 200 zm_law [zl_en] zl_s 5 2 = true := by decide +kernel
theorem zl_c5_3 : zl_case zk_PT zk_CT zk_RT zk_tab 99999 200 zm_law [zl_en] zl_s 5 3 = true := by decide +kernel
theorem zl_c5_4 : zl_case zk_PT zk_CT zk_RT zk_tab 99999 200 zm_law [zl_en] zl_s 5 4 = true := by decide +kernel
theorem zl_c5_5 : zl_case zk_PT zk_CT zk_RT zk_tab 99999 200 zm_law [zl_en] zl_s 5 5 = true := by decide +kernel
theorem zl_c5_6 : zl_case zk_PT zk_CT zk_RT zk_tab 99999 200 zm_law [zl_en] zl_s 5 6 = true := by decide +kernel
theorem zl_c5_7 : zl_case zk_PT zk_CT zk_RT zk_tab 99999 200 zm_law [zl_en] zl_s 5 7 = true := by decide +kernel
theorem zl_c5_8 : zl_case zk_PT zk_CT zk_RT zk_tab 99999 200 zm_law [zl_en] zl_s 5 8 = true := by decide +kernel
theorem zl_c5_9 : zl_case zk_PT zk_CT zk_RT zk_tab 99999 200 zm_law [zl_en] zl_s 5 9 = true := by decide +kernel
theorem zl_c5_10 : zl_case zk_PT zk_CT zk_RT zk_tab 99999 200 zm_law [zl_en] zl_s 5 10 = true := by decide +kernel
theorem zl_c5_11 : zl_case zk_PT zk_CT zk_RT zk_tab 99999 200 zm_law [zl_en] zl_s 5 11 = true := by decide +kernel
theorem zl_c5_12 : zl_case zk_PT zk_CT zk_RT zk_tab 99999 200 zm_law [zl_en] zl_s 5 12 = true := by decide +kernel
theorem zl_n5 : zl_cn zk_RT zk_tab zm_law zl_s 5 13 = true := by decide +kernel
theorem zl_v5 : zl_way zk_PT zk_CT zk_RT zk_tab 100000 200 zm_law [zl_en] zl_s 5 = true := zl_byc (k := 99999) zl_n5 fun i hi => match i, hi with
  | 0, _ => zl_c5_0
  | 1, _ => zl_c5_1
  | 2, _ => zl_c5_2
  | 3, _ => zl_c5_3
  | 4, _ => zl_c5_4
  | 5, _ => zl_c5_5
  | 6, _ => zl_c5_6
  | 7, _ => zl_c5_7
  | 8, _ => zl_c5_8
  | 9, _ => zl_c5_9
  | 10, _ => zl_c5_10
  | 11, _ => zl_c5_11
  | 12, _ => zl_c5_12
  | n + 13, h => absurd h (Nat.not_lt.mpr (Nat.le_add_left 13 n))
theorem zl_v6 : zl_way zk_PT zk_CT zk_RT zk_tab 100000 200 zm_law [zl_en] zl_s 6 = true := by decide +kernel
theorem zl_v7 : zl_way zk_PT zk_CT zk_RT zk_tab 100000 200 zm_law [zl_en] zl_s 7 = true := by decide +kernel
theorem zl_v8 : zl_way zk_PT zk_CT zk_RT zk_tab 100000 200 zm_law [zl_en] zl_s 8 = true := by decide +kernel
theorem zl_v9 : zl_way zk_PT zk_CT zk_RT zk_tab 100000 200 zm_law [zl_en] zl_s 9 = true := by decide +kernel
theorem zl_v10 : zl_way zk_PT zk_CT zk_RT zk_tab 100000 200 zm_law [zl_en] zl_s 10 = true := by decide +kernel
theorem zl_v11 : zl_way zk_PT zk_CT zk_RT zk_tab 100000 200 zm_law [zl_en] zl_s 11 = true := by decide +kernel
theorem zl_v12 : zl_way zk_PT zk_CT zk_RT zk_tab 100000 200 zm_law [zl_en] zl_s 12 = true := by decide +kernel
theorem zl_v13 : zl_way zk_PT zk_CT zk_RT zk_tab 100000 200 zm_law [zl_en] zl_s 13 = true := by decide +kernel
theorem zl_v14 : zl_way zk_PT zk_CT zk_RT zk_tab 100000 200 zm_law [zl_en] zl_s 14 = true := by decide +kernel
theorem zl_v15 : zl_way zk_PT zk_CT zk_RT zk_tab 100000 200 zm_law [zl_en] zl_s 15 = true := by decide +kernel
theorem zl_v16 : zl_way zk_PT zk_CT zk_RT zk_tab 100000 200 zm_law [zl_en] zl_s 16 = true := by decide +kernel
theorem zl_v17 : zl_way zk_PT zk_CT zk_RT zk_tab 100000 200 zm_law [zl_en] zl_s 17 = true := by decide +kernel
theorem zl_v18 : zl_way zk_PT zk_CT zk_RT zk_tab 100000 200 zm_law [zl_en] zl_s 18 = true := by decide +kernel
theorem zl_v19 : zl_way zk_PT zk_CT zk_RT zk_tab 100000 200 zm_law [zl_en] zl_s 19 = true := by decide +kernel
theorem zl_v20 : zl_way zk_PT zk_CT zk_RT zk_tab 100000 200 zm_law [zl_en] zl_s 20 = true := by decide +kernel
theorem zl_v21 : zl_way zk_PT zk_CT zk_RT zk_tab 100000 200 zm_law [zl_en] zl_s 21 = true := by decide +kernel
theorem zl_v22 : zl_way zk_PT zk_CT zk_RT zk_tab 100000 200 zm_law [zl_en] zl_s 22 = true := by decide +kernel
theorem zl_v23 : zl_way zk_PT zk_CT zk_RT zk_tab 100000 200 zm_law [zl_en] zl_s 23 = true := by decide +kernel
theorem zl_v24 : zl_way zk_PT zk_CT zk_RT zk_tab 100000 200 zm_law [zl_en] zl_s 24 = true := by decide +kernel
theorem zl_v25 : zl_way zk_PT zk_CT zk_RT zk_tab 100000 200 zm_law [zl_en] zl_s 25 = true := by decide +kernel
theorem zl_v26 : zl_way zk_PT zk_CT zk_RT zk_tab 100000 200 zm_law [zl_en] zl_s 26 = true := by decide +kernel
theorem zl_v27 : zl_way zk_PT zk_CT zk_RT zk_tab 100000 200 zm_law [zl_en] zl_s 27 = true := by decide +kernel
theorem zl_v28 : zl_way zk_PT zk_CT zk_RT zk_tab 100000 200 zm_law [zl_en] zl_s 28 = true := by decide +kernel
theorem zl_v29 : zl_way zk_PT zk_CT zk_RT zk_tab 100000 200 zm_law [zl_en] zl_s 29 = true := by decide +kernel
theorem zl_v30 : zl_way zk_PT zk_CT zk_RT zk_tab 100000 200 zm_law [zl_en] zl_s 30 = true := by decide +kernel
theorem zl_v31 : zl_way zk_PT zk_CT zk_RT zk_tab 100000 200 zm_law [zl_en] zl_s 31 = true := by decide +kernel
theorem zl_v32 : zl_way zk_PT zk_CT zk_RT zk_tab 100000 200 zm_law [zl_en] zl_s 32 = true := by decide +kernel
theorem zl_v33 : zl_way zk_PT zk_CT zk_RT zk_tab 100000 200 zm_law [zl_en] zl_s 33 = true := by decide +kernel
theorem zl_v34 : zl_way zk_PT zk_CT zk_RT zk_tab 100000 200 zm_law [zl_en] zl_s 34 = true := by decide +kernel
theorem zl_v35 : zl_way zk_PT zk_CT zk_RT zk_tab 100000 200 zm_law [zl_en] zl_s 35 = true := by decide +kernel
theorem zl_c36_0 : zl_case zk_PT zk_CT zk_RT zk_tab 99999 200 zm_law [zl_en] zl_s 36 0 = true := by decide +kernel
theorem zl_c36_1 : zl_case zk_PT zk_CT zk_RT zk_tab 99999 200 zm_law [zl_en] zl_s 36 1 = true := by decide +kernel
theorem zl_c36_2 : zl_case zk_PT zk_CT zk_RT zk_tab 99999 200 zm_law [zl_en] zl_s 36 2 = true := by decide +kernel
theorem zl_c36_3 : zl_case zk_PT zk_CT zk_RT zk_tab 99999 200 zm_law [zl_en] zl_s 36 3 = true := by decide +kernel
theorem zl_c36_4 : zl_case zk_PT zk_CT zk_RT zk_tab 99999 200 zm_law [zl_en] zl_s 36 4 = true := by decide +kernel
theorem zl_c36_5 : zl_case zk_PT zk_CT zk_RT zk_tab 99999 200 zm_law [zl_en] zl_s 36 5 = true := by decide +kernel
theorem zl_c36_6 : zl_case zk_PT zk_CT zk_RT zk_tab 99999 200 zm_law [zl_en] zl_s 36 6 = true := by decide +kernel
theorem zl_c36_7 : zl_case zk_PT zk_CT zk_RT zk_tab 99999 200 zm_law [zl_en] zl_s 36 7 = true := by decide +kernel
theorem zl_c36_8 : zl_case zk_PT zk_CT zk_RT zk_tab 99999 200 zm_law [zl_en] zl_s 36 8 = true := by decide +kernel
theorem zl_c36_9 : zl_case zk_PT zk_CT zk_RT zk_tab 99999 200 zm_law [zl_en] zl_s 36 9 = true := by decide +kernel
theorem zl_c36_10 : zl_case zk_PT zk_CT zk_RT zk_tab 99999 200 zm_law [zl_en] zl_s 36 10 = true := by decide +kernel
theorem zl_c36_11 : zl_case zk_PT zk_CT zk_RT zk_tab 99999 200 zm_law [zl_en] zl_s 36 11 = true := by decide +kernel
theorem zl_c36_12 : zl_case zk_PT zk_CT zk_RT zk_tab 99999 200 zm_law [zl_en] zl_s 36 12 = true := by decide +kernel
theorem zl_c36_13 : zl_case zk_PT zk_CT zk_RT zk_tab 99999 200 zm_law [zl_en] zl_s 36 13 = true := by decide +kernel
theorem zl_c36_14 : zl_case zk_PT zk_CT zk_RT zk_tab 99999 200 zm_law [zl_en] zl_s 36 14 = true := by decide +kernel
theorem zl_c36_15 : zl_case zk_PT zk_CT zk_RT zk_tab 99999 200 zm_law [zl_en] zl_s 36 15 = true := by decide +kernel
theorem zl_c36_16 : zl_case zk_PT zk_CT zk_RT zk_tab 99999 200 zm_law [zl_en] zl_s 36 16 = true := by decide +kernel
theorem zl_c36_17 : zl_case zk_PT zk_CT zk_RT zk_tab 99999 200 zm_law [zl_en] zl_s 36 17 = true := by decide +kernel
theorem zl_c36_18 : zl_case zk_PT zk_CT zk_RT zk_tab 99999 200 zm_law [zl_en] zl_s 36 18 = true := by decide +kernel
theorem zl_c36_19 : zl_case zk_PT zk_CT zk_RT zk_tab 99999 200 zm_law [zl_en] zl_s 36 19 = true := by decide +kernel
theorem zl_c36_20 : zl_case zk_PT zk_CT zk_RT zk_tab 99999 200 zm_law [zl_en] zl_s 36 20 = true := by decide +kernel
theorem zl_c36_21 : zl_case zk_PT zk_CT zk_RT zk_tab 99999 200 zm_law [zl_en] zl_s 36 21 = true := by decide +kernel
theorem zl_c36_22 : zl_case zk_PT zk_CT zk_RT zk_tab 99999 200 zm_law [zl_en] zl_s 36 22 = true := by decide +kernel
theorem zl_c36_23 : zl_case zk_PT zk_CT zk_RT zk_tab 99999 200 zm_law [zl_en] zl_s 36 23 = true := by decide +kernel
theorem zl_c36_24 : zl_case zk_PT zk_CT zk_RT zk_tab 99999 200 zm_law [zl_en] zl_s 36 24 = true := by decide +kernel
theorem zl_c36_25 : zl_case zk_PT zk_CT zk_RT zk_tab 99999 200 zm_law [zl_en] zl_s 36 25 = true := by decide +kernel
theorem zl_c36_26 : zl_case zk_PT zk_CT zk_RT zk_tab 99999 200 zm_law [zl_en] zl_s 36 26 = true := by decide +kernel
theorem zl_c36_27 : zl_case zk_PT zk_CT zk_RT zk_tab 99999 200 zm_law [zl_en] zl_s 36 27 = true := by decide +kernel
theorem zl_c36_28 : zl_case zk_PT zk_CT zk_RT zk_tab 99999 200 zm_law [zl_en] zl_s 36 28 = true := by decide +kernel
theorem zl_c36_29 : zl_case zk_PT zk_CT zk_RT zk_tab 99999 200 zm_law [zl_en] zl_s 36 29 = true := by decide +kernel
theorem zl_c36_30 : zl_case zk_PT zk_CT zk_RT zk_tab 99999 200 zm_law [zl_en] zl_s 36 30 = true := by decide +kernel
theorem zl_c36_31 : zl_case zk_PT zk_CT zk_RT zk_tab 99999 200 zm_law [zl_en] zl_s 36 31 = true := by decide +kernel
theorem zl_c36_32 : zl_case zk_PT zk_CT zk_RT zk_tab 99999 200 zm_law [zl_en] zl_s 36 32 = true := by decide +kernel
theorem zl_c36_33 : zl_case zk_PT zk_CT zk_RT zk_tab 99999 200 zm_law [zl_en] zl_s 36 33 = true := by decide +kernel
theorem zl_c36_34 : zl_case zk_PT zk_CT zk_RT zk_tab 99999 200 zm_law [zl_en] zl_s 36 34 = true := by decide +kernel
theorem zl_c36_35 : zl_case zk_PT zk_CT zk_RT zk_tab 99999 200 zm_law [zl_en] zl_s 36 35 = true := by decide +kernel
theorem zl_c36_36 : zl_case zk_PT zk_CT zk_RT zk_tab 99999 200 zm_law [zl_en] zl_s 36 36 = true := by decide +kernel
theorem zl_c36_37 : zl_case zk_PT zk_CT zk_RT zk_tab 99999 200 zm_law [zl_en] zl_s 36 37 = true := by decide +kernel
theorem zl_c36_38 : zl_case zk_PT zk_CT zk_RT zk_tab 99999 200 zm_law [zl_en] zl_s 36 38 = true := by decide +kernel
theorem zl_c36_39 : zl_case zk_PT zk_CT zk_RT zk_tab 99999 200 zm_law [zl_en] zl_s 36 39 = true := by decide +kernel
theorem zl_c36_40 : zl_case zk_PT zk_CT zk_RT zk_tab 99999 200 zm_law [zl_en] zl_s 36 40 = true := by decide +kernel
theorem zl_c36_41 : zl_case zk_PT zk_CT zk_RT zk_tab 99999 200 zm_law [zl_en] zl_s 36 41 = true := by decide +kernel
theorem zl_c36_42 : zl_case zk_PT zk_CT zk_RT zk_tab 99999 200 zm_law [zl_en] zl_s 36 42 = true := by decide +kernel
theorem zl_c36_43 : zl_case zk_PT zk_CT zk_RT zk_tab 99999 200 zm_law [zl_en] zl_s 36 43 = true := by decide +kernel
theorem zl_c36_44 : zl_case zk_PT zk_CT zk_RT zk_tab 99999 200 zm_law [zl_en] zl_s 36 44 = true := by decide +kernel
theorem zl_c36_45 : zl_case zk_PT zk_CT zk_RT zk_tab 99999 200 zm_law [zl_en] zl_s 36 45 = true := by decide +kernel
theorem zl_c36_46 : zl_case zk_PT zk_CT zk_RT zk_tab 99999 200 zm_law [zl_en] zl_s 36 46 = true := by decide +kernel
theorem zl_c36_47 : zl_case zk_PT zk_CT zk_RT zk_tab 99999 200 zm_law [zl_en] zl_s 36 47 = true := by decide +kernel
theorem zl_n36 : zl_cn zk_RT zk_tab zm_law zl_s 36 48 = true := by decide +kernel
theorem zl_v36 : zl_way zk_PT zk_CT zk_RT zk_tab 100000 200 zm_law [zl_en] zl_s 36 = true := zl_byc (k := 99999) zl_n36 fun i hi => match i, hi with
  | 0, _ => zl_c36_0
  | 1, _ => zl_c36_1
  | 2, _ => zl_c36_2
  | 3, _ => zl_c36_3
  | 4, _ => zl_c36_4
  | 5, _ => zl_c36_5
  | 6, _ => zl_c36_6
  | 7, _ => zl_c36_7
  | 8, _ => zl_c36_8
  | 9, _ => zl_c36_9
  | 10, _ => zl_c36_10
  | 11, _ => zl_c36_11
  | 12, _ => zl_c36_12
  | 13, _ => zl_c36_13
  | 14, _ => zl_c36_14
  | 15, _ => zl_c36_15
  | 16, _ => zl_c36_16
  | 17, _ => zl_c36_17
  | 18, _ => zl_c36_18
  | 19, _ => zl_c36_19
  | 20, _ => zl_c36_20
  | 21, _ => zl_c36_21
  | 22, _ => zl_c36_22
  | 23, _ => zl_c36_23
  | 24, _ => zl_c36_24
  | 25, _ => zl_c36_25
  | 26, _ => zl_c36_26
  | 27, _ => zl_c36_27
  | 28, _ => zl_c36_28
  | 29, _ => zl_c36_29
  | 30, _ => zl_c36_30
  | 31, _ => zl_c36_31
  | 32, _ => zl_c36_32
  | 33, _ => zl_c36_33
  | 34, _ => zl_c36_34
  | 35, _ => zl_c36_35
  | 36, _ => zl_c36_36
  | 37, _ => zl_c36_37
  | 38, _ => zl_c36_38
  | 39, _ => zl_c36_39
  | 40, _ => zl_c36_40
  | 41, _ => zl_c36_41
  | 42, _ => zl_c36_42
  | 43, _ => zl_c36_43
  | 44, _ => zl_c36_44
  | 45, _ => zl_c36_45
  | 46, _ => zl_c36_46
  | 47, _ => zl_c36_47
  | n + 48, h => absurd h (Nat.not_lt.mpr (Nat.le_add_left 48 n))
theorem zl_v37 : zl_way zk_PT zk_CT zk_RT zk_tab 100000 200 zm_law [zl_en] zl_s 37 = true := by decide +kernel
theorem zl_v38 : zl_way zk_PT zk_CT zk_RT zk_tab 100000 200 zm_law [zl_en] zl_s 38 = true := by decide +kernel
theorem zl_v39 : zl_way zk_PT zk_CT zk_RT zk_tab 100000 200 zm_law [zl_en] zl_s 39 = true := by decide +kernel
theorem zl_v41 : zl_way zk_PT zk_CT zk_RT zk_tab 100000 200 zm_law [zl_en] zl_s 41 = true := by decide +kernel
theorem zl_v43 : zl_way zk_PT zk_CT zk_RT zk_tab 100000 200 zm_law [zl_en] zl_s 43 = true := by decide +kernel
theorem zl_v44 : zl_way zk_PT zk_CT zk_RT zk_tab 100000 200 zm_law [zl_en] zl_s 44 = true := by decide +kernel
theorem zl_v45 : zl_way zk_PT zk_CT zk_RT zk_tab 100000 200 zm_law [zl_en] zl_s 45 = true := by decide +kernel
