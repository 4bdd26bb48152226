def tyTab : List (List Nat) := [[0, 21, 3, 18, 1, 1, 1, 12, 1, 1, 1, 1, 1, 13, 1, 1], [1, 1, 1, 1, 1, 13, 1, 1, 1, 1, 1, 1, 1, 13, 1, 1], [1, 1, 1, 1, 1, 15, 18, 1, 1, 1, 12, 1, 1, 1, 1, 1], [13, 1, 1, 1, 1, 1, 1, 1, 17, 1, 14, 43, 13, 1, 1, 1], [1, 1, 1, 1, 13, 1, 1, 1, 1, 1, 1, 1, 13, 1, 1, 1], [1, 1, 1, 1, 13, 1, 1, 1, 1, 1, 1, 1, 13, 1, 1, 1], [1, 1, 1, 1, 13, 1, 1, 1, 1, 1, 1, 1, 13, 1, 1, 1], [1, 1, 1, 1, 13, 1, 1, 1, 1, 1, 1, 1, 13, 1, 1, 1], [1, 1, 1, 1, 13, 1, 1, 1, 1, 1, 1, 1, 20, 1, 1, 1], [11, 16, 1, 1, 10, 2, 2, 49, 48, 43, 1, 19, 2, 19, 2, 19], [2, 19, 2, 22, 1, 4, 1, 1, 1, 1, 1, 1, 1, 1, 1, 1], [1, 2, 2, 1, 1, 2, 18, 1, 1, 1, 12, 1, 1, 1, 1, 1], [13, 1, 1, 1, 1, 1, 1, 1, 18, 1, 1, 1, 12, 1, 1, 1], [1, 1, 13, 1, 1, 1, 1, 1, 1, 1]]
def lnTab : List (List Int) := [[0, 16, 900, 7, 6, 6, 6, 7, 900, 2, 2, 64, 16, 9, 6, 6], [36, 6, 6, 6, 6, 9, 6, 6, 36, 6, 6, 6, 6, 9, 6, 6], [36, 6, 6, 6, 6, 6, 7, 6, 6, 6, 7, 900, 2, 2, 64, 16], [9, 6, 6, 36, 6, 6, 6, 6, 8, 900, 3, 10, 9, 6, 6, 36], [6, 6, 6, 6, 9, 6, 6, 36, 6, 6, 6, 6, 9, 6, 6, 36], [6, 6, 6, 6, 9, 6, 6, 36, 6, 6, 6, 6, 9, 6, 6, 36], [6, 6, 6, 6, 9, 6, 6, 36, 6, 6, 6, 6, 9, 6, 6, 36], [6, 6, 6, 6, 9, 6, 6, 36, 6, 6, 6, 6, 9, 6, 6, 36], [6, 6, 6, 6, 9, 6, 6, 36, 6, 6, 6, 6, 8, 6, 6, 36], [4, 5, 6, 60, 5, 6, 6, 4, 2, 2, 6, 4, 40, 4, 40, 4], [40, 4, 40, 34, 5262, 2, 900, 1754, 900, 8, 75, 6, 6, 6, 6, 6], [6, 6, 6, 4, 4, 160, 7, 6, 6, 6, 7, 900, 2, 2, 64, 16], [9, 6, 6, 36, 6, 6, 6, 6, 7, 6, 6, 6, 7, 900, 2, 2], [64, 16, 9, 6, 6, 36, 6, 6, 6, 6]]
def lastC : Nat := 181
def fTags : List (List Nat) := [[2, 2, 1, 2, 2], [2, 2, 0, 0], [2, 0, 2, 2, 2, 0, 2], [2, 2, 2, 0, 0, 2, 2, 2, 2], [2, 0, 0], [2, 2, 0, 0, 2, 0], [2, 2, 0, 2, 2], [2, 0, 2, 0, 0, 0, 0, 0], [0, 0, 0, 2, 2, 2, 2], [4, 0, 0, 2], [2, 2, 0, 0, 0, 2, 2, 2], [2, 0, 2, 2, 2, 2, 2, 2, 2, 2, 2, 2, 2, 2, 2, 2], [0, 2, 2, 2, 2, 0, 0, 0, 0, 0, 0, 0, 0, 0, 0, 0, 2, 2, 0, 2, 0, 0, 2, 2, 2, 0, 2, 2, 2, 2, 2, 2, 2, 2]]
def stTab : List (List (Nat × Int)) := [[(1, -145), (1, -8), (0, 0), (1, 1), (1, 2)], [(1, -141), (1, -4), (0, 0), (0, 0)], [(1, 1), (0, 0), (1, 2), (1, 3), (1, 4), (0, 0), (1, 5)], [(1, 1), (1, 2), (1, 3), (0, 0), (0, 0), (1, 4), (1, 5), (1, 6), (1, 7)], [(1, 1), (0, 0), (0, 0)], [(1, 1), (1, 11), (0, 0), (0, 0), (1, 19), (0, 0)], [(1, -142), (1, -5), (0, 0), (1, 1), (1, 2)], [(1, -54), (0, 0), (1, 1), (0, 0), (0, 0), (0, 0), (0, 0), (0, 0)], [(0, 0), (0, 0), (0, 0), (1, 1), (1, 2), (1, 3), (1, 4)], [(0, 0), (0, 0), (0, 0), (1, 1)], [(1, -137), (0, 0), (0, 0), (0, 0), (0, 0), (1, 1), (1, 2), (1, 3)], [(1, 1), (0, 0), (1, 2), (1, 12), (1, 20), (1, 28), (1, 36), (1, 57), (1, 139), (1, 143), (1, 144), (1, 147), (1, 150), (1, 151), (1, 152), (1, 153)], [(0, 0), (1, 1), (1, 2), (1, 3), (1, 4), (0, 0), (0, 0), (0, 0), (0, 0), (0, 0), (0, 0), (0, 0), (0, 0), (0, 0), (0, 0), (0, 0), (1, 5), (1, 6), (0, 0), (1, 7), (0, 0), (0, 0), (1, 8), (1, 9), (1, 10), (0, 0), (1, 11), (1, 12), (1, 13), (1, 14), (1, 15), (1, 16), (1, 17), (1, 18)]]
def stArr : List (Int × (Int × Int)) := [(59, (60, 8)), (151, (155, 2))]
def fTab : List (List (Nat × (Nat × Nat))) := [[(9, (0, 2)), (15, (0, 3)), (19, (0, 4)), (22, (0, 0)), (26, (0, 1)), (30, (10, 3)), (44, (8, 0)), (57, (10, 7)), (61, (8, 5))],
  [(9, (1, 2)), (15, (1, 3)), (18, (1, 0)), (22, (1, 1)), (26, (8, 1)), (44, (8, 0)), (47, (3, 4)), (52, (3, 5)), (56, (3, 6)), (59, (3, 7)), (62, (3, 3)), (65, (3, 8)), (68, (3, 0)), (71, (3, 2)), (74, (3, 1)), (90, (10, 3)), (93, (9, 2)), (98, (9, 3))],
  [(9, (2, 0)), (15, (2, 1)), (19, (2, 2)), (22, (2, 3)), (25, (2, 4)), (28, (2, 5)), (31, (2, 6))],
  [(9, (3, 0)), (15, (3, 1)), (18, (3, 2)), (21, (3, 3)), (25, (3, 4)), (28, (3, 5)), (31, (3, 6)), (34, (3, 7)), (37, (3, 8))],
  [(11, (4, 0)), (17, (4, 1)), (21, (4, 2))],
  [(12, (5, 0)), (21, (5, 1)), (25, (5, 2)), (29, (5, 3)), (32, (5, 5)), (40, (5, 4)), (62, (8, 0)), (65, (8, 2)), (68, (7, 5)), (74, (7, 6)), (80, (7, 7)), (92, (3, 3)), (95, (8, 1)), (98, (3, 0)), (102, (8, 3)), (112, (8, 4)), (115, (3, 1)), (118, (8, 5)), (121, (3, 2)), (124, (8, 6))],
  [(9, (6, 2)), (15, (6, 3)), (19, (6, 4)), (22, (6, 0)), (26, (6, 1)), (39, (8, 1)), (51, (10, 2)), (54, (10, 6)), (61, (10, 5)), (64, (8, 0))],
  [(9, (7, 1)), (15, (7, 2)), (19, (7, 3)), (22, (7, 4)), (25, (7, 5)), (28, (7, 6)), (31, (7, 7)), (34, (7, 0))],
  [(9, (8, 0)), (15, (8, 1)), (18, (8, 2)), (21, (8, 3)), (25, (8, 4)), (28, (8, 5)), (34, (8, 6))],
  [(9, (9, 0)), (15, (9, 1)), (19, (9, 2)), (22, (9, 3))],
  [(9, (10, 2)), (15, (10, 3)), (18, (10, 4)), (21, (10, 5)), (25, (10, 6)), (28, (10, 7)), (31, (10, 0)), (35, (10, 1)), (43, (3, 0)), (48, (8, 1)), (64, (8, 0)), (67, (3, 2)), (70, (8, 6)), (84, (2, 6)), (90, (3, 1)), (93, (8, 4)), (96, (8, 3)), (127, (9, 2)), (132, (9, 3))],
  [(9, (11, 0)), (13, (11, 1)), (20, (11, 2)), (27, (11, 3)), (31, (11, 4)), (34, (11, 5)), (42, (11, 6)), (49, (11, 7)), (58, (11, 8)), (67, (11, 9)), (74, (11, 10)), (81, (11, 11)), (87, (11, 12)), (91, (11, 13)), (95, (11, 14)), (99, (11, 15)), (111, (5, 2)), (114, (5, 0)), (119, (5, 1)), (123, (4, 2)), (126, (8, 2)), (129, (5, 3)), (136, (3, 0)), (139, (8, 3)), (142, (8, 4)), (145, (3, 1)), (148, (8, 5)), (155, (3, 2)), (167, (10, 6)), (170, (10, 7)), (173, (3, 4)), (176, (3, 8)), (179, (3, 6)), (182, (3, 5)), (185, (3, 3)), (188, (3, 7)), (224, (9, 0)), (232, (1, 2)), (267, (10, 3)), (279, (8, 0)), (285, (8, 1)), (288, (10, 4)), (297, (10, 5)), (303, (6, 3)), (339, (9, 2)), (340, (9, 3)), (363, (0, 3)), (367, (0, 2))],
  [(1, (12, 0)), (13, (12, 1)), (17, (12, 2)), (21, (12, 3)), (24, (12, 4)), (27, (12, 14)), (30, (12, 16)), (33, (12, 17)), (36, (12, 18)), (39, (12, 19)), (42, (12, 22)), (45, (12, 23)), (48, (12, 24)), (51, (12, 26)), (54, (12, 27)), (57, (12, 28)), (60, (12, 29)), (64, (12, 30)), (67, (12, 31)), (70, (12, 32)), (73, (12, 33)), (80, (12, 5)), (83, (12, 8)), (98, (12, 6)), (101, (12, 7)), (108, (12, 9)), (121, (12, 10)), (126, (12, 11)), (129, (12, 12)), (146, (12, 15)), (204, (12, 13)), (300, (12, 20)), (325, (12, 21)), (370, (12, 25))],
  [],
  [],
  [],
  [],
  [],
  [],
  [],
  [],
  [],
  [],
  [],
  [],
  []]
def mTab : List (List (Nat × (Nat × Nat))) := [[(3, (9, 0)), (36, (8, 0)), (49, (0, 3)), (53, (0, 94))],
  [(3, (9, 0)), (31, (0, 7)), (35, (0, 8)), (38, (0, 9)), (41, (0, 10)), (77, (0, 88)), (83, (0, 12)), (86, (0, 95)), (104, (0, 11)), (108, (0, 14)), (114, (0, 6)), (118, (0, 17)), (121, (0, 16))],
  [(3, (9, 0)), (34, (8, 0)), (40, (0, 26)), (44, (0, 27)), (48, (0, 28)), (51, (1, 29)), (55, (1, 30))],
  [(3, (9, 0)), (40, (8, 0))],
  [(3, (9, 0)), (24, (2, 31)), (25, (0, 33))],
  [(3, (9, 0)), (11, (2, 79)), (20, (2, 31)), (37, (2, 69)), (44, (0, 80)), (47, (0, 32)), (48, (0, 71)), (52, (0, 70)), (55, (0, 44)), (58, (0, 45)), (71, (0, 46)), (77, (0, 43)), (83, (0, 47)), (86, (0, 50)), (89, (0, 51)), (105, (1, 48)), (109, (0, 49)), (128, (0, 21)), (133, (0, 53)), (136, (0, 22)), (139, (0, 23)), (142, (0, 54)), (145, (0, 52)), (146, (0, 55)), (149, (0, 58)), (152, (0, 57)), (155, (0, 56)), (158, (0, 59)), (161, (0, 60)), (164, (0, 61)), (167, (0, 62))],
  [(3, (9, 0)), (30, (0, 89)), (35, (0, 105)), (44, (0, 65)), (47, (0, 66)), (57, (0, 97)), (67, (0, 91)), (71, (0, 68)), (74, (0, 90))],
  [(3, (9, 0)), (38, (1, 300)), (44, (0, 74)), (47, (0, 72)), (51, (1, 73)), (54, (0, 75)), (58, (0, 77)), (61, (0, 76)), (66, (3, 303)), (73, (3, 301)), (76, (3, 302)), (80, (0, 78))],
  [(3, (9, 0)), (33, (2, 18)), (38, (0, 19)), (41, (8, 0)), (47, (0, 20))],
  [(3, (9, 0)), (26, (0, 85))],
  [(3, (9, 0)), (39, (0, 88)), (53, (0, 90)), (57, (0, 91)), (61, (0, 93)), (74, (0, 24)), (80, (0, 92)), (87, (0, 25)), (99, (1, 298)), (104, (0, 94)), (107, (0, 95)), (110, (0, 96)), (113, (0, 98)), (116, (0, 99)), (119, (1, 297)), (124, (0, 97)), (138, (0, 102)), (142, (0, 106))],
  [(1, (9, 0)), (19, (2, 79)), (26, (2, 31)), (39, (2, 41)), (48, (2, 38)), (55, (2, 86)), (64, (2, 5)), (73, (2, 63)), (80, (2, 0)), (103, (2, 82)), (104, (0, 109)), (108, (0, 42)), (115, (0, 81)), (120, (0, 33)), (132, (0, 160)), (151, (0, 34)), (158, (0, 163)), (163, (0, 87)), (191, (0, 117)), (194, (0, 88)), (198, (0, 94)), (202, (0, 122)), (206, (0, 6)), (210, (0, 39)), (213, (0, 11)), (217, (0, 40)), (221, (0, 166)), (228, (0, 13)), (235, (0, 35)), (239, (0, 36)), (242, (0, 128)), (245, (0, 15)), (249, (0, 162)), (253, (0, 96)), (256, (0, 97)), (259, (0, 98)), (262, (1, 297)), (270, (0, 99)), (273, (0, 100)), (276, (0, 101)), (282, (0, 95)), (291, (0, 164)), (294, (0, 64)), (300, (0, 67)), (306, (0, 142)), (309, (0, 148)), (313, (0, 103)), (317, (0, 145)), (320, (0, 167)), (323, (1, 299)), (328, (0, 161)), (331, (0, 104)), (335, (0, 102)), (348, (0, 165)), (353, (0, 1)), (356, (0, 2)), (359, (0, 4)), (371, (0, 83)), (378, (0, 84)), (382, (0, 37))],
  [(7, (9, 0)), (76, (1, 170)), (88, (3, 301)), (94, (3, 302)), (104, (0, 172)), (111, (1, 173)), (115, (0, 175)), (118, (1, 174)), (132, (0, 178)), (135, (0, 176)), (138, (0, 177)), (142, (1, 168)), (149, (0, 183)), (152, (0, 182)), (155, (0, 184)), (158, (0, 188)), (161, (0, 179)), (164, (0, 186)), (167, (0, 191)), (170, (0, 185)), (173, (0, 187)), (176, (0, 189)), (179, (0, 190)), (182, (0, 180)), (186, (0, 192)), (189, (0, 193)), (192, (0, 194)), (195, (0, 195)), (198, (0, 197)), (201, (0, 196)), (207, (0, 201)), (215, (0, 204)), (218, (1, 205)), (222, (0, 206)), (225, (0, 207)), (228, (0, 209)), (231, (0, 208)), (234, (1, 181)), (238, (0, 213)), (241, (0, 202)), (246, (0, 211)), (249, (0, 200)), (252, (0, 221)), (255, (0, 210)), (258, (0, 222)), (262, (0, 218)), (265, (0, 225)), (269, (0, 220)), (272, (0, 223)), (275, (0, 226)), (278, (0, 224)), (285, (0, 227)), (303, (0, 234)), (307, (0, 235)), (312, (0, 237)), (315, (0, 236)), (318, (0, 238)), (321, (0, 219)), (328, (0, 241)), (333, (0, 242)), (336, (0, 245)), (342, (0, 244)), (345, (0, 246)), (348, (0, 248)), (351, (0, 249)), (354, (0, 251)), (357, (0, 252)), (360, (0, 253)), (363, (0, 256)), (367, (0, 262)), (373, (0, 263)), (377, (0, 264)), (380, (0, 266)), (384, (1, 203)), (387, (0, 268)), (392, (0, 271)), (395, (0, 273)), (399, (0, 272)), (402, (0, 274)), (405, (0, 277)), (409, (0, 282)), (412, (1, 285)), (422, (0, 283)), (425, (1, 284)), (431, (1, 289)), (435, (0, 295))],
  [],
  [],
  [],
  [],
  [],
  [],
  [],
  [],
  [],
  [(335, (3, 305)), (492, (3, 306)), (495, (1, 308)), (498, (99, 0)), (505, (3, 301)), (633, (3, 304)), (637, (1, 310)), (640, (99, 0)), (1059, (1, 312)), (1062, (99, 0))],
  [(9, (1, 307)), (38, (1, 300)), (88, (1, 309)), (92, (1, 299)), (95, (1, 311))],
  [],
  [(9, (2, 107)), (12, (2, 169)), (13, (0, 108)), (17, (0, 171)), (18, (0, 110)), (22, (0, 198)), (23, (0, 111)), (26, (0, 199)), (27, (0, 112)), (31, (0, 212)), (32, (0, 113)), (35, (0, 214)), (36, (0, 114)), (39, (0, 215)), (40, (0, 115)), (43, (0, 216)), (44, (0, 116)), (47, (0, 217)), (48, (0, 118)), (51, (0, 228)), (52, (0, 119)), (55, (0, 229)), (56, (0, 120)), (59, (0, 230)), (60, (0, 121)), (63, (0, 231)), (64, (0, 123)), (67, (0, 232)), (68, (0, 124)), (71, (0, 233)), (72, (0, 125)), (75, (0, 239)), (76, (0, 126)), (79, (0, 240)), (80, (0, 127)), (83, (0, 243)), (84, (0, 129)), (88, (0, 247)), (89, (0, 130)), (92, (0, 250)), (93, (0, 131)), (96, (0, 254)), (97, (0, 132)), (100, (0, 255)), (101, (0, 133)), (104, (0, 257)), (105, (0, 134)), (108, (0, 258)), (109, (0, 135)), (112, (0, 259)), (113, (0, 136)), (116, (0, 260)), (117, (0, 137)), (120, (0, 261)), (121, (0, 138)), (124, (0, 265)), (125, (0, 139)), (128, (0, 267)), (129, (0, 140)), (132, (0, 269)), (133, (0, 141)), (136, (0, 270)), (137, (0, 143)), (140, (0, 275)), (141, (0, 144)), (145, (0, 276)), (146, (0, 146)), (149, (0, 278)), (150, (0, 147)), (153, (0, 279)), (154, (0, 149)), (157, (0, 280)), (158, (0, 150)), (162, (0, 281)), (163, (0, 151)), (167, (0, 286)), (168, (0, 152)), (171, (0, 287)), (172, (0, 153)), (175, (0, 288)), (176, (0, 154)), (179, (0, 290)), (182, (0, 155)), (186, (0, 291)), (187, (0, 156)), (190, (0, 292)), (191, (0, 157)), (194, (0, 293)), (195, (0, 158)), (198, (0, 294)), (199, (0, 159)), (202, (0, 296))]]
def cTab : List (List (Nat × Nat)) := [[],
  [],
  [],
  [],
  [(9, 3)],
  [(9, 8), (18, 3), (35, 7)],
  [],
  [],
  [(31, 2)],
  [],
  [],
  [(17, 8), (24, 3), (37, 5), (46, 4), (53, 10), (62, 1), (71, 6), (78, 0), (85, 9)],
  [],
  [],
  [],
  [],
  [],
  [],
  [],
  [],
  [],
  [],
  [],
  [],
  [],
  [(7, 11), (10, 12)]]
def kTab : List (List (Nat × (Nat × Int))) := [[(42, (1, 10)), (64, (1, 2)), (66, (1, 5))],
  [(102, (1, (-1))), (112, (1, 399)), (124, (0, 1103515245))],
  [(59, (1, 1000000)), (61, (0, 1000000)), (62, (1, (-1000000))), (64, (0, (-1000000)))],
  [],
  [],
  [],
  [],
  [(64, (3, 1)), (71, (3, 0))],
  [],
  [],
  [(136, (1, (-1)))],
  [(162, (0, (-99000002))), (252, (0, 99999)), (344, (1, (-1))), (346, (1, (-2))), (351, (1, (-3))), (365, (1, 100)), (374, (1, (-6))), (376, (1, (-7)))],
  [(86, (3, 2)), (124, (3, 3)), (211, (1, 1000000)), (213, (1, (-1000000))), (245, (0, (-99000002))), (281, (1, 9)), (283, (1, 99)), (288, (1, 10)), (290, (1, (-1))), (292, (1, 399)), (294, (1, 100)), (296, (1, 200)), (298, (1, 300)), (310, (1, 3)), (324, (0, 1103515245)), (331, (1, 40)), (340, (1, 99999)), (366, (0, 268435456)), (390, (1, 12)), (416, (1, (-2))), (418, (1, 15)), (420, (1, (-3))), (429, (1, (-7)))],
  [],
  [],
  [],
  [],
  [],
  [],
  [],
  [(265, (0, 1431655765)), (266, (0, 858993459)), (267, (0, 252645135))],
  [],
  [],
  [],
  [],
  [(180, (1, 4294967295))]]
def gTab : List (List (Nat × Nat)) := [[],
  [],
  [],
  [],
  [],
  [],
  [],
  [],
  [],
  [],
  [],
  [],
  [],
  [],
  [],
  [],
  [],
  [],
  [],
  [],
  [],
  [],
  [(38, 0), (1053, 1)],
  [],
  [],
  []]
def sfTab : List (List (Nat × Nat)) := [[],
  [],
  [],
  [],
  [],
  [],
  [],
  [],
  [],
  [],
  [],
  [],
  [],
  [],
  [],
  [],
  [],
  [],
  [],
  [],
  [],
  [],
  [(9, 0), (15, 1)],
  [],
  [],
  []]
def sTab : List (List Int) := [[112, 108, 97, 99, 101, 115, 32, 112, 101, 114, 115, 111, 110, 32, 97, 116, 32, 104, 111, 109, 101, 32, 102, 97, 109, 105, 108, 121, 32, 109, 111, 111, 100, 32, 97, 119, 97, 121, 32, 99, 97, 114, 101, 115, 32, 102, 111, 114, 32, 109, 105, 110, 100, 115, 32, 115, 101, 110, 100, 115, 32, 100, 97, 121, 32, 119, 104, 111, 32, 111, 102, 32, 107, 105, 110, 32, 111, 119, 110, 32, 105, 102, 32, 116, 104, 101, 110, 32, 101, 108, 115, 101, 32, 101, 110, 100, 32, 110, 111, 116, 32, 111, 114, 32, 97, 110, 100, 32], [59, 58, 43, 45, 42, 40, 41, 91, 93, 61, 60, 62], [32, 112, 108, 97, 99, 101, 115, 32, 112, 101, 114, 115, 111, 110, 32, 97, 116, 32, 104, 111, 109, 101, 32, 102, 97, 109, 105, 108, 121, 32, 109, 111, 111, 100, 32, 97, 119, 97, 121, 32, 99, 97, 114, 101, 115, 32, 102, 111, 114, 32, 109, 105, 110, 100, 115, 32, 115, 101, 110, 100, 115, 32, 100, 97, 121, 32, 105, 102, 32, 116, 104, 101, 110, 32, 101, 108, 115, 101, 32, 101, 110, 100, 32, 119, 104, 111, 32, 111, 102, 32, 107, 105, 110, 32, 111, 119, 110, 32, 97, 110, 100, 32, 111, 114, 32, 110, 111, 116, 32], [59, 58, 43, 45, 42, 40, 41, 91, 93, 61, 60, 62]]
def idxOf (x : Int) (i : Int) (l : List Int) : Int := match l with
  | [] => -1
  | a :: r => if x = a then i else idxOf x (i + 1) r
abbrev sT : Type := Nat × List (List (Option (ClassFile.Instr × Nat))) × Nat × List Nat × Nat × Nat
/-- MindPost$Chances.<init> -/
def cd0 : List (List (Option (ClassFile.Instr × Nat))) := [[some (.aload_n 0, 1), some (.invokespecial 3, 3), none, none, some (.aload_n 0, 1), some (.lconst 1, 1), some (.putfield 9, 3), none, none, some (.aload_n 0, 1), some (.bipush 6, 2), none, some (.newarray .long, 2), none, some (.putfield 15, 3), none],
  [none, some (.aload_n 0, 1), some (.bipush 6, 2), none, some (.newarray .long, 2), none, some (.putfield 19, 3), none, none, some (.aload_n 0, 1), some (.aload_n 1, 1), some (.putfield 22, 3), none, none, some (.aload_n 0, 1), some (.aload_n 2, 1)],
  [some (.putfield 26, 3), none, none, some (.return_, 1)]]
/-- MindPost$Chances.begin -/
def cd1 : List (List (Option (ClassFile.Instr × Nat))) := [[some (.aload_n 0, 1), some (.lconst 1, 1), some (.putfield 9, 3), none, none, some (.iconst 0, 1), some (.istore_n 1, 1), some (.iload_n 1, 1), some (.bipush 6, 2), none, some (.if_icmp .ge 31, 3), none, none, some (.aload_n 0, 1), some (.getfield 15, 3), none],
  [none, some (.iload_n 1, 1), some (.iload_n 1, 1), some (.aload_n 0, 1), some (.getfield 26, 3), none, none, some (.getfield 30, 3), none, none, some (.if_icmp .ne 7, 3), none, none, some (.lconst 1, 1), some (.goto 4, 3), none],
  [none, some (.lconst 0, 1), some (.lastore, 1), some (.iinc 1 1, 3), none, none, some (.goto (-31), 3), none, none, some (.return_, 1)]]
/-- MindPost$Chances.addDays -/
def cd2 : List (List (Option (ClassFile.Instr × Nat))) := [[some (.iconst 0, 1), some (.istore_n 2, 1), some (.iload_n 2, 1), some (.iload_n 1, 1), some (.if_icmp .ge 84, 3), none, none, some (.aload_n 0, 1), some (.getfield 15, 3), none, none, some (.iconst 0, 1), some (.aload_n 0, 1), some (.getfield 19, 3), none, none],
  [some (.iconst 0, 1), some (.bipush 6, 2), none, some (.invokestatic 36, 3), none, none, some (.aload_n 0, 1), some (.dup, 1), some (.getfield 9, 3), none, none, some (.ldc2_w 42, 3), none, none, some (.lmul, 1), some (.putfield 9, 3)],
  [none, none, some (.iconst 0, 1), some (.istore_n 3, 1), some (.iload_n 3, 1), some (.aload_n 0, 1), some (.getfield 22, 3), none, none, some (.getfield 44, 3), none, none, some (.if_icmp .ge 38, 3), none, none, some (.aload_n 0, 1)],
  [some (.getfield 15, 3), none, none, some (.iload_n 3, 1), some (.iload_n 3, 1), some (.aload_n 0, 1), some (.getfield 26, 3), none, none, some (.getfield 30, 3), none, none, some (.if_icmp .ne 10, 3), none, none, some (.aload_n 0, 1)],
  [some (.getfield 9, 3), none, none, some (.goto 8, 3), none, none, some (.aload_n 0, 1), some (.iload_n 3, 1), some (.invokevirtual 49, 3), none, none, some (.lastore, 1), some (.iinc 3 1, 3), none, none, some (.goto (-43), 3)],
  [none, none, some (.iinc 2 1, 3), none, none, some (.goto (-83), 3), none, none, some (.return_, 1)]]
/-- MindPost$Chances.onFrom -/
def cd3 : List (List (Option (ClassFile.Instr × Nat))) := [[some (.aload_n 0, 1), some (.getfield 26, 3), none, none, some (.iload_n 1, 1), some (.iconst (-1), 1), some (.invokevirtual 53, 3), none, none, some (.istore_n 2, 1), some (.iload_n 2, 1), some (.iconst (-1), 1), some (.if_icmp .ne 14, 3), none, none, some (.ldc2_w 42, 3)],
  [none, none, some (.aload_n 0, 1), some (.getfield 19, 3), none, none, some (.iload_n 1, 1), some (.laload, 1), some (.lmul, 1), some (.lreturn, 1), some (.aload_n 0, 1), some (.getfield 26, 3), none, none, some (.iload_n 1, 1), some (.iload_n 2, 1)],
  [some (.invokevirtual 53, 3), none, none, some (.istore_n 3, 1), some (.aload_n 0, 1), some (.getfield 26, 3), none, none, some (.getfield 57, 3), none, none, some (.iload_n 2, 1), some (.bipush 6, 2), none, some (.imul, 1), some (.iload_n 1, 1)],
  [some (.iadd, 1), some (.iaload, 1), some (.istore 4, 2), none, some (.iload_n 3, 1), some (.iconst (-1), 1), some (.if_icmp .ne 7, 3), none, none, some (.iload_n 1, 1), some (.goto 17, 3), none, none, some (.aload_n 0, 1), some (.getfield 26, 3), none],
  [none, some (.getfield 57, 3), none, none, some (.iload_n 3, 1), some (.bipush 6, 2), none, some (.imul, 1), some (.iload_n 1, 1), some (.iadd, 1), some (.iaload, 1), some (.istore 5, 2), none, some (.aload_n 0, 1), some (.getfield 22, 3), none],
  [none, some (.getfield 61, 3), none, none, some (.iload_n 2, 1), some (.iaload, 1), some (.istore 6, 2), none, some (.bipush 10, 2), none, some (.iload 6, 2), none, some (.isub, 1), some (.i2l, 1), some (.aload_n 0, 1), some (.getfield 19, 3)],
  [none, none, some (.iload 4, 2), none, some (.laload, 1), some (.lmul, 1), some (.iload 6, 2), none, some (.i2l, 1), some (.aload_n 0, 1), some (.getfield 19, 3), none, none, some (.iload 5, 2), none, some (.laload, 1)],
  [some (.lmul, 1), some (.ladd, 1), some (.lreturn, 1)]]
/-- MindPost$Chances.lowest -/
def cd4 : List (List (Option (ClassFile.Instr × Nat))) := [[some (.aload_n 0, 1), some (.getfield 15, 3), none, none, some (.iload_n 1, 1), some (.laload, 1), some (.lstore_n 3, 1), some (.aload_n 0, 1), some (.getfield 9, 3), none, none, some (.lstore 5, 2), none, some (.iconst 0, 1), some (.istore 7, 2), none],
  [some (.iload 7, 2), none, some (.bipush 15, 2), none, some (.if_icmp .ge 79, 3), none, none, some (.lload_n 3, 1), some (.ldc2_w 64, 3), none, none, some (.lrem, 1), some (.lconst 0, 1), some (.lcmp, 1), some (.ifCond .ne 28, 3), none],
  [none, some (.lload 5, 2), none, some (.ldc2_w 64, 3), none, none, some (.lrem, 1), some (.lconst 0, 1), some (.lcmp, 1), some (.ifCond .ne 17, 3), none, none, some (.lload_n 3, 1), some (.ldc2_w 64, 3), none, none],
  [some (.ldiv, 1), some (.lstore_n 3, 1), some (.lload 5, 2), none, some (.ldc2_w 64, 3), none, none, some (.ldiv, 1), some (.lstore 5, 2), none, some (.lload_n 3, 1), some (.ldc2_w 66, 3), none, none, some (.lrem, 1), some (.lconst 0, 1)],
  [some (.lcmp, 1), some (.ifCond .ne 28, 3), none, none, some (.lload 5, 2), none, some (.ldc2_w 66, 3), none, none, some (.lrem, 1), some (.lconst 0, 1), some (.lcmp, 1), some (.ifCond .ne 17, 3), none, none, some (.lload_n 3, 1)],
  [some (.ldc2_w 66, 3), none, none, some (.ldiv, 1), some (.lstore_n 3, 1), some (.lload 5, 2), none, some (.ldc2_w 66, 3), none, none, some (.ldiv, 1), some (.lstore 5, 2), none, some (.iinc 7 1, 3), none, none],
  [some (.goto (-80), 3), none, none, some (.iload_n 2, 1), some (.ifCond .ne 7, 3), none, none, some (.lload_n 3, 1), some (.goto 5, 3), none, none, some (.lload 5, 2), none, some (.lreturn, 1)]]
/-- MindPost$Deeds.<init> -/
def cd5 : List (List (Option (ClassFile.Instr × Nat))) := [[some (.aload_n 0, 1), some (.invokespecial 3, 3), none, none, some (.aload_n 0, 1), some (.iconst 0, 1), some (.putfield 9, 3), none, none, some (.aload_n 0, 1), some (.iconst 0, 1), some (.putfield 15, 3), none, none, some (.aload_n 0, 1), some (.aload_n 1, 1)],
  [some (.putfield 18, 3), none, none, some (.aload_n 0, 1), some (.aload_n 2, 1), some (.putfield 22, 3), none, none, some (.return_, 1)]]
/-- MindPost$Deeds.act -/
def cd6 : List (List (Option (ClassFile.Instr × Nat))) := [[some (.iload_n 3, 1), some (.ifCond .lt 14, 3), none, none, some (.iload_n 3, 1), some (.aload_n 0, 1), some (.getfield 18, 3), none, none, some (.getfield 26, 3), none, none, some (.if_icmp .lt 6, 3), none, none, some (.bipush (-11), 2)],
  [none, some (.ireturn, 1), some (.iload_n 2, 1), some (.tableswitch 52 0 2 #[25, 34, 43], 25), none, none, none, none, none, none, none, none, none, none, none, none],
  [none, none, none, none, none, none, none, none, none, none, none, none, some (.aload_n 0, 1), some (.aload_n 1, 1), some (.iload_n 3, 1), some (.iload 4, 2)],
  [none, some (.invokevirtual 31, 3), none, none, some (.ireturn, 1), some (.aload_n 0, 1), some (.aload_n 1, 1), some (.iload_n 3, 1), some (.iload 4, 2), none, some (.invokevirtual 35, 3), none, none, some (.ireturn, 1), some (.aload_n 0, 1), some (.aload_n 1, 1)],
  [some (.iload_n 3, 1), some (.iload 4, 2), none, some (.invokevirtual 38, 3), none, none, some (.ireturn, 1), some (.aload_n 0, 1), some (.aload_n 1, 1), some (.iload_n 3, 1), some (.iload 4, 2), none, some (.invokevirtual 41, 3), none, none, some (.ireturn, 1)]]
/-- MindPost$Deeds.sendOut -/
def cd7 : List (List (Option (ClassFile.Instr × Nat))) := [[some (.iload_n 3, 1), some (.ifCond .lt 14, 3), none, none, some (.iload_n 3, 1), some (.aload_n 0, 1), some (.getfield 18, 3), none, none, some (.getfield 44, 3), none, none, some (.if_icmp .lt 6, 3), none, none, some (.bipush (-11), 2)],
  [none, some (.ireturn, 1), some (.aload_n 1, 1), some (.getfield 47, 3), none, none, some (.istore 4, 2), none, some (.iload 4, 2), none, some (.bipush 6, 2), none, some (.if_icmp .lt 6, 3), none, none, some (.bipush (-12), 2)],
  [none, some (.ireturn, 1), some (.aload_n 1, 1), some (.getfield 52, 3), none, none, some (.iload 4, 2), none, some (.iload_n 2, 1), some (.iastore, 1), some (.aload_n 1, 1), some (.getfield 56, 3), none, none, some (.iload 4, 2), none],
  [some (.iload_n 3, 1), some (.iastore, 1), some (.aload_n 1, 1), some (.getfield 59, 3), none, none, some (.iload 4, 2), none, some (.aload_n 1, 1), some (.getfield 62, 3), none, none, some (.iastore, 1), some (.aload_n 1, 1), some (.getfield 65, 3), none],
  [none, some (.iload 4, 2), none, some (.aload_n 1, 1), some (.getfield 68, 3), none, none, some (.iload_n 2, 1), some (.iaload, 1), some (.iload_n 3, 1), some (.if_icmp .ne 10, 3), none, none, some (.aload_n 1, 1), some (.getfield 62, 3), none],
  [none, some (.goto 4, 3), none, none, some (.iconst (-1), 1), some (.iastore, 1), some (.aload_n 1, 1), some (.iload 4, 2), none, some (.iconst 1, 1), some (.iadd, 1), some (.putfield 47, 3), none, none, some (.iload 4, 2), none],
  [some (.ireturn, 1)]]
/-- MindPost$Deeds.shift -/
def cd8 : List (List (Option (ClassFile.Instr × Nat))) := [[some (.iload_n 3, 1), some (.ifCond .lt 14, 3), none, none, some (.iload_n 3, 1), some (.aload_n 0, 1), some (.getfield 18, 3), none, none, some (.getfield 44, 3), none, none, some (.if_icmp .lt 6, 3), none, none, some (.bipush (-11), 2)],
  [none, some (.ireturn, 1), some (.aload_n 1, 1), some (.getfield 68, 3), none, none, some (.iload_n 2, 1), some (.iaload, 1), some (.iload_n 3, 1), some (.if_icmp .ne 6, 3), none, none, some (.bipush (-12), 2), none, some (.ireturn, 1), some (.aload_n 1, 1)],
  [some (.getfield 68, 3), none, none, some (.iload_n 2, 1), some (.iload_n 3, 1), some (.iastore, 1), some (.iconst 0, 1), some (.istore 4, 2), none, some (.iconst 0, 1), some (.istore 5, 2), none, some (.iload 5, 2), none, some (.aload_n 1, 1), some (.getfield 47, 3)],
  [none, none, some (.if_icmp .ge 56, 3), none, none, some (.aload_n 1, 1), some (.getfield 52, 3), none, none, some (.iload 5, 2), none, some (.iaload, 1), some (.iload_n 2, 1), some (.if_icmp .ne 39, 3), none, none],
  [some (.aload_n 1, 1), some (.getfield 56, 3), none, none, some (.iload 5, 2), none, some (.iaload, 1), some (.iload_n 3, 1), some (.if_icmp .ne 28, 3), none, none, some (.aload_n 1, 1), some (.getfield 65, 3), none, none, some (.iload 5, 2)],
  [none, some (.iaload, 1), some (.iconst (-1), 1), some (.if_icmp .ne 17, 3), none, none, some (.aload_n 1, 1), some (.getfield 65, 3), none, none, some (.iload 5, 2), none, some (.aload_n 1, 1), some (.getfield 62, 3), none, none],
  [some (.iastore, 1), some (.iinc 4 1, 3), none, none, some (.iinc 5 1, 3), none, none, some (.goto (-59), 3), none, none, some (.iload 4, 2), none, some (.ireturn, 1)]]
/-- MindPost$Deeds.stir -/
def cd9 : List (List (Option (ClassFile.Instr × Nat))) := [[some (.iload_n 3, 1), some (.ifCond .lt 19, 3), none, none, some (.iload_n 3, 1), some (.aload_n 0, 1), some (.getfield 18, 3), none, none, some (.getfield 26, 3), none, none, some (.if_icmp .ge 8, 3), none, none, some (.iload_n 2, 1)],
  [some (.iload_n 3, 1), some (.if_icmp .ne 6, 3), none, none, some (.bipush (-11), 2), none, some (.ireturn, 1), some (.iload_n 2, 1), some (.bipush 6, 2), none, some (.imul, 1), some (.iload_n 3, 1), some (.iadd, 1), some (.istore 4, 2), none, some (.aload_n 1, 1)],
  [some (.getfield 71, 3), none, none, some (.iload 4, 2), none, some (.iaload, 1), some (.bipush 9, 2), none, some (.if_icmp .lt 6, 3), none, none, some (.bipush (-12), 2), none, some (.ireturn, 1), some (.aload_n 1, 1), some (.getfield 71, 3)],
  [none, none, some (.iload 4, 2), none, some (.dup2, 1), some (.iaload, 1), some (.iconst 1, 1), some (.iadd, 1), some (.iastore, 1), some (.aload_n 1, 1), some (.getfield 71, 3), none, none, some (.iload 4, 2), none, some (.iaload, 1)],
  [some (.ireturn, 1)]]
/-- MindPost$Deeds.turn -/
def cd10 : List (List (Option (ClassFile.Instr × Nat))) := [[some (.iload_n 3, 1), some (.ifCond .lt 9, 3), none, none, some (.iload_n 3, 1), some (.bipush 9, 2), none, some (.if_icmp .le 6, 3), none, none, some (.bipush (-11), 2), none, some (.ireturn, 1), some (.aload_n 1, 1), some (.getfield 74, 3), none],
  [none, some (.iload_n 2, 1), some (.iaload, 1), some (.istore 4, 2), none, some (.aload_n 1, 1), some (.getfield 74, 3), none, none, some (.iload_n 2, 1), some (.iload_n 3, 1), some (.iastore, 1), some (.iload 4, 2), none, some (.ireturn, 1)]]
/-- MindPost$Deeds.pass -/
def cd11 : List (List (Option (ClassFile.Instr × Nat))) := [[some (.iconst 0, 1), some (.istore_n 3, 1), some (.iconst 0, 1), some (.istore 4, 2), none, some (.iload 4, 2), none, some (.aload_n 1, 1), some (.getfield 47, 3), none, none, some (.if_icmp .ge 62, 3), none, none, some (.aload_n 1, 1), some (.getfield 65, 3)],
  [none, none, some (.iload 4, 2), none, some (.iaload, 1), some (.iconst (-1), 1), some (.if_icmp .ne 45, 3), none, none, some (.aload_n 0, 1), some (.getfield 22, 3), none, none, some (.aload_n 1, 1), some (.aload_n 1, 1), some (.getfield 52, 3)],
  [none, none, some (.iload 4, 2), none, some (.iaload, 1), some (.iload_n 2, 1), some (.iconst 1, 1), some (.if_icmp .ne 13, 3), none, none, some (.aload_n 1, 1), some (.getfield 56, 3), none, none, some (.iload 4, 2), none],
  [some (.iaload, 1), some (.goto 4, 3), none, none, some (.iconst (-1), 1), some (.invokevirtual 77, 3), none, none, some (.iload_n 3, 1), some (.aload_n 0, 1), some (.aload_n 1, 1), some (.iload 4, 2), none, some (.iload_n 2, 1), some (.invokevirtual 83, 3), none],
  [none, some (.iadd, 1), some (.istore_n 3, 1), some (.iinc 4 1, 3), none, none, some (.goto (-65), 3), none, none, some (.aload_n 1, 1), some (.dup, 1), some (.getfield 62, 3), none, none, some (.iload_n 2, 1), some (.iadd, 1)],
  [some (.putfield 62, 3), none, none, some (.iload_n 3, 1), some (.ireturn, 1)]]
/-- MindPost$Deeds.carry -/
def cd12 : List (List (Option (ClassFile.Instr × Nat))) := [[some (.iconst 1, 1), some (.istore 4, 2), none, some (.iload 4, 2), none, some (.iload_n 3, 1), some (.if_icmp .gt 72, 3), none, none, some (.aload_n 0, 1), some (.getfield 22, 3), none, none, some (.aload_n 1, 1), some (.getfield 56, 3), none],
  [none, some (.iload_n 2, 1), some (.iaload, 1), some (.invokevirtual 86, 3), none, none, some (.istore 5, 2), none, some (.iload 5, 2), none, some (.aload_n 1, 1), some (.getfield 56, 3), none, none, some (.iload_n 2, 1), some (.iaload, 1)],
  [some (.if_icmp .ne 5, 3), none, none, some (.iconst 0, 1), some (.ireturn, 1), some (.aload_n 1, 1), some (.getfield 56, 3), none, none, some (.iload_n 2, 1), some (.iload 5, 2), none, some (.iastore, 1), some (.iload 5, 2), none, some (.aload_n 0, 1)],
  [some (.getfield 22, 3), none, none, some (.getfield 90, 3), none, none, some (.if_icmp .ne 18, 3), none, none, some (.aload_n 1, 1), some (.getfield 65, 3), none, none, some (.iload_n 2, 1), some (.aload_n 1, 1), some (.getfield 62, 3)],
  [none, none, some (.iload 4, 2), none, some (.iadd, 1), some (.iastore, 1), some (.iconst 1, 1), some (.ireturn, 1), some (.iinc 4 1, 3), none, none, some (.goto (-72), 3), none, none, some (.iconst 0, 1), some (.ireturn, 1)]]
/-- MindPost$Deeds.actAll -/
def cd13 : List (List (Option (ClassFile.Instr × Nat))) := [[some (.aload_n 0, 1), some (.iconst 0, 1), some (.putfield 9, 3), none, none, some (.iconst 0, 1), some (.istore_n 3, 1), some (.iload_n 3, 1), some (.aload_n 2, 1), some (.getfield 93, 3), none, none, some (.if_icmp .ge 67, 3), none, none, some (.aload_n 2, 1)],
  [some (.getfield 98, 3), none, none, some (.iload_n 3, 1), some (.laload, 1), some (.lstore 4, 2), none, some (.lload 4, 2), none, some (.ldc2_w 102, 3), none, none, some (.lcmp, 1), some (.ifCond .ne 12, 3), none, none],
  [some (.aload_n 0, 1), some (.aload_n 1, 1), some (.iconst 1, 1), some (.invokevirtual 104, 3), none, none, some (.goto 10, 3), none, none, some (.aload_n 0, 1), some (.aload_n 1, 1), some (.lload 4, 2), none, some (.invokevirtual 108, 3), none, none],
  [some (.istore 6, 2), none, some (.iload 6, 2), none, some (.ifCond .ge 21, 3), none, none, some (.aload_n 0, 1), some (.iload 6, 2), none, some (.bipush (-11), 2), none, some (.if_icmp .ne 7, 3), none, none, some (.iconst 1, 1)],
  [some (.goto 4, 3), none, none, some (.iconst 2, 1), some (.putfield 9, 3), none, none, some (.iload_n 3, 1), some (.ireturn, 1), some (.iinc 3 1, 3), none, none, some (.goto (-69), 3), none, none, some (.aload_n 2, 1)],
  [some (.getfield 93, 3), none, none, some (.ireturn, 1)]]
/-- MindPost$Deeds.actTold -/
def cd14 : List (List (Option (ClassFile.Instr × Nat))) := [[some (.lload_n 2, 1), some (.lconst 0, 1), some (.lcmp, 1), some (.ifCond .lt 11, 3), none, none, some (.lload_n 2, 1), some (.ldc2_w 112, 3), none, none, some (.lcmp, 1), some (.ifCond .le 6, 3), none, none, some (.bipush (-11), 2), none],
  [some (.ireturn, 1), some (.lload_n 2, 1), some (.l2i, 1), some (.istore 4, 2), none, some (.aload_n 0, 1), some (.aload_n 1, 1), some (.iload 4, 2), none, some (.bipush 100, 2), none, some (.idiv, 1), some (.iload 4, 2), none, some (.bipush 10, 2), none],
  [some (.idiv, 1), some (.bipush 10, 2), none, some (.irem, 1), some (.iload 4, 2), none, some (.bipush 10, 2), none, some (.irem, 1), some (.invokevirtual 114, 3), none, none, some (.ireturn, 1)]]
/-- MindPost$Deeds.actByDraws -/
def cd15 : List (List (Option (ClassFile.Instr × Nat))) := [[some (.aload_n 0, 1), some (.iload_n 2, 1), some (.putfield 15, 3), none, none, some (.iconst 0, 1), some (.istore 4, 2), none, some (.iconst 0, 1), some (.istore 5, 2), none, some (.iload 5, 2), none, some (.iload_n 3, 1), some (.if_icmp .ge 51, 3), none],
  [none, some (.aload_n 0, 1), some (.bipush 6, 2), none, some (.invokevirtual 118, 3), none, none, some (.istore 6, 2), none, some (.iload 6, 2), none, some (.iconst 2, 1), some (.if_icmp .ge 12, 3), none, none, some (.aload_n 0, 1)],
  [some (.aload_n 1, 1), some (.iconst 1, 1), some (.invokevirtual 104, 3), none, none, some (.goto 12, 3), none, none, some (.aload_n 0, 1), some (.aload_n 1, 1), some (.iload 6, 2), none, some (.iconst 2, 1), some (.isub, 1), some (.invokevirtual 121, 3), none],
  [none, some (.istore 7, 2), none, some (.iload 7, 2), none, some (.ifCond .lt 6, 3), none, none, some (.iinc 4 1, 3), none, none, some (.iinc 5 1, 3), none, none, some (.goto (-51), 3), none],
  [none, some (.iload 4, 2), none, some (.ireturn, 1)]]
/-- MindPost$Deeds.actDrawn -/
def cd16 : List (List (Option (ClassFile.Instr × Nat))) := [[some (.aload_n 0, 1), some (.bipush 6, 2), none, some (.invokevirtual 118, 3), none, none, some (.istore_n 3, 1), some (.aload_n 0, 1), some (.iload_n 2, 1), some (.iconst 3, 1), some (.if_icmp .ne 8, 3), none, none, some (.bipush 10, 2), none, some (.goto 5, 3)],
  [none, none, some (.bipush 6, 2), none, some (.invokevirtual 118, 3), none, none, some (.istore 4, 2), none, some (.aload_n 0, 1), some (.aload_n 1, 1), some (.iload_n 2, 1), some (.iload_n 3, 1), some (.iload 4, 2), none, some (.invokevirtual 114, 3)],
  [none, none, some (.ireturn, 1)]]
/-- MindPost$Deeds.draw -/
def cd17 : List (List (Option (ClassFile.Instr × Nat))) := [[some (.aload_n 0, 1), some (.ldc 124, 2), none, some (.aload_n 0, 1), some (.getfield 15, 3), none, none, some (.imul, 1), some (.sipush 12345, 3), none, none, some (.iadd, 1), some (.putfield 15, 3), none, none, some (.iload_n 1, 1)],
  [some (.ifCond .le 15, 3), none, none, some (.aload_n 0, 1), some (.getfield 15, 3), none, none, some (.bipush 16, 2), none, some (.iushr, 1), some (.iload_n 1, 1), some (.irem, 1), some (.goto 4, 3), none, none, some (.iconst 0, 1)],
  [some (.ireturn, 1)]]
/-- MindPost$Laws.<init> -/
def cd18 : List (List (Option (ClassFile.Instr × Nat))) := [[some (.aload_n 0, 1), some (.invokespecial 3, 3), none, none, some (.aload_n 0, 1), some (.sipush 900, 3), none, none, some (.newarray .int, 2), none, some (.putfield 9, 3), none, none, some (.aload_n 0, 1), some (.iconst 0, 1), some (.putfield 15, 3)],
  [none, none, some (.aload_n 0, 1), some (.iconst 2, 1), some (.newarray .int, 2), none, some (.putfield 19, 3), none, none, some (.aload_n 0, 1), some (.iconst 2, 1), some (.newarray .int, 2), none, some (.putfield 22, 3), none, none],
  [some (.aload_n 0, 1), some (.bipush 64, 2), none, some (.newarray .int, 2), none, some (.putfield 25, 3), none, none, some (.aload_n 0, 1), some (.iconst 0, 1), some (.putfield 28, 3), none, none, some (.aload_n 0, 1), some (.bipush 16, 2), none],
  [some (.newarray .int, 2), none, some (.putfield 31, 3), none, none, some (.return_, 1)]]
/-- MindPost$Laws.clear -/
def cd19 : List (List (Option (ClassFile.Instr × Nat))) := [[some (.aload_n 0, 1), some (.iconst 0, 1), some (.putfield 15, 3), none, none, some (.iconst 0, 1), some (.istore_n 1, 1), some (.iload_n 1, 1), some (.iconst 2, 1), some (.if_icmp .ge 23, 3), none, none, some (.aload_n 0, 1), some (.getfield 19, 3), none, none],
  [some (.iload_n 1, 1), some (.iconst 0, 1), some (.iastore, 1), some (.aload_n 0, 1), some (.getfield 22, 3), none, none, some (.iload_n 1, 1), some (.iconst 0, 1), some (.iastore, 1), some (.iinc 1 1, 3), none, none, some (.goto (-22), 3), none, none],
  [some (.return_, 1)]]
/-- MindPost$Laws.copy -/
def cd20 : List (List (Option (ClassFile.Instr × Nat))) := [[some (.aload_n 0, 1), some (.aload_n 1, 1), some (.getfield 15, 3), none, none, some (.putfield 15, 3), none, none, some (.aload_n 1, 1), some (.getfield 9, 3), none, none, some (.iconst 0, 1), some (.aload_n 0, 1), some (.getfield 9, 3), none],
  [none, some (.iconst 0, 1), some (.sipush 900, 3), none, none, some (.invokestatic 34, 3), none, none, some (.aload_n 1, 1), some (.getfield 19, 3), none, none, some (.iconst 0, 1), some (.aload_n 0, 1), some (.getfield 19, 3), none],
  [none, some (.iconst 0, 1), some (.iconst 2, 1), some (.invokestatic 34, 3), none, none, some (.aload_n 1, 1), some (.getfield 22, 3), none, none, some (.iconst 0, 1), some (.aload_n 0, 1), some (.getfield 22, 3), none, none, some (.iconst 0, 1)],
  [some (.iconst 2, 1), some (.invokestatic 34, 3), none, none, some (.return_, 1)]]
/-- MindPost$Laws.begin -/
def cd21 : List (List (Option (ClassFile.Instr × Nat))) := [[some (.aload_n 0, 1), some (.getfield 19, 3), none, none, some (.iload_n 1, 1), some (.aload_n 0, 1), some (.getfield 15, 3), none, none, some (.iastore, 1), some (.return_, 1)]]
/-- MindPost$Laws.end -/
def cd22 : List (List (Option (ClassFile.Instr × Nat))) := [[some (.aload_n 0, 1), some (.getfield 22, 3), none, none, some (.iload_n 1, 1), some (.aload_n 0, 1), some (.getfield 15, 3), none, none, some (.iastore, 1), some (.return_, 1)]]
/-- MindPost$Laws.add -/
def cd23 : List (List (Option (ClassFile.Instr × Nat))) := [[some (.aload_n 0, 1), some (.getfield 15, 3), none, none, some (.sipush 900, 3), none, none, some (.if_icmp .ge 23, 3), none, none, some (.aload_n 0, 1), some (.getfield 9, 3), none, none, some (.aload_n 0, 1), some (.getfield 15, 3)],
  [none, none, some (.iload_n 1, 1), some (.iastore, 1), some (.aload_n 0, 1), some (.dup, 1), some (.getfield 15, 3), none, none, some (.iconst 1, 1), some (.iadd, 1), some (.putfield 15, 3), none, none, some (.return_, 1)]]
/-- MindPost$Laws.has -/
def cd24 : List (List (Option (ClassFile.Instr × Nat))) := [[some (.aload_n 0, 1), some (.getfield 22, 3), none, none, some (.iload_n 1, 1), some (.iaload, 1), some (.aload_n 0, 1), some (.getfield 19, 3), none, none, some (.iload_n 1, 1), some (.iaload, 1), some (.if_icmp .le 7, 3), none, none, some (.iconst 1, 1)],
  [some (.goto 4, 3), none, none, some (.iconst 0, 1), some (.ireturn, 1)]]
/-- MindPost$Laws.tell -/
def cd25 : List (List (Option (ClassFile.Instr × Nat))) := [[some (.aload_n 0, 1), some (.iconst 0, 1), some (.putfield 28, 3), none, none, some (.aload_n 0, 1), some (.getfield 19, 3), none, none, some (.iload_n 1, 1), some (.iaload, 1), some (.istore_n 2, 1), some (.iload_n 2, 1), some (.aload_n 0, 1), some (.getfield 22, 3), none],
  [none, some (.iload_n 1, 1), some (.iaload, 1), some (.if_icmp .ge 112, 3), none, none, some (.aload_n 0, 1), some (.getfield 9, 3), none, none, some (.iload_n 2, 1), some (.iaload, 1), some (.sipush 1000, 3), none, none, some (.isub, 1)],
  [some (.istore_n 3, 1), some (.iload_n 3, 1), some (.ifCond .ge 16, 3), none, none, some (.aload_n 0, 1), some (.aload_n 0, 1), some (.getfield 9, 3), none, none, some (.iload_n 2, 1), some (.iaload, 1), some (.invokevirtual 40, 3), none, none, some (.goto 78, 3)],
  [none, none, some (.iload_n 3, 1), some (.bipush 15, 2), none, some (.if_icmp .gt 16, 3), none, none, some (.aload_n 0, 1), some (.aload_n 0, 1), some (.getfield 31, 3), none, none, some (.iload_n 3, 1), some (.iaload, 1), some (.invokevirtual 40, 3)],
  [none, none, some (.goto 59, 3), none, none, some (.iload_n 3, 1), some (.bipush 20, 2), none, some (.if_icmp .ne 16, 3), none, none, some (.aload_n 0, 1), some (.iconst 1, 1), some (.aload_n 0, 1), some (.invokevirtual 44, 3), none],
  [none, some (.isub, 1), some (.invokevirtual 40, 3), none, none, some (.goto 40, 3), none, none, some (.iload_n 3, 1), some (.bipush 16, 2), none, some (.if_icmp .ne 10, 3), none, none, some (.aload_n 0, 1), some (.invokevirtual 48, 3)],
  [none, none, some (.goto 27, 3), none, none, some (.aload_n 0, 1), some (.invokevirtual 44, 3), none, none, some (.istore 4, 2), none, some (.aload_n 0, 1), some (.invokevirtual 44, 3), none, none, some (.istore 5, 2)],
  [none, some (.aload_n 0, 1), some (.iload_n 3, 1), some (.iload 5, 2), none, some (.iload 4, 2), none, some (.invokestatic 51, 3), none, none, some (.invokevirtual 40, 3), none, none, some (.iinc 2 1, 3), none, none],
  [some (.goto (-116), 3), none, none, some (.aload_n 0, 1), some (.invokevirtual 44, 3), none, none, some (.ireturn, 1)]]
/-- MindPost$Laws.push -/
def cd26 : List (List (Option (ClassFile.Instr × Nat))) := [[some (.aload_n 0, 1), some (.getfield 28, 3), none, none, some (.bipush 64, 2), none, some (.if_icmp .ge 23, 3), none, none, some (.aload_n 0, 1), some (.getfield 25, 3), none, none, some (.aload_n 0, 1), some (.getfield 28, 3), none],
  [none, some (.iload_n 1, 1), some (.iastore, 1), some (.aload_n 0, 1), some (.dup, 1), some (.getfield 28, 3), none, none, some (.iconst 1, 1), some (.iadd, 1), some (.putfield 28, 3), none, none, some (.return_, 1)]]
/-- MindPost$Laws.pop -/
def cd27 : List (List (Option (ClassFile.Instr × Nat))) := [[some (.aload_n 0, 1), some (.getfield 28, 3), none, none, some (.ifCond .gt 5, 3), none, none, some (.iconst 0, 1), some (.ireturn, 1), some (.aload_n 0, 1), some (.dup, 1), some (.getfield 28, 3), none, none, some (.iconst 1, 1), some (.isub, 1)],
  [some (.putfield 28, 3), none, none, some (.aload_n 0, 1), some (.getfield 25, 3), none, none, some (.aload_n 0, 1), some (.getfield 28, 3), none, none, some (.iaload, 1), some (.ireturn, 1)]]
/-- MindPost$Laws.choose -/
def cd28 : List (List (Option (ClassFile.Instr × Nat))) := [[some (.aload_n 0, 1), some (.invokevirtual 44, 3), none, none, some (.istore_n 1, 1), some (.aload_n 0, 1), some (.invokevirtual 44, 3), none, none, some (.istore_n 2, 1), some (.aload_n 0, 1), some (.aload_n 0, 1), some (.invokevirtual 44, 3), none, none, some (.iconst 1, 1)],
  [some (.if_icmp .ne 7, 3), none, none, some (.iload_n 2, 1), some (.goto 4, 3), none, none, some (.iload_n 1, 1), some (.invokevirtual 40, 3), none, none, some (.return_, 1)]]
/-- MindPost$Laws.join -/
def cd29 : List (List (Option (ClassFile.Instr × Nat))) := [[some (.iload_n 0, 1), some (.tableswitch 131 22 34 #[127, 131, 131, 67, 76, 85, 131, 131, 131, 131, 94, 105, 116], 67), none, none, none, none, none, none, none, none, none, none, none, none, none, none],
  [none, none, none, none, none, none, none, none, none, none, none, none, none, none, none, none],
  [none, none, none, none, none, none, none, none, none, none, none, none, none, none, none, none],
  [none, none, none, none, none, none, none, none, none, none, none, none, none, none, none, none],
  [none, none, none, none, some (.iload_n 1, 1), some (.i2l, 1), some (.iload_n 2, 1), some (.i2l, 1), some (.ladd, 1), some (.invokestatic 55, 3), none, none, some (.ireturn, 1), some (.iload_n 1, 1), some (.i2l, 1), some (.iload_n 2, 1)],
  [some (.i2l, 1), some (.lsub, 1), some (.invokestatic 55, 3), none, none, some (.ireturn, 1), some (.iload_n 1, 1), some (.i2l, 1), some (.iload_n 2, 1), some (.i2l, 1), some (.lmul, 1), some (.invokestatic 55, 3), none, none, some (.ireturn, 1), some (.iload_n 1, 1)],
  [some (.iload_n 2, 1), some (.if_icmp .ne 7, 3), none, none, some (.iconst 1, 1), some (.goto 4, 3), none, none, some (.iconst 0, 1), some (.ireturn, 1), some (.iload_n 1, 1), some (.iload_n 2, 1), some (.if_icmp .ge 7, 3), none, none, some (.iconst 1, 1)],
  [some (.goto 4, 3), none, none, some (.iconst 0, 1), some (.ireturn, 1), some (.iload_n 1, 1), some (.iload_n 2, 1), some (.if_icmp .le 7, 3), none, none, some (.iconst 1, 1), some (.goto 4, 3), none, none, some (.iconst 0, 1), some (.ireturn, 1)],
  [some (.iload_n 1, 1), some (.iload_n 2, 1), some (.iand, 1), some (.ireturn, 1), some (.iload_n 1, 1), some (.iload_n 2, 1), some (.ior, 1), some (.ireturn, 1)]]
/-- MindPost$Laws.kept -/
def cd30 : List (List (Option (ClassFile.Instr × Nat))) := [[some (.lload_n 0, 1), some (.ldc2_w 59, 3), none, none, some (.lcmp, 1), some (.ifCond .le 8, 3), none, none, some (.ldc 61, 2), none, some (.goto 18, 3), none, none, some (.lload_n 0, 1), some (.ldc2_w 62, 3), none],
  [none, some (.lcmp, 1), some (.ifCond .ge 8, 3), none, none, some (.ldc 64, 2), none, some (.goto 5, 3), none, none, some (.lload_n 0, 1), some (.l2i, 1), some (.ireturn, 1)]]
/-- MindPost$Now.<init> -/
def cd31 : List (List (Option (ClassFile.Instr × Nat))) := [[some (.aload_n 0, 1), some (.invokespecial 3, 3), none, none, some (.aload_n 0, 1), some (.bipush 6, 2), none, some (.newarray .int, 2), none, some (.putfield 9, 3), none, none, some (.aload_n 0, 1), some (.bipush 6, 2), none, some (.newarray .int, 2)],
  [none, some (.putfield 15, 3), none, none, some (.aload_n 0, 1), some (.bipush 36, 2), none, some (.newarray .int, 2), none, some (.putfield 18, 3), none, none, some (.aload_n 0, 1), some (.iconst 0, 1), some (.putfield 21, 3), none],
  [none, some (.aload_n 0, 1), some (.iconst 0, 1), some (.putfield 25, 3), none, none, some (.aload_n 0, 1), some (.bipush 6, 2), none, some (.newarray .int, 2), none, some (.putfield 28, 3), none, none, some (.aload_n 0, 1), some (.bipush 6, 2)],
  [none, some (.newarray .int, 2), none, some (.putfield 31, 3), none, none, some (.aload_n 0, 1), some (.bipush 6, 2), none, some (.newarray .int, 2), none, some (.putfield 34, 3), none, none, some (.aload_n 0, 1), some (.bipush 6, 2)],
  [none, some (.newarray .int, 2), none, some (.putfield 37, 3), none, none, some (.return_, 1)]]
/-- MindPost$Now.clear -/
def cd32 : List (List (Option (ClassFile.Instr × Nat))) := [[some (.aload_n 0, 1), some (.iconst 0, 1), some (.putfield 21, 3), none, none, some (.aload_n 0, 1), some (.iconst 0, 1), some (.putfield 25, 3), none, none, some (.iconst 0, 1), some (.istore_n 1, 1), some (.iload_n 1, 1), some (.bipush 6, 2), none, some (.if_icmp .ge 23, 3)],
  [none, none, some (.aload_n 0, 1), some (.getfield 9, 3), none, none, some (.iload_n 1, 1), some (.iconst 0, 1), some (.iastore, 1), some (.aload_n 0, 1), some (.getfield 15, 3), none, none, some (.iload_n 1, 1), some (.iconst 0, 1), some (.iastore, 1)],
  [some (.iinc 1 1, 3), none, none, some (.goto (-23), 3), none, none, some (.iconst 0, 1), some (.istore_n 1, 1), some (.iload_n 1, 1), some (.bipush 36, 2), none, some (.if_icmp .ge 16, 3), none, none, some (.aload_n 0, 1), some (.getfield 18, 3)],
  [none, none, some (.iload_n 1, 1), some (.iconst 0, 1), some (.iastore, 1), some (.iinc 1 1, 3), none, none, some (.goto (-16), 3), none, none, some (.return_, 1)]]
/-- MindPost$Now.copy -/
def cd33 : List (List (Option (ClassFile.Instr × Nat))) := [[some (.aload_n 0, 1), some (.aload_n 1, 1), some (.getfield 21, 3), none, none, some (.putfield 21, 3), none, none, some (.aload_n 0, 1), some (.aload_n 1, 1), some (.getfield 25, 3), none, none, some (.putfield 25, 3), none, none],
  [some (.aload_n 1, 1), some (.getfield 9, 3), none, none, some (.iconst 0, 1), some (.aload_n 0, 1), some (.getfield 9, 3), none, none, some (.iconst 0, 1), some (.bipush 6, 2), none, some (.invokestatic 40, 3), none, none, some (.aload_n 1, 1)],
  [some (.getfield 15, 3), none, none, some (.iconst 0, 1), some (.aload_n 0, 1), some (.getfield 15, 3), none, none, some (.iconst 0, 1), some (.bipush 6, 2), none, some (.invokestatic 40, 3), none, none, some (.aload_n 1, 1), some (.getfield 18, 3)],
  [none, none, some (.iconst 0, 1), some (.aload_n 0, 1), some (.getfield 18, 3), none, none, some (.iconst 0, 1), some (.bipush 36, 2), none, some (.invokestatic 40, 3), none, none, some (.aload_n 1, 1), some (.getfield 28, 3), none],
  [none, some (.iconst 0, 1), some (.aload_n 0, 1), some (.getfield 28, 3), none, none, some (.iconst 0, 1), some (.bipush 6, 2), none, some (.invokestatic 40, 3), none, none, some (.aload_n 1, 1), some (.getfield 31, 3), none, none],
  [some (.iconst 0, 1), some (.aload_n 0, 1), some (.getfield 31, 3), none, none, some (.iconst 0, 1), some (.bipush 6, 2), none, some (.invokestatic 40, 3), none, none, some (.aload_n 1, 1), some (.getfield 34, 3), none, none, some (.iconst 0, 1)],
  [some (.aload_n 0, 1), some (.getfield 34, 3), none, none, some (.iconst 0, 1), some (.bipush 6, 2), none, some (.invokestatic 40, 3), none, none, some (.aload_n 1, 1), some (.getfield 37, 3), none, none, some (.iconst 0, 1), some (.aload_n 0, 1)],
  [some (.getfield 37, 3), none, none, some (.iconst 0, 1), some (.bipush 6, 2), none, some (.invokestatic 40, 3), none, none, some (.return_, 1)]]
/-- MindPost$Now.lettersTo -/
def cd34 : List (List (Option (ClassFile.Instr × Nat))) := [[some (.iconst 0, 1), some (.istore_n 2, 1), some (.iconst 0, 1), some (.istore_n 3, 1), some (.iload_n 3, 1), some (.aload_n 0, 1), some (.getfield 25, 3), none, none, some (.if_icmp .ge 25, 3), none, none, some (.aload_n 0, 1), some (.getfield 28, 3), none, none],
  [some (.iload_n 3, 1), some (.iaload, 1), some (.iload_n 1, 1), some (.if_icmp .ne 9, 3), none, none, some (.iload_n 2, 1), some (.iconst 1, 1), some (.iload_n 3, 1), some (.ishl, 1), some (.ior, 1), some (.istore_n 2, 1), some (.iinc 3 1, 3), none, none, some (.goto (-27), 3)],
  [none, none, some (.iload_n 2, 1), some (.ireturn, 1)]]
/-- MindPost$Now.givenBits -/
def cd35 : List (List (Option (ClassFile.Instr × Nat))) := [[some (.iconst 0, 1), some (.istore_n 1, 1), some (.iconst 0, 1), some (.istore_n 2, 1), some (.iload_n 2, 1), some (.aload_n 0, 1), some (.getfield 25, 3), none, none, some (.if_icmp .ge 25, 3), none, none, some (.aload_n 0, 1), some (.getfield 37, 3), none, none],
  [some (.iload_n 2, 1), some (.iaload, 1), some (.iconst (-1), 1), some (.if_icmp .eq 9, 3), none, none, some (.iload_n 1, 1), some (.iconst 1, 1), some (.iload_n 2, 1), some (.ishl, 1), some (.ior, 1), some (.istore_n 1, 1), some (.iinc 2 1, 3), none, none, some (.goto (-27), 3)],
  [none, none, some (.iload_n 1, 1), some (.ireturn, 1)]]
/-- MindPost$Now.lyingBits -/
def cd36 : List (List (Option (ClassFile.Instr × Nat))) := [[some (.iconst 0, 1), some (.istore_n 1, 1), some (.iconst 0, 1), some (.istore_n 2, 1), some (.iload_n 2, 1), some (.aload_n 0, 1), some (.getfield 25, 3), none, none, some (.if_icmp .ge 30, 3), none, none, some (.aload_n 0, 1), some (.getfield 37, 3), none, none],
  [some (.iload_n 2, 1), some (.iaload, 1), some (.iconst (-1), 1), some (.if_icmp .ne 14, 3), none, none, some (.iload_n 1, 1), some (.iconst 1, 1), some (.aload_n 0, 1), some (.getfield 31, 3), none, none, some (.iload_n 2, 1), some (.iaload, 1), some (.ishl, 1), some (.ior, 1)],
  [some (.istore_n 1, 1), some (.iinc 2 1, 3), none, none, some (.goto (-32), 3), none, none, some (.iload_n 1, 1), some (.ireturn, 1)]]
/-- MindPost$Now.allCares -/
def cd37 : List (List (Option (ClassFile.Instr × Nat))) := [[some (.iconst 0, 1), some (.istore_n 1, 1), some (.iconst 0, 1), some (.istore_n 2, 1), some (.iload_n 2, 1), some (.bipush 36, 2), none, some (.if_icmp .ge 18, 3), none, none, some (.iload_n 1, 1), some (.aload_n 0, 1), some (.getfield 18, 3), none, none, some (.iload_n 2, 1)],
  [some (.iaload, 1), some (.iadd, 1), some (.istore_n 1, 1), some (.iinc 2 1, 3), none, none, some (.goto (-18), 3), none, none, some (.iload_n 1, 1), some (.ireturn, 1)]]
/-- MindPost$Past.<init> -/
def cd38 : List (List (Option (ClassFile.Instr × Nat))) := [[some (.aload_n 0, 1), some (.invokespecial 3, 3), none, none, some (.aload_n 0, 1), some (.bipush 10, 2), none, some (.anewarray 9, 3), none, none, some (.putfield 11, 3), none, none, some (.aload_n 0, 1), some (.iconst 0, 1), some (.putfield 17, 3)],
  [none, none, some (.aload_n 0, 1), some (.iconst 0, 1), some (.putfield 21, 3), none, none, some (.iconst 0, 1), some (.istore_n 1, 1), some (.iload_n 1, 1), some (.bipush 10, 2), none, some (.if_icmp .ge 22, 3), none, none, some (.aload_n 0, 1)],
  [some (.getfield 11, 3), none, none, some (.iload_n 1, 1), some (.new 9, 3), none, none, some (.dup, 1), some (.invokespecial 24, 3), none, none, some (.aastore, 1), some (.iinc 1 1, 3), none, none, some (.goto (-22), 3)],
  [none, none, some (.return_, 1)]]
/-- MindPost$Past.keep -/
def cd39 : List (List (Option (ClassFile.Instr × Nat))) := [[some (.aload_n 0, 1), some (.getfield 21, 3), none, none, some (.bipush 10, 2), none, some (.if_icmp .lt 26, 3), none, none, some (.aload_n 0, 1), some (.aload_n 0, 1), some (.getfield 17, 3), none, none, some (.iconst 1, 1), some (.iadd, 1)],
  [some (.bipush 10, 2), none, some (.irem, 1), some (.putfield 17, 3), none, none, some (.aload_n 0, 1), some (.dup, 1), some (.getfield 21, 3), none, none, some (.iconst 1, 1), some (.isub, 1), some (.putfield 21, 3), none, none],
  [some (.aload_n 0, 1), some (.getfield 11, 3), none, none, some (.aload_n 0, 1), some (.getfield 17, 3), none, none, some (.aload_n 0, 1), some (.getfield 21, 3), none, none, some (.iadd, 1), some (.bipush 10, 2), none, some (.irem, 1)],
  [some (.aaload, 1), some (.aload_n 1, 1), some (.invokevirtual 25, 3), none, none, some (.aload_n 0, 1), some (.dup, 1), some (.getfield 21, 3), none, none, some (.iconst 1, 1), some (.iadd, 1), some (.putfield 21, 3), none, none, some (.return_, 1)]]
/-- MindPost$Past.bringBack -/
def cd40 : List (List (Option (ClassFile.Instr × Nat))) := [[some (.iload_n 1, 1), some (.ifCond .le 42, 3), none, none, some (.iload_n 1, 1), some (.aload_n 0, 1), some (.getfield 21, 3), none, none, some (.if_icmp .gt 34, 3), none, none, some (.aload_n 0, 1), some (.dup, 1), some (.getfield 21, 3), none],
  [none, some (.iload_n 1, 1), some (.isub, 1), some (.putfield 21, 3), none, none, some (.aload_n 2, 1), some (.aload_n 0, 1), some (.getfield 11, 3), none, none, some (.aload_n 0, 1), some (.getfield 17, 3), none, none, some (.aload_n 0, 1)],
  [some (.getfield 21, 3), none, none, some (.iadd, 1), some (.bipush 10, 2), none, some (.irem, 1), some (.aaload, 1), some (.invokevirtual 25, 3), none, none, some (.return_, 1)]]
/-- MindPost$Reader.<init> -/
def cd41 : List (List (Option (ClassFile.Instr × Nat))) := [[some (.aload_n 0, 1), some (.invokespecial 3, 3), none, none, some (.aload_n 0, 1), some (.new 9, 3), none, none, some (.dup, 1), some (.invokespecial 11, 3), none, none, some (.putfield 12, 3), none, none, some (.aload_n 0, 1)],
  [some (.new 18, 3), none, none, some (.dup, 1), some (.invokespecial 20, 3), none, none, some (.putfield 21, 3), none, none, some (.aload_n 0, 1), some (.iconst 0, 1), some (.putfield 25, 3), none, none, some (.aload_n 0, 1)],
  [some (.iconst (-1), 1), some (.putfield 29, 3), none, none, some (.aload_n 0, 1), some (.iconst 0, 1), some (.putfield 32, 3), none, none, some (.aload_n 0, 1), some (.new 35, 3), none, none, some (.dup, 1), some (.aload_n 1, 1), some (.invokespecial 37, 3)],
  [none, none, some (.putfield 40, 3), none, none, some (.return_, 1)]]
/-- MindPost$Reader.readText -/
def cd42 : List (List (Option (ClassFile.Instr × Nat))) := [[some (.aload_n 0, 1), some (.iconst 0, 1), some (.putfield 25, 3), none, none, some (.aload_n 0, 1), some (.iconst (-1), 1), some (.putfield 29, 3), none, none, some (.aload_n 0, 1), some (.getfield 12, 3), none, none, some (.invokevirtual 44, 3), none],
  [none, some (.aload_n 0, 1), some (.getfield 21, 3), none, none, some (.invokevirtual 47, 3), none, none, some (.aload_n 0, 1), some (.getfield 40, 3), none, none, some (.iload_n 1, 1), some (.invokevirtual 48, 3), none, none],
  [some (.aload_n 0, 1), some (.getfield 40, 3), none, none, some (.invokevirtual 52, 3), none, none, some (.aload_n 0, 1), some (.iconst 0, 1), some (.invokevirtual 55, 3), none, none, some (.aload_n 0, 1), some (.getfield 12, 3), none, none],
  [some (.aload_n 0, 1), some (.iconst 2, 1), some (.bipush 6, 2), none, some (.invokevirtual 58, 3), none, none, some (.putfield 62, 3), none, none, some (.aload_n 0, 1), some (.bipush 23, 2), none, some (.invokevirtual 55, 3), none, none],
  [some (.aload_n 0, 1), some (.getfield 12, 3), none, none, some (.iconst 1, 1), some (.putfield 65, 3), none, none, some (.iconst 0, 1), some (.istore_n 2, 1), some (.iload_n 2, 1), some (.sipush 900, 3), none, none, some (.if_icmp .ge 51, 3), none],
  [none, some (.aload_n 0, 1), some (.getfield 25, 3), none, none, some (.ifCond .ne 44, 3), none, none, some (.aload_n 0, 1), some (.getfield 40, 3), none, none, some (.getfield 68, 3), none, none, some (.bipush 36, 2)],
  [none, some (.if_icmp .eq 32, 3), none, none, some (.aload_n 0, 1), some (.invokevirtual 71, 3), none, none, some (.aload_n 0, 1), some (.bipush 23, 2), none, some (.invokevirtual 55, 3), none, none, some (.aload_n 0, 1), some (.getfield 12, 3)],
  [none, none, some (.dup, 1), some (.getfield 65, 3), none, none, some (.iconst 1, 1), some (.iadd, 1), some (.putfield 65, 3), none, none, some (.iinc 2 1, 3), none, none, some (.goto (-52), 3), none],
  [none, some (.return_, 1)]]
/-- MindPost$Reader.fail -/
def cd43 : List (List (Option (ClassFile.Instr × Nat))) := [[some (.aload_n 0, 1), some (.getfield 25, 3), none, none, some (.ifCond .ne 35, 3), none, none, some (.aload_n 0, 1), some (.aload_n 0, 1), some (.getfield 40, 3), none, none, some (.getfield 68, 3), none, none, some (.bipush 38, 2)],
  [none, some (.if_icmp .ne 7, 3), none, none, some (.iconst 1, 1), some (.goto 4, 3), none, none, some (.iload_n 1, 1), some (.putfield 25, 3), none, none, some (.aload_n 0, 1), some (.aload_n 0, 1), some (.getfield 40, 3), none],
  [none, some (.getfield 74, 3), none, none, some (.putfield 29, 3), none, none, some (.return_, 1)]]
/-- MindPost$Reader.take -/
def cd44 : List (List (Option (ClassFile.Instr × Nat))) := [[some (.aload_n 0, 1), some (.getfield 40, 3), none, none, some (.getfield 68, 3), none, none, some (.iload_n 1, 1), some (.if_icmp .eq 8, 3), none, none, some (.aload_n 0, 1), some (.iconst 2, 1), some (.invokevirtual 77, 3), none, none],
  [some (.aload_n 0, 1), some (.getfield 25, 3), none, none, some (.ifCond .ne 10, 3), none, none, some (.aload_n 0, 1), some (.getfield 40, 3), none, none, some (.invokevirtual 52, 3), none, none, some (.return_, 1)]]
/-- MindPost$Reader.takeNumber -/
def cd45 : List (List (Option (ClassFile.Instr × Nat))) := [[some (.aload_n 0, 1), some (.getfield 40, 3), none, none, some (.getfield 80, 3), none, none, some (.istore_n 3, 1), some (.aload_n 0, 1), some (.getfield 40, 3), none, none, some (.getfield 68, 3), none, none, some (.bipush 35, 2)],
  [none, some (.if_icmp .ne 18, 3), none, none, some (.iload_n 3, 1), some (.iload_n 1, 1), some (.if_icmp .lt 8, 3), none, none, some (.iload_n 3, 1), some (.iload_n 2, 1), some (.if_icmp .le 8, 3), none, none, some (.aload_n 0, 1), some (.iconst 3, 1)],
  [some (.invokevirtual 77, 3), none, none, some (.aload_n 0, 1), some (.bipush 35, 2), none, some (.invokevirtual 55, 3), none, none, some (.aload_n 0, 1), some (.getfield 25, 3), none, none, some (.ifCond .ne 7, 3), none, none],
  [some (.iload_n 3, 1), some (.goto 4, 3), none, none, some (.iconst 0, 1), some (.ireturn, 1)]]
/-- MindPost$Reader.readLine -/
def cd46 : List (List (Option (ClassFile.Instr × Nat))) := [[some (.aload_n 0, 1), some (.getfield 40, 3), none, none, some (.getfield 68, 3), none, none, some (.tableswitch 111 1 11 #[57, 111, 111, 111, 111, 111, 64, 111, 71, 79, 87], 57), none, none, none, none, none, none, none, none],
  [none, none, none, none, none, none, none, none, none, none, none, none, none, none, none, none],
  [none, none, none, none, none, none, none, none, none, none, none, none, none, none, none, none],
  [none, none, none, none, none, none, none, none, none, none, none, none, none, none, none, none],
  [some (.aload_n 0, 1), some (.invokevirtual 83, 3), none, none, some (.goto 55, 3), none, none, some (.aload_n 0, 1), some (.invokevirtual 86, 3), none, none, some (.goto 48, 3), none, none, some (.aload_n 0, 1), some (.iconst 0, 1)],
  [some (.invokevirtual 89, 3), none, none, some (.goto 40, 3), none, none, some (.aload_n 0, 1), some (.iconst 1, 1), some (.invokevirtual 89, 3), none, none, some (.goto 32, 3), none, none, some (.aload_n 0, 1), some (.bipush 11, 2)],
  [none, some (.invokevirtual 55, 3), none, none, some (.aload_n 0, 1), some (.getfield 21, 3), none, none, some (.aload_n 0, 1), some (.iconst 0, 1), some (.sipush 999, 3), none, none, some (.invokevirtual 58, 3), none, none],
  [some (.putfield 92, 3), none, none, some (.goto 8, 3), none, none, some (.aload_n 0, 1), some (.iconst 2, 1), some (.invokevirtual 77, 3), none, none, some (.return_, 1)]]
/-- MindPost$Reader.readPerson -/
def cd47 : List (List (Option (ClassFile.Instr × Nat))) := [[some (.aload_n 0, 1), some (.getfield 12, 3), none, none, some (.getfield 95, 3), none, none, some (.istore_n 1, 1), some (.iload_n 1, 1), some (.bipush 6, 2), none, some (.if_icmp .lt 9, 3), none, none, some (.aload_n 0, 1), some (.iconst 4, 1)],
  [some (.invokevirtual 77, 3), none, none, some (.return_, 1), some (.aload_n 0, 1), some (.iconst 1, 1), some (.invokevirtual 55, 3), none, none, some (.aload_n 0, 1), some (.iconst 2, 1), some (.invokevirtual 55, 3), none, none, some (.aload_n 0, 1), some (.getfield 21, 3)],
  [none, none, some (.getfield 98, 3), none, none, some (.iload_n 1, 1), some (.aload_n 0, 1), some (.iconst 0, 1), some (.aload_n 0, 1), some (.getfield 12, 3), none, none, some (.getfield 62, 3), none, none, some (.iconst 1, 1)],
  [some (.isub, 1), some (.invokevirtual 58, 3), none, none, some (.iastore, 1), some (.aload_n 0, 1), some (.getfield 12, 3), none, none, some (.getfield 102, 3), none, none, some (.iload_n 1, 1), some (.aload_n 0, 1), some (.getfield 21, 3), none],
  [none, some (.getfield 98, 3), none, none, some (.iload_n 1, 1), some (.iaload, 1), some (.iastore, 1), some (.iconst 0, 1), some (.istore_n 2, 1), some (.iload_n 2, 1), some (.sipush 900, 3), none, none, some (.if_icmp .ge 34, 3), none, none],
  [some (.aload_n 0, 1), some (.getfield 25, 3), none, none, some (.ifCond .ne 27, 3), none, none, some (.aload_n 0, 1), some (.getfield 40, 3), none, none, some (.getfield 68, 3), none, none, some (.invokestatic 105, 3), none],
  [none, some (.ifCond .eq 14, 3), none, none, some (.aload_n 0, 1), some (.iload_n 1, 1), some (.invokevirtual 109, 3), none, none, some (.iinc 2 1, 3), none, none, some (.goto (-35), 3), none, none, some (.aload_n 0, 1)],
  [some (.getfield 12, 3), none, none, some (.iload_n 1, 1), some (.iconst 1, 1), some (.iadd, 1), some (.putfield 95, 3), none, none, some (.return_, 1)]]
/-- MindPost$Reader.isFlag -/
def cd48 : List (List (Option (ClassFile.Instr × Nat))) := [[some (.iload_n 0, 1), some (.iconst 3, 1), some (.if_icmp .eq 19, 3), none, none, some (.iload_n 0, 1), some (.iconst 4, 1), some (.if_icmp .eq 14, 3), none, none, some (.iload_n 0, 1), some (.iconst 5, 1), some (.if_icmp .eq 9, 3), none, none, some (.iload_n 0, 1)],
  [some (.bipush 6, 2), none, some (.if_icmp .ne 7, 3), none, none, some (.iconst 1, 1), some (.goto 4, 3), none, none, some (.iconst 0, 1), some (.ireturn, 1)]]
/-- MindPost$Reader.readFlag -/
def cd49 : List (List (Option (ClassFile.Instr × Nat))) := [[some (.aload_n 0, 1), some (.getfield 40, 3), none, none, some (.getfield 68, 3), none, none, some (.istore_n 2, 1), some (.aload_n 0, 1), some (.iload_n 2, 1), some (.invokevirtual 55, 3), none, none, some (.iload_n 2, 1), some (.iconst 3, 1), some (.if_icmp .ne 29, 3)],
  [none, none, some (.aload_n 0, 1), some (.getfield 12, 3), none, none, some (.getfield 102, 3), none, none, some (.iload_n 1, 1), some (.aload_n 0, 1), some (.iconst 0, 1), some (.aload_n 0, 1), some (.getfield 12, 3), none, none],
  [some (.getfield 62, 3), none, none, some (.iconst 1, 1), some (.isub, 1), some (.invokevirtual 58, 3), none, none, some (.iastore, 1), some (.goto 67, 3), none, none, some (.iload_n 2, 1), some (.iconst 4, 1), some (.if_icmp .ne 22, 3), none],
  [none, some (.aload_n 0, 1), some (.getfield 12, 3), none, none, some (.getfield 112, 3), none, none, some (.iload_n 1, 1), some (.aload_n 0, 1), some (.iconst 0, 1), some (.bipush 9, 2), none, some (.invokevirtual 58, 3), none, none],
  [some (.iastore, 1), some (.goto 43, 3), none, none, some (.iload_n 2, 1), some (.iconst 5, 1), some (.if_icmp .ne 22, 3), none, none, some (.aload_n 0, 1), some (.getfield 21, 3), none, none, some (.getfield 115, 3), none, none],
  [some (.iload_n 1, 1), some (.aload_n 0, 1), some (.iconst 0, 1), some (.bipush 9, 2), none, some (.invokevirtual 58, 3), none, none, some (.iastore, 1), some (.goto 19, 3), none, none, some (.aload_n 0, 1), some (.getfield 12, 3), none, none],
  [some (.getfield 118, 3), none, none, some (.iload_n 1, 1), some (.aload_n 0, 1), some (.iconst 0, 1), some (.bipush 10, 2), none, some (.invokevirtual 58, 3), none, none, some (.iastore, 1), some (.return_, 1)]]
/-- MindPost$Reader.readCares -/
def cd50 : List (List (Option (ClassFile.Instr × Nat))) := [[some (.aload_n 0, 1), some (.bipush 7, 2), none, some (.invokevirtual 55, 3), none, none, some (.aload_n 0, 1), some (.iconst 0, 1), some (.aload_n 0, 1), some (.getfield 12, 3), none, none, some (.getfield 95, 3), none, none, some (.iconst 1, 1)],
  [some (.isub, 1), some (.invokevirtual 58, 3), none, none, some (.istore_n 1, 1), some (.aload_n 0, 1), some (.bipush 8, 2), none, some (.invokevirtual 55, 3), none, none, some (.aload_n 0, 1), some (.getfield 40, 3), none, none, some (.getfield 80, 3)],
  [none, none, some (.iload_n 1, 1), some (.if_icmp .ne 15, 3), none, none, some (.aload_n 0, 1), some (.getfield 25, 3), none, none, some (.ifCond .ne 8, 3), none, none, some (.aload_n 0, 1), some (.iconst 3, 1), some (.invokevirtual 77, 3)],
  [none, none, some (.aload_n 0, 1), some (.iconst 0, 1), some (.aload_n 0, 1), some (.getfield 12, 3), none, none, some (.getfield 95, 3), none, none, some (.iconst 1, 1), some (.isub, 1), some (.invokevirtual 58, 3), none, none],
  [some (.istore_n 2, 1), some (.aload_n 0, 1), some (.iconst 0, 1), some (.bipush 9, 2), none, some (.invokevirtual 58, 3), none, none, some (.istore_n 3, 1), some (.aload_n 0, 1), some (.getfield 25, 3), none, none, some (.ifCond .ne 18, 3), none, none],
  [some (.aload_n 0, 1), some (.getfield 21, 3), none, none, some (.getfield 121, 3), none, none, some (.iload_n 1, 1), some (.bipush 6, 2), none, some (.imul, 1), some (.iload_n 2, 1), some (.iadd, 1), some (.iload_n 3, 1), some (.iastore, 1), some (.return_, 1)]]
/-- MindPost$Reader.readLaw -/
def cd51 : List (List (Option (ClassFile.Instr × Nat))) := [[some (.aload_n 0, 1), some (.iload_n 1, 1), some (.putfield 32, 3), none, none, some (.aload_n 0, 1), some (.aload_n 0, 1), some (.getfield 40, 3), none, none, some (.getfield 68, 3), none, none, some (.invokevirtual 55, 3), none, none],
  [some (.aload_n 0, 1), some (.bipush 24, 2), none, some (.invokevirtual 55, 3), none, none, some (.aload_n 0, 1), some (.getfield 12, 3), none, none, some (.getfield 124, 3), none, none, some (.aload_n 0, 1), some (.getfield 32, 3), none],
  [none, some (.invokevirtual 128, 3), none, none, some (.aload_n 0, 1), some (.iconst 0, 1), some (.invokevirtual 133, 3), none, none, some (.aload_n 0, 1), some (.getfield 12, 3), none, none, some (.getfield 124, 3), none, none],
  [some (.aload_n 0, 1), some (.getfield 32, 3), none, none, some (.invokevirtual 136, 3), none, none, some (.return_, 1)]]
/-- MindPost$Reader.add -/
def cd52 : List (List (Option (ClassFile.Instr × Nat))) := [[some (.aload_n 0, 1), some (.getfield 12, 3), none, none, some (.getfield 124, 3), none, none, some (.sipush 1000, 3), none, none, some (.iload_n 1, 1), some (.iadd, 1), some (.invokevirtual 139, 3), none, none, some (.return_, 1)]]
/-- MindPost$Reader.readSum -/
def cd53 : List (List (Option (ClassFile.Instr × Nat))) := [[some (.aload_n 0, 1), some (.iload_n 1, 1), some (.invokevirtual 142, 3), none, none, some (.iconst 0, 1), some (.istore_n 2, 1), some (.iload_n 2, 1), some (.sipush 900, 3), none, none, some (.if_icmp .ge 52, 3), none, none, some (.aload_n 0, 1), some (.getfield 25, 3)],
  [none, none, some (.ifCond .ne 45, 3), none, none, some (.aload_n 0, 1), some (.getfield 40, 3), none, none, some (.getfield 68, 3), none, none, some (.istore_n 3, 1), some (.iload_n 3, 1), some (.bipush 25, 2), none],
  [some (.if_icmp .eq 10, 3), none, none, some (.iload_n 3, 1), some (.bipush 26, 2), none, some (.if_icmp .eq 4, 3), none, none, some (.return_, 1), some (.aload_n 0, 1), some (.iload_n 3, 1), some (.invokevirtual 55, 3), none, none, some (.aload_n 0, 1)],
  [some (.iload_n 1, 1), some (.invokevirtual 142, 3), none, none, some (.aload_n 0, 1), some (.iload_n 3, 1), some (.invokevirtual 145, 3), none, none, some (.iinc 2 1, 3), none, none, some (.goto (-53), 3), none, none, some (.return_, 1)]]
/-- MindPost$Reader.readTerm -/
def cd54 : List (List (Option (ClassFile.Instr × Nat))) := [[some (.aload_n 0, 1), some (.iload_n 1, 1), some (.invokevirtual 146, 3), none, none, some (.iconst 0, 1), some (.istore_n 2, 1), some (.iload_n 2, 1), some (.sipush 900, 3), none, none, some (.if_icmp .ge 45, 3), none, none, some (.aload_n 0, 1), some (.getfield 25, 3)],
  [none, none, some (.ifCond .ne 38, 3), none, none, some (.aload_n 0, 1), some (.getfield 40, 3), none, none, some (.getfield 68, 3), none, none, some (.bipush 27, 2), none, some (.if_icmp .ne 26, 3), none],
  [none, some (.aload_n 0, 1), some (.bipush 27, 2), none, some (.invokevirtual 55, 3), none, none, some (.aload_n 0, 1), some (.iload_n 1, 1), some (.invokevirtual 146, 3), none, none, some (.aload_n 0, 1), some (.bipush 27, 2), none, some (.invokevirtual 145, 3)],
  [none, none, some (.iinc 2 1, 3), none, none, some (.goto (-46), 3), none, none, some (.return_, 1)]]
/-- MindPost$Reader.readAtom -/
def cd55 : List (List (Option (ClassFile.Instr × Nat))) := [[some (.aload_n 0, 1), some (.getfield 25, 3), none, none, some (.ifCond .eq 4, 3), none, none, some (.return_, 1), some (.aload_n 0, 1), some (.getfield 40, 3), none, none, some (.getfield 68, 3), none, none, some (.istore_n 2, 1)],
  [some (.iload_n 2, 1), some (.bipush 35, 2), none, some (.if_icmp .ne 29, 3), none, none, some (.aload_n 0, 1), some (.getfield 12, 3), none, none, some (.getfield 124, 3), none, none, some (.aload_n 0, 1), some (.getfield 40, 3), none],
  [none, some (.getfield 80, 3), none, none, some (.invokevirtual 139, 3), none, none, some (.aload_n 0, 1), some (.bipush 35, 2), none, some (.invokevirtual 55, 3), none, none, some (.goto 89, 3), none, none],
  [some (.aload_n 0, 1), some (.iload_n 2, 1), some (.invokevirtual 149, 3), none, none, some (.ifCond .eq 16, 3), none, none, some (.aload_n 0, 1), some (.iload_n 2, 1), some (.invokevirtual 145, 3), none, none, some (.aload_n 0, 1), some (.iload_n 2, 1), some (.invokevirtual 55, 3)],
  [none, none, some (.goto 68, 3), none, none, some (.iload_n 2, 1), some (.bipush 28, 2), none, some (.if_icmp .ne 33, 3), none, none, some (.aload_n 0, 1), some (.iload_n 1, 1), some (.invokevirtual 152, 3), none, none],
  [some (.ifCond .eq 25, 3), none, none, some (.aload_n 0, 1), some (.bipush 28, 2), none, some (.invokevirtual 55, 3), none, none, some (.aload_n 0, 1), some (.iload_n 1, 1), some (.iconst 1, 1), some (.iadd, 1), some (.invokevirtual 133, 3), none, none],
  [some (.aload_n 0, 1), some (.bipush 29, 2), none, some (.invokevirtual 55, 3), none, none, some (.goto 32, 3), none, none, some (.iload_n 2, 1), some (.bipush 16, 2), none, some (.if_icmp .ne 21, 3), none, none, some (.aload_n 0, 1)],
  [some (.iload_n 1, 1), some (.invokevirtual 152, 3), none, none, some (.ifCond .eq 13, 3), none, none, some (.aload_n 0, 1), some (.iload_n 1, 1), some (.iconst 1, 1), some (.iadd, 1), some (.invokevirtual 155, 3), none, none, some (.goto 8, 3), none],
  [none, some (.aload_n 0, 1), some (.iconst 2, 1), some (.invokevirtual 77, 3), none, none, some (.return_, 1)]]
/-- MindPost$Reader.readIf -/
def cd56 : List (List (Option (ClassFile.Instr × Nat))) := [[some (.aload_n 0, 1), some (.bipush 16, 2), none, some (.invokevirtual 55, 3), none, none, some (.aload_n 0, 1), some (.iload_n 1, 1), some (.invokevirtual 158, 3), none, none, some (.aload_n 0, 1), some (.bipush 17, 2), none, some (.invokevirtual 55, 3), none],
  [none, some (.aload_n 0, 1), some (.iload_n 1, 1), some (.invokevirtual 133, 3), none, none, some (.aload_n 0, 1), some (.bipush 18, 2), none, some (.invokevirtual 55, 3), none, none, some (.aload_n 0, 1), some (.iload_n 1, 1), some (.invokevirtual 133, 3), none],
  [none, some (.aload_n 0, 1), some (.bipush 19, 2), none, some (.invokevirtual 55, 3), none, none, some (.aload_n 0, 1), some (.bipush 16, 2), none, some (.invokevirtual 145, 3), none, none, some (.return_, 1)]]
/-- MindPost$Reader.mayNest -/
def cd57 : List (List (Option (ClassFile.Instr × Nat))) := [[some (.iload_n 1, 1), some (.bipush 6, 2), none, some (.if_icmp .lt 8, 3), none, none, some (.aload_n 0, 1), some (.iconst 4, 1), some (.invokevirtual 77, 3), none, none, some (.aload_n 0, 1), some (.getfield 25, 3), none, none, some (.ifCond .ne 7, 3)],
  [none, none, some (.iconst 1, 1), some (.goto 4, 3), none, none, some (.iconst 0, 1), some (.ireturn, 1)]]
/-- MindPost$Reader.isOfLaw -/
def cd58 : List (List (Option (ClassFile.Instr × Nat))) := [[some (.iload_n 1, 1), some (.tableswitch 100 2 15 #[86, 86, 100, 71, 100, 73, 100, 100, 100, 100, 71, 71, 71, 86], 71), none, none, none, none, none, none, none, none, none, none, none, none, none, none],
  [none, none, none, none, none, none, none, none, none, none, none, none, none, none, none, none],
  [none, none, none, none, none, none, none, none, none, none, none, none, none, none, none, none],
  [none, none, none, none, none, none, none, none, none, none, none, none, none, none, none, none],
  [none, none, none, none, none, none, none, none, some (.iconst 1, 1), some (.ireturn, 1), some (.aload_n 0, 1), some (.getfield 32, 3), none, none, some (.ifCond .ne 7, 3), none],
  [none, some (.iconst 1, 1), some (.goto 4, 3), none, none, some (.iconst 0, 1), some (.ireturn, 1), some (.aload_n 0, 1), some (.getfield 32, 3), none, none, some (.iconst 1, 1), some (.if_icmp .ne 7, 3), none, none, some (.iconst 1, 1)],
  [some (.goto 4, 3), none, none, some (.iconst 0, 1), some (.ireturn, 1), some (.iconst 0, 1), some (.ireturn, 1)]]
/-- MindPost$Reader.readTruth -/
def cd59 : List (List (Option (ClassFile.Instr × Nat))) := [[some (.aload_n 0, 1), some (.iload_n 1, 1), some (.invokevirtual 161, 3), none, none, some (.iconst 0, 1), some (.istore_n 2, 1), some (.iload_n 2, 1), some (.sipush 900, 3), none, none, some (.if_icmp .ge 45, 3), none, none, some (.aload_n 0, 1), some (.getfield 25, 3)],
  [none, none, some (.ifCond .ne 38, 3), none, none, some (.aload_n 0, 1), some (.getfield 40, 3), none, none, some (.getfield 68, 3), none, none, some (.bipush 21, 2), none, some (.if_icmp .ne 26, 3), none],
  [none, some (.aload_n 0, 1), some (.bipush 21, 2), none, some (.invokevirtual 55, 3), none, none, some (.aload_n 0, 1), some (.iload_n 1, 1), some (.invokevirtual 161, 3), none, none, some (.aload_n 0, 1), some (.bipush 21, 2), none, some (.invokevirtual 145, 3)],
  [none, none, some (.iinc 2 1, 3), none, none, some (.goto (-46), 3), none, none, some (.return_, 1)]]
/-- MindPost$Reader.readBoth -/
def cd60 : List (List (Option (ClassFile.Instr × Nat))) := [[some (.aload_n 0, 1), some (.iload_n 1, 1), some (.invokevirtual 164, 3), none, none, some (.iconst 0, 1), some (.istore_n 2, 1), some (.iload_n 2, 1), some (.sipush 900, 3), none, none, some (.if_icmp .ge 45, 3), none, none, some (.aload_n 0, 1), some (.getfield 25, 3)],
  [none, none, some (.ifCond .ne 38, 3), none, none, some (.aload_n 0, 1), some (.getfield 40, 3), none, none, some (.getfield 68, 3), none, none, some (.bipush 22, 2), none, some (.if_icmp .ne 26, 3), none],
  [none, some (.aload_n 0, 1), some (.bipush 22, 2), none, some (.invokevirtual 55, 3), none, none, some (.aload_n 0, 1), some (.iload_n 1, 1), some (.invokevirtual 164, 3), none, none, some (.aload_n 0, 1), some (.bipush 22, 2), none, some (.invokevirtual 145, 3)],
  [none, none, some (.iinc 2 1, 3), none, none, some (.goto (-46), 3), none, none, some (.return_, 1)]]
/-- MindPost$Reader.readUnit -/
def cd61 : List (List (Option (ClassFile.Instr × Nat))) := [[some (.aload_n 0, 1), some (.getfield 25, 3), none, none, some (.ifCond .eq 4, 3), none, none, some (.return_, 1), some (.aload_n 0, 1), some (.getfield 40, 3), none, none, some (.getfield 68, 3), none, none, some (.bipush 20, 2)],
  [none, some (.if_icmp .ne 33, 3), none, none, some (.aload_n 0, 1), some (.iload_n 1, 1), some (.invokevirtual 152, 3), none, none, some (.ifCond .eq 72, 3), none, none, some (.aload_n 0, 1), some (.bipush 20, 2), none, some (.invokevirtual 55, 3)],
  [none, none, some (.aload_n 0, 1), some (.iload_n 1, 1), some (.iconst 1, 1), some (.iadd, 1), some (.invokevirtual 164, 3), none, none, some (.aload_n 0, 1), some (.bipush 20, 2), none, some (.invokevirtual 145, 3), none, none, some (.goto 50, 3)],
  [none, none, some (.aload_n 0, 1), some (.getfield 40, 3), none, none, some (.getfield 68, 3), none, none, some (.bipush 30, 2), none, some (.if_icmp .ne 33, 3), none, none, some (.aload_n 0, 1), some (.iload_n 1, 1)],
  [some (.invokevirtual 152, 3), none, none, some (.ifCond .eq 30, 3), none, none, some (.aload_n 0, 1), some (.bipush 30, 2), none, some (.invokevirtual 55, 3), none, none, some (.aload_n 0, 1), some (.iload_n 1, 1), some (.iconst 1, 1), some (.iadd, 1)],
  [some (.invokevirtual 158, 3), none, none, some (.aload_n 0, 1), some (.bipush 31, 2), none, some (.invokevirtual 55, 3), none, none, some (.goto 8, 3), none, none, some (.aload_n 0, 1), some (.iload_n 1, 1), some (.invokevirtual 167, 3), none],
  [none, some (.return_, 1)]]
/-- MindPost$Reader.readComparison -/
def cd62 : List (List (Option (ClassFile.Instr × Nat))) := [[some (.aload_n 0, 1), some (.iload_n 1, 1), some (.invokevirtual 133, 3), none, none, some (.aload_n 0, 1), some (.getfield 40, 3), none, none, some (.getfield 68, 3), none, none, some (.istore_n 2, 1), some (.iload_n 2, 1), some (.bipush 32, 2), none],
  [some (.if_icmp .eq 20, 3), none, none, some (.iload_n 2, 1), some (.bipush 33, 2), none, some (.if_icmp .eq 14, 3), none, none, some (.iload_n 2, 1), some (.bipush 34, 2), none, some (.if_icmp .eq 8, 3), none, none, some (.aload_n 0, 1)],
  [some (.iconst 2, 1), some (.invokevirtual 77, 3), none, none, some (.aload_n 0, 1), some (.iload_n 2, 1), some (.invokevirtual 55, 3), none, none, some (.aload_n 0, 1), some (.iload_n 1, 1), some (.invokevirtual 133, 3), none, none, some (.aload_n 0, 1), some (.iload_n 2, 1)],
  [some (.invokevirtual 145, 3), none, none, some (.return_, 1)]]
/-- MindPost$Seeker.<init> -/
def cd63 : List (List (Option (ClassFile.Instr × Nat))) := [[some (.aload_n 0, 1), some (.invokespecial 3, 3), none, none, some (.aload_n 0, 1), some (.iconst 0, 1), some (.putfield 9, 3), none, none, some (.aload_n 0, 1), some (.bipush 6, 2), none, some (.newarray .int, 2), none, some (.putfield 15, 3), none],
  [none, some (.aload_n 0, 1), some (.bipush 60, 2), none, some (.newarray .int, 2), none, some (.putfield 19, 3), none, none, some (.aload_n 0, 1), some (.aload_n 1, 1), some (.putfield 22, 3), none, none, some (.aload_n 0, 1), some (.aload_n 2, 1)],
  [some (.putfield 26, 3), none, none, some (.return_, 1)]]
/-- MindPost$Seeker.fewestMoves -/
def cd64 : List (List (Option (ClassFile.Instr × Nat))) := [[some (.aload_n 0, 1), some (.iload_n 1, 1), some (.putfield 9, 3), none, none, some (.aload_n 0, 1), some (.getfield 26, 3), none, none, some (.invokevirtual 30, 3), none, none, some (.aload_n 0, 1), some (.getfield 26, 3), none, none],
  [some (.aload_n 0, 1), some (.getfield 9, 3), none, none, some (.invokevirtual 35, 3), none, none, some (.ifCond .ne 5, 3), none, none, some (.iconst (-1), 1), some (.ireturn, 1), some (.iconst 0, 1), some (.istore_n 2, 1), some (.iconst 0, 1), some (.istore_n 3, 1)],
  [some (.iload_n 3, 1), some (.aload_n 0, 1), some (.getfield 22, 3), none, none, some (.getfield 39, 3), none, none, some (.if_icmp .ge 25, 3), none, none, some (.iload_n 2, 1), some (.aload_n 0, 1), some (.iload_n 3, 1), some (.invokevirtual 44, 3), none],
  [none, some (.ifCond .eq 7, 3), none, none, some (.iconst 0, 1), some (.goto 4, 3), none, none, some (.iconst 1, 1), some (.iadd, 1), some (.istore_n 2, 1), some (.iinc 3 1, 3), none, none, some (.goto (-30), 3), none],
  [none, some (.iconst 0, 1), some (.istore_n 3, 1), some (.iload_n 3, 1), some (.iload_n 2, 1), some (.if_icmp .gt 20, 3), none, none, some (.aload_n 0, 1), some (.iconst 0, 1), some (.iload_n 3, 1), some (.invokevirtual 47, 3), none, none, some (.ifCond .eq 5, 3), none],
  [none, some (.iload_n 3, 1), some (.ireturn, 1), some (.iinc 3 1, 3), none, none, some (.goto (-19), 3), none, none, some (.iconst (-1), 1), some (.ireturn, 1)]]
/-- MindPost$Seeker.isFixed -/
def cd65 : List (List (Option (ClassFile.Instr × Nat))) := [[some (.iload_n 1, 1), some (.aload_n 0, 1), some (.getfield 26, 3), none, none, some (.getfield 51, 3), none, none, some (.if_icmp .eq 15, 3), none, none, some (.aload_n 0, 1), some (.getfield 26, 3), none, none, some (.getfield 54, 3)],
  [none, none, some (.iload_n 1, 1), some (.iaload, 1), some (.ifCond .gt 7, 3), none, none, some (.iconst 1, 1), some (.goto 4, 3), none, none, some (.iconst 0, 1), some (.ireturn, 1)]]
/-- MindPost$Seeker.settle -/
def cd66 : List (List (Option (ClassFile.Instr × Nat))) := [[some (.iload_n 1, 1), some (.aload_n 0, 1), some (.getfield 22, 3), none, none, some (.getfield 39, 3), none, none, some (.if_icmp .lt 28, 3), none, none, some (.iload_n 2, 1), some (.ifCond .ne 22, 3), none, none, some (.aload_n 0, 1)],
  [some (.getfield 26, 3), none, none, some (.aload_n 0, 1), some (.getfield 9, 3), none, none, some (.invokevirtual 57, 3), none, none, some (.iconst (-1), 1), some (.if_icmp .eq 7, 3), none, none, some (.iconst 1, 1), some (.goto 4, 3)],
  [none, none, some (.iconst 0, 1), some (.ireturn, 1), some (.aload_n 0, 1), some (.getfield 26, 3), none, none, some (.getfield 61, 3), none, none, some (.iload_n 1, 1), some (.iaload, 1), some (.istore_n 3, 1), some (.iload_n 2, 1), some (.ifCond .le 15, 3)],
  [none, none, some (.aload_n 0, 1), some (.iload_n 1, 1), some (.invokevirtual 44, 3), none, none, some (.ifCond .ne 7, 3), none, none, some (.iconst 1, 1), some (.goto 4, 3), none, none, some (.iconst 0, 1), some (.istore 4, 2)],
  [none, some (.iconst 0, 1), some (.istore 5, 2), none, some (.iload 5, 2), none, some (.aload_n 0, 1), some (.getfield 22, 3), none, none, some (.getfield 64, 3), none, none, some (.if_icmp .ge 56, 3), none, none],
  [some (.iload 5, 2), none, some (.iload_n 3, 1), some (.if_icmp .eq 8, 3), none, none, some (.iload 4, 2), none, some (.ifCond .eq 39, 3), none, none, some (.aload_n 0, 1), some (.getfield 26, 3), none, none, some (.getfield 61, 3)],
  [none, none, some (.iload_n 1, 1), some (.iload 5, 2), none, some (.iastore, 1), some (.aload_n 0, 1), some (.iload_n 1, 1), some (.iconst 1, 1), some (.iadd, 1), some (.iload 5, 2), none, some (.iload_n 3, 1), some (.if_icmp .ne 7, 3), none, none],
  [some (.iload_n 2, 1), some (.goto 6, 3), none, none, some (.iload_n 2, 1), some (.iconst 1, 1), some (.isub, 1), some (.invokevirtual 47, 3), none, none, some (.ifCond .eq 5, 3), none, none, some (.iconst 1, 1), some (.ireturn, 1), some (.iinc 5 1, 3)],
  [none, none, some (.goto (-62), 3), none, none, some (.aload_n 0, 1), some (.getfield 26, 3), none, none, some (.getfield 61, 3), none, none, some (.iload_n 1, 1), some (.iload_n 3, 1), some (.iastore, 1), some (.iconst 0, 1)],
  [some (.ireturn, 1)]]
/-- MindPost$Seeker.leastFeeling -/
def cd67 : List (List (Option (ClassFile.Instr × Nat))) := [[some (.aload_n 0, 1), some (.iload_n 1, 1), some (.putfield 9, 3), none, none, some (.iconst 0, 1), some (.istore_n 2, 1), some (.iload_n 2, 1), some (.aload_n 0, 1), some (.getfield 22, 3), none, none, some (.getfield 39, 3), none, none, some (.if_icmp .ge 61, 3)],
  [none, none, some (.aload_n 0, 1), some (.getfield 15, 3), none, none, some (.iload_n 2, 1), some (.iconst 0, 1), some (.iastore, 1), some (.iconst 0, 1), some (.istore_n 3, 1), some (.iload_n 3, 1), some (.bipush 9, 2), none, some (.if_icmp .gt 40, 3), none],
  [none, some (.iload_n 2, 1), some (.aload_n 0, 1), some (.getfield 26, 3), none, none, some (.getfield 51, 3), none, none, some (.if_icmp .eq 29, 3), none, none, some (.aload_n 0, 1), some (.getfield 19, 3), none, none],
  [some (.iload_n 2, 1), some (.bipush 10, 2), none, some (.imul, 1), some (.iload_n 3, 1), some (.iadd, 1), some (.aload_n 0, 1), some (.getfield 26, 3), none, none, some (.iload_n 2, 1), some (.iload_n 3, 1), some (.invokevirtual 67, 3), none, none, some (.iastore, 1)],
  [some (.iinc 3 1, 3), none, none, some (.goto (-40), 3), none, none, some (.iinc 2 1, 3), none, none, some (.goto (-66), 3), none, none, some (.iconst 0, 1), some (.istore_n 2, 1), some (.iload_n 2, 1), some (.bipush 9, 2)],
  [none, some (.if_icmp .gt 20, 3), none, none, some (.aload_n 0, 1), some (.iconst 0, 1), some (.iload_n 2, 1), some (.invokevirtual 71, 3), none, none, some (.ifCond .eq 5, 3), none, none, some (.iload_n 2, 1), some (.ireturn, 1), some (.iinc 2 1, 3)],
  [none, none, some (.goto (-20), 3), none, none, some (.iconst (-1), 1), some (.ireturn, 1)]]
/-- MindPost$Seeker.stirUp -/
def cd68 : List (List (Option (ClassFile.Instr × Nat))) := [[some (.iload_n 1, 1), some (.aload_n 0, 1), some (.getfield 22, 3), none, none, some (.getfield 39, 3), none, none, some (.if_icmp .lt 28, 3), none, none, some (.iload_n 2, 1), some (.ifCond .ne 22, 3), none, none, some (.aload_n 0, 1)],
  [some (.getfield 26, 3), none, none, some (.aload_n 0, 1), some (.getfield 9, 3), none, none, some (.invokevirtual 57, 3), none, none, some (.iconst (-1), 1), some (.if_icmp .eq 7, 3), none, none, some (.iconst 1, 1), some (.goto 4, 3)],
  [none, none, some (.iconst 0, 1), some (.ireturn, 1), some (.iload_n 1, 1), some (.aload_n 0, 1), some (.getfield 26, 3), none, none, some (.getfield 51, 3), none, none, some (.if_icmp .ne 12, 3), none, none, some (.aload_n 0, 1)],
  [some (.iload_n 1, 1), some (.iconst 1, 1), some (.iadd, 1), some (.iload_n 2, 1), some (.invokevirtual 71, 3), none, none, some (.ireturn, 1), some (.aload_n 0, 1), some (.getfield 26, 3), none, none, some (.iload_n 1, 1), some (.invokevirtual 74, 3), none, none],
  [some (.istore_n 3, 1), some (.aload_n 0, 1), some (.getfield 26, 3), none, none, some (.getfield 54, 3), none, none, some (.iload_n 1, 1), some (.iaload, 1), some (.istore 4, 2), none, some (.iconst 0, 1), some (.istore 5, 2), none, some (.iload 5, 2)],
  [none, some (.iload_n 2, 1), some (.if_icmp .gt 65, 3), none, none, some (.iload_n 3, 1), some (.iload 5, 2), none, some (.iadd, 1), some (.bipush 9, 2), none, some (.if_icmp .gt 56, 3), none, none, some (.aload_n 0, 1), some (.getfield 15, 3)],
  [none, none, some (.iload_n 1, 1), some (.iload 5, 2), none, some (.iastore, 1), some (.aload_n 0, 1), some (.getfield 26, 3), none, none, some (.getfield 54, 3), none, none, some (.iload_n 1, 1), some (.aload_n 0, 1), some (.getfield 19, 3)],
  [none, none, some (.iload_n 1, 1), some (.bipush 10, 2), none, some (.imul, 1), some (.iload_n 3, 1), some (.iadd, 1), some (.iload 5, 2), none, some (.iadd, 1), some (.iaload, 1), some (.iastore, 1), some (.aload_n 0, 1), some (.iload_n 1, 1), some (.iconst 1, 1)],
  [some (.iadd, 1), some (.iload_n 2, 1), some (.iload 5, 2), none, some (.isub, 1), some (.invokevirtual 71, 3), none, none, some (.ifCond .eq 5, 3), none, none, some (.iconst 1, 1), some (.ireturn, 1), some (.iinc 5 1, 3), none, none],
  [some (.goto (-65), 3), none, none, some (.aload_n 0, 1), some (.getfield 15, 3), none, none, some (.iload_n 1, 1), some (.iconst 0, 1), some (.iastore, 1), some (.aload_n 0, 1), some (.getfield 26, 3), none, none, some (.getfield 54, 3), none],
  [none, some (.iload_n 1, 1), some (.iload 4, 2), none, some (.iastore, 1), some (.iconst 0, 1), some (.ireturn, 1)]]
/-- MindPost$Tokens.<init> -/
def cd69 : List (List (Option (ClassFile.Instr × Nat))) := [[some (.aload_n 0, 1), some (.invokespecial 3, 3), none, none, some (.aload_n 0, 1), some (.iconst 0, 1), some (.putfield 9, 3), none, none, some (.aload_n 0, 1), some (.sipush 900, 3), none, none, some (.newarray .int, 2), none, some (.putfield 15, 3)],
  [none, none, some (.aload_n 0, 1), some (.iconst 0, 1), some (.putfield 19, 3), none, none, some (.aload_n 0, 1), some (.iconst 0, 1), some (.putfield 22, 3), none, none, some (.aload_n 0, 1), some (.bipush 36, 2), none, some (.putfield 25, 3)],
  [none, none, some (.aload_n 0, 1), some (.iconst 0, 1), some (.putfield 28, 3), none, none, some (.aload_n 0, 1), some (.iconst (-1), 1), some (.putfield 31, 3), none, none, some (.aload_n 0, 1), some (.aload_n 1, 1), some (.putfield 34, 3), none],
  [none, some (.return_, 1)]]
/-- MindPost$Tokens.step -/
def cd70 : List (List (Option (ClassFile.Instr × Nat))) := [[some (.aload_n 0, 1), some (.getfield 22, 3), none, none, some (.aload_n 0, 1), some (.getfield 19, 3), none, none, some (.if_icmp .ge 7, 3), none, none, some (.iconst 1, 1), some (.goto 4, 3), none, none, some (.iconst 0, 1)],
  [some (.istore_n 1, 1), some (.iload_n 1, 1), some (.ifCond .eq 19, 3), none, none, some (.aload_n 0, 1), some (.getfield 15, 3), none, none, some (.aload_n 0, 1), some (.getfield 22, 3), none, none, some (.iaload, 1), some (.sipush 2048, 3), none],
  [none, some (.irem, 1), some (.goto 6, 3), none, none, some (.sipush 1036, 3), none, none, some (.istore_n 2, 1), some (.aload_n 0, 1), some (.iload_n 1, 1), some (.ifCond .eq 19, 3), none, none, some (.aload_n 0, 1), some (.getfield 15, 3)],
  [none, none, some (.aload_n 0, 1), some (.getfield 22, 3), none, none, some (.iaload, 1), some (.sipush 2048, 3), none, none, some (.idiv, 1), some (.goto 7, 3), none, none, some (.aload_n 0, 1), some (.getfield 9, 3)],
  [none, none, some (.putfield 28, 3), none, none, some (.aload_n 0, 1), some (.iload_n 2, 1), some (.sipush 1000, 3), none, none, some (.if_icmp .ge 8, 3), none, none, some (.bipush 35, 2), none, some (.goto 8, 3)],
  [none, none, some (.iload_n 2, 1), some (.sipush 1000, 3), none, none, some (.isub, 1), some (.putfield 25, 3), none, none, some (.aload_n 0, 1), some (.iload_n 2, 1), some (.sipush 1000, 3), none, none, some (.if_icmp .ge 7, 3)],
  [none, none, some (.iload_n 2, 1), some (.goto 4, 3), none, none, some (.iconst (-1), 1), some (.putfield 31, 3), none, none, some (.aload_n 0, 1), some (.dup, 1), some (.getfield 22, 3), none, none, some (.iload_n 1, 1)],
  [some (.ifCond .eq 7, 3), none, none, some (.iconst 1, 1), some (.goto 4, 3), none, none, some (.iconst 0, 1), some (.iadd, 1), some (.putfield 22, 3), none, none, some (.return_, 1)]]
/-- MindPost$Tokens.readAll -/
def cd71 : List (List (Option (ClassFile.Instr × Nat))) := [[some (.aload_n 0, 1), some (.iload_n 1, 1), some (.aload_n 0, 1), some (.getfield 34, 3), none, none, some (.arraylength, 1), some (.invokestatic 38, 3), none, none, some (.putfield 9, 3), none, none, some (.aload_n 0, 1), some (.iconst 0, 1), some (.putfield 19, 3)],
  [none, none, some (.aload_n 0, 1), some (.iconst 0, 1), some (.putfield 22, 3), none, none, some (.iconst 0, 1), some (.istore_n 2, 1), some (.iconst 0, 1), some (.istore_n 3, 1), some (.iload_n 3, 1), some (.sipush 900, 3), none, none, some (.if_icmp .ge 97, 3)],
  [none, none, some (.aload_n 0, 1), some (.iload_n 2, 1), some (.bipush 32, 2), none, some (.invokevirtual 44, 3), none, none, some (.istore 4, 2), none, some (.iload 4, 2), none, some (.aload_n 0, 1), some (.getfield 9, 3), none],
  [none, some (.if_icmp .lt 4, 3), none, none, some (.return_, 1), some (.aload_n 0, 1), some (.iload 4, 2), none, some (.invokevirtual 47, 3), none, none, some (.invokestatic 51, 3), none, none, some (.istore 5, 2), none],
  [some (.iload 5, 2), none, some (.bipush 63, 2), none, some (.if_icmp .ne 10, 3), none, none, some (.iload 4, 2), none, some (.iconst 1, 1), some (.iadd, 1), some (.goto 11, 3), none, none, some (.aload_n 0, 1), some (.iload 4, 2)],
  [none, some (.iload 5, 2), none, some (.invokevirtual 44, 3), none, none, some (.istore_n 2, 1), some (.aload_n 0, 1), some (.getfield 15, 3), none, none, some (.aload_n 0, 1), some (.getfield 19, 3), none, none, some (.iload 4, 2)],
  [none, some (.sipush 2048, 3), none, none, some (.imul, 1), some (.aload_n 0, 1), some (.iload 4, 2), none, some (.iload_n 2, 1), some (.iload 5, 2), none, some (.invokevirtual 54, 3), none, none, some (.iadd, 1), some (.iastore, 1)],
  [some (.aload_n 0, 1), some (.dup, 1), some (.getfield 19, 3), none, none, some (.iconst 1, 1), some (.iadd, 1), some (.putfield 19, 3), none, none, some (.iinc 3 1, 3), none, none, some (.goto (-98), 3), none, none],
  [some (.return_, 1)]]
/-- MindPost$Tokens.signAt -/
def cd72 : List (List (Option (ClassFile.Instr × Nat))) := [[some (.iload_n 1, 1), some (.ifCond .lt 24, 3), none, none, some (.iload_n 1, 1), some (.aload_n 0, 1), some (.getfield 9, 3), none, none, some (.if_icmp .ge 16, 3), none, none, some (.aload_n 0, 1), some (.getfield 34, 3), none, none],
  [some (.iload_n 1, 1), some (.baload, 1), some (.sipush 255, 3), none, none, some (.iand, 1), some (.goto 4, 3), none, none, some (.iconst 0, 1), some (.ireturn, 1)]]
/-- MindPost$Tokens.sortOf -/
def cd73 : List (List (Option (ClassFile.Instr × Nat))) := [[some (.iload_n 0, 1), some (.bipush 97, 2), none, some (.if_icmp .lt 12, 3), none, none, some (.iload_n 0, 1), some (.bipush 122, 2), none, some (.if_icmp .gt 6, 3), none, none, some (.bipush 97, 2), none, some (.ireturn, 1), some (.iload_n 0, 1)],
  [some (.bipush 48, 2), none, some (.if_icmp .lt 12, 3), none, none, some (.iload_n 0, 1), some (.bipush 57, 2), none, some (.if_icmp .gt 6, 3), none, none, some (.bipush 48, 2), none, some (.ireturn, 1), some (.iload_n 0, 1), some (.bipush 32, 2)],
  [none, some (.if_icmp .eq 9, 3), none, none, some (.iload_n 0, 1), some (.bipush 10, 2), none, some (.if_icmp .ne 8, 3), none, none, some (.bipush 32, 2), none, some (.goto 5, 3), none, none, some (.bipush 63, 2)],
  [none, some (.ireturn, 1)]]
/-- MindPost$Tokens.endOf -/
def cd74 : List (List (Option (ClassFile.Instr × Nat))) := [[some (.iload_n 1, 1), some (.istore_n 3, 1), some (.iload_n 3, 1), some (.aload_n 0, 1), some (.getfield 9, 3), none, none, some (.if_icmp .ge 23, 3), none, none, some (.aload_n 0, 1), some (.iload_n 3, 1), some (.invokevirtual 47, 3), none, none, some (.invokestatic 51, 3)],
  [none, none, some (.iload_n 2, 1), some (.if_icmp .eq 5, 3), none, none, some (.iload_n 3, 1), some (.ireturn, 1), some (.iinc 3 1, 3), none, none, some (.goto (-25), 3), none, none, some (.aload_n 0, 1), some (.getfield 9, 3)],
  [none, none, some (.ireturn, 1)]]
/-- MindPost$Tokens.codeOf -/
def cd75 : List (List (Option (ClassFile.Instr × Nat))) := [[some (.iload_n 3, 1), some (.bipush 97, 2), none, some (.if_icmp .ne 14, 3), none, none, some (.sipush 1000, 3), none, none, some (.aload_n 0, 1), some (.iload_n 1, 1), some (.iload_n 2, 1), some (.invokevirtual 58, 3), none, none, some (.iadd, 1)],
  [some (.ireturn, 1), some (.iload_n 3, 1), some (.bipush 48, 2), none, some (.if_icmp .ne 23, 3), none, none, some (.iload_n 2, 1), some (.iload_n 1, 1), some (.isub, 1), some (.iconst 3, 1), some (.if_icmp .le 9, 3), none, none, some (.sipush 1038, 3), none],
  [none, some (.goto 9, 3), none, none, some (.aload_n 0, 1), some (.iload_n 1, 1), some (.iload_n 2, 1), some (.invokevirtual 61, 3), none, none, some (.ireturn, 1), some (.ldc 64, 2), none, some (.aload_n 0, 1), some (.iload_n 1, 1), some (.invokevirtual 47, 3)],
  [none, none, some (.i2c, 1), some (.invokevirtual 66, 3), none, none, some (.istore 4, 2), none, some (.sipush 1000, 3), none, none, some (.iload 4, 2), none, some (.ifCond .ge 8, 3), none, none],
  [some (.bipush 38, 2), none, some (.goto 8, 3), none, none, some (.bipush 23, 2), none, some (.iload 4, 2), none, some (.iadd, 1), some (.iadd, 1), some (.ireturn, 1)]]
/-- MindPost$Tokens.numberOf -/
def cd76 : List (List (Option (ClassFile.Instr × Nat))) := [[some (.iconst 0, 1), some (.istore_n 3, 1), some (.iload_n 1, 1), some (.istore 4, 2), none, some (.iload 4, 2), none, some (.iload_n 2, 1), some (.if_icmp .ge 24, 3), none, none, some (.iload_n 3, 1), some (.bipush 10, 2), none, some (.imul, 1), some (.aload_n 0, 1)],
  [some (.iload 4, 2), none, some (.invokevirtual 47, 3), none, none, some (.iadd, 1), some (.bipush 48, 2), none, some (.isub, 1), some (.istore_n 3, 1), some (.iinc 4 1, 3), none, none, some (.goto (-24), 3), none, none],
  [some (.iload_n 3, 1), some (.ireturn, 1)]]
/-- MindPost$Tokens.wordKind -/
def cd77 : List (List (Option (ClassFile.Instr × Nat))) := [[some (.iconst 0, 1), some (.istore_n 3, 1), some (.iconst 0, 1), some (.istore 4, 2), none, some (.iconst 0, 1), some (.istore 5, 2), none, some (.iload 5, 2), none, some (.ldc 71, 2), none, some (.invokevirtual 73, 3), none, none, some (.if_icmp .ge 55, 3)],
  [none, none, some (.ldc 71, 2), none, some (.iload 5, 2), none, some (.invokevirtual 76, 3), none, none, some (.bipush 32, 2), none, some (.if_icmp .ne 37, 3), none, none, some (.iload 5, 2), none],
  [some (.iload 4, 2), none, some (.isub, 1), some (.iload_n 2, 1), some (.iload_n 1, 1), some (.isub, 1), some (.if_icmp .ne 17, 3), none, none, some (.aload_n 0, 1), some (.iload_n 1, 1), some (.iload 4, 2), none, some (.iload 5, 2), none, some (.invokevirtual 80, 3)],
  [none, none, some (.ifCond .eq 5, 3), none, none, some (.iload_n 3, 1), some (.ireturn, 1), some (.iload 5, 2), none, some (.iconst 1, 1), some (.iadd, 1), some (.istore 4, 2), none, some (.iinc 3 1, 3), none, none],
  [some (.iinc 5 1, 3), none, none, some (.goto (-59), 3), none, none, some (.bipush 37, 2), none, some (.ireturn, 1)]]
/-- MindPost$Tokens.spells -/
def cd78 : List (List (Option (ClassFile.Instr × Nat))) := [[some (.iload_n 2, 1), some (.istore 4, 2), none, some (.iload 4, 2), none, some (.iload_n 3, 1), some (.if_icmp .ge 31, 3), none, none, some (.ldc 71, 2), none, some (.iload 4, 2), none, some (.invokevirtual 76, 3), none, none],
  [some (.aload_n 0, 1), some (.iload_n 1, 1), some (.iload 4, 2), none, some (.iadd, 1), some (.iload_n 2, 1), some (.isub, 1), some (.invokevirtual 47, 3), none, none, some (.if_icmp .eq 5, 3), none, none, some (.iconst 0, 1), some (.ireturn, 1), some (.iinc 4 1, 3)],
  [none, none, some (.goto (-31), 3), none, none, some (.iconst 1, 1), some (.ireturn, 1)]]
/-- MindPost$Told.<init> -/
def cd79 : List (List (Option (ClassFile.Instr × Nat))) := [[some (.aload_n 0, 1), some (.invokespecial 3, 3), none, none, some (.aload_n 0, 1), some (.iconst 2, 1), some (.putfield 9, 3), none, none, some (.aload_n 0, 1), some (.iconst 0, 1), some (.putfield 15, 3), none, none, some (.aload_n 0, 1), some (.iconst 0, 1)],
  [some (.putfield 18, 3), none, none, some (.aload_n 0, 1), some (.bipush 6, 2), none, some (.newarray .int, 2), none, some (.putfield 21, 3), none, none, some (.aload_n 0, 1), some (.bipush 6, 2), none, some (.newarray .int, 2), none],
  [some (.putfield 25, 3), none, none, some (.aload_n 0, 1), some (.bipush 6, 2), none, some (.newarray .int, 2), none, some (.putfield 28, 3), none, none, some (.aload_n 0, 1), some (.new 31, 3), none, none, some (.dup, 1)],
  [some (.invokespecial 33, 3), none, none, some (.putfield 34, 3), none, none, some (.return_, 1)]]
/-- MindPost$Told.clear -/
def cd80 : List (List (Option (ClassFile.Instr × Nat))) := [[some (.aload_n 0, 1), some (.iconst 2, 1), some (.putfield 9, 3), none, none, some (.aload_n 0, 1), some (.iconst 0, 1), some (.putfield 15, 3), none, none, some (.aload_n 0, 1), some (.iconst 0, 1), some (.putfield 18, 3), none, none, some (.iconst 0, 1)],
  [some (.istore_n 1, 1), some (.iload_n 1, 1), some (.bipush 6, 2), none, some (.if_icmp .ge 30, 3), none, none, some (.aload_n 0, 1), some (.getfield 21, 3), none, none, some (.iload_n 1, 1), some (.iconst 0, 1), some (.iastore, 1), some (.aload_n 0, 1), some (.getfield 25, 3)],
  [none, none, some (.iload_n 1, 1), some (.iconst 0, 1), some (.iastore, 1), some (.aload_n 0, 1), some (.getfield 28, 3), none, none, some (.iload_n 1, 1), some (.iconst 0, 1), some (.iastore, 1), some (.iinc 1 1, 3), none, none, some (.goto (-30), 3)],
  [none, none, some (.aload_n 0, 1), some (.getfield 34, 3), none, none, some (.invokevirtual 38, 3), none, none, some (.return_, 1)]]
/-- MindPost$Told.copy -/
def cd81 : List (List (Option (ClassFile.Instr × Nat))) := [[some (.aload_n 0, 1), some (.aload_n 1, 1), some (.getfield 9, 3), none, none, some (.putfield 9, 3), none, none, some (.aload_n 0, 1), some (.aload_n 1, 1), some (.getfield 15, 3), none, none, some (.putfield 15, 3), none, none],
  [some (.aload_n 0, 1), some (.aload_n 1, 1), some (.getfield 18, 3), none, none, some (.putfield 18, 3), none, none, some (.aload_n 1, 1), some (.getfield 21, 3), none, none, some (.iconst 0, 1), some (.aload_n 0, 1), some (.getfield 21, 3), none],
  [none, some (.iconst 0, 1), some (.bipush 6, 2), none, some (.invokestatic 41, 3), none, none, some (.aload_n 1, 1), some (.getfield 25, 3), none, none, some (.iconst 0, 1), some (.aload_n 0, 1), some (.getfield 25, 3), none, none],
  [some (.iconst 0, 1), some (.bipush 6, 2), none, some (.invokestatic 41, 3), none, none, some (.aload_n 1, 1), some (.getfield 28, 3), none, none, some (.iconst 0, 1), some (.aload_n 0, 1), some (.getfield 28, 3), none, none, some (.iconst 0, 1)],
  [some (.bipush 6, 2), none, some (.invokestatic 41, 3), none, none, some (.aload_n 0, 1), some (.getfield 34, 3), none, none, some (.aload_n 1, 1), some (.getfield 34, 3), none, none, some (.invokevirtual 47, 3), none, none],
  [some (.return_, 1)]]
/-- MindPost$Tray.<init> -/
def cd82 : List (List (Option (ClassFile.Instr × Nat))) := [[some (.aload_n 0, 1), some (.invokespecial 3, 3), none, none, some (.aload_n 0, 1), some (.iconst 0, 1), some (.putfield 9, 3), none, none, some (.aload_n 0, 1), some (.iconst 0, 1), some (.putfield 15, 3), none, none, some (.aload_n 0, 1), some (.iconst 0, 1)],
  [some (.putfield 19, 3), none, none, some (.aload_n 0, 1), some (.bipush 40, 2), none, some (.newarray .long, 2), none, some (.putfield 22, 3), none, none, some (.return_, 1)]]
/-- MindPost$Tray.begin -/
def cd83 : List (List (Option (ClassFile.Instr × Nat))) := [[some (.aload_n 0, 1), some (.iconst 1, 1), some (.putfield 9, 3), none, none, some (.aload_n 0, 1), some (.iload_n 1, 1), some (.putfield 15, 3), none, none, some (.aload_n 0, 1), some (.iload_n 2, 1), some (.putfield 19, 3), none, none, some (.iconst 0, 1)],
  [some (.istore_n 3, 1), some (.iload_n 3, 1), some (.bipush 40, 2), none, some (.if_icmp .ge 16, 3), none, none, some (.aload_n 0, 1), some (.getfield 22, 3), none, none, some (.iload_n 3, 1), some (.lconst 0, 1), some (.lastore, 1), some (.iinc 3 1, 3), none],
  [none, some (.goto (-16), 3), none, none, some (.return_, 1)]]
/-- MindPost$Tray.put -/
def cd84 : List (List (Option (ClassFile.Instr × Nat))) := [[some (.aload_n 0, 1), some (.getfield 22, 3), none, none, some (.iload_n 1, 1), some (.aload_n 0, 1), some (.lload_n 2, 1), some (.invokevirtual 26, 3), none, none, some (.lastore, 1), some (.aload_n 0, 1), some (.getfield 22, 3), none, none, some (.iload_n 1, 1)],
  [some (.laload, 1), some (.lreturn, 1)]]
/-- MindPost$Tray.cut -/
def cd85 : List (List (Option (ClassFile.Instr × Nat))) := [[some (.aload_n 0, 1), some (.getfield 15, 3), none, none, some (.tableswitch 42 0 2 #[28, 33, 38], 28), none, none, none, none, none, none, none, none, none, none, none],
  [none, none, none, none, none, none, none, none, none, none, none, none, none, none, none, none],
  [some (.lload_n 1, 1), some (.l2i, 1), some (.i2b, 1), some (.i2l, 1), some (.lreturn, 1), some (.lload_n 1, 1), some (.l2i, 1), some (.i2s, 1), some (.i2l, 1), some (.lreturn, 1), some (.lload_n 1, 1), some (.l2i, 1), some (.i2l, 1), some (.lreturn, 1), some (.lload_n 1, 1), some (.lreturn, 1)]]
/-- MindPost$Ways.<init> -/
def cd86 : List (List (Option (ClassFile.Instr × Nat))) := [[some (.aload_n 0, 1), some (.invokespecial 3, 3), none, none, some (.aload_n 0, 1), some (.iconst 0, 1), some (.putfield 9, 3), none, none, some (.aload_n 0, 1), some (.iconst 0, 1), some (.putfield 15, 3), none, none, some (.aload_n 0, 1), some (.iconst (-1), 1)],
  [some (.putfield 18, 3), none, none, some (.aload_n 0, 1), some (.bipush 6, 2), none, some (.newarray .int, 2), none, some (.putfield 21, 3), none, none, some (.aload_n 0, 1), some (.bipush 6, 2), none, some (.newarray .int, 2), none],
  [some (.putfield 25, 3), none, none, some (.aload_n 0, 1), some (.bipush 36, 2), none, some (.newarray .int, 2), none, some (.putfield 28, 3), none, none, some (.aload_n 0, 1), some (.aload_n 1, 1), some (.putfield 31, 3), none, none],
  [some (.aload_n 0, 1), some (.aload_n 2, 1), some (.putfield 35, 3), none, none, some (.return_, 1)]]
/-- MindPost$Ways.aim -/
def cd87 : List (List (Option (ClassFile.Instr × Nat))) := [[some (.aload_n 0, 1), some (.aload_n 1, 1), some (.iload_n 2, 1), some (.iconst (-1), 1), some (.invokevirtual 39, 3), none, none, some (.return_, 1)]]
/-- MindPost$Ways.aimAt -/
def cd88 : List (List (Option (ClassFile.Instr × Nat))) := [[some (.aload_n 0, 1), some (.aload_n 1, 1), some (.putfield 35, 3), none, none, some (.aload_n 0, 1), some (.iload_n 2, 1), some (.putfield 9, 3), none, none, some (.aload_n 0, 1), some (.aload_n 0, 1), some (.getfield 35, 3), none, none, some (.getfield 43, 3)],
  [none, none, some (.iload_n 2, 1), some (.iaload, 1), some (.putfield 15, 3), none, none, some (.aload_n 0, 1), some (.iconst (-1), 1), some (.putfield 18, 3), none, none, some (.iconst 0, 1), some (.istore 4, 2), none, some (.iload 4, 2)],
  [none, some (.aload_n 0, 1), some (.getfield 31, 3), none, none, some (.getfield 48, 3), none, none, some (.if_icmp .ge 95, 3), none, none, some (.aload_n 0, 1), some (.getfield 35, 3), none, none, some (.getfield 43, 3)],
  [none, none, some (.iload 4, 2), none, some (.iaload, 1), some (.istore 5, 2), none, some (.aload_n 0, 1), some (.getfield 21, 3), none, none, some (.iload 4, 2), none, some (.iload 5, 2), none, some (.iastore, 1)],
  [some (.aload_n 0, 1), some (.getfield 25, 3), none, none, some (.iload 4, 2), none, some (.iconst 0, 1), some (.iastore, 1), some (.iload 4, 2), none, some (.iload_n 2, 1), some (.if_icmp .eq 54, 3), none, none, some (.iload_n 3, 1), some (.iconst (-1), 1)],
  [some (.if_icmp .eq 9, 3), none, none, some (.iload 5, 2), none, some (.iload_n 3, 1), some (.if_icmp .ne 43, 3), none, none, some (.aload_n 0, 1), some (.getfield 25, 3), none, none, some (.iload 4, 2), none, some (.aload_n 0, 1)],
  [some (.iload 4, 2), none, some (.aload_n 0, 1), some (.iload 4, 2), none, some (.invokevirtual 53, 3), none, none, some (.invokevirtual 57, 3), none, none, some (.iastore, 1), some (.aload_n 0, 1), some (.getfield 28, 3), none, none],
  [some (.iload 4, 2), none, some (.bipush 6, 2), none, some (.imul, 1), some (.iload 5, 2), none, some (.iadd, 1), some (.aload_n 0, 1), some (.iload 4, 2), none, some (.iload 5, 2), none, some (.invokevirtual 61, 3), none, none],
  [some (.iastore, 1), some (.iinc 4 1, 3), none, none, some (.goto (-101), 3), none, none, some (.return_, 1)]]
/-- MindPost$Ways.aimAll -/
def cd89 : List (List (Option (ClassFile.Instr × Nat))) := [[some (.iconst 0, 1), some (.istore_n 1, 1), some (.iload_n 1, 1), some (.aload_n 0, 1), some (.getfield 31, 3), none, none, some (.getfield 48, 3), none, none, some (.if_icmp .ge 45, 3), none, none, some (.iconst 0, 1), some (.istore_n 2, 1), some (.iload_n 2, 1)],
  [some (.aload_n 0, 1), some (.getfield 31, 3), none, none, some (.getfield 64, 3), none, none, some (.if_icmp .ge 26, 3), none, none, some (.aload_n 0, 1), some (.getfield 28, 3), none, none, some (.iload_n 1, 1), some (.bipush 6, 2)],
  [none, some (.imul, 1), some (.iload_n 2, 1), some (.iadd, 1), some (.aload_n 0, 1), some (.iload_n 1, 1), some (.iload_n 2, 1), some (.invokevirtual 61, 3), none, none, some (.iastore, 1), some (.iinc 2 1, 3), none, none, some (.goto (-31), 3), none],
  [none, some (.iinc 1 1, 3), none, none, some (.goto (-50), 3), none, none, some (.return_, 1)]]
/-- MindPost$Ways.careOf -/
def cd90 : List (List (Option (ClassFile.Instr × Nat))) := [[some (.aload_n 0, 1), some (.getfield 35, 3), none, none, some (.getfield 67, 3), none, none, some (.iload_n 1, 1), some (.bipush 6, 2), none, some (.imul, 1), some (.aload_n 0, 1), some (.getfield 9, 3), none, none, some (.iadd, 1)],
  [some (.iaload, 1), some (.ireturn, 1)]]
/-- MindPost$Ways.mindWith -/
def cd91 : List (List (Option (ClassFile.Instr × Nat))) := [[some (.aload_n 0, 1), some (.getfield 31, 3), none, none, some (.getfield 70, 3), none, none, some (.iconst 0, 1), some (.invokevirtual 74, 3), none, none, some (.ifCond .ne 5, 3), none, none, some (.iload_n 2, 1), some (.ireturn, 1)],
  [some (.aload_n 0, 1), some (.iload_n 1, 1), some (.invokevirtual 80, 3), none, none, some (.aload_n 0, 1), some (.getfield 31, 3), none, none, some (.getfield 70, 3), none, none, some (.getfield 84, 3), none, none, some (.bipush 7, 2)],
  [none, some (.iload_n 2, 1), some (.iastore, 1), some (.aload_n 0, 1), some (.getfield 31, 3), none, none, some (.getfield 70, 3), none, none, some (.iconst 0, 1), some (.invokevirtual 87, 3), none, none, some (.ireturn, 1)]]
/-- MindPost$Ways.setMeaning -/
def cd92 : List (List (Option (ClassFile.Instr × Nat))) := [[some (.aload_n 0, 1), some (.getfield 31, 3), none, none, some (.getfield 70, 3), none, none, some (.getfield 84, 3), none, none, some (.astore_n 2, 1), some (.aload_n 2, 1), some (.bipush 12, 2), none, some (.iload_n 1, 1), some (.iastore, 1)],
  [some (.aload_n 2, 1), some (.bipush 13, 2), none, some (.aload_n 0, 1), some (.getfield 9, 3), none, none, some (.iastore, 1), some (.aload_n 2, 1), some (.iconst 5, 1), some (.aload_n 0, 1), some (.getfield 35, 3), none, none, some (.getfield 90, 3), none],
  [none, some (.iload_n 1, 1), some (.iaload, 1), some (.iastore, 1), some (.aload_n 2, 1), some (.bipush 14, 2), none, some (.aload_n 0, 1), some (.getfield 31, 3), none, none, some (.getfield 93, 3), none, none, some (.iload_n 1, 1), some (.iaload, 1)],
  [some (.aload_n 0, 1), some (.getfield 31, 3), none, none, some (.getfield 93, 3), none, none, some (.aload_n 0, 1), some (.getfield 9, 3), none, none, some (.iaload, 1), some (.if_icmp .ne 7, 3), none, none, some (.iconst 1, 1)],
  [some (.goto 4, 3), none, none, some (.iconst 0, 1), some (.iastore, 1), some (.aload_n 2, 1), some (.iconst 3, 1), some (.aload_n 0, 1), some (.getfield 31, 3), none, none, some (.getfield 96, 3), none, none, some (.aload_n 0, 1), some (.getfield 9, 3)],
  [none, none, some (.iaload, 1), some (.iastore, 1), some (.aload_n 2, 1), some (.bipush 15, 2), none, some (.aload_n 0, 1), some (.getfield 31, 3), none, none, some (.getfield 96, 3), none, none, some (.iload_n 1, 1), some (.iaload, 1)],
  [some (.iastore, 1), some (.return_, 1)]]
/-- MindPost$Ways.goalFrom -/
def cd93 : List (List (Option (ClassFile.Instr × Nat))) := [[some (.aload_n 0, 1), some (.getfield 31, 3), none, none, some (.getfield 70, 3), none, none, some (.iconst 1, 1), some (.invokevirtual 74, 3), none, none, some (.ifCond .eq 14, 3), none, none, some (.aload_n 0, 1), some (.getfield 31, 3)],
  [none, none, some (.getfield 64, 3), none, none, some (.iconst 1, 1), some (.if_icmp .ge 16, 3), none, none, some (.aload_n 0, 1), some (.getfield 31, 3), none, none, some (.getfield 96, 3), none, none],
  [some (.aload_n 0, 1), some (.getfield 9, 3), none, none, some (.iaload, 1), some (.ireturn, 1), some (.aload_n 0, 1), some (.iload_n 1, 1), some (.invokevirtual 80, 3), none, none, some (.aload_n 0, 1), some (.getfield 31, 3), none, none, some (.getfield 70, 3)],
  [none, none, some (.getfield 84, 3), none, none, some (.iconst 2, 1), some (.iload_n 2, 1), some (.iastore, 1), some (.aload_n 0, 1), some (.getfield 31, 3), none, none, some (.getfield 70, 3), none, none, some (.iconst 1, 1)],
  [some (.invokevirtual 87, 3), none, none, some (.aload_n 0, 1), some (.getfield 31, 3), none, none, some (.getfield 64, 3), none, none, some (.invokestatic 99, 3), none, none, some (.ireturn, 1)]]
/-- MindPost$Ways.bestAt -/
def cd94 : List (List (Option (ClassFile.Instr × Nat))) := [[some (.iconst (-1), 1), some (.istore_n 3, 1), some (.iconst 0, 1), some (.istore 4, 2), none, some (.iload 4, 2), none, some (.aload_n 0, 1), some (.getfield 31, 3), none, none, some (.getfield 48, 3), none, none, some (.if_icmp .ge 81, 3), none],
  [none, some (.iload 4, 2), none, some (.aload_n 0, 1), some (.getfield 9, 3), none, none, some (.if_icmp .eq 34, 3), none, none, some (.iload 4, 2), none, some (.iload_n 2, 1), some (.if_icmp .eq 28, 3), none, none],
  [some (.aload_n 0, 1), some (.getfield 21, 3), none, none, some (.iload 4, 2), none, some (.iaload, 1), some (.iload_n 1, 1), some (.if_icmp .ne 17, 3), none, none, some (.aload_n 0, 1), some (.getfield 25, 3), none, none, some (.iload 4, 2)],
  [none, some (.iaload, 1), some (.ifCond .le 7, 3), none, none, some (.iconst 1, 1), some (.goto 4, 3), none, none, some (.iconst 0, 1), some (.istore 5, 2), none, some (.iload 5, 2), none, some (.ifCond .eq 27, 3), none],
  [none, some (.iload_n 3, 1), some (.iconst (-1), 1), some (.if_icmp .eq 19, 3), none, none, some (.aload_n 0, 1), some (.getfield 25, 3), none, none, some (.iload 4, 2), none, some (.iaload, 1), some (.aload_n 0, 1), some (.getfield 25, 3), none],
  [none, some (.iload_n 3, 1), some (.iaload, 1), some (.if_icmp .le 6, 3), none, none, some (.iload 4, 2), none, some (.istore_n 3, 1), some (.iinc 4 1, 3), none, none, some (.goto (-87), 3), none, none, some (.iload_n 3, 1)],
  [some (.ireturn, 1)]]
/-- MindPost$Ways.nextOf -/
def cd95 : List (List (Option (ClassFile.Instr × Nat))) := [[some (.iload_n 1, 1), some (.aload_n 0, 1), some (.getfield 15, 3), none, none, some (.if_icmp .ne 5, 3), none, none, some (.iload_n 1, 1), some (.ireturn, 1), some (.aload_n 0, 1), some (.iload_n 1, 1), some (.aload_n 0, 1), some (.getfield 18, 3), none, none],
  [some (.invokevirtual 104, 3), none, none, some (.istore_n 2, 1), some (.iload_n 2, 1), some (.iconst (-1), 1), some (.if_icmp .ne 7, 3), none, none, some (.iload_n 1, 1), some (.goto 14, 3), none, none, some (.aload_n 0, 1), some (.getfield 28, 3), none],
  [none, some (.iload_n 2, 1), some (.bipush 6, 2), none, some (.imul, 1), some (.iload_n 1, 1), some (.iadd, 1), some (.iaload, 1), some (.ireturn, 1)]]
/-- MindPost$Ways.placeIn -/
def cd96 : List (List (Option (ClassFile.Instr × Nat))) := [[some (.iload_n 2, 1), some (.bipush 66, 2), none, some (.if_icmp .ge 7, 3), none, none, some (.iload_n 2, 1), some (.goto 13, 3), none, none, some (.bipush 6, 2), none, some (.iload_n 2, 1), some (.bipush 6, 2), none, some (.isub, 1)],
  [some (.bipush 60, 2), none, some (.irem, 1), some (.iadd, 1), some (.istore_n 3, 1), some (.iload_n 1, 1), some (.istore 4, 2), none, some (.iconst 0, 1), some (.istore 5, 2), none, some (.iload 5, 2), none, some (.iload_n 3, 1), some (.if_icmp .ge 17, 3), none],
  [none, some (.aload_n 0, 1), some (.iload 4, 2), none, some (.invokevirtual 107, 3), none, none, some (.istore 4, 2), none, some (.iinc 5 1, 3), none, none, some (.goto (-17), 3), none, none, some (.iload 4, 2)],
  [none, some (.ireturn, 1)]]
/-- MindPost$Ways.daysTillGiven -/
def cd97 : List (List (Option (ClassFile.Instr × Nat))) := [[some (.iload_n 1, 1), some (.istore_n 2, 1), some (.iconst 0, 1), some (.istore_n 3, 1), some (.iload_n 3, 1), some (.aload_n 0, 1), some (.getfield 31, 3), none, none, some (.getfield 64, 3), none, none, some (.if_icmp .ge 25, 3), none, none, some (.iload_n 2, 1)],
  [some (.aload_n 0, 1), some (.getfield 15, 3), none, none, some (.if_icmp .ne 5, 3), none, none, some (.iload_n 3, 1), some (.ireturn, 1), some (.aload_n 0, 1), some (.iload_n 2, 1), some (.invokevirtual 107, 3), none, none, some (.istore_n 2, 1), some (.iinc 3 1, 3)],
  [none, none, some (.goto (-30), 3), none, none, some (.iconst (-1), 1), some (.ireturn, 1)]]
/-- MindPost$Ways.ringBits -/
def cd98 : List (List (Option (ClassFile.Instr × Nat))) := [[some (.aload_n 0, 1), some (.iload_n 1, 1), some (.bipush 6, 2), none, some (.invokevirtual 110, 3), none, none, some (.istore_n 2, 1), some (.iconst 0, 1), some (.istore_n 3, 1), some (.iconst 0, 1), some (.istore 4, 2), none, some (.iload 4, 2), none, some (.bipush 6, 2)],
  [none, some (.if_icmp .ge 21, 3), none, none, some (.iload_n 3, 1), some (.iconst 1, 1), some (.iload_n 2, 1), some (.ishl, 1), some (.ior, 1), some (.istore_n 3, 1), some (.aload_n 0, 1), some (.iload_n 2, 1), some (.invokevirtual 107, 3), none, none, some (.istore_n 2, 1)],
  [some (.iinc 4 1, 3), none, none, some (.goto (-22), 3), none, none, some (.iload_n 3, 1), some (.ireturn, 1)]]
/-- MindPost$Ways.daysTillIn -/
def cd99 : List (List (Option (ClassFile.Instr × Nat))) := [[some (.iload_n 1, 1), some (.istore_n 3, 1), some (.iconst 0, 1), some (.istore 4, 2), none, some (.iload 4, 2), none, some (.bipush 6, 2), none, some (.if_icmp .ge 27, 3), none, none, some (.iload_n 2, 1), some (.iload_n 3, 1), some (.ishr, 1), some (.iconst 1, 1)],
  [some (.iand, 1), some (.iconst 1, 1), some (.if_icmp .ne 6, 3), none, none, some (.iload 4, 2), none, some (.ireturn, 1), some (.aload_n 0, 1), some (.iload_n 3, 1), some (.invokevirtual 107, 3), none, none, some (.istore_n 3, 1), some (.iinc 4 1, 3), none],
  [none, some (.goto (-28), 3), none, none, some (.bipush 6, 2), none, some (.ireturn, 1)]]
/-- MindPost$Ways.senderBits -/
def cd100 : List (List (Option (ClassFile.Instr × Nat))) := [[some (.aload_n 0, 1), some (.iload_n 1, 1), some (.invokevirtual 113, 3), none, none, some (.istore_n 2, 1), some (.aload_n 0, 1), some (.iload_n 1, 1), some (.iload_n 2, 1), some (.invokevirtual 116, 3), none, none, some (.iload_n 2, 1), some (.invokestatic 119, 3), none, none],
  [some (.iadd, 1), some (.istore_n 3, 1), some (.iconst 0, 1), some (.istore 4, 2), none, some (.iload_n 1, 1), some (.istore 5, 2), none, some (.iconst 0, 1), some (.istore 6, 2), none, some (.iload 6, 2), none, some (.iload_n 3, 1), some (.if_icmp .ge 45, 3), none],
  [none, some (.aload_n 0, 1), some (.iload 5, 2), none, some (.invokevirtual 107, 3), none, none, some (.istore 7, 2), none, some (.iload 7, 2), none, some (.iload 5, 2), none, some (.if_icmp .eq 20, 3), none, none],
  [some (.iload 4, 2), none, some (.iconst 1, 1), some (.aload_n 0, 1), some (.iload 5, 2), none, some (.aload_n 0, 1), some (.getfield 18, 3), none, none, some (.invokevirtual 104, 3), none, none, some (.ishl, 1), some (.ior, 1), some (.istore 4, 2)],
  [none, some (.iload 7, 2), none, some (.istore 5, 2), none, some (.iinc 6 1, 3), none, none, some (.goto (-45), 3), none, none, some (.iload 4, 2), none, some (.ireturn, 1)]]
/-- MindPost$Ways.sourceBits -/
def cd101 : List (List (Option (ClassFile.Instr × Nat))) := [[some (.iconst 0, 1), some (.istore_n 1, 1), some (.iconst 0, 1), some (.istore_n 2, 1), some (.iload_n 2, 1), some (.aload_n 0, 1), some (.getfield 31, 3), none, none, some (.getfield 64, 3), none, none, some (.if_icmp .ge 24, 3), none, none, some (.aload_n 0, 1)],
  [some (.iload_n 2, 1), some (.invokevirtual 124, 3), none, none, some (.iconst (-1), 1), some (.if_icmp .eq 9, 3), none, none, some (.iload_n 1, 1), some (.iconst 1, 1), some (.iload_n 2, 1), some (.ishl, 1), some (.ior, 1), some (.istore_n 1, 1), some (.iinc 2 1, 3), none],
  [none, some (.goto (-29), 3), none, none, some (.iload_n 1, 1), some (.ireturn, 1)]]
/-- MindPost$Ways.goesAs -/
def cd102 : List (List (Option (ClassFile.Instr × Nat))) := [[some (.iload_n 1, 1), some (.istore_n 3, 1), some (.iconst 0, 1), some (.istore 4, 2), none, some (.iload 4, 2), none, some (.aload_n 2, 1), some (.getfield 127, 3), none, none, some (.if_icmp .ge 44, 3), none, none, some (.aload_n 2, 1), some (.getfield 132, 3)],
  [none, none, some (.iload 4, 2), none, some (.laload, 1), some (.ldc2_w 136, 3), none, none, some (.lcmp, 1), some (.ifCond .eq 18, 3), none, none, some (.aload_n 2, 1), some (.getfield 132, 3), none, none],
  [some (.iload 4, 2), none, some (.laload, 1), some (.iload_n 3, 1), some (.i2l, 1), some (.lcmp, 1), some (.ifCond .eq 5, 3), none, none, some (.iconst 0, 1), some (.ireturn, 1), some (.aload_n 0, 1), some (.iload_n 3, 1), some (.invokevirtual 107, 3), none, none],
  [some (.istore_n 3, 1), some (.iinc 4 1, 3), none, none, some (.goto (-47), 3), none, none, some (.iconst 1, 1), some (.ireturn, 1)]]
/-- MindPost$Ways.targetBits -/
def cd103 : List (List (Option (ClassFile.Instr × Nat))) := [[some (.iconst 0, 1), some (.istore_n 3, 1), some (.aload_n 0, 1), some (.getfield 15, 3), none, none, some (.istore 4, 2), none, some (.iconst 0, 1), some (.istore 5, 2), none, some (.iload 5, 2), none, some (.aload_n 0, 1), some (.getfield 31, 3), none],
  [none, some (.getfield 64, 3), none, none, some (.if_icmp .ge 31, 3), none, none, some (.aload_n 0, 1), some (.iload 5, 2), none, some (.putfield 15, 3), none, none, some (.aload_n 0, 1), some (.iload_n 1, 1), some (.aload_n 2, 1)],
  [some (.invokevirtual 138, 3), none, none, some (.ifCond .eq 10, 3), none, none, some (.iload_n 3, 1), some (.iconst 1, 1), some (.iload 5, 2), none, some (.ishl, 1), some (.ior, 1), some (.istore_n 3, 1), some (.iinc 5 1, 3), none, none],
  [some (.goto (-37), 3), none, none, some (.aload_n 0, 1), some (.iload 4, 2), none, some (.putfield 15, 3), none, none, some (.iload_n 3, 1), some (.ireturn, 1)]]
/-- MindPost$Ways.careBits -/
def cd104 : List (List (Option (ClassFile.Instr × Nat))) := [[some (.iconst 0, 1), some (.istore 4, 2), none, some (.aload_n 0, 1), some (.getfield 25, 3), none, none, some (.iload_n 1, 1), some (.iaload, 1), some (.istore 5, 2), none, some (.iconst 0, 1), some (.istore 6, 2), none, some (.iload 6, 2), none],
  [some (.bipush 9, 2), none, some (.if_icmp .gt 40, 3), none, none, some (.aload_n 0, 1), some (.getfield 25, 3), none, none, some (.iload_n 1, 1), some (.aload_n 0, 1), some (.iload_n 1, 1), some (.iload 6, 2), none, some (.invokevirtual 57, 3), none],
  [none, some (.iastore, 1), some (.aload_n 0, 1), some (.iload_n 2, 1), some (.aload_n 3, 1), some (.invokevirtual 138, 3), none, none, some (.ifCond .eq 12, 3), none, none, some (.iload 4, 2), none, some (.iconst 1, 1), some (.iload 6, 2), none],
  [some (.ishl, 1), some (.ior, 1), some (.istore 4, 2), none, some (.iinc 6 1, 3), none, none, some (.goto (-41), 3), none, none, some (.aload_n 0, 1), some (.getfield 25, 3), none, none, some (.iload_n 1, 1), some (.iload 5, 2)],
  [none, some (.iastore, 1), some (.iload 4, 2), none, some (.ireturn, 1)]]
/-- MindPost$Ways.couldCome -/
def cd105 : List (List (Option (ClassFile.Instr × Nat))) := [[some (.iconst 1, 1), some (.iload_n 1, 1), some (.ishl, 1), some (.istore_n 2, 1), some (.iconst 0, 1), some (.istore_n 3, 1), some (.iload_n 3, 1), some (.aload_n 0, 1), some (.getfield 31, 3), none, none, some (.getfield 64, 3), none, none, some (.if_icmp .ge 49, 3), none],
  [none, some (.iconst 0, 1), some (.istore 4, 2), none, some (.iload 4, 2), none, some (.aload_n 0, 1), some (.getfield 31, 3), none, none, some (.getfield 64, 3), none, none, some (.if_icmp .ge 28, 3), none, none],
  [some (.iload_n 2, 1), some (.iload 4, 2), none, some (.ishr, 1), some (.iconst 1, 1), some (.iand, 1), some (.iconst 1, 1), some (.if_icmp .ne 12, 3), none, none, some (.iload_n 2, 1), some (.aload_n 0, 1), some (.iload 4, 2), none, some (.invokevirtual 142, 3), none],
  [none, some (.ior, 1), some (.istore_n 2, 1), some (.iinc 4 1, 3), none, none, some (.goto (-34), 3), none, none, some (.iinc 3 1, 3), none, none, some (.goto (-54), 3), none, none, some (.iload_n 2, 1)],
  [some (.aload_n 0, 1), some (.getfield 15, 3), none, none, some (.ishr, 1), some (.iconst 1, 1), some (.iand, 1), some (.iconst 1, 1), some (.if_icmp .ne 7, 3), none, none, some (.iconst 1, 1), some (.goto 4, 3), none, none, some (.iconst 0, 1)],
  [some (.ireturn, 1)]]
/-- MindPost$Ways.goalBits -/
def cd106 : List (List (Option (ClassFile.Instr × Nat))) := [[some (.iconst 0, 1), some (.istore_n 2, 1), some (.iconst 0, 1), some (.istore_n 3, 1), some (.iload_n 3, 1), some (.aload_n 0, 1), some (.getfield 31, 3), none, none, some (.getfield 48, 3), none, none, some (.if_icmp .ge 42, 3), none, none, some (.iload_n 3, 1)],
  [some (.aload_n 0, 1), some (.getfield 9, 3), none, none, some (.if_icmp .eq 28, 3), none, none, some (.aload_n 0, 1), some (.getfield 25, 3), none, none, some (.iload_n 3, 1), some (.iaload, 1), some (.ifCond .le 19, 3), none, none],
  [some (.iload_n 2, 1), some (.iconst 1, 1), some (.aload_n 0, 1), some (.getfield 28, 3), none, none, some (.iload_n 3, 1), some (.bipush 6, 2), none, some (.imul, 1), some (.iload_n 1, 1), some (.iadd, 1), some (.iaload, 1), some (.ishl, 1), some (.ior, 1), some (.istore_n 2, 1)],
  [some (.iinc 3 1, 3), none, none, some (.goto (-47), 3), none, none, some (.iload_n 2, 1), some (.ireturn, 1)]]
/-- MindPost.<init> -/
def cd107 : List (List (Option (ClassFile.Instr × Nat))) := [[some (.aload_n 0, 1), some (.invokespecial 1, 3), none, none, some (.aload_n 0, 1), some (.sipush 900, 3), none, none, some (.newarray .byte, 2), none, some (.putfield 9, 3), none, none, some (.aload_n 0, 1), some (.iconst 0, 1), some (.putfield 13, 3)],
  [none, none, some (.aload_n 0, 1), some (.new 17, 3), none, none, some (.dup, 1), some (.invokespecial 19, 3), none, none, some (.putfield 20, 3), none, none, some (.aload_n 0, 1), some (.new 24, 3), none],
  [none, some (.dup, 1), some (.invokespecial 26, 3), none, none, some (.putfield 27, 3), none, none, some (.aload_n 0, 1), some (.new 24, 3), none, none, some (.dup, 1), some (.invokespecial 26, 3), none, none],
  [some (.putfield 31, 3), none, none, some (.aload_n 0, 1), some (.new 24, 3), none, none, some (.dup, 1), some (.invokespecial 26, 3), none, none, some (.putfield 34, 3), none, none, some (.aload_n 0, 1), some (.new 37, 3)],
  [none, none, some (.dup, 1), some (.aload_n 0, 1), some (.getfield 9, 3), none, none, some (.invokespecial 39, 3), none, none, some (.putfield 42, 3), none, none, some (.aload_n 0, 1), some (.new 46, 3), none],
  [none, some (.dup, 1), some (.invokespecial 48, 3), none, none, some (.putfield 49, 3), none, none, some (.aload_n 0, 1), some (.new 53, 3), none, none, some (.dup, 1), some (.aload_n 0, 1), some (.getfield 20, 3), none],
  [none, some (.aload_n 0, 1), some (.getfield 27, 3), none, none, some (.invokespecial 55, 3), none, none, some (.putfield 58, 3), none, none, some (.aload_n 0, 1), some (.new 62, 3), none, none, some (.dup, 1)],
  [some (.aload_n 0, 1), some (.getfield 20, 3), none, none, some (.aload_n 0, 1), some (.getfield 58, 3), none, none, some (.invokespecial 64, 3), none, none, some (.putfield 67, 3), none, none, some (.aload_n 0, 1), some (.new 71, 3)],
  [none, none, some (.dup, 1), some (.aload_n 0, 1), some (.getfield 20, 3), none, none, some (.aload_n 0, 1), some (.getfield 58, 3), none, none, some (.invokespecial 73, 3), none, none, some (.putfield 74, 3), none],
  [none, some (.aload_n 0, 1), some (.new 78, 3), none, none, some (.dup, 1), some (.aload_n 0, 1), some (.getfield 20, 3), none, none, some (.aload_n 0, 1), some (.getfield 58, 3), none, none, some (.invokespecial 80, 3), none],
  [none, some (.putfield 81, 3), none, none, some (.aload_n 0, 1), some (.iconst 4, 1), some (.anewarray 85, 3), none, none, some (.putfield 87, 3), none, none, some (.aload_n 0, 1), some (.iconst 2, 1), some (.anewarray 17, 3), none],
  [none, some (.putfield 91, 3), none, none, some (.aload_n 0, 1), some (.iconst 2, 1), some (.anewarray 24, 3), none, none, some (.putfield 95, 3), none, none, some (.aload_n 0, 1), some (.bipush 6, 2), none, some (.newarray .int, 2)],
  [none, some (.putfield 99, 3), none, none, some (.iconst 0, 1), some (.istore_n 1, 1), some (.iload_n 1, 1), some (.iconst 4, 1), some (.if_icmp .ge 22, 3), none, none, some (.aload_n 0, 1), some (.getfield 87, 3), none, none, some (.iload_n 1, 1)],
  [some (.new 85, 3), none, none, some (.dup, 1), some (.invokespecial 103, 3), none, none, some (.aastore, 1), some (.iinc 1 1, 3), none, none, some (.goto (-21), 3), none, none, some (.return_, 1)]]
/-- MindPost.feed -/
def cd108 : List (List (Option (ClassFile.Instr × Nat))) := [[some (.aload_n 0, 1), some (.getfield 13, 3), none, none, some (.bipush 20, 2), none, some (.iadd, 1), some (.sipush 900, 3), none, none, some (.if_icmp .le 6, 3), none, none, some (.bipush (-5), 2), none, some (.ireturn, 1)],
  [some (.aload_n 0, 1), some (.iload_n 1, 1), some (.invokevirtual 104, 3), none, none, some (.aload_n 0, 1), some (.iload_n 2, 1), some (.invokevirtual 104, 3), none, none, some (.aload_n 0, 1), some (.iload_n 3, 1), some (.invokevirtual 104, 3), none, none, some (.aload_n 0, 1)],
  [some (.iload 4, 2), none, some (.invokevirtual 104, 3), none, none, some (.aload_n 0, 1), some (.iload 5, 2), none, some (.invokevirtual 104, 3), none, none, some (.aload_n 0, 1), some (.getfield 13, 3), none, none, some (.ireturn, 1)]]
/-- MindPost.feedOne -/
def cd109 : List (List (Option (ClassFile.Instr × Nat))) := [[some (.bipush 24, 2), none, some (.istore_n 2, 1), some (.iload_n 2, 1), some (.ifCond .lt 42, 3), none, none, some (.aload_n 0, 1), some (.getfield 13, 3), none, none, some (.sipush 900, 3), none, none, some (.if_icmp .ge 26, 3), none],
  [none, some (.aload_n 0, 1), some (.getfield 9, 3), none, none, some (.aload_n 0, 1), some (.getfield 13, 3), none, none, some (.iload_n 1, 1), some (.iload_n 2, 1), some (.iushr, 1), some (.i2b, 1), some (.bastore, 1), some (.aload_n 0, 1), some (.dup, 1)],
  [some (.getfield 13, 3), none, none, some (.iconst 1, 1), some (.iadd, 1), some (.putfield 13, 3), none, none, some (.iinc 2 (-8), 3), none, none, some (.goto (-40), 3), none, none, some (.return_, 1)]]
/-- MindPost.post -/
def cd110 : List (List (Option (ClassFile.Instr × Nat))) := [[some (.iload_n 1, 1), some (.ifCond .lt 11, 3), none, none, some (.iload_n 1, 1), some (.aload_n 0, 1), some (.getfield 13, 3), none, none, some (.if_icmp .le 6, 3), none, none, some (.bipush (-3), 2), none, some (.ireturn, 1), some (.aload_n 0, 1)],
  [some (.iconst 0, 1), some (.putfield 13, 3), none, none, some (.aload_n 0, 1), some (.getfield 42, 3), none, none, some (.iload_n 1, 1), some (.invokevirtual 108, 3), none, none, some (.aload_n 0, 1), some (.getfield 42, 3), none, none],
  [some (.getfield 111, 3), none, none, some (.ifCond .eq 14, 3), none, none, some (.bipush (-30), 2), none, some (.aload_n 0, 1), some (.getfield 42, 3), none, none, some (.getfield 111, 3), none, none, some (.isub, 1)],
  [some (.ireturn, 1), some (.aload_n 0, 1), some (.getfield 20, 3), none, none, some (.aload_n 0, 1), some (.getfield 42, 3), none, none, some (.getfield 114, 3), none, none, some (.invokevirtual 115, 3), none, none, some (.aload_n 0, 1)],
  [some (.getfield 27, 3), none, none, some (.aload_n 0, 1), some (.getfield 42, 3), none, none, some (.getfield 119, 3), none, none, some (.invokevirtual 120, 3), none, none, some (.aload_n 0, 1), some (.getfield 49, 3), none],
  [none, some (.iconst 0, 1), some (.putfield 123, 3), none, none, some (.aload_n 0, 1), some (.getfield 20, 3), none, none, some (.getfield 126, 3), none, none, some (.ireturn, 1)]]
/-- MindPost.fault -/
def cd111 : List (List (Option (ClassFile.Instr × Nat))) := [[some (.iload_n 1, 1), some (.lookupswitch 43 #[(0, 27), (1, 35)], 27), none, none, none, none, none, none, none, none, none, none, none, none, none, none],
  [none, none, none, none, none, none, none, none, none, none, none, none, some (.aload_n 0, 1), some (.getfield 42, 3), none, none],
  [some (.getfield 111, 3), none, none, some (.ireturn, 1), some (.aload_n 0, 1), some (.getfield 42, 3), none, none, some (.getfield 129, 3), none, none, some (.ireturn, 1), some (.iconst (-1), 1), some (.ireturn, 1)]]
/-- MindPost.person -/
def cd112 : List (List (Option (ClassFile.Instr × Nat))) := [[some (.aload_n 0, 1), some (.iload_n 1, 1), some (.invokevirtual 132, 3), none, none, some (.ifCond .ne 6, 3), none, none, some (.bipush (-2), 2), none, some (.ireturn, 1), some (.iload_n 2, 1), some (.tableswitch 99 0 5 #[40, 50, 60, 70, 80, 90], 40), none, none, none],
  [none, none, none, none, none, none, none, none, none, none, none, none, none, none, none, none],
  [none, none, none, none, none, none, none, none, none, none, none, none, none, none, none, none],
  [none, none, none, none, some (.aload_n 0, 1), some (.getfield 27, 3), none, none, some (.getfield 136, 3), none, none, some (.iload_n 1, 1), some (.iaload, 1), some (.ireturn, 1), some (.aload_n 0, 1), some (.getfield 20, 3)],
  [none, none, some (.getfield 139, 3), none, none, some (.iload_n 1, 1), some (.iaload, 1), some (.ireturn, 1), some (.aload_n 0, 1), some (.getfield 20, 3), none, none, some (.getfield 142, 3), none, none, some (.iload_n 1, 1)],
  [some (.iaload, 1), some (.ireturn, 1), some (.aload_n 0, 1), some (.getfield 27, 3), none, none, some (.getfield 145, 3), none, none, some (.iload_n 1, 1), some (.iaload, 1), some (.ireturn, 1), some (.aload_n 0, 1), some (.getfield 20, 3), none, none],
  [some (.getfield 148, 3), none, none, some (.iload_n 1, 1), some (.iaload, 1), some (.ireturn, 1), some (.aload_n 0, 1), some (.getfield 27, 3), none, none, some (.iload_n 1, 1), some (.invokevirtual 151, 3), none, none, some (.ireturn, 1), some (.bipush (-2), 2)],
  [none, some (.ireturn, 1)]]
/-- MindPost.cares -/
def cd113 : List (List (Option (ClassFile.Instr × Nat))) := [[some (.aload_n 0, 1), some (.iload_n 1, 1), some (.invokevirtual 132, 3), none, none, some (.ifCond .eq 11, 3), none, none, some (.aload_n 0, 1), some (.iload_n 2, 1), some (.invokevirtual 132, 3), none, none, some (.ifCond .ne 6, 3), none, none],
  [some (.bipush (-2), 2), none, some (.ireturn, 1), some (.aload_n 0, 1), some (.getfield 27, 3), none, none, some (.getfield 155, 3), none, none, some (.iload_n 1, 1), some (.bipush 6, 2), none, some (.imul, 1), some (.iload_n 2, 1), some (.iadd, 1)],
  [some (.iaload, 1), some (.ireturn, 1)]]
/-- MindPost.minds -/
def cd114 : List (List (Option (ClassFile.Instr × Nat))) := [[some (.aload_n 0, 1), some (.iload_n 1, 1), some (.iload_n 2, 1), some (.invokevirtual 158, 3), none, none, some (.ifCond .ne 6, 3), none, none, some (.ldc 162, 2), none, some (.ireturn, 1), some (.aload_n 0, 1), some (.getfield 58, 3), none, none],
  [some (.aload_n 0, 1), some (.getfield 27, 3), none, none, some (.iload_n 2, 1), some (.invokevirtual 163, 3), none, none, some (.aload_n 0, 1), some (.getfield 58, 3), none, none, some (.getfield 167, 3), none, none, some (.iload_n 1, 1)],
  [some (.iaload, 1), some (.ireturn, 1)]]
/-- MindPost.would -/
def cd115 : List (List (Option (ClassFile.Instr × Nat))) := [[some (.aload_n 0, 1), some (.iload_n 1, 1), some (.iload_n 2, 1), some (.invokevirtual 158, 3), none, none, some (.ifCond .ne 6, 3), none, none, some (.bipush (-2), 2), none, some (.ireturn, 1), some (.aload_n 0, 1), some (.getfield 58, 3), none, none],
  [some (.aload_n 0, 1), some (.getfield 27, 3), none, none, some (.iload_n 2, 1), some (.invokevirtual 163, 3), none, none, some (.aload_n 0, 1), some (.getfield 58, 3), none, none, some (.getfield 170, 3), none, none, some (.iload_n 1, 1)],
  [some (.bipush 6, 2), none, some (.imul, 1), some (.aload_n 0, 1), some (.getfield 27, 3), none, none, some (.getfield 136, 3), none, none, some (.iload_n 1, 1), some (.iaload, 1), some (.iadd, 1), some (.iaload, 1), some (.ireturn, 1)]]
/-- MindPost.letter -/
def cd116 : List (List (Option (ClassFile.Instr × Nat))) := [[some (.iload_n 1, 1), some (.ifCond .lt 14, 3), none, none, some (.iload_n 1, 1), some (.aload_n 0, 1), some (.getfield 27, 3), none, none, some (.getfield 173, 3), none, none, some (.if_icmp .lt 6, 3), none, none, some (.bipush (-2), 2)],
  [none, some (.ireturn, 1), some (.aload_n 0, 1), some (.getfield 27, 3), none, none, some (.getfield 176, 3), none, none, some (.iload_n 1, 1), some (.iaload, 1), some (.iconst (-1), 1), some (.if_icmp .eq 7, 3), none, none, some (.iconst 1, 1)],
  [some (.goto 4, 3), none, none, some (.iconst 0, 1), some (.istore_n 3, 1), some (.iload_n 2, 1), some (.tableswitch 112 0 4 #[34, 44, 54, 64, 98], 34), none, none, none, none, none, none, none, none, none],
  [none, none, none, none, none, none, none, none, none, none, none, none, none, none, none, none],
  [none, none, none, none, none, none, none, none, some (.aload_n 0, 1), some (.getfield 27, 3), none, none, some (.getfield 179, 3), none, none, some (.iload_n 1, 1)],
  [some (.iaload, 1), some (.ireturn, 1), some (.aload_n 0, 1), some (.getfield 27, 3), none, none, some (.getfield 182, 3), none, none, some (.iload_n 1, 1), some (.iaload, 1), some (.ireturn, 1), some (.iload_n 3, 1), some (.ifCond .eq 7, 3), none, none],
  [some (.iconst 1, 1), some (.goto 4, 3), none, none, some (.iconst 0, 1), some (.ireturn, 1), some (.iload_n 3, 1), some (.ifCond .eq 15, 3), none, none, some (.aload_n 0, 1), some (.getfield 27, 3), none, none, some (.getfield 176, 3), none],
  [none, some (.iload_n 1, 1), some (.iaload, 1), some (.goto 10, 3), none, none, some (.aload_n 0, 1), some (.getfield 27, 3), none, none, some (.getfield 185, 3), none, none, some (.aload_n 0, 1), some (.getfield 27, 3), none],
  [none, some (.getfield 188, 3), none, none, some (.iload_n 1, 1), some (.iaload, 1), some (.isub, 1), some (.ireturn, 1), some (.iload_n 3, 1), some (.ifCond .eq 7, 3), none, none, some (.iconst (-1), 1), some (.goto 8, 3), none, none],
  [some (.aload_n 0, 1), some (.iload_n 1, 1), some (.invokevirtual 191, 3), none, none, some (.ireturn, 1), some (.bipush (-2), 2), none, some (.ireturn, 1)]]
/-- MindPost.senderOf -/
def cd117 : List (List (Option (ClassFile.Instr × Nat))) := [[some (.aload_n 0, 1), some (.getfield 58, 3), none, none, some (.aload_n 0, 1), some (.getfield 27, 3), none, none, some (.aload_n 0, 1), some (.getfield 27, 3), none, none, some (.getfield 182, 3), none, none, some (.iload_n 1, 1)],
  [some (.iaload, 1), some (.aload_n 0, 1), some (.getfield 27, 3), none, none, some (.getfield 179, 3), none, none, some (.iload_n 1, 1), some (.iaload, 1), some (.invokevirtual 194, 3), none, none, some (.aload_n 0, 1), some (.getfield 58, 3), none],
  [none, some (.aload_n 0, 1), some (.getfield 27, 3), none, none, some (.getfield 179, 3), none, none, some (.iload_n 1, 1), some (.iaload, 1), some (.iconst (-1), 1), some (.invokevirtual 198, 3), none, none, some (.ireturn, 1)]]
/-- MindPost.mail -/
def cd118 : List (List (Option (ClassFile.Instr × Nat))) := [[some (.aload_n 0, 1), some (.iconst 0, 1), some (.iload_n 1, 1), some (.iload_n 2, 1), some (.invokevirtual 202, 3), none, none, some (.ireturn, 1)]]
/-- MindPost.move -/
def cd119 : List (List (Option (ClassFile.Instr × Nat))) := [[some (.aload_n 0, 1), some (.iconst 1, 1), some (.iload_n 1, 1), some (.iload_n 2, 1), some (.invokevirtual 202, 3), none, none, some (.ireturn, 1)]]
/-- MindPost.arouse -/
def cd120 : List (List (Option (ClassFile.Instr × Nat))) := [[some (.aload_n 0, 1), some (.iconst 2, 1), some (.iload_n 1, 1), some (.iload_n 2, 1), some (.invokevirtual 202, 3), none, none, some (.ireturn, 1)]]
/-- MindPost.mood -/
def cd121 : List (List (Option (ClassFile.Instr × Nat))) := [[some (.aload_n 0, 1), some (.iconst 3, 1), some (.iload_n 1, 1), some (.iload_n 2, 1), some (.invokevirtual 202, 3), none, none, some (.ireturn, 1)]]
/-- MindPost.doOne -/
def cd122 : List (List (Option (ClassFile.Instr × Nat))) := [[some (.aload_n 0, 1), some (.getfield 31, 3), none, none, some (.aload_n 0, 1), some (.getfield 27, 3), none, none, some (.invokevirtual 120, 3), none, none, some (.aload_n 0, 1), some (.getfield 67, 3), none, none, some (.aload_n 0, 1)],
  [some (.getfield 27, 3), none, none, some (.iload_n 1, 1), some (.iload_n 2, 1), some (.iload_n 3, 1), some (.invokevirtual 206, 3), none, none, some (.istore 4, 2), none, some (.iload 4, 2), none, some (.ifCond .lt 14, 3), none, none],
  [some (.aload_n 0, 1), some (.getfield 49, 3), none, none, some (.aload_n 0, 1), some (.getfield 31, 3), none, none, some (.invokevirtual 210, 3), none, none, some (.iload 4, 2), none, some (.ireturn, 1)]]
/-- MindPost.days -/
def cd123 : List (List (Option (ClassFile.Instr × Nat))) := [[some (.iload_n 1, 1), some (.iconst 1, 1), some (.if_icmp .lt 9, 3), none, none, some (.iload_n 1, 1), some (.bipush 99, 2), none, some (.if_icmp .le 6, 3), none, none, some (.bipush (-3), 2), none, some (.ireturn, 1), some (.aload_n 0, 1), some (.getfield 49, 3)],
  [none, none, some (.aload_n 0, 1), some (.getfield 27, 3), none, none, some (.invokevirtual 210, 3), none, none, some (.aload_n 0, 1), some (.getfield 67, 3), none, none, some (.aload_n 0, 1), some (.getfield 27, 3), none],
  [none, some (.iload_n 1, 1), some (.invokevirtual 213, 3), none, none, some (.ireturn, 1)]]
/-- MindPost.undo -/
def cd124 : List (List (Option (ClassFile.Instr × Nat))) := [[some (.iload_n 1, 1), some (.iconst 1, 1), some (.if_icmp .lt 14, 3), none, none, some (.iload_n 1, 1), some (.aload_n 0, 1), some (.getfield 49, 3), none, none, some (.getfield 123, 3), none, none, some (.if_icmp .le 6, 3), none, none],
  [some (.bipush (-3), 2), none, some (.ireturn, 1), some (.aload_n 0, 1), some (.getfield 49, 3), none, none, some (.iload_n 1, 1), some (.aload_n 0, 1), some (.getfield 27, 3), none, none, some (.invokevirtual 217, 3), none, none, some (.aload_n 0, 1)],
  [some (.getfield 49, 3), none, none, some (.getfield 123, 3), none, none, some (.ireturn, 1)]]
/-- MindPost.judge -/
def cd125 : List (List (Option (ClassFile.Instr × Nat))) := [[some (.aload_n 0, 1), some (.iload_n 1, 1), some (.invokevirtual 221, 3), none, none, some (.ifCond .eq 12, 3), none, none, some (.iload_n 2, 1), some (.ifCond .lt 8, 3), none, none, some (.iload_n 2, 1), some (.iconst 3, 1), some (.if_icmp .le 6, 3), none],
  [none, some (.bipush (-2), 2), none, some (.ireturn, 1), some (.aload_n 0, 1), some (.getfield 87, 3), none, none, some (.iload_n 1, 1), some (.aaload, 1), some (.getfield 224, 3), none, none, some (.ifCond .ne 6, 3), none, none],
  [some (.bipush (-6), 2), none, some (.ireturn, 1), some (.aload_n 0, 1), some (.getfield 34, 3), none, none, some (.aload_n 0, 1), some (.getfield 27, 3), none, none, some (.invokevirtual 120, 3), none, none, some (.aload_n 0, 1), some (.getfield 67, 3)],
  [none, none, some (.aload_n 0, 1), some (.getfield 34, 3), none, none, some (.aload_n 0, 1), some (.getfield 87, 3), none, none, some (.iload_n 1, 1), some (.aaload, 1), some (.invokevirtual 228, 3), none, none, some (.istore_n 3, 1)],
  [some (.iload_n 2, 1), some (.tableswitch 59 0 2 #[27, 43, 51], 27), none, none, none, none, none, none, none, none, none, none, none, none, none, none],
  [none, none, none, none, none, none, none, none, none, none, none, none, some (.aload_n 0, 1), some (.getfield 67, 3), none, none],
  [some (.getfield 232, 3), none, none, some (.ifCond .ne 7, 3), none, none, some (.iconst (-1), 1), some (.goto 4, 3), none, none, some (.iload_n 3, 1), some (.ireturn, 1), some (.aload_n 0, 1), some (.getfield 67, 3), none, none],
  [some (.getfield 232, 3), none, none, some (.ireturn, 1), some (.aload_n 0, 1), some (.getfield 34, 3), none, none, some (.invokevirtual 235, 3), none, none, some (.ireturn, 1), some (.aload_n 0, 1), some (.getfield 34, 3), none, none],
  [some (.invokevirtual 239, 3), none, none, some (.ireturn, 1)]]
/-- MindPost.perform -/
def cd126 : List (List (Option (ClassFile.Instr × Nat))) := [[some (.aload_n 0, 1), some (.iload_n 1, 1), some (.invokevirtual 221, 3), none, none, some (.ifCond .ne 6, 3), none, none, some (.bipush (-2), 2), none, some (.ireturn, 1), some (.aload_n 0, 1), some (.getfield 87, 3), none, none, some (.iload_n 1, 1)],
  [some (.aaload, 1), some (.getfield 224, 3), none, none, some (.ifCond .ne 6, 3), none, none, some (.bipush (-6), 2), none, some (.ireturn, 1), some (.aload_n 0, 1), some (.getfield 31, 3), none, none, some (.aload_n 0, 1), some (.getfield 27, 3)],
  [none, none, some (.invokevirtual 120, 3), none, none, some (.aload_n 0, 1), some (.aload_n 0, 1), some (.getfield 67, 3), none, none, some (.aload_n 0, 1), some (.getfield 27, 3), none, none, some (.aload_n 0, 1), some (.getfield 87, 3)],
  [none, none, some (.iload_n 1, 1), some (.aaload, 1), some (.invokevirtual 228, 3), none, none, some (.invokevirtual 242, 3), none, none, some (.ireturn, 1)]]
/-- MindPost.year -/
def cd127 : List (List (Option (ClassFile.Instr × Nat))) := [[some (.iload_n 2, 1), some (.iconst 1, 1), some (.if_icmp .lt 9, 3), none, none, some (.iload_n 2, 1), some (.bipush 40, 2), none, some (.if_icmp .le 6, 3), none, none, some (.bipush (-3), 2), none, some (.ireturn, 1), some (.aload_n 0, 1), some (.getfield 31, 3)],
  [none, none, some (.aload_n 0, 1), some (.getfield 27, 3), none, none, some (.invokevirtual 120, 3), none, none, some (.aload_n 0, 1), some (.aload_n 0, 1), some (.getfield 67, 3), none, none, some (.aload_n 0, 1), some (.getfield 27, 3)],
  [none, none, some (.iload_n 1, 1), some (.iload_n 2, 1), some (.invokevirtual 245, 3), none, none, some (.invokevirtual 242, 3), none, none, some (.ireturn, 1)]]
/-- MindPost.keptIfAny -/
def cd128 : List (List (Option (ClassFile.Instr × Nat))) := [[some (.iload_n 1, 1), some (.ifCond .le 14, 3), none, none, some (.aload_n 0, 1), some (.getfield 49, 3), none, none, some (.aload_n 0, 1), some (.getfield 31, 3), none, none, some (.invokevirtual 210, 3), none, none, some (.iload_n 1, 1)],
  [some (.ireturn, 1)]]
/-- MindPost.lies -/
def cd129 : List (List (Option (ClassFile.Instr × Nat))) := [[some (.aload_n 0, 1), some (.iload_n 1, 1), some (.iload_n 2, 1), some (.invokevirtual 249, 3), none, none, some (.ifCond .ne 6, 3), none, none, some (.bipush (-2), 2), none, some (.ireturn, 1), some (.iload_n 3, 1), some (.ifCond .lt 9, 3), none, none],
  [some (.iload_n 3, 1), some (.ldc 252, 2), none, some (.if_icmp .le 6, 3), none, none, some (.bipush (-3), 2), none, some (.ireturn, 1), some (.aload_n 0, 1), some (.getfield 58, 3), none, none, some (.aload_n 0, 1), some (.getfield 27, 3), none],
  [none, some (.iload_n 1, 1), some (.invokevirtual 163, 3), none, none, some (.aload_n 0, 1), some (.getfield 58, 3), none, none, some (.iload_n 2, 1), some (.iload_n 3, 1), some (.invokevirtual 253, 3), none, none, some (.ireturn, 1)]]
/-- MindPost.comes -/
def cd130 : List (List (Option (ClassFile.Instr × Nat))) := [[some (.aload_n 0, 1), some (.iload_n 1, 1), some (.iload_n 2, 1), some (.invokevirtual 249, 3), none, none, some (.ifCond .ne 6, 3), none, none, some (.bipush (-2), 2), none, some (.ireturn, 1), some (.aload_n 0, 1), some (.getfield 58, 3), none, none],
  [some (.aload_n 0, 1), some (.getfield 27, 3), none, none, some (.iload_n 1, 1), some (.invokevirtual 163, 3), none, none, some (.aload_n 0, 1), some (.getfield 58, 3), none, none, some (.iload_n 2, 1), some (.invokevirtual 256, 3), none, none],
  [some (.ireturn, 1)]]
/-- MindPost.ends -/
def cd131 : List (List (Option (ClassFile.Instr × Nat))) := [[some (.aload_n 0, 1), some (.iload_n 1, 1), some (.iload_n 2, 1), some (.invokevirtual 249, 3), none, none, some (.ifCond .eq 12, 3), none, none, some (.iload_n 3, 1), some (.ifCond .lt 8, 3), none, none, some (.iload_n 3, 1), some (.iconst 3, 1), some (.if_icmp .le 6, 3)],
  [none, none, some (.bipush (-2), 2), none, some (.ireturn, 1), some (.aload_n 0, 1), some (.getfield 58, 3), none, none, some (.aload_n 0, 1), some (.getfield 27, 3), none, none, some (.iload_n 1, 1), some (.invokevirtual 163, 3), none],
  [none, some (.aload_n 0, 1), some (.getfield 58, 3), none, none, some (.iload_n 2, 1), some (.invokevirtual 259, 3), none, none, some (.istore 4, 2), none, some (.iload 4, 2), none, some (.invokestatic 262, 3), none, none],
  [some (.istore 5, 2), none, some (.iload_n 3, 1), some (.tableswitch 69 0 2 #[25, 55, 58], 25), none, none, none, none, none, none, none, none, none, none, none, none],
  [none, none, none, none, none, none, none, none, none, none, none, none, some (.iload 4, 2), none, some (.iconst 1, 1), some (.aload_n 0, 1)],
  [some (.getfield 58, 3), none, none, some (.getfield 267, 3), none, none, some (.ishl, 1), some (.if_icmp .ne 7, 3), none, none, some (.iconst 0, 1), some (.goto 14, 3), none, none, some (.iload 5, 2), none],
  [some (.iconst 1, 1), some (.if_icmp .ne 7, 3), none, none, some (.iconst 1, 1), some (.goto 4, 3), none, none, some (.iconst 2, 1), some (.ireturn, 1), some (.iload 5, 2), none, some (.ireturn, 1), some (.aload_n 0, 1), some (.getfield 58, 3), none],
  [none, some (.iload_n 2, 1), some (.iload 4, 2), none, some (.invokevirtual 270, 3), none, none, some (.ireturn, 1), some (.aload_n 0, 1), some (.getfield 58, 3), none, none, some (.iload_n 2, 1), some (.aload_n 0, 1), some (.getfield 58, 3), none],
  [none, some (.iload_n 2, 1), some (.iload 4, 2), none, some (.invokevirtual 270, 3), none, none, some (.invokevirtual 253, 3), none, none, some (.ireturn, 1)]]
/-- MindPost.hands -/
def cd132 : List (List (Option (ClassFile.Instr × Nat))) := [[some (.aload_n 0, 1), some (.iload_n 1, 1), some (.iload_n 2, 1), some (.invokevirtual 249, 3), none, none, some (.ifCond .ne 6, 3), none, none, some (.bipush (-2), 2), none, some (.ireturn, 1), some (.aload_n 0, 1), some (.getfield 58, 3), none, none],
  [some (.aload_n 0, 1), some (.getfield 27, 3), none, none, some (.iload_n 1, 1), some (.invokevirtual 163, 3), none, none, some (.aload_n 0, 1), some (.getfield 58, 3), none, none, some (.iload_n 2, 1), some (.invokevirtual 273, 3), none, none],
  [some (.ireturn, 1)]]
/-- MindPost.sources -/
def cd133 : List (List (Option (ClassFile.Instr × Nat))) := [[some (.aload_n 0, 1), some (.iload_n 1, 1), some (.invokevirtual 132, 3), none, none, some (.ifCond .ne 6, 3), none, none, some (.bipush (-2), 2), none, some (.ireturn, 1), some (.aload_n 0, 1), some (.getfield 58, 3), none, none, some (.aload_n 0, 1)],
  [some (.getfield 27, 3), none, none, some (.iload_n 1, 1), some (.invokevirtual 163, 3), none, none, some (.aload_n 0, 1), some (.getfield 58, 3), none, none, some (.invokevirtual 276, 3), none, none, some (.ireturn, 1)]]
/-- MindPost.soonest -/
def cd134 : List (List (Option (ClassFile.Instr × Nat))) := [[some (.aload_n 0, 1), some (.iload_n 1, 1), some (.invokevirtual 132, 3), none, none, some (.ifCond .ne 6, 3), none, none, some (.bipush (-2), 2), none, some (.ireturn, 1), some (.aload_n 0, 1), some (.getfield 58, 3), none, none, some (.aload_n 0, 1)],
  [some (.getfield 27, 3), none, none, some (.iload_n 1, 1), some (.invokevirtual 163, 3), none, none, some (.iconst (-1), 1), some (.istore_n 2, 1), some (.iconst 0, 1), some (.istore_n 3, 1), some (.iconst 0, 1), some (.istore 4, 2), none, some (.iload 4, 2), none],
  [some (.aload_n 0, 1), some (.getfield 20, 3), none, none, some (.getfield 279, 3), none, none, some (.if_icmp .ge 42, 3), none, none, some (.aload_n 0, 1), some (.getfield 58, 3), none, none, some (.iload 4, 2), none],
  [some (.invokevirtual 256, 3), none, none, some (.istore 5, 2), none, some (.iload 5, 2), none, some (.ifCond .le 20, 3), none, none, some (.iload_n 2, 1), some (.iconst (-1), 1), some (.if_icmp .eq 9, 3), none, none, some (.iload 5, 2)],
  [none, some (.iload_n 3, 1), some (.if_icmp .ge 9, 3), none, none, some (.iload 4, 2), none, some (.istore_n 2, 1), some (.iload 5, 2), none, some (.istore_n 3, 1), some (.iinc 4 1, 3), none, none, some (.goto (-48), 3), none],
  [none, some (.iload_n 2, 1), some (.ireturn, 1)]]
/-- MindPost.rings -/
def cd135 : List (List (Option (ClassFile.Instr × Nat))) := [[some (.aload_n 0, 1), some (.iload_n 1, 1), some (.invokevirtual 132, 3), none, none, some (.ifCond .ne 6, 3), none, none, some (.bipush (-2), 2), none, some (.ireturn, 1), some (.aload_n 0, 1), some (.getfield 58, 3), none, none, some (.aload_n 0, 1)],
  [some (.getfield 27, 3), none, none, some (.iload_n 1, 1), some (.invokevirtual 163, 3), none, none, some (.iconst 0, 1), some (.istore_n 2, 1), some (.iconst 0, 1), some (.istore_n 3, 1), some (.iload_n 3, 1), some (.aload_n 0, 1), some (.getfield 20, 3), none, none],
  [some (.getfield 279, 3), none, none, some (.if_icmp .ge 43, 3), none, none, some (.aload_n 0, 1), some (.getfield 58, 3), none, none, some (.iload_n 3, 1), some (.invokevirtual 259, 3), none, none, some (.istore 4, 2), none],
  [some (.iload 4, 2), none, some (.invokestatic 262, 3), none, none, some (.iconst 1, 1), some (.if_icmp .le 18, 3), none, none, some (.iload 4, 2), none, some (.iload 4, 2), none, some (.ineg, 1), some (.iand, 1), some (.iconst 1, 1)],
  [some (.iload_n 3, 1), some (.ishl, 1), some (.if_icmp .ne 6, 3), none, none, some (.iinc 2 1, 3), none, none, some (.iinc 3 1, 3), none, none, some (.goto (-48), 3), none, none, some (.iload_n 2, 1), some (.ireturn, 1)]]
/-- MindPost.offices -/
def cd136 : List (List (Option (ClassFile.Instr × Nat))) := [[some (.aload_n 0, 1), some (.iload_n 1, 1), some (.invokevirtual 132, 3), none, none, some (.ifCond .ne 6, 3), none, none, some (.bipush (-2), 2), none, some (.ireturn, 1), some (.aload_n 0, 1), some (.getfield 58, 3), none, none, some (.aload_n 0, 1)],
  [some (.getfield 27, 3), none, none, some (.iload_n 1, 1), some (.invokevirtual 163, 3), none, none, some (.iconst 0, 1), some (.istore_n 2, 1), some (.iconst 0, 1), some (.istore_n 3, 1), some (.iload_n 3, 1), some (.aload_n 0, 1), some (.getfield 20, 3), none, none],
  [some (.getfield 279, 3), none, none, some (.if_icmp .ge 38, 3), none, none, some (.iload_n 3, 1), some (.aload_n 0, 1), some (.getfield 58, 3), none, none, some (.getfield 267, 3), none, none, some (.if_icmp .eq 21, 3), none],
  [none, some (.aload_n 0, 1), some (.getfield 58, 3), none, none, some (.iload_n 3, 1), some (.invokevirtual 282, 3), none, none, some (.iload_n 3, 1), some (.if_icmp .ne 9, 3), none, none, some (.iload_n 2, 1), some (.iconst 1, 1), some (.iload_n 3, 1)],
  [some (.ishl, 1), some (.ior, 1), some (.istore_n 2, 1), some (.iinc 3 1, 3), none, none, some (.goto (-43), 3), none, none, some (.iload_n 2, 1), some (.ireturn, 1)]]
/-- MindPost.needed -/
def cd137 : List (List (Option (ClassFile.Instr × Nat))) := [[some (.aload_n 0, 1), some (.iload_n 1, 1), some (.iload_n 2, 1), some (.invokevirtual 249, 3), none, none, some (.ifCond .ne 6, 3), none, none, some (.bipush (-2), 2), none, some (.ireturn, 1), some (.aload_n 0, 1), some (.getfield 58, 3), none, none],
  [some (.aload_n 0, 1), some (.getfield 27, 3), none, none, some (.iload_n 1, 1), some (.invokevirtual 163, 3), none, none, some (.aload_n 0, 1), some (.getfield 58, 3), none, none, some (.iload_n 2, 1), some (.invokevirtual 256, 3), none, none],
  [some (.iconst (-1), 1), some (.if_icmp .ne 5, 3), none, none, some (.iconst 0, 1), some (.ireturn, 1), some (.iconst 0, 1), some (.istore_n 3, 1), some (.iconst 0, 1), some (.istore 4, 2), none, some (.iload 4, 2), none, some (.aload_n 0, 1), some (.getfield 20, 3), none],
  [none, some (.getfield 285, 3), none, none, some (.if_icmp .ge 43, 3), none, none, some (.aload_n 0, 1), some (.getfield 58, 3), none, none, some (.iload 4, 2), none, some (.putfield 288, 3), none, none],
  [some (.iload 4, 2), none, some (.iload_n 1, 1), some (.if_icmp .eq 22, 3), none, none, some (.aload_n 0, 1), some (.getfield 58, 3), none, none, some (.iload_n 2, 1), some (.invokevirtual 256, 3), none, none, some (.iconst (-1), 1), some (.if_icmp .ne 10, 3)],
  [none, none, some (.iload_n 3, 1), some (.iconst 1, 1), some (.iload 4, 2), none, some (.ishl, 1), some (.ior, 1), some (.istore_n 3, 1), some (.iinc 4 1, 3), none, none, some (.goto (-49), 3), none, none, some (.iload_n 3, 1)],
  [some (.ireturn, 1)]]
/-- MindPost.moves -/
def cd138 : List (List (Option (ClassFile.Instr × Nat))) := [[some (.aload_n 0, 1), some (.iload_n 1, 1), some (.iload_n 2, 1), some (.invokevirtual 249, 3), none, none, some (.ifCond .eq 11, 3), none, none, some (.aload_n 0, 1), some (.iload_n 3, 1), some (.invokevirtual 291, 3), none, none, some (.ifCond .ne 6, 3), none],
  [none, some (.bipush (-2), 2), none, some (.ireturn, 1), some (.aload_n 0, 1), some (.getfield 58, 3), none, none, some (.aload_n 0, 1), some (.getfield 27, 3), none, none, some (.iload_n 1, 1), some (.invokevirtual 163, 3), none, none],
  [some (.aload_n 0, 1), some (.getfield 74, 3), none, none, some (.iload_n 2, 1), some (.invokevirtual 294, 3), none, none, some (.istore 4, 2), none, some (.iload 4, 2), none, some (.iconst (-1), 1), some (.if_icmp .eq 7, 3), none, none],
  [some (.iload_n 3, 1), some (.ifCond .ne 6, 3), none, none, some (.iload 4, 2), none, some (.ireturn, 1), some (.aload_n 0, 1), some (.getfield 58, 3), none, none, some (.getfield 297, 3), none, none, some (.iload_n 3, 1), some (.bipush 10, 2)],
  [none, some (.isub, 1), some (.iaload, 1), some (.ireturn, 1)]]
/-- MindPost.feeling -/
def cd139 : List (List (Option (ClassFile.Instr × Nat))) := [[some (.aload_n 0, 1), some (.iload_n 1, 1), some (.iload_n 2, 1), some (.invokevirtual 249, 3), none, none, some (.ifCond .eq 11, 3), none, none, some (.aload_n 0, 1), some (.iload_n 3, 1), some (.invokevirtual 291, 3), none, none, some (.ifCond .ne 6, 3), none],
  [none, some (.bipush (-2), 2), none, some (.ireturn, 1), some (.aload_n 0, 1), some (.getfield 58, 3), none, none, some (.aload_n 0, 1), some (.getfield 27, 3), none, none, some (.iload_n 1, 1), some (.invokevirtual 163, 3), none, none],
  [some (.aload_n 0, 1), some (.getfield 74, 3), none, none, some (.iload_n 2, 1), some (.invokevirtual 300, 3), none, none, some (.istore 4, 2), none, some (.iload 4, 2), none, some (.iconst (-1), 1), some (.if_icmp .eq 7, 3), none, none],
  [some (.iload_n 3, 1), some (.ifCond .ne 6, 3), none, none, some (.iload 4, 2), none, some (.ireturn, 1), some (.aload_n 0, 1), some (.getfield 74, 3), none, none, some (.getfield 303, 3), none, none, some (.iload_n 3, 1), some (.bipush 10, 2)],
  [none, some (.isub, 1), some (.iaload, 1), some (.ireturn, 1)]]
/-- MindPost.found -/
def cd140 : List (List (Option (ClassFile.Instr × Nat))) := [[some (.aload_n 0, 1), some (.iload_n 1, 1), some (.invokevirtual 132, 3), none, none, some (.ifCond .eq 12, 3), none, none, some (.aload_n 0, 1), some (.iload_n 1, 1), some (.iconst 1, 1), some (.invokevirtual 306, 3), none, none, some (.goto 5, 3), none],
  [none, some (.bipush (-2), 2), none, some (.ireturn, 1)]]
/-- MindPost.hides -/
def cd141 : List (List (Option (ClassFile.Instr × Nat))) := [[some (.aload_n 0, 1), some (.iload_n 1, 1), some (.invokevirtual 132, 3), none, none, some (.ifCond .eq 12, 3), none, none, some (.aload_n 0, 1), some (.iload_n 1, 1), some (.iconst (-1), 1), some (.invokevirtual 306, 3), none, none, some (.goto 5, 3), none],
  [none, some (.bipush (-2), 2), none, some (.ireturn, 1)]]
/-- MindPost.bestToBe -/
def cd142 : List (List (Option (ClassFile.Instr × Nat))) := [[some (.aload_n 0, 1), some (.getfield 58, 3), none, none, some (.aload_n 0, 1), some (.getfield 27, 3), none, none, some (.iload_n 1, 1), some (.invokevirtual 163, 3), none, none, some (.iconst 0, 1), some (.istore_n 3, 1), some (.bipush (-7), 2), none],
  [some (.istore 4, 2), none, some (.iconst 0, 1), some (.istore 5, 2), none, some (.iload 5, 2), none, some (.aload_n 0, 1), some (.getfield 20, 3), none, none, some (.getfield 279, 3), none, none, some (.if_icmp .ge 46, 3), none],
  [none, some (.aload_n 0, 1), some (.getfield 58, 3), none, none, some (.iload 5, 2), none, some (.putfield 267, 3), none, none, some (.iload_n 2, 1), some (.aload_n 0, 1), some (.getfield 58, 3), none, none, some (.invokevirtual 276, 3)],
  [none, none, some (.invokestatic 262, 3), none, none, some (.imul, 1), some (.istore 6, 2), none, some (.iload 6, 2), none, some (.iload 4, 2), none, some (.if_icmp .le 10, 3), none, none, some (.iload 5, 2)],
  [none, some (.istore_n 3, 1), some (.iload 6, 2), none, some (.istore 4, 2), none, some (.iinc 5 1, 3), none, none, some (.goto (-52), 3), none, none, some (.iload_n 3, 1), some (.ireturn, 1)]]
/-- MindPost.seen -/
def cd143 : List (List (Option (ClassFile.Instr × Nat))) := [[some (.aload_n 0, 1), some (.iload_n 1, 1), some (.aload_n 0, 1), some (.iload_n 2, 1), some (.iload_n 3, 1), some (.invokevirtual 249, 3), none, none, some (.invokevirtual 309, 3), none, none, some (.istore 4, 2), none, some (.iload 4, 2), none, some (.ifCond .eq 6, 3)],
  [none, none, some (.iload 4, 2), none, some (.ireturn, 1), some (.aload_n 0, 1), some (.getfield 58, 3), none, none, some (.aload_n 0, 1), some (.getfield 27, 3), none, none, some (.iload_n 2, 1), some (.invokevirtual 163, 3), none],
  [none, some (.aload_n 0, 1), some (.getfield 58, 3), none, none, some (.iload_n 3, 1), some (.aload_n 0, 1), some (.getfield 87, 3), none, none, some (.iload_n 1, 1), some (.aaload, 1), some (.invokevirtual 313, 3), none, none, some (.ireturn, 1)]]
/-- MindPost.probe -/
def cd144 : List (List (Option (ClassFile.Instr × Nat))) := [[some (.aload_n 0, 1), some (.iload_n 1, 1), some (.aload_n 0, 1), some (.iload_n 2, 1), some (.iload_n 3, 1), some (.invokevirtual 249, 3), none, none, some (.invokevirtual 309, 3), none, none, some (.istore 5, 2), none, some (.iload 5, 2), none, some (.ifCond .eq 6, 3)],
  [none, none, some (.iload 5, 2), none, some (.ireturn, 1), some (.iload 4, 2), none, some (.iconst 1, 1), some (.if_icmp .lt 10, 3), none, none, some (.iload 4, 2), none, some (.bipush 9, 2), none, some (.if_icmp .le 6, 3)],
  [none, none, some (.bipush (-3), 2), none, some (.ireturn, 1), some (.aload_n 0, 1), some (.getfield 58, 3), none, none, some (.aload_n 0, 1), some (.getfield 27, 3), none, none, some (.iload_n 2, 1), some (.invokevirtual 163, 3), none],
  [none, some (.aload_n 0, 1), some (.getfield 58, 3), none, none, some (.iload_n 3, 1), some (.aload_n 0, 1), some (.getfield 87, 3), none, none, some (.iload_n 1, 1), some (.aaload, 1), some (.invokevirtual 313, 3), none, none, some (.istore 6, 2)],
  [none, some (.iload 6, 2), none, some (.ifCond .ne 5, 3), none, none, some (.iconst (-1), 1), some (.ireturn, 1), some (.iconst 0, 1), some (.istore 7, 2), none, some (.bipush 7, 2), none, some (.istore 8, 2), none, some (.iconst 0, 1)],
  [some (.istore 9, 2), none, some (.iload 9, 2), none, some (.aload_n 0, 1), some (.getfield 20, 3), none, none, some (.getfield 279, 3), none, none, some (.if_icmp .ge 36, 3), none, none, some (.aload_n 0, 1), some (.iload 9, 2)],
  [none, some (.iload 4, 2), none, some (.iload 6, 2), none, some (.invokevirtual 317, 3), none, none, some (.istore 10, 2), none, some (.iload 10, 2), none, some (.iload 8, 2), none, some (.if_icmp .ge 11, 3), none],
  [none, some (.iload 9, 2), none, some (.istore 7, 2), none, some (.iload 10, 2), none, some (.istore 8, 2), none, some (.iinc 9 1, 3), none, none, some (.goto (-42), 3), none, none, some (.iload 7, 2)],
  [none, some (.ireturn, 1)]]
/-- MindPost.mostAlike -/
def cd145 : List (List (Option (ClassFile.Instr × Nat))) := [[some (.aload_n 0, 1), some (.invokevirtual 320, 3), none, none, some (.iconst 0, 1), some (.istore 4, 2), none, some (.iconst 0, 1), some (.istore 5, 2), none, some (.iload 5, 2), none, some (.aload_n 0, 1), some (.getfield 20, 3), none, none],
  [some (.getfield 279, 3), none, none, some (.if_icmp .ge 64, 3), none, none, some (.iload_n 3, 1), some (.iload 5, 2), none, some (.ishr, 1), some (.iconst 1, 1), some (.iand, 1), some (.iconst 1, 1), some (.if_icmp .ne 48, 3), none, none],
  [some (.aload_n 0, 1), some (.getfield 58, 3), none, none, some (.iload 5, 2), none, some (.putfield 267, 3), none, none, some (.aload_n 0, 1), some (.getfield 58, 3), none, none, some (.iload_n 1, 1), some (.iload_n 2, 1), some (.invokevirtual 253, 3)],
  [none, none, some (.istore 6, 2), none, some (.aload_n 0, 1), some (.getfield 99, 3), none, none, some (.iload 6, 2), none, some (.dup2, 1), some (.iaload, 1), some (.iconst 1, 1), some (.iadd, 1), some (.iastore, 1), some (.iload 4, 2)],
  [none, some (.aload_n 0, 1), some (.getfield 99, 3), none, none, some (.iload 6, 2), none, some (.iaload, 1), some (.invokestatic 323, 3), none, none, some (.istore 4, 2), none, some (.iinc 5 1, 3), none, none],
  [some (.goto (-70), 3), none, none, some (.iload 4, 2), none, some (.ireturn, 1)]]
/-- MindPost.heart -/
def cd146 : List (List (Option (ClassFile.Instr × Nat))) := [[some (.aload_n 0, 1), some (.iload_n 1, 1), some (.aload_n 0, 1), some (.iload_n 2, 1), some (.iload 4, 2), none, some (.invokevirtual 158, 3), none, none, some (.ifCond .eq 15, 3), none, none, some (.aload_n 0, 1), some (.iload_n 3, 1), some (.invokevirtual 328, 3), none],
  [none, some (.ifCond .eq 7, 3), none, none, some (.iconst 1, 1), some (.goto 4, 3), none, none, some (.iconst 0, 1), some (.invokevirtual 309, 3), none, none, some (.istore 5, 2), none, some (.iload 5, 2), none],
  [some (.ifCond .eq 6, 3), none, none, some (.iload 5, 2), none, some (.ireturn, 1), some (.aload_n 0, 1), some (.getfield 58, 3), none, none, some (.aload_n 0, 1), some (.getfield 27, 3), none, none, some (.iload_n 2, 1), some (.invokevirtual 163, 3)],
  [none, none, some (.aload_n 0, 1), some (.getfield 58, 3), none, none, some (.iload 4, 2), none, some (.iload_n 3, 1), some (.aload_n 0, 1), some (.getfield 87, 3), none, none, some (.iload_n 1, 1), some (.aaload, 1), some (.invokevirtual 331, 3)],
  [none, none, some (.ireturn, 1)]]
/-- MindPost.suspects -/
def cd147 : List (List (Option (ClassFile.Instr × Nat))) := [[some (.aload_n 0, 1), some (.iload_n 1, 1), some (.aload_n 0, 1), some (.iload_n 2, 1), some (.iload_n 3, 1), some (.invokevirtual 249, 3), none, none, some (.invokevirtual 309, 3), none, none, some (.istore 4, 2), none, some (.iload 4, 2), none, some (.ifCond .eq 6, 3)],
  [none, none, some (.iload 4, 2), none, some (.ireturn, 1), some (.aload_n 0, 1), some (.getfield 58, 3), none, none, some (.aload_n 0, 1), some (.getfield 27, 3), none, none, some (.iload_n 2, 1), some (.invokevirtual 163, 3), none],
  [none, some (.aload_n 0, 1), some (.getfield 58, 3), none, none, some (.iload_n 3, 1), some (.aload_n 0, 1), some (.getfield 87, 3), none, none, some (.iload_n 1, 1), some (.aaload, 1), some (.invokevirtual 335, 3), none, none, some (.ifCond .eq 5, 3)],
  [none, none, some (.iconst 0, 1), some (.ireturn, 1), some (.iconst 0, 1), some (.istore 5, 2), none, some (.iconst 0, 1), some (.istore 6, 2), none, some (.iload 6, 2), none, some (.aload_n 0, 1), some (.getfield 20, 3), none, none],
  [some (.getfield 285, 3), none, none, some (.if_icmp .ge 43, 3), none, none, some (.iload 6, 2), none, some (.iload_n 2, 1), some (.if_icmp .eq 31, 3), none, none, some (.aload_n 0, 1), some (.getfield 58, 3), none, none],
  [some (.iload 6, 2), none, some (.iload_n 3, 1), some (.aload_n 0, 1), some (.getfield 87, 3), none, none, some (.iload_n 1, 1), some (.aaload, 1), some (.invokevirtual 331, 3), none, none, some (.ifCond .eq 12, 3), none, none, some (.iload 5, 2)],
  [none, some (.iconst 1, 1), some (.iload 6, 2), none, some (.ishl, 1), some (.ior, 1), some (.istore 5, 2), none, some (.iinc 6 1, 3), none, none, some (.goto (-49), 3), none, none, some (.iload 5, 2), none],
  [some (.ireturn, 1)]]
/-- MindPost.sightCode -/
def cd148 : List (List (Option (ClassFile.Instr × Nat))) := [[some (.aload_n 0, 1), some (.iload_n 1, 1), some (.invokevirtual 221, 3), none, none, some (.ifCond .eq 7, 3), none, none, some (.iload_n 2, 1), some (.ifCond .ne 6, 3), none, none, some (.bipush (-2), 2), none, some (.ireturn, 1), some (.aload_n 0, 1)],
  [some (.getfield 87, 3), none, none, some (.iload_n 1, 1), some (.aaload, 1), some (.astore_n 3, 1), some (.aload_n 3, 1), some (.getfield 224, 3), none, none, some (.ifCond .ne 6, 3), none, none, some (.bipush (-6), 2), none, some (.ireturn, 1)],
  [some (.aload_n 3, 1), some (.getfield 339, 3), none, none, some (.iconst 1, 1), some (.if_icmp .lt 12, 3), none, none, some (.aload_n 3, 1), some (.getfield 339, 3), none, none, some (.bipush 12, 2), none, some (.if_icmp .le 6, 3), none],
  [none, some (.bipush (-4), 2), none, some (.ireturn, 1), some (.iconst 0, 1), some (.istore 4, 2), none, some (.iload 4, 2), none, some (.aload_n 3, 1), some (.getfield 339, 3), none, none, some (.if_icmp .ge 45, 3), none, none],
  [some (.aload_n 3, 1), some (.getfield 340, 3), none, none, some (.iload 4, 2), none, some (.laload, 1), some (.ldc2_w 344, 3), none, none, some (.lcmp, 1), some (.ifCond .lt 22, 3), none, none, some (.aload_n 3, 1), some (.getfield 340, 3)],
  [none, none, some (.iload 4, 2), none, some (.laload, 1), some (.aload_n 0, 1), some (.getfield 20, 3), none, none, some (.getfield 279, 3), none, none, some (.i2l, 1), some (.lcmp, 1), some (.ifCond .lt 6, 3), none],
  [none, some (.bipush (-3), 2), none, some (.ireturn, 1), some (.iinc 4 1, 3), none, none, some (.goto (-48), 3), none, none, some (.iconst 0, 1), some (.ireturn, 1)]]
/-- MindPost.meet -/
def cd149 : List (List (Option (ClassFile.Instr × Nat))) := [[some (.aload_n 0, 1), some (.iload_n 1, 1), some (.iload_n 2, 1), some (.invokevirtual 249, 3), none, none, some (.ifCond .eq 13, 3), none, none, some (.aload_n 0, 1), some (.iload_n 3, 1), some (.iload 4, 2), none, some (.invokevirtual 249, 3), none, none],
  [some (.ifCond .ne 6, 3), none, none, some (.bipush (-2), 2), none, some (.ireturn, 1), some (.aload_n 0, 1), some (.getfield 99, 3), none, none, some (.astore 5, 2), none, some (.aload_n 0, 1), some (.getfield 58, 3), none, none],
  [some (.aload_n 0, 1), some (.getfield 27, 3), none, none, some (.iload_n 1, 1), some (.invokevirtual 163, 3), none, none, some (.iconst 0, 1), some (.istore 6, 2), none, some (.iload 6, 2), none, some (.aload_n 0, 1), some (.getfield 20, 3), none],
  [none, some (.getfield 279, 3), none, none, some (.if_icmp .ge 23, 3), none, none, some (.aload 5, 2), none, some (.iload 6, 2), none, some (.aload_n 0, 1), some (.getfield 58, 3), none, none, some (.iload 6, 2)],
  [none, some (.invokevirtual 282, 3), none, none, some (.iastore, 1), some (.iinc 6 1, 3), none, none, some (.goto (-29), 3), none, none, some (.aload_n 0, 1), some (.getfield 58, 3), none, none, some (.aload_n 0, 1)],
  [some (.getfield 27, 3), none, none, some (.iload_n 3, 1), some (.invokevirtual 163, 3), none, none, some (.iload_n 2, 1), some (.istore 6, 2), none, some (.iload 4, 2), none, some (.istore 7, 2), none, some (.iconst 0, 1), some (.istore 8, 2)],
  [none, some (.iload 8, 2), none, some (.bipush 99, 2), none, some (.if_icmp .gt 37, 3), none, none, some (.iload 6, 2), none, some (.iload 7, 2), none, some (.if_icmp .ne 6, 3), none, none, some (.iload 8, 2)],
  [none, some (.ireturn, 1), some (.aload 5, 2), none, some (.iload 6, 2), none, some (.iaload, 1), some (.istore 6, 2), none, some (.aload_n 0, 1), some (.getfield 58, 3), none, none, some (.iload 7, 2), none, some (.invokevirtual 282, 3)],
  [none, none, some (.istore 7, 2), none, some (.iinc 8 1, 3), none, none, some (.goto (-38), 3), none, none, some (.iconst (-1), 1), some (.ireturn, 1)]]
/-- MindPost.hub -/
def cd150 : List (List (Option (ClassFile.Instr × Nat))) := [[some (.aload_n 0, 1), some (.invokevirtual 320, 3), none, none, some (.iconst 0, 1), some (.istore_n 1, 1), some (.iload_n 1, 1), some (.aload_n 0, 1), some (.getfield 20, 3), none, none, some (.getfield 285, 3), none, none, some (.if_icmp .ge 62, 3), none],
  [none, some (.aload_n 0, 1), some (.getfield 58, 3), none, none, some (.aload_n 0, 1), some (.getfield 27, 3), none, none, some (.iload_n 1, 1), some (.invokevirtual 163, 3), none, none, some (.aload_n 0, 1), some (.getfield 58, 3), none],
  [none, some (.invokevirtual 276, 3), none, none, some (.istore_n 2, 1), some (.iconst 0, 1), some (.istore_n 3, 1), some (.iload_n 3, 1), some (.aload_n 0, 1), some (.getfield 20, 3), none, none, some (.getfield 279, 3), none, none, some (.if_icmp .ge 23, 3)],
  [none, none, some (.aload_n 0, 1), some (.getfield 99, 3), none, none, some (.iload_n 3, 1), some (.dup2, 1), some (.iaload, 1), some (.iload_n 2, 1), some (.iload_n 3, 1), some (.ishr, 1), some (.iconst 1, 1), some (.iand, 1), some (.iadd, 1), some (.iastore, 1)],
  [some (.iinc 3 1, 3), none, none, some (.goto (-28), 3), none, none, some (.iinc 1 1, 3), none, none, some (.goto (-67), 3), none, none, some (.iconst 0, 1), some (.istore_n 1, 1), some (.iconst 1, 1), some (.istore_n 2, 1)],
  [some (.iload_n 2, 1), some (.aload_n 0, 1), some (.getfield 20, 3), none, none, some (.getfield 279, 3), none, none, some (.if_icmp .ge 26, 3), none, none, some (.aload_n 0, 1), some (.getfield 99, 3), none, none, some (.iload_n 2, 1)],
  [some (.iaload, 1), some (.aload_n 0, 1), some (.getfield 99, 3), none, none, some (.iload_n 1, 1), some (.iaload, 1), some (.if_icmp .le 5, 3), none, none, some (.iload_n 2, 1), some (.istore_n 1, 1), some (.iinc 2 1, 3), none, none, some (.goto (-31), 3)],
  [none, none, some (.iload_n 1, 1), some (.ireturn, 1)]]
/-- MindPost.chance -/
def cd151 : List (List (Option (ClassFile.Instr × Nat))) := [[some (.aload_n 0, 1), some (.iload_n 1, 1), some (.iload_n 2, 1), some (.invokevirtual 249, 3), none, none, some (.ifCond .eq 14, 3), none, none, some (.iload 4, 2), none, some (.ifCond .lt 9, 3), none, none, some (.iload 4, 2), none],
  [some (.iconst 1, 1), some (.if_icmp .le 7, 3), none, none, some (.ldc2_w 346, 3), none, none, some (.lreturn, 1), some (.aload_n 0, 1), some (.iload_n 3, 1), some (.invokevirtual 348, 3), none, none, some (.ifCond .ne 7, 3), none, none],
  [some (.ldc2_w 351, 3), none, none, some (.lreturn, 1), some (.aload_n 0, 1), some (.getfield 58, 3), none, none, some (.aload_n 0, 1), some (.getfield 27, 3), none, none, some (.iload_n 1, 1), some (.invokevirtual 163, 3), none, none],
  [some (.aload_n 0, 1), some (.getfield 81, 3), none, none, some (.invokevirtual 353, 3), none, none, some (.aload_n 0, 1), some (.getfield 81, 3), none, none, some (.iload_n 3, 1), some (.invokevirtual 356, 3), none, none, some (.aload_n 0, 1)],
  [some (.getfield 81, 3), none, none, some (.iload_n 2, 1), some (.iload 4, 2), none, some (.invokevirtual 359, 3), none, none, some (.lreturn, 1)]]
/-- MindPost.likely -/
def cd152 : List (List (Option (ClassFile.Instr × Nat))) := [[some (.aload_n 0, 1), some (.iload_n 1, 1), some (.iload_n 2, 1), some (.invokevirtual 249, 3), none, none, some (.ifCond .ne 6, 3), none, none, some (.bipush (-2), 2), none, some (.ireturn, 1), some (.iload_n 3, 1), some (.ifCond .lt 9, 3), none, none],
  [some (.iload_n 3, 1), some (.bipush 100, 2), none, some (.if_icmp .le 6, 3), none, none, some (.bipush (-3), 2), none, some (.ireturn, 1), some (.aload_n 0, 1), some (.getfield 58, 3), none, none, some (.aload_n 0, 1), some (.getfield 27, 3), none],
  [none, some (.iload_n 1, 1), some (.invokevirtual 163, 3), none, none, some (.aload_n 0, 1), some (.getfield 81, 3), none, none, some (.invokevirtual 353, 3), none, none, some (.iconst 0, 1), some (.istore 4, 2), none, some (.iload 4, 2)],
  [none, some (.bipush 15, 2), none, some (.if_icmp .gt 47, 3), none, none, some (.aload_n 0, 1), some (.getfield 81, 3), none, none, some (.getfield 363, 3), none, none, some (.iload_n 2, 1), some (.laload, 1), some (.ldc2_w 365, 3)],
  [none, none, some (.lmul, 1), some (.aload_n 0, 1), some (.getfield 81, 3), none, none, some (.getfield 367, 3), none, none, some (.iload_n 3, 1), some (.i2l, 1), some (.lmul, 1), some (.lcmp, 1), some (.ifCond .lt 6, 3), none],
  [none, some (.iload 4, 2), none, some (.ireturn, 1), some (.aload_n 0, 1), some (.getfield 81, 3), none, none, some (.iconst 1, 1), some (.invokevirtual 356, 3), none, none, some (.iinc 4 1, 3), none, none, some (.goto (-48), 3)],
  [none, none, some (.iconst (-1), 1), some (.ireturn, 1)]]
/-- MindPost.surest -/
def cd153 : List (List (Option (ClassFile.Instr × Nat))) := [[some (.aload_n 0, 1), some (.iload_n 1, 1), some (.invokevirtual 132, 3), none, none, some (.ifCond .ne 6, 3), none, none, some (.bipush (-2), 2), none, some (.ireturn, 1), some (.aload_n 0, 1), some (.iload_n 2, 1), some (.invokevirtual 348, 3), none, none],
  [some (.ifCond .ne 6, 3), none, none, some (.bipush (-3), 2), none, some (.ireturn, 1), some (.aload_n 0, 1), some (.getfield 58, 3), none, none, some (.aload_n 0, 1), some (.getfield 27, 3), none, none, some (.iload_n 1, 1), some (.invokevirtual 163, 3)],
  [none, none, some (.aload_n 0, 1), some (.getfield 81, 3), none, none, some (.invokevirtual 353, 3), none, none, some (.aload_n 0, 1), some (.getfield 81, 3), none, none, some (.iload_n 2, 1), some (.invokevirtual 356, 3), none],
  [none, some (.iconst (-1), 1), some (.istore_n 3, 1), some (.lconst 0, 1), some (.lstore 4, 2), none, some (.iconst 0, 1), some (.istore 6, 2), none, some (.iload 6, 2), none, some (.aload_n 0, 1), some (.getfield 20, 3), none, none, some (.getfield 279, 3)],
  [none, none, some (.if_icmp .ge 52, 3), none, none, some (.iload 6, 2), none, some (.aload_n 0, 1), some (.getfield 58, 3), none, none, some (.getfield 267, 3), none, none, some (.if_icmp .eq 34, 3), none],
  [none, some (.aload_n 0, 1), some (.getfield 81, 3), none, none, some (.getfield 363, 3), none, none, some (.iload 6, 2), none, some (.laload, 1), some (.lload 4, 2), none, some (.lcmp, 1), some (.ifCond .le 18, 3), none],
  [none, some (.iload 6, 2), none, some (.istore_n 3, 1), some (.aload_n 0, 1), some (.getfield 81, 3), none, none, some (.getfield 363, 3), none, none, some (.iload 6, 2), none, some (.laload, 1), some (.lstore 4, 2), none],
  [some (.iinc 6 1, 3), none, none, some (.goto (-58), 3), none, none, some (.iload_n 3, 1), some (.ireturn, 1)]]
/-- MindPost.numbers -/
def cd154 : List (List (Option (ClassFile.Instr × Nat))) := [[some (.aload_n 0, 1), some (.iload_n 1, 1), some (.invokevirtual 221, 3), none, none, some (.ifCond .eq 12, 3), none, none, some (.iload_n 2, 1), some (.ifCond .lt 8, 3), none, none, some (.iload_n 2, 1), some (.iconst 3, 1), some (.if_icmp .le 6, 3), none],
  [none, some (.bipush (-2), 2), none, some (.ireturn, 1), some (.iload_n 3, 1), some (.ifCond .lt 9, 3), none, none, some (.iload_n 3, 1), some (.bipush 40, 2), none, some (.if_icmp .le 6, 3), none, none, some (.bipush (-3), 2), none],
  [some (.ireturn, 1), some (.aload_n 0, 1), some (.getfield 87, 3), none, none, some (.iload_n 1, 1), some (.aaload, 1), some (.iload_n 2, 1), some (.iload_n 3, 1), some (.invokevirtual 371, 3), none, none, some (.iconst 0, 1), some (.ireturn, 1)]]
/-- MindPost.write -/
def cd155 : List (List (Option (ClassFile.Instr × Nat))) := [[some (.aload_n 0, 1), some (.iload_n 1, 1), some (.invokevirtual 221, 3), none, none, some (.ifCond .ne 7, 3), none, none, some (.ldc2_w 346, 3), none, none, some (.lreturn, 1), some (.aload_n 0, 1), some (.getfield 87, 3), none, none],
  [some (.iload_n 1, 1), some (.aaload, 1), some (.astore 5, 2), none, some (.aload 5, 2), none, some (.getfield 224, 3), none, none, some (.ifCond .ne 7, 3), none, none, some (.ldc2_w 374, 3), none, none, some (.lreturn, 1)],
  [some (.iload_n 2, 1), some (.ifCond .lt 12, 3), none, none, some (.iload_n 2, 1), some (.aload 5, 2), none, some (.getfield 339, 3), none, none, some (.if_icmp .lt 7, 3), none, none, some (.ldc2_w 376, 3), none, none],
  [some (.lreturn, 1), some (.aload 5, 2), none, some (.iload_n 2, 1), some (.lload_n 3, 1), some (.invokevirtual 378, 3), none, none, some (.lreturn, 1)]]
/-- MindPost.lists -/
def cd156 : List (List (Option (ClassFile.Instr × Nat))) := [[some (.aload_n 0, 1), some (.iload_n 1, 1), some (.invokevirtual 221, 3), none, none, some (.ifCond .eq 12, 3), none, none, some (.aload_n 0, 1), some (.iload_n 2, 1), some (.iload_n 3, 1), some (.invokevirtual 249, 3), none, none, some (.ifCond .ne 6, 3), none],
  [none, some (.bipush (-2), 2), none, some (.ireturn, 1), some (.aload_n 0, 1), some (.getfield 87, 3), none, none, some (.iload_n 1, 1), some (.aaload, 1), some (.astore 4, 2), none, some (.aload 4, 2), none, some (.getfield 224, 3), none],
  [none, some (.ifCond .ne 6, 3), none, none, some (.bipush (-6), 2), none, some (.ireturn, 1), some (.aload_n 0, 1), some (.getfield 58, 3), none, none, some (.aload_n 0, 1), some (.getfield 27, 3), none, none, some (.iload_n 2, 1)],
  [some (.invokevirtual 163, 3), none, none, some (.iload_n 3, 1), some (.istore 5, 2), none, some (.iconst 0, 1), some (.istore 6, 2), none, some (.iload 6, 2), none, some (.aload 4, 2), none, some (.getfield 339, 3), none, none],
  [some (.if_icmp .ge 31, 3), none, none, some (.aload 4, 2), none, some (.iload 6, 2), none, some (.iload 5, 2), none, some (.i2l, 1), some (.invokevirtual 378, 3), none, none, some (.pop2, 1), some (.aload_n 0, 1), some (.getfield 58, 3)],
  [none, none, some (.iload 5, 2), none, some (.invokevirtual 282, 3), none, none, some (.istore 5, 2), none, some (.iinc 6 1, 3), none, none, some (.goto (-35), 3), none, none, some (.aload 4, 2)],
  [none, some (.getfield 339, 3), none, none, some (.ireturn, 1)]]
/-- MindPost.image -/
def cd157 : List (List (Option (ClassFile.Instr × Nat))) := [[some (.iload_n 1, 1), some (.ifCond .lt 8, 3), none, none, some (.iload_n 1, 1), some (.iconst 2, 1), some (.if_icmp .lt 6, 3), none, none, some (.bipush (-2), 2), none, some (.ireturn, 1), some (.aload_n 0, 1), some (.getfield 91, 3), none, none],
  [some (.iload_n 1, 1), some (.aaload, 1), some (.ifnull 12, 3), none, none, some (.aload_n 0, 1), some (.getfield 95, 3), none, none, some (.iload_n 1, 1), some (.aaload, 1), some (.ifnonnull 29, 3), none, none, some (.aload_n 0, 1), some (.getfield 91, 3)],
  [none, none, some (.iload_n 1, 1), some (.new 17, 3), none, none, some (.dup, 1), some (.invokespecial 19, 3), none, none, some (.aastore, 1), some (.aload_n 0, 1), some (.getfield 95, 3), none, none, some (.iload_n 1, 1)],
  [some (.new 24, 3), none, none, some (.dup, 1), some (.invokespecial 26, 3), none, none, some (.aastore, 1), some (.aload_n 0, 1), some (.getfield 91, 3), none, none, some (.iload_n 1, 1), some (.aaload, 1), some (.aload_n 0, 1), some (.getfield 20, 3)],
  [none, none, some (.invokevirtual 115, 3), none, none, some (.aload_n 0, 1), some (.getfield 95, 3), none, none, some (.iload_n 1, 1), some (.aaload, 1), some (.aload_n 0, 1), some (.getfield 27, 3), none, none, some (.invokevirtual 120, 3)],
  [none, none, some (.iconst 0, 1), some (.ireturn, 1)]]
/-- MindPost.restore -/
def cd158 : List (List (Option (ClassFile.Instr × Nat))) := [[some (.iload_n 1, 1), some (.ifCond .lt 8, 3), none, none, some (.iload_n 1, 1), some (.iconst 2, 1), some (.if_icmp .lt 6, 3), none, none, some (.bipush (-2), 2), none, some (.ireturn, 1), some (.aload_n 0, 1), some (.getfield 91, 3), none, none],
  [some (.iload_n 1, 1), some (.aaload, 1), some (.ifnull 12, 3), none, none, some (.aload_n 0, 1), some (.getfield 95, 3), none, none, some (.iload_n 1, 1), some (.aaload, 1), some (.ifnonnull 6, 3), none, none, some (.bipush (-5), 2), none],
  [some (.ireturn, 1), some (.aload_n 0, 1), some (.getfield 20, 3), none, none, some (.aload_n 0, 1), some (.getfield 91, 3), none, none, some (.iload_n 1, 1), some (.aaload, 1), some (.invokevirtual 115, 3), none, none, some (.aload_n 0, 1), some (.getfield 27, 3)],
  [none, none, some (.aload_n 0, 1), some (.getfield 95, 3), none, none, some (.iload_n 1, 1), some (.aaload, 1), some (.invokevirtual 120, 3), none, none, some (.aload_n 0, 1), some (.getfield 49, 3), none, none, some (.iconst 0, 1)],
  [some (.putfield 123, 3), none, none, some (.iconst 0, 1), some (.ireturn, 1)]]
/-- MindPost.count -/
def cd159 : List (List (Option (ClassFile.Instr × Nat))) := [[some (.iload_n 1, 1), some (.tableswitch 120 0 8 #[51, 59, 67, 75, 83, 91, 99, 107, 112], 51), none, none, none, none, none, none, none, none, none, none, none, none, none, none],
  [none, none, none, none, none, none, none, none, none, none, none, none, none, none, none, none],
  [none, none, none, none, none, none, none, none, none, none, none, none, none, none, none, none],
  [none, none, none, none, some (.aload_n 0, 1), some (.getfield 20, 3), none, none, some (.getfield 279, 3), none, none, some (.ireturn, 1), some (.aload_n 0, 1), some (.getfield 20, 3), none, none],
  [some (.getfield 285, 3), none, none, some (.ireturn, 1), some (.aload_n 0, 1), some (.getfield 27, 3), none, none, some (.getfield 173, 3), none, none, some (.ireturn, 1), some (.aload_n 0, 1), some (.getfield 27, 3), none, none],
  [some (.invokevirtual 235, 3), none, none, some (.ireturn, 1), some (.aload_n 0, 1), some (.getfield 27, 3), none, none, some (.getfield 185, 3), none, none, some (.ireturn, 1), some (.aload_n 0, 1), some (.getfield 27, 3), none, none],
  [some (.invokevirtual 382, 3), none, none, some (.ireturn, 1), some (.aload_n 0, 1), some (.getfield 49, 3), none, none, some (.getfield 123, 3), none, none, some (.ireturn, 1), some (.aload_n 0, 1), some (.getfield 13, 3), none, none],
  [some (.ireturn, 1), some (.aload_n 0, 1), some (.getfield 20, 3), none, none, some (.getfield 126, 3), none, none, some (.ireturn, 1), some (.iconst (-1), 1), some (.ireturn, 1)]]
/-- MindPost.isPerson -/
def cd160 : List (List (Option (ClassFile.Instr × Nat))) := [[some (.iload_n 1, 1), some (.ifCond .lt 18, 3), none, none, some (.iload_n 1, 1), some (.aload_n 0, 1), some (.getfield 20, 3), none, none, some (.getfield 285, 3), none, none, some (.if_icmp .ge 7, 3), none, none, some (.iconst 1, 1)],
  [some (.goto 4, 3), none, none, some (.iconst 0, 1), some (.ireturn, 1)]]
/-- MindPost.isPlace -/
def cd161 : List (List (Option (ClassFile.Instr × Nat))) := [[some (.iload_n 1, 1), some (.ifCond .lt 18, 3), none, none, some (.iload_n 1, 1), some (.aload_n 0, 1), some (.getfield 20, 3), none, none, some (.getfield 279, 3), none, none, some (.if_icmp .ge 7, 3), none, none, some (.iconst 1, 1)],
  [some (.goto 4, 3), none, none, some (.iconst 0, 1), some (.ireturn, 1)]]
/-- MindPost.isWay -/
def cd162 : List (List (Option (ClassFile.Instr × Nat))) := [[some (.aload_n 0, 1), some (.iload_n 1, 1), some (.invokevirtual 132, 3), none, none, some (.ifCond .eq 15, 3), none, none, some (.aload_n 0, 1), some (.iload_n 2, 1), some (.invokevirtual 328, 3), none, none, some (.ifCond .eq 7, 3), none, none],
  [some (.iconst 1, 1), some (.goto 4, 3), none, none, some (.iconst 0, 1), some (.ireturn, 1)]]
/-- MindPost.areTwo -/
def cd163 : List (List (Option (ClassFile.Instr × Nat))) := [[some (.aload_n 0, 1), some (.iload_n 1, 1), some (.invokevirtual 132, 3), none, none, some (.ifCond .eq 20, 3), none, none, some (.aload_n 0, 1), some (.iload_n 2, 1), some (.invokevirtual 132, 3), none, none, some (.ifCond .eq 12, 3), none, none],
  [some (.iload_n 1, 1), some (.iload_n 2, 1), some (.if_icmp .eq 7, 3), none, none, some (.iconst 1, 1), some (.goto 4, 3), none, none, some (.iconst 0, 1), some (.ireturn, 1)]]
/-- MindPost.isCountOrPerson -/
def cd164 : List (List (Option (ClassFile.Instr × Nat))) := [[some (.iload_n 1, 1), some (.ifCond .eq 20, 3), none, none, some (.iload_n 1, 1), some (.bipush 10, 2), none, some (.if_icmp .lt 18, 3), none, none, some (.aload_n 0, 1), some (.iload_n 1, 1), some (.bipush 10, 2), none, some (.isub, 1), some (.invokevirtual 132, 3)],
  [none, none, some (.ifCond .eq 7, 3), none, none, some (.iconst 1, 1), some (.goto 4, 3), none, none, some (.iconst 0, 1), some (.ireturn, 1)]]
/-- MindPost.isChanceDays -/
def cd165 : List (List (Option (ClassFile.Instr × Nat))) := [[some (.iload_n 1, 1), some (.ifCond .lt 13, 3), none, none, some (.iload_n 1, 1), some (.bipush 15, 2), none, some (.if_icmp .gt 7, 3), none, none, some (.iconst 1, 1), some (.goto 4, 3), none, none, some (.iconst 0, 1), some (.ireturn, 1)]]
/-- MindPost.isTray -/
def cd166 : List (List (Option (ClassFile.Instr × Nat))) := [[some (.iload_n 1, 1), some (.ifCond .lt 12, 3), none, none, some (.iload_n 1, 1), some (.iconst 4, 1), some (.if_icmp .ge 7, 3), none, none, some (.iconst 1, 1), some (.goto 4, 3), none, none, some (.iconst 0, 1), some (.ireturn, 1)]]
/-- MindPost.clearTally -/
def cd167 : List (List (Option (ClassFile.Instr × Nat))) := [[some (.iconst 0, 1), some (.istore_n 1, 1), some (.iload_n 1, 1), some (.bipush 6, 2), none, some (.if_icmp .ge 16, 3), none, none, some (.aload_n 0, 1), some (.getfield 99, 3), none, none, some (.iload_n 1, 1), some (.iconst 0, 1), some (.iastore, 1), some (.iinc 1 1, 3)],
  [none, none, some (.goto (-16), 3), none, none, some (.return_, 1)]]
/-- MindPostModel.within -/
def cd168 : List (List (Option (ClassFile.Instr × Nat))) := [[some (.lload_n 0, 1), some (.lload_n 2, 1), some (.lcmp, 1), some (.ifCond .lt 14, 3), none, none, some (.lload_n 0, 1), some (.lload 4, 2), none, some (.lcmp, 1), some (.ifCond .gt 7, 3), none, none, some (.iconst 1, 1), some (.goto 4, 3), none],
  [none, some (.iconst 0, 1), some (.ireturn, 1)]]
/-- MindPostModel.<init> -/
def cd169 : List (List (Option (ClassFile.Instr × Nat))) := [[some (.aload_n 0, 1), some (.invokespecial 7, 3), none, none, some (.aload_n 0, 1), some (.sipush 5262, 3), none, none, some (.newarray .int, 2), none, some (.putfield 13, 3), none, none, some (.aload_n 0, 1), some (.iconst 2, 1), some (.newarray .boolean, 2)],
  [none, some (.putfield 17, 3), none, none, some (.aload_n 0, 1), some (.sipush 900, 3), none, none, some (.newarray .int, 2), none, some (.putfield 21, 3), none, none, some (.aload_n 0, 1), some (.sipush 1754, 3), none],
  [none, some (.newarray .int, 2), none, some (.putfield 24, 3), none, none, some (.aload_n 0, 1), some (.iconst (-1), 1), some (.putfield 27, 3), none, none, some (.aload_n 0, 1), some (.sipush 900, 3), none, none, some (.newarray .int, 2)],
  [none, some (.putfield 30, 3), none, none, some (.aload_n 0, 1), some (.bipush 8, 2), none, some (.newarray .int, 2), none, some (.putfield 33, 3), none, none, some (.aload_n 0, 1), some (.iconst (-1), 1), some (.putfield 36, 3), none],
  [none, some (.aload_n 0, 1), some (.bipush 75, 2), none, some (.newarray .int, 2), none, some (.putfield 39, 3), none, none, some (.aload_n 0, 1), some (.bipush 6, 2), none, some (.newarray .int, 2), none, some (.putfield 42, 3), none],
  [none, some (.aload_n 0, 1), some (.bipush 6, 2), none, some (.newarray .int, 2), none, some (.putfield 45, 3), none, none, some (.aload_n 0, 1), some (.bipush 6, 2), none, some (.newarray .int, 2), none, some (.putfield 48, 3), none],
  [none, some (.aload_n 0, 1), some (.bipush 6, 2), none, some (.newarray .int, 2), none, some (.putfield 51, 3), none, none, some (.aload_n 0, 1), some (.bipush 6, 2), none, some (.newarray .int, 2), none, some (.putfield 54, 3), none],
  [none, some (.aload_n 0, 1), some (.bipush 6, 2), none, some (.newarray .int, 2), none, some (.putfield 57, 3), none, none, some (.aload_n 0, 1), some (.bipush 6, 2), none, some (.newarray .long, 2), none, some (.putfield 60, 3), none],
  [none, some (.aload_n 0, 1), some (.bipush 6, 2), none, some (.newarray .long, 2), none, some (.putfield 64, 3), none, none, some (.aload_n 0, 1), some (.iconst 4, 1), some (.newarray .int, 2), none, some (.dup, 1), some (.iconst 0, 1), some (.iconst (-1), 1)],
  [some (.iastore, 1), some (.dup, 1), some (.iconst 1, 1), some (.iconst (-1), 1), some (.iastore, 1), some (.dup, 1), some (.iconst 2, 1), some (.iconst (-1), 1), some (.iastore, 1), some (.dup, 1), some (.iconst 3, 1), some (.iconst (-1), 1), some (.iastore, 1), some (.putfield 67, 3), none, none],
  [some (.aload_n 0, 1), some (.iconst 4, 1), some (.newarray .int, 2), none, some (.putfield 70, 3), none, none, some (.aload_n 0, 1), some (.sipush 160, 3), none, none, some (.newarray .long, 2), none, some (.putfield 73, 3), none, none],
  [some (.aload_n 0, 1), some (.getfield 13, 3), none, none, some (.invokestatic 76, 3), none, none, some (.return_, 1)]]
/-- MindPostModel.plain -/
def cd170 : List (List (Option (ClassFile.Instr × Nat))) := [[some (.iconst 0, 1), some (.istore_n 1, 1), some (.iload_n 1, 1), some (.sipush 1754, 3), none, none, some (.if_icmp .ge 13, 3), none, none, some (.aload_n 0, 1), some (.iload_n 1, 1), some (.iconst 0, 1), some (.iastore, 1), some (.iinc 1 1, 3), none, none],
  [some (.goto (-14), 3), none, none, some (.aload_n 0, 1), some (.iconst 1, 1), some (.iconst 2, 1), some (.iastore, 1), some (.return_, 1)]]
/-- MindPostModel.feed -/
def cd171 : List (List (Option (ClassFile.Instr × Nat))) := [[some (.aload_n 0, 1), some (.iconst 0, 1), some (.putfield 1, 3), none, none, some (.aload_n 0, 1), some (.getfield 80, 3), none, none, some (.bipush 20, 2), none, some (.iadd, 1), some (.sipush 900, 3), none, none, some (.if_icmp .le 6, 3)],
  [none, none, some (.bipush (-5), 2), none, some (.ireturn, 1), some (.iconst 0, 1), some (.istore 6, 2), none, some (.iload 6, 2), none, some (.bipush 20, 2), none, some (.if_icmp .ge 93, 3), none, none, some (.iload 6, 2)],
  [none, some (.iconst 4, 1), some (.if_icmp .ge 7, 3), none, none, some (.iload_n 1, 1), some (.goto 39, 3), none, none, some (.iload 6, 2), none, some (.bipush 8, 2), none, some (.if_icmp .ge 7, 3), none, none],
  [some (.iload_n 2, 1), some (.goto 28, 3), none, none, some (.iload 6, 2), none, some (.bipush 12, 2), none, some (.if_icmp .ge 7, 3), none, none, some (.iload_n 3, 1), some (.goto 17, 3), none, none, some (.iload 6, 2)],
  [none, some (.bipush 16, 2), none, some (.if_icmp .ge 8, 3), none, none, some (.iload 4, 2), none, some (.goto 5, 3), none, none, some (.iload 5, 2), none, some (.istore 7, 2), none, some (.aload_n 0, 1)],
  [some (.getfield 21, 3), none, none, some (.aload_n 0, 1), some (.getfield 80, 3), none, none, some (.iload 7, 2), none, some (.bipush 24, 2), none, some (.bipush 8, 2), none, some (.iload 6, 2), none, some (.iconst 4, 1)],
  [some (.irem, 1), some (.imul, 1), some (.isub, 1), some (.ishr, 1), some (.sipush 255, 3), none, none, some (.iand, 1), some (.iastore, 1), some (.aload_n 0, 1), some (.dup, 1), some (.getfield 80, 3), none, none, some (.iconst 1, 1), some (.iadd, 1)],
  [some (.putfield 80, 3), none, none, some (.iinc 6 1, 3), none, none, some (.goto (-94), 3), none, none, some (.aload_n 0, 1), some (.getfield 80, 3), none, none, some (.ireturn, 1)]]
/-- MindPostModel.see -/
def cd172 : List (List (Option (ClassFile.Instr × Nat))) := [[some (.iload_n 1, 1), some (.aload_n 0, 1), some (.getfield 83, 3), none, none, some (.if_icmp .ge 12, 3), none, none, some (.aload_n 0, 1), some (.getfield 21, 3), none, none, some (.iload_n 1, 1), some (.iaload, 1), some (.goto 4, 3), none],
  [none, some (.iconst (-1), 1), some (.ireturn, 1)]]
/-- MindPostModel.isSmall -/
def cd173 : List (List (Option (ClassFile.Instr × Nat))) := [[some (.iload_n 0, 1), some (.bipush 97, 2), none, some (.if_icmp .lt 13, 3), none, none, some (.iload_n 0, 1), some (.bipush 122, 2), none, some (.if_icmp .gt 7, 3), none, none, some (.iconst 1, 1), some (.goto 4, 3), none, none],
  [some (.iconst 0, 1), some (.ireturn, 1)]]
/-- MindPostModel.isDigit -/
def cd174 : List (List (Option (ClassFile.Instr × Nat))) := [[some (.iload_n 0, 1), some (.bipush 48, 2), none, some (.if_icmp .lt 13, 3), none, none, some (.iload_n 0, 1), some (.bipush 57, 2), none, some (.if_icmp .gt 7, 3), none, none, some (.iconst 1, 1), some (.goto 4, 3), none, none],
  [some (.iconst 0, 1), some (.ireturn, 1)]]
/-- MindPostModel.keyAt -/
def cd175 : List (List (Option (ClassFile.Instr × Nat))) := [[some (.iconst 0, 1), some (.istore_n 1, 1), some (.iconst 1, 1), some (.istore_n 2, 1), some (.iload_n 2, 1), some (.ldc 86, 2), none, some (.invokevirtual 88, 3), none, none, some (.if_icmp .ge 113, 3), none, none, some (.iconst 0, 1), some (.istore_n 3, 1), some (.ldc 86, 2)],
  [none, some (.iload_n 2, 1), some (.iload_n 3, 1), some (.iadd, 1), some (.invokevirtual 94, 3), none, none, some (.bipush 32, 2), none, some (.if_icmp .eq 44, 3), none, none, some (.aload_n 0, 1), some (.getfield 98, 3), none, none],
  [some (.iload_n 3, 1), some (.iadd, 1), some (.aload_n 0, 1), some (.getfield 101, 3), none, none, some (.if_icmp .ge 31, 3), none, none, some (.aload_n 0, 1), some (.getfield 21, 3), none, none, some (.aload_n 0, 1), some (.getfield 98, 3), none],
  [none, some (.iload_n 3, 1), some (.iadd, 1), some (.iaload, 1), some (.ldc 86, 2), none, some (.iload_n 2, 1), some (.iload_n 3, 1), some (.iadd, 1), some (.invokevirtual 94, 3), none, none, some (.if_icmp .ne 9, 3), none, none, some (.iinc 3 1, 3)],
  [none, none, some (.goto (-51), 3), none, none, some (.ldc 86, 2), none, some (.iload_n 2, 1), some (.iload_n 3, 1), some (.iadd, 1), some (.invokevirtual 94, 3), none, none, some (.bipush 32, 2), none, some (.if_icmp .ne 18, 3)],
  [none, none, some (.aload_n 0, 1), some (.getfield 98, 3), none, none, some (.iload_n 3, 1), some (.iadd, 1), some (.aload_n 0, 1), some (.getfield 101, 3), none, none, some (.if_icmp .ne 5, 3), none, none, some (.iload_n 1, 1)],
  [some (.ireturn, 1), some (.ldc 86, 2), none, some (.iload_n 2, 1), some (.invokevirtual 94, 3), none, none, some (.bipush 32, 2), none, some (.if_icmp .eq 9, 3), none, none, some (.iinc 2 1, 3), none, none, some (.goto (-14), 3)],
  [none, none, some (.iinc 2 1, 3), none, none, some (.iinc 1 1, 3), none, none, some (.goto (-116), 3), none, none, some (.bipush 23, 2), none, some (.ireturn, 1)]]
/-- MindPostModel.next -/
def cd176 : List (List (Option (ClassFile.Instr × Nat))) := [[some (.aload_n 0, 1), some (.aload_n 0, 1), some (.getfield 101, 3), none, none, some (.putfield 98, 3), none, none, some (.aload_n 0, 1), some (.aload_n 0, 1), some (.getfield 98, 3), none, none, some (.invokevirtual 104, 3), none, none],
  [some (.bipush 10, 2), none, some (.if_icmp .eq 16, 3), none, none, some (.aload_n 0, 1), some (.aload_n 0, 1), some (.getfield 98, 3), none, none, some (.invokevirtual 104, 3), none, none, some (.bipush 32, 2), none, some (.if_icmp .ne 16, 3)],
  [none, none, some (.aload_n 0, 1), some (.dup, 1), some (.getfield 98, 3), none, none, some (.iconst 1, 1), some (.iadd, 1), some (.putfield 98, 3), none, none, some (.goto (-36), 3), none, none, some (.aload_n 0, 1)],
  [some (.aload_n 0, 1), some (.getfield 98, 3), none, none, some (.putfield 101, 3), none, none, some (.aload_n 0, 1), some (.getfield 98, 3), none, none, some (.aload_n 0, 1), some (.getfield 83, 3), none, none, some (.if_icmp .lt 12, 3)],
  [none, none, some (.aload_n 0, 1), some (.bipush 25, 2), none, some (.putfield 108, 3), none, none, some (.goto 222, 3), none, none, some (.aload_n 0, 1), some (.aload_n 0, 1), some (.getfield 98, 3), none, none],
  [some (.invokevirtual 104, 3), none, none, some (.invokestatic 111, 3), none, none, some (.ifCond .eq 41, 3), none, none, some (.aload_n 0, 1), some (.aload_n 0, 1), some (.getfield 101, 3), none, none, some (.invokevirtual 104, 3), none],
  [none, some (.invokestatic 111, 3), none, none, some (.ifCond .eq 16, 3), none, none, some (.aload_n 0, 1), some (.dup, 1), some (.getfield 101, 3), none, none, some (.iconst 1, 1), some (.iadd, 1), some (.putfield 101, 3), none],
  [none, some (.goto (-24), 3), none, none, some (.aload_n 0, 1), some (.aload_n 0, 1), some (.invokevirtual 115, 3), none, none, some (.putfield 108, 3), none, none, some (.goto 170, 3), none, none, some (.aload_n 0, 1)],
  [some (.aload_n 0, 1), some (.getfield 98, 3), none, none, some (.invokevirtual 104, 3), none, none, some (.invokestatic 118, 3), none, none, some (.ifCond .eq 98, 3), none, none, some (.aload_n 0, 1), some (.iconst 0, 1), some (.putfield 121, 3)],
  [none, none, some (.aload_n 0, 1), some (.aload_n 0, 1), some (.getfield 101, 3), none, none, some (.invokevirtual 104, 3), none, none, some (.invokestatic 118, 3), none, none, some (.ifCond .eq 52, 3), none, none],
  [some (.aload_n 0, 1), some (.getfield 101, 3), none, none, some (.aload_n 0, 1), some (.getfield 98, 3), none, none, some (.isub, 1), some (.iconst 3, 1), some (.if_icmp .ge 26, 3), none, none, some (.aload_n 0, 1), some (.bipush 10, 2), none],
  [some (.aload_n 0, 1), some (.getfield 121, 3), none, none, some (.imul, 1), some (.aload_n 0, 1), some (.aload_n 0, 1), some (.getfield 101, 3), none, none, some (.invokevirtual 104, 3), none, none, some (.iadd, 1), some (.bipush 48, 2), none],
  [some (.isub, 1), some (.putfield 121, 3), none, none, some (.aload_n 0, 1), some (.dup, 1), some (.getfield 101, 3), none, none, some (.iconst 1, 1), some (.iadd, 1), some (.putfield 101, 3), none, none, some (.goto (-60), 3), none],
  [none, some (.aload_n 0, 1), some (.aload_n 0, 1), some (.getfield 101, 3), none, none, some (.aload_n 0, 1), some (.getfield 98, 3), none, none, some (.isub, 1), some (.iconst 3, 1), some (.if_icmp .le 8, 3), none, none, some (.bipush 26, 2)],
  [none, some (.goto 5, 3), none, none, some (.bipush 24, 2), none, some (.putfield 108, 3), none, none, some (.goto 61, 3), none, none, some (.aload_n 0, 1), some (.dup, 1), some (.getfield 101, 3), none],
  [none, some (.iconst 1, 1), some (.iadd, 1), some (.putfield 101, 3), none, none, some (.aload_n 0, 1), some (.bipush 26, 2), none, some (.putfield 108, 3), none, none, some (.iconst 0, 1), some (.istore_n 1, 1), some (.iload_n 1, 1), some (.ldc 124, 2)],
  [none, some (.invokevirtual 88, 3), none, none, some (.if_icmp .ge 34, 3), none, none, some (.aload_n 0, 1), some (.aload_n 0, 1), some (.getfield 98, 3), none, none, some (.invokevirtual 104, 3), none, none, some (.ldc 124, 2)],
  [none, some (.iload_n 1, 1), some (.invokevirtual 94, 3), none, none, some (.if_icmp .ne 11, 3), none, none, some (.aload_n 0, 1), some (.bipush 30, 2), none, some (.iload_n 1, 1), some (.iadd, 1), some (.putfield 108, 3), none, none],
  [some (.iinc 1 1, 3), none, none, some (.goto (-37), 3), none, none, some (.return_, 1)]]
/-- MindPostModel.fails -/
def cd177 : List (List (Option (ClassFile.Instr × Nat))) := [[some (.aload_n 0, 1), some (.getfield 126, 3), none, none, some (.ifCond .eq 4, 3), none, none, some (.return_, 1), some (.aload_n 0, 1), some (.aload_n 0, 1), some (.getfield 108, 3), none, none, some (.bipush 26, 2), none, some (.if_icmp .ne 7, 3)],
  [none, none, some (.iconst 1, 1), some (.goto 4, 3), none, none, some (.iload_n 1, 1), some (.putfield 126, 3), none, none, some (.aload_n 0, 1), some (.aload_n 0, 1), some (.getfield 98, 3), none, none, some (.putfield 129, 3)],
  [none, none, some (.return_, 1)]]
/-- MindPostModel.is -/
def cd178 : List (List (Option (ClassFile.Instr × Nat))) := [[some (.aload_n 0, 1), some (.getfield 126, 3), none, none, some (.ifCond .ne 15, 3), none, none, some (.aload_n 0, 1), some (.getfield 108, 3), none, none, some (.iload_n 1, 1), some (.if_icmp .ne 7, 3), none, none, some (.iconst 1, 1)],
  [some (.goto 4, 3), none, none, some (.iconst 0, 1), some (.ireturn, 1)]]
/-- MindPostModel.eats -/
def cd179 : List (List (Option (ClassFile.Instr × Nat))) := [[some (.aload_n 0, 1), some (.iload_n 1, 1), some (.invokevirtual 132, 3), none, none, some (.ifCond .ne 5, 3), none, none, some (.iconst 0, 1), some (.ireturn, 1), some (.aload_n 0, 1), some (.invokevirtual 135, 3), none, none, some (.iconst 1, 1), some (.ireturn, 1)]]
/-- MindPostModel.takes -/
def cd180 : List (List (Option (ClassFile.Instr × Nat))) := [[some (.aload_n 0, 1), some (.bipush 24, 2), none, some (.invokevirtual 132, 3), none, none, some (.ifCond .ne 11, 3), none, none, some (.aload_n 0, 1), some (.iconst 2, 1), some (.invokevirtual 138, 3), none, none, some (.goto 23, 3), none],
  [none, some (.aload_n 0, 1), some (.getfield 121, 3), none, none, some (.i2l, 1), some (.iload_n 1, 1), some (.i2l, 1), some (.iload_n 2, 1), some (.i2l, 1), some (.invokestatic 142, 3), none, none, some (.ifCond .ne 8, 3), none, none],
  [some (.aload_n 0, 1), some (.iconst 3, 1), some (.invokevirtual 138, 3), none, none, some (.aload_n 0, 1), some (.getfield 121, 3), none, none, some (.istore_n 3, 1), some (.aload_n 0, 1), some (.getfield 126, 3), none, none, some (.ifCond .ne 7, 3), none],
  [none, some (.aload_n 0, 1), some (.invokevirtual 135, 3), none, none, some (.iload_n 3, 1), some (.ireturn, 1)]]
/-- MindPostModel.isIn -/
def cd181 : List (List (Option (ClassFile.Instr × Nat))) := [[some (.lload_n 0, 1), some (.iload_n 2, 1), some (.lshr, 1), some (.lconst 1, 1), some (.land, 1), some (.lconst 1, 1), some (.lcmp, 1), some (.ifCond .ne 7, 3), none, none, some (.iconst 1, 1), some (.goto 4, 3), none, none, some (.iconst 0, 1), some (.ireturn, 1)]]
/-- MindPostModel.wordOf -/
def cd182 : List (List (Option (ClassFile.Instr × Nat))) := [[some (.iload_n 1, 1), some (.tableswitch 152 2 19 #[108, 122, 152, 91, 152, 95, 152, 152, 152, 152, 152, 152, 152, 152, 87, 89, 93, 137], 87), none, none, none, none, none, none, none, none, none, none, none, none, none, none],
  [none, none, none, none, none, none, none, none, none, none, none, none, none, none, none, none],
  [none, none, none, none, none, none, none, none, none, none, none, none, none, none, none, none],
  [none, none, none, none, none, none, none, none, none, none, none, none, none, none, none, none],
  [none, none, none, none, none, none, none, none, none, none, none, none, none, none, none, none],
  [none, none, none, none, none, none, none, none, some (.iconst 0, 1), some (.ireturn, 1), some (.iconst 1, 1), some (.ireturn, 1), some (.iconst 2, 1), some (.ireturn, 1), some (.iconst 3, 1), some (.ireturn, 1)],
  [some (.aload_n 0, 1), some (.getfield 146, 3), none, none, some (.ifCond .ne 7, 3), none, none, some (.iconst 4, 1), some (.goto 4, 3), none, none, some (.iconst (-1), 1), some (.ireturn, 1), some (.aload_n 0, 1), some (.getfield 146, 3), none],
  [none, some (.iconst 1, 1), some (.if_icmp .ne 7, 3), none, none, some (.iconst 5, 1), some (.goto 4, 3), none, none, some (.iconst (-1), 1), some (.ireturn, 1), some (.aload_n 0, 1), some (.getfield 146, 3), none, none, some (.iconst 1, 1)],
  [some (.if_icmp .ne 8, 3), none, none, some (.bipush 6, 2), none, some (.goto 4, 3), none, none, some (.iconst (-1), 1), some (.ireturn, 1), some (.aload_n 0, 1), some (.getfield 146, 3), none, none, some (.iconst 1, 1), some (.if_icmp .ne 8, 3)],
  [none, none, some (.bipush 7, 2), none, some (.goto 4, 3), none, none, some (.iconst (-1), 1), some (.ireturn, 1), some (.iconst (-1), 1), some (.ireturn, 1)]]
/-- MindPostModel.codes -/
def cd183 : List (List (Option (ClassFile.Instr × Nat))) := [[some (.aload_n 0, 1), some (.getfield 126, 3), none, none, some (.ifCond .eq 4, 3), none, none, some (.return_, 1), some (.aload_n 0, 1), some (.getfield 24, 3), none, none, some (.sipush 854, 3), none, none, some (.aload_n 0, 1)],
  [some (.getfield 24, 3), none, none, some (.sipush 853, 3), none, none, some (.iaload, 1), some (.iadd, 1), some (.iload_n 1, 1), some (.iastore, 1), some (.aload_n 0, 1), some (.getfield 24, 3), none, none, some (.sipush 853, 3), none],
  [none, some (.dup2, 1), some (.iaload, 1), some (.iconst 1, 1), some (.iadd, 1), some (.iastore, 1), some (.return_, 1)]]
/-- MindPostModel.goesIn -/
def cd184 : List (List (Option (ClassFile.Instr × Nat))) := [[some (.iload_n 1, 1), some (.bipush 6, 2), none, some (.if_icmp .ne 8, 3), none, none, some (.aload_n 0, 1), some (.iconst 4, 1), some (.invokevirtual 138, 3), none, none, some (.aload_n 0, 1), some (.getfield 126, 3), none, none, some (.ifCond .ne 7, 3)],
  [none, none, some (.aload_n 0, 1), some (.invokevirtual 135, 3), none, none, some (.aload_n 0, 1), some (.getfield 126, 3), none, none, some (.ifCond .ne 7, 3), none, none, some (.iconst 1, 1), some (.goto 4, 3), none],
  [none, some (.iconst 0, 1), some (.ireturn, 1)]]
/-- MindPostModel.readAtom -/
def cd185 : List (List (Option (ClassFile.Instr × Nat))) := [[some (.aload_n 0, 1), some (.bipush 24, 2), none, some (.invokevirtual 132, 3), none, none, some (.ifCond .eq 18, 3), none, none, some (.aload_n 0, 1), some (.aload_n 0, 1), some (.getfield 121, 3), none, none, some (.invokevirtual 149, 3), none],
  [none, some (.aload_n 0, 1), some (.invokevirtual 135, 3), none, none, some (.goto 109, 3), none, none, some (.aload_n 0, 1), some (.getfield 126, 3), none, none, some (.ifCond .ne 38, 3), none, none, some (.aload_n 0, 1)],
  [some (.aload_n 0, 1), some (.getfield 108, 3), none, none, some (.invokevirtual 152, 3), none, none, some (.iconst (-1), 1), some (.if_icmp .eq 26, 3), none, none, some (.aload_n 0, 1), some (.sipush 1000, 3), none, none, some (.aload_n 0, 1)],
  [some (.aload_n 0, 1), some (.getfield 108, 3), none, none, some (.invokevirtual 152, 3), none, none, some (.iadd, 1), some (.invokevirtual 149, 3), none, none, some (.aload_n 0, 1), some (.invokevirtual 135, 3), none, none, some (.goto 67, 3)],
  [none, none, some (.aload_n 0, 1), some (.bipush 35, 2), none, some (.invokevirtual 132, 3), none, none, some (.ifCond .eq 36, 3), none, none, some (.aload_n 0, 1), some (.iload_n 1, 1), some (.invokevirtual 155, 3), none, none],
  [some (.ifCond .ne 4, 3), none, none, some (.return_, 1), some (.aload_n 0, 1), some (.iload_n 1, 1), some (.iconst 1, 1), some (.iadd, 1), some (.invokevirtual 158, 3), none, none, some (.aload_n 0, 1), some (.bipush 36, 2), none, some (.invokevirtual 161, 3), none],
  [none, some (.ifCond .ne 33, 3), none, none, some (.aload_n 0, 1), some (.iconst 2, 1), some (.invokevirtual 138, 3), none, none, some (.goto 25, 3), none, none, some (.aload_n 0, 1), some (.bipush 12, 2), none, some (.invokevirtual 132, 3)],
  [none, none, some (.ifCond .eq 11, 3), none, none, some (.aload_n 0, 1), some (.iload_n 1, 1), some (.invokevirtual 164, 3), none, none, some (.goto 8, 3), none, none, some (.aload_n 0, 1), some (.iconst 2, 1), some (.invokevirtual 138, 3)],
  [none, none, some (.return_, 1)]]
/-- MindPostModel.readIf -/
def cd186 : List (List (Option (ClassFile.Instr × Nat))) := [[some (.aload_n 0, 1), some (.iload_n 1, 1), some (.invokevirtual 155, 3), none, none, some (.ifCond .ne 4, 3), none, none, some (.return_, 1), some (.aload_n 0, 1), some (.iload_n 1, 1), some (.iconst 1, 1), some (.iadd, 1), some (.invokevirtual 167, 3), none, none],
  [some (.aload_n 0, 1), some (.bipush 13, 2), none, some (.invokevirtual 161, 3), none, none, some (.ifCond .ne 8, 3), none, none, some (.aload_n 0, 1), some (.iconst 2, 1), some (.invokevirtual 138, 3), none, none, some (.aload_n 0, 1), some (.iload_n 1, 1)],
  [some (.iconst 1, 1), some (.iadd, 1), some (.invokevirtual 158, 3), none, none, some (.aload_n 0, 1), some (.bipush 14, 2), none, some (.invokevirtual 161, 3), none, none, some (.ifCond .ne 8, 3), none, none, some (.aload_n 0, 1), some (.iconst 2, 1)],
  [some (.invokevirtual 138, 3), none, none, some (.aload_n 0, 1), some (.iload_n 1, 1), some (.iconst 1, 1), some (.iadd, 1), some (.invokevirtual 158, 3), none, none, some (.aload_n 0, 1), some (.bipush 15, 2), none, some (.invokevirtual 161, 3), none, none],
  [some (.ifCond .ne 8, 3), none, none, some (.aload_n 0, 1), some (.iconst 2, 1), some (.invokevirtual 138, 3), none, none, some (.aload_n 0, 1), some (.sipush 3009, 3), none, none, some (.invokevirtual 149, 3), none, none, some (.return_, 1)]]
/-- MindPostModel.readTerm -/
def cd187 : List (List (Option (ClassFile.Instr × Nat))) := [[some (.aload_n 0, 1), some (.iload_n 1, 1), some (.invokevirtual 170, 3), none, none, some (.aload_n 0, 1), some (.bipush 34, 2), none, some (.invokevirtual 161, 3), none, none, some (.ifCond .eq 18, 3), none, none, some (.aload_n 0, 1), some (.iload_n 1, 1)],
  [some (.invokevirtual 170, 3), none, none, some (.aload_n 0, 1), some (.sipush 3002, 3), none, none, some (.invokevirtual 149, 3), none, none, some (.goto (-21), 3), none, none, some (.return_, 1)]]
/-- MindPostModel.readSum -/
def cd188 : List (List (Option (ClassFile.Instr × Nat))) := [[some (.aload_n 0, 1), some (.iload_n 1, 1), some (.invokevirtual 173, 3), none, none, some (.aload_n 0, 1), some (.bipush 32, 2), none, some (.invokevirtual 132, 3), none, none, some (.ifCond .ne 12, 3), none, none, some (.aload_n 0, 1), some (.bipush 33, 2)],
  [none, some (.invokevirtual 132, 3), none, none, some (.ifCond .eq 39, 3), none, none, some (.aload_n 0, 1), some (.getfield 108, 3), none, none, some (.bipush 32, 2), none, some (.if_icmp .ne 9, 3), none, none],
  [some (.sipush 3000, 3), none, none, some (.goto 6, 3), none, none, some (.sipush 3001, 3), none, none, some (.istore_n 2, 1), some (.aload_n 0, 1), some (.invokevirtual 135, 3), none, none, some (.aload_n 0, 1), some (.iload_n 1, 1)],
  [some (.invokevirtual 173, 3), none, none, some (.aload_n 0, 1), some (.iload_n 2, 1), some (.invokevirtual 149, 3), none, none, some (.goto (-51), 3), none, none, some (.return_, 1)]]
/-- MindPostModel.readUnit -/
def cd189 : List (List (Option (ClassFile.Instr × Nat))) := [[some (.aload_n 0, 1), some (.bipush 22, 2), none, some (.invokevirtual 132, 3), none, none, some (.ifCond .eq 27, 3), none, none, some (.aload_n 0, 1), some (.iload_n 1, 1), some (.invokevirtual 155, 3), none, none, some (.ifCond .ne 4, 3), none],
  [none, some (.return_, 1), some (.aload_n 0, 1), some (.iload_n 1, 1), some (.iconst 1, 1), some (.iadd, 1), some (.invokevirtual 176, 3), none, none, some (.aload_n 0, 1), some (.sipush 3006, 3), none, none, some (.invokevirtual 149, 3), none, none],
  [some (.return_, 1), some (.aload_n 0, 1), some (.bipush 37, 2), none, some (.invokevirtual 132, 3), none, none, some (.ifCond .eq 34, 3), none, none, some (.aload_n 0, 1), some (.iload_n 1, 1), some (.invokevirtual 155, 3), none, none, some (.ifCond .ne 4, 3)],
  [none, none, some (.return_, 1), some (.aload_n 0, 1), some (.iload_n 1, 1), some (.iconst 1, 1), some (.iadd, 1), some (.invokevirtual 167, 3), none, none, some (.aload_n 0, 1), some (.bipush 38, 2), none, some (.invokevirtual 161, 3), none, none],
  [some (.ifCond .ne 8, 3), none, none, some (.aload_n 0, 1), some (.iconst 2, 1), some (.invokevirtual 138, 3), none, none, some (.return_, 1), some (.aload_n 0, 1), some (.iload_n 1, 1), some (.invokevirtual 158, 3), none, none, some (.aload_n 0, 1), some (.bipush 39, 2)],
  [none, some (.invokevirtual 132, 3), none, none, some (.ifCond .eq 9, 3), none, none, some (.sipush 3003, 3), none, none, some (.goto 21, 3), none, none, some (.aload_n 0, 1), some (.bipush 40, 2), none],
  [some (.invokevirtual 132, 3), none, none, some (.ifCond .eq 9, 3), none, none, some (.sipush 3004, 3), none, none, some (.goto 6, 3), none, none, some (.sipush 3005, 3), none, none, some (.istore_n 2, 1)],
  [some (.aload_n 0, 1), some (.bipush 39, 2), none, some (.invokevirtual 132, 3), none, none, some (.ifCond .ne 21, 3), none, none, some (.aload_n 0, 1), some (.bipush 40, 2), none, some (.invokevirtual 132, 3), none, none, some (.ifCond .ne 12, 3)],
  [none, none, some (.aload_n 0, 1), some (.bipush 41, 2), none, some (.invokevirtual 132, 3), none, none, some (.ifCond .eq 10, 3), none, none, some (.aload_n 0, 1), some (.invokevirtual 135, 3), none, none, some (.goto 8, 3)],
  [none, none, some (.aload_n 0, 1), some (.iconst 2, 1), some (.invokevirtual 138, 3), none, none, some (.aload_n 0, 1), some (.iload_n 1, 1), some (.invokevirtual 158, 3), none, none, some (.aload_n 0, 1), some (.iload_n 2, 1), some (.invokevirtual 149, 3), none],
  [none, some (.return_, 1)]]
/-- MindPostModel.readBoth -/
def cd190 : List (List (Option (ClassFile.Instr × Nat))) := [[some (.aload_n 0, 1), some (.iload_n 1, 1), some (.invokevirtual 176, 3), none, none, some (.aload_n 0, 1), some (.bipush 20, 2), none, some (.invokevirtual 161, 3), none, none, some (.ifCond .eq 18, 3), none, none, some (.aload_n 0, 1), some (.iload_n 1, 1)],
  [some (.invokevirtual 176, 3), none, none, some (.aload_n 0, 1), some (.sipush 3007, 3), none, none, some (.invokevirtual 149, 3), none, none, some (.goto (-21), 3), none, none, some (.return_, 1)]]
/-- MindPostModel.readTruth -/
def cd191 : List (List (Option (ClassFile.Instr × Nat))) := [[some (.aload_n 0, 1), some (.iload_n 1, 1), some (.invokevirtual 179, 3), none, none, some (.aload_n 0, 1), some (.bipush 21, 2), none, some (.invokevirtual 161, 3), none, none, some (.ifCond .eq 18, 3), none, none, some (.aload_n 0, 1), some (.iload_n 1, 1)],
  [some (.invokevirtual 179, 3), none, none, some (.aload_n 0, 1), some (.sipush 3008, 3), none, none, some (.invokevirtual 149, 3), none, none, some (.goto (-21), 3), none, none, some (.return_, 1)]]
/-- MindPostModel.readFlag -/
def cd192 : List (List (Option (ClassFile.Instr × Nat))) := [[some (.aload_n 0, 1), some (.iconst 3, 1), some (.invokevirtual 161, 3), none, none, some (.ifCond .eq 28, 3), none, none, some (.aload_n 0, 1), some (.getfield 24, 3), none, none, some (.bipush 9, 2), none, some (.iload_n 1, 1), some (.iadd, 1)],
  [some (.aload_n 0, 1), some (.iconst 0, 1), some (.aload_n 0, 1), some (.getfield 24, 3), none, none, some (.iconst 1, 1), some (.iaload, 1), some (.iconst 1, 1), some (.isub, 1), some (.invokevirtual 182, 3), none, none, some (.iastore, 1), some (.goto 87, 3), none],
  [none, some (.aload_n 0, 1), some (.iconst 4, 1), some (.invokevirtual 161, 3), none, none, some (.ifCond .eq 22, 3), none, none, some (.aload_n 0, 1), some (.getfield 24, 3), none, none, some (.bipush 15, 2), none, some (.iload_n 1, 1)],
  [some (.iadd, 1), some (.aload_n 0, 1), some (.iconst 0, 1), some (.bipush 9, 2), none, some (.invokevirtual 182, 3), none, none, some (.iastore, 1), some (.goto 60, 3), none, none, some (.aload_n 0, 1), some (.iconst 5, 1), some (.invokevirtual 161, 3), none],
  [none, some (.ifCond .eq 22, 3), none, none, some (.aload_n 0, 1), some (.getfield 24, 3), none, none, some (.bipush 36, 2), none, some (.iload_n 1, 1), some (.iadd, 1), some (.aload_n 0, 1), some (.iconst 0, 1), some (.bipush 9, 2), none],
  [some (.invokevirtual 182, 3), none, none, some (.iastore, 1), some (.goto 33, 3), none, none, some (.aload_n 0, 1), some (.bipush 6, 2), none, some (.invokevirtual 161, 3), none, none, some (.ifCond .eq 22, 3), none, none],
  [some (.aload_n 0, 1), some (.getfield 24, 3), none, none, some (.bipush 21, 2), none, some (.iload_n 1, 1), some (.iadd, 1), some (.aload_n 0, 1), some (.iconst 0, 1), some (.bipush 10, 2), none, some (.invokevirtual 182, 3), none, none, some (.iastore, 1)],
  [some (.goto 5, 3), none, none, some (.iconst 0, 1), some (.ireturn, 1), some (.aload_n 0, 1), some (.getfield 126, 3), none, none, some (.ifCond .ne 7, 3), none, none, some (.iconst 1, 1), some (.goto 4, 3), none, none],
  [some (.iconst 0, 1), some (.ireturn, 1)]]
/-- MindPostModel.readPerson -/
def cd193 : List (List (Option (ClassFile.Instr × Nat))) := [[some (.aload_n 0, 1), some (.getfield 24, 3), none, none, some (.iconst 2, 1), some (.iaload, 1), some (.istore_n 1, 1), some (.iload_n 1, 1), some (.bipush 6, 2), none, some (.if_icmp .ne 8, 3), none, none, some (.aload_n 0, 1), some (.iconst 4, 1), some (.invokevirtual 138, 3)],
  [none, none, some (.aload_n 0, 1), some (.getfield 126, 3), none, none, some (.ifCond .eq 4, 3), none, none, some (.return_, 1), some (.aload_n 0, 1), some (.invokevirtual 135, 3), none, none, some (.aload_n 0, 1), some (.iconst 2, 1)],
  [some (.invokevirtual 161, 3), none, none, some (.ifCond .ne 8, 3), none, none, some (.aload_n 0, 1), some (.iconst 2, 1), some (.invokevirtual 138, 3), none, none, some (.aload_n 0, 1), some (.getfield 24, 3), none, none, some (.bipush 30, 2)],
  [none, some (.iload_n 1, 1), some (.iadd, 1), some (.aload_n 0, 1), some (.iconst 0, 1), some (.aload_n 0, 1), some (.getfield 24, 3), none, none, some (.iconst 1, 1), some (.iaload, 1), some (.iconst 1, 1), some (.isub, 1), some (.invokevirtual 182, 3), none, none],
  [some (.iastore, 1), some (.aload_n 0, 1), some (.getfield 24, 3), none, none, some (.bipush 9, 2), none, some (.iload_n 1, 1), some (.iadd, 1), some (.aload_n 0, 1), some (.getfield 24, 3), none, none, some (.bipush 30, 2), none, some (.iload_n 1, 1)],
  [some (.iadd, 1), some (.iaload, 1), some (.iastore, 1), some (.aload_n 0, 1), some (.getfield 126, 3), none, none, some (.ifCond .ne 14, 3), none, none, some (.aload_n 0, 1), some (.iload_n 1, 1), some (.invokevirtual 186, 3), none, none, some (.ifCond .eq 6, 3)],
  [none, none, some (.goto (-15), 3), none, none, some (.aload_n 0, 1), some (.getfield 126, 3), none, none, some (.ifCond .ne 13, 3), none, none, some (.aload_n 0, 1), some (.getfield 24, 3), none, none],
  [some (.iconst 2, 1), some (.dup2, 1), some (.iaload, 1), some (.iconst 1, 1), some (.iadd, 1), some (.iastore, 1), some (.return_, 1)]]
/-- MindPostModel.readCares -/
def cd194 : List (List (Option (ClassFile.Instr × Nat))) := [[some (.aload_n 0, 1), some (.invokevirtual 135, 3), none, none, some (.aload_n 0, 1), some (.iconst 0, 1), some (.aload_n 0, 1), some (.getfield 24, 3), none, none, some (.iconst 2, 1), some (.iaload, 1), some (.iconst 1, 1), some (.isub, 1), some (.invokevirtual 182, 3), none],
  [none, some (.istore_n 1, 1), some (.aload_n 0, 1), some (.bipush 8, 2), none, some (.invokevirtual 161, 3), none, none, some (.ifCond .ne 8, 3), none, none, some (.aload_n 0, 1), some (.iconst 2, 1), some (.invokevirtual 138, 3), none, none],
  [some (.aload_n 0, 1), some (.bipush 24, 2), none, some (.invokevirtual 132, 3), none, none, some (.ifCond .eq 16, 3), none, none, some (.aload_n 0, 1), some (.getfield 121, 3), none, none, some (.iload_n 1, 1), some (.if_icmp .ne 8, 3), none],
  [none, some (.aload_n 0, 1), some (.iconst 3, 1), some (.invokevirtual 138, 3), none, none, some (.aload_n 0, 1), some (.iconst 0, 1), some (.aload_n 0, 1), some (.getfield 24, 3), none, none, some (.iconst 2, 1), some (.iaload, 1), some (.iconst 1, 1), some (.isub, 1)],
  [some (.invokevirtual 182, 3), none, none, some (.istore_n 2, 1), some (.aload_n 0, 1), some (.iconst 0, 1), some (.bipush 9, 2), none, some (.invokevirtual 182, 3), none, none, some (.istore_n 3, 1), some (.aload_n 0, 1), some (.getfield 126, 3), none, none],
  [some (.ifCond .ne 18, 3), none, none, some (.aload_n 0, 1), some (.getfield 24, 3), none, none, some (.bipush 42, 2), none, some (.bipush 6, 2), none, some (.iload_n 1, 1), some (.imul, 1), some (.iadd, 1), some (.iload_n 2, 1), some (.iadd, 1)],
  [some (.iload_n 3, 1), some (.iastore, 1), some (.return_, 1)]]
/-- MindPostModel.readLaw -/
def cd195 : List (List (Option (ClassFile.Instr × Nat))) := [[some (.aload_n 0, 1), some (.invokevirtual 135, 3), none, none, some (.aload_n 0, 1), some (.bipush 31, 2), none, some (.invokevirtual 161, 3), none, none, some (.ifCond .ne 8, 3), none, none, some (.aload_n 0, 1), some (.iconst 2, 1), some (.invokevirtual 138, 3)],
  [none, none, some (.aload_n 0, 1), some (.getfield 24, 3), none, none, some (.sipush 853, 3), none, none, some (.iaload, 1), some (.istore_n 2, 1), some (.aload_n 0, 1), some (.iload_n 1, 1), some (.putfield 146, 3), none, none],
  [some (.aload_n 0, 1), some (.iconst 0, 1), some (.invokevirtual 158, 3), none, none, some (.aload_n 0, 1), some (.getfield 126, 3), none, none, some (.ifCond .eq 4, 3), none, none, some (.return_, 1), some (.aload_n 0, 1), some (.getfield 24, 3), none],
  [none, some (.iconst 3, 1), some (.iload_n 1, 1), some (.iadd, 1), some (.iconst 1, 1), some (.iastore, 1), some (.aload_n 0, 1), some (.getfield 24, 3), none, none, some (.iconst 5, 1), some (.iload_n 1, 1), some (.iadd, 1), some (.iload_n 2, 1), some (.iastore, 1), some (.aload_n 0, 1)],
  [some (.getfield 24, 3), none, none, some (.bipush 7, 2), none, some (.iload_n 1, 1), some (.iadd, 1), some (.aload_n 0, 1), some (.getfield 24, 3), none, none, some (.sipush 853, 3), none, none, some (.iaload, 1), some (.iload_n 2, 1)],
  [some (.isub, 1), some (.iastore, 1), some (.return_, 1)]]
/-- MindPostModel.readLine -/
def cd196 : List (List (Option (ClassFile.Instr × Nat))) := [[some (.aload_n 0, 1), some (.getfield 126, 3), none, none, some (.ifCond .eq 4, 3), none, none, some (.return_, 1), some (.aload_n 0, 1), some (.iconst 1, 1), some (.invokevirtual 132, 3), none, none, some (.ifCond .eq 10, 3), none, none],
  [some (.aload_n 0, 1), some (.invokevirtual 189, 3), none, none, some (.goto 83, 3), none, none, some (.aload_n 0, 1), some (.bipush 7, 2), none, some (.invokevirtual 132, 3), none, none, some (.ifCond .eq 10, 3), none, none],
  [some (.aload_n 0, 1), some (.invokevirtual 192, 3), none, none, some (.goto 67, 3), none, none, some (.aload_n 0, 1), some (.bipush 9, 2), none, some (.invokevirtual 132, 3), none, none, some (.ifCond .ne 12, 3), none, none],
  [some (.aload_n 0, 1), some (.bipush 10, 2), none, some (.invokevirtual 132, 3), none, none, some (.ifCond .eq 17, 3), none, none, some (.aload_n 0, 1), some (.aload_n 0, 1), some (.getfield 108, 3), none, none, some (.bipush 9, 2), none],
  [some (.isub, 1), some (.invokevirtual 195, 3), none, none, some (.goto 35, 3), none, none, some (.aload_n 0, 1), some (.bipush 11, 2), none, some (.invokevirtual 161, 3), none, none, some (.ifCond .eq 21, 3), none, none],
  [some (.aload_n 0, 1), some (.getfield 24, 3), none, none, some (.bipush 27, 2), none, some (.aload_n 0, 1), some (.iconst 0, 1), some (.sipush 999, 3), none, none, some (.invokevirtual 182, 3), none, none, some (.iastore, 1), some (.goto 8, 3)],
  [none, none, some (.aload_n 0, 1), some (.iconst 2, 1), some (.invokevirtual 138, 3), none, none, some (.return_, 1)]]
/-- MindPostModel.ends1 -/
def cd197 : List (List (Option (ClassFile.Instr × Nat))) := [[some (.aload_n 0, 1), some (.bipush 30, 2), none, some (.invokevirtual 161, 3), none, none, some (.ifCond .ne 8, 3), none, none, some (.aload_n 0, 1), some (.iconst 2, 1), some (.invokevirtual 138, 3), none, none, some (.aload_n 0, 1), some (.getfield 24, 3)],
  [none, none, some (.iconst 0, 1), some (.dup2, 1), some (.iaload, 1), some (.iconst 1, 1), some (.iadd, 1), some (.iastore, 1), some (.return_, 1)]]
/-- MindPostModel.post -/
def cd198 : List (List (Option (ClassFile.Instr × Nat))) := [[some (.aload_n 0, 1), some (.iconst 0, 1), some (.putfield 1, 3), none, none, some (.iload_n 1, 1), some (.i2l, 1), some (.lconst 0, 1), some (.aload_n 0, 1), some (.getfield 80, 3), none, none, some (.i2l, 1), some (.invokestatic 142, 3), none, none],
  [some (.ifCond .ne 6, 3), none, none, some (.bipush (-3), 2), none, some (.ireturn, 1), some (.aload_n 0, 1), some (.iload_n 1, 1), some (.putfield 83, 3), none, none, some (.aload_n 0, 1), some (.iconst 0, 1), some (.putfield 80, 3), none, none],
  [some (.aload_n 0, 1), some (.iconst 0, 1), some (.putfield 101, 3), none, none, some (.aload_n 0, 1), some (.iconst 0, 1), some (.putfield 126, 3), none, none, some (.aload_n 0, 1), some (.getfield 24, 3), none, none, some (.invokestatic 76, 3), none],
  [none, some (.aload_n 0, 1), some (.invokevirtual 135, 3), none, none, some (.aload_n 0, 1), some (.iconst 0, 1), some (.invokevirtual 161, 3), none, none, some (.ifCond .ne 8, 3), none, none, some (.aload_n 0, 1), some (.iconst 2, 1), some (.invokevirtual 138, 3)],
  [none, none, some (.aload_n 0, 1), some (.getfield 24, 3), none, none, some (.iconst 1, 1), some (.aload_n 0, 1), some (.iconst 2, 1), some (.bipush 6, 2), none, some (.invokevirtual 182, 3), none, none, some (.iastore, 1), some (.aload_n 0, 1)],
  [some (.invokevirtual 198, 3), none, none, some (.aload_n 0, 1), some (.getfield 126, 3), none, none, some (.ifCond .ne 23, 3), none, none, some (.aload_n 0, 1), some (.getfield 108, 3), none, none, some (.bipush 25, 2), none],
  [some (.if_icmp .eq 14, 3), none, none, some (.aload_n 0, 1), some (.invokevirtual 201, 3), none, none, some (.aload_n 0, 1), some (.invokevirtual 198, 3), none, none, some (.goto (-24), 3), none, none, some (.aload_n 0, 1), some (.aload_n 0, 1)],
  [some (.getfield 126, 3), none, none, some (.putfield 204, 3), none, none, some (.aload_n 0, 1), some (.aload_n 0, 1), some (.getfield 126, 3), none, none, some (.ifCond .ne 7, 3), none, none, some (.iconst (-1), 1), some (.goto 7, 3)],
  [none, none, some (.aload_n 0, 1), some (.getfield 129, 3), none, none, some (.putfield 27, 3), none, none, some (.aload_n 0, 1), some (.getfield 126, 3), none, none, some (.ifCond .eq 11, 3), none, none],
  [some (.bipush (-30), 2), none, some (.aload_n 0, 1), some (.getfield 126, 3), none, none, some (.isub, 1), some (.ireturn, 1), some (.iconst 0, 1), some (.istore_n 2, 1), some (.iload_n 2, 1), some (.sipush 1754, 3), none, none, some (.if_icmp .ge 21, 3), none],
  [none, some (.aload_n 0, 1), some (.getfield 13, 3), none, none, some (.iload_n 2, 1), some (.aload_n 0, 1), some (.getfield 24, 3), none, none, some (.iload_n 2, 1), some (.iaload, 1), some (.iastore, 1), some (.iinc 2 1, 3), none, none],
  [some (.goto (-22), 3), none, none, some (.aload_n 0, 1), some (.getfield 13, 3), none, none, some (.iconst 0, 1), some (.iaload, 1), some (.ireturn, 1)]]
/-- MindPostModel.fault -/
def cd199 : List (List (Option (ClassFile.Instr × Nat))) := [[some (.aload_n 0, 1), some (.iconst 0, 1), some (.putfield 1, 3), none, none, some (.iload_n 1, 1), some (.ifCond .ne 10, 3), none, none, some (.aload_n 0, 1), some (.getfield 204, 3), none, none, some (.goto 16, 3), none, none],
  [some (.iload_n 1, 1), some (.iconst 1, 1), some (.if_icmp .ne 10, 3), none, none, some (.aload_n 0, 1), some (.getfield 27, 3), none, none, some (.goto 4, 3), none, none, some (.iconst (-1), 1), some (.ireturn, 1)]]
/-- MindPostModel.isPlace -/
def cd200 : List (List (Option (ClassFile.Instr × Nat))) := [[some (.lload_n 1, 1), some (.lconst 0, 1), some (.aload_n 0, 1), some (.getfield 13, 3), none, none, some (.iconst 1, 1), some (.iaload, 1), some (.iconst 1, 1), some (.isub, 1), some (.i2l, 1), some (.invokestatic 142, 3), none, none, some (.ireturn, 1)]]
/-- MindPostModel.isPerson -/
def cd201 : List (List (Option (ClassFile.Instr × Nat))) := [[some (.lload_n 1, 1), some (.lconst 0, 1), some (.aload_n 0, 1), some (.getfield 13, 3), none, none, some (.iconst 2, 1), some (.iaload, 1), some (.iconst 1, 1), some (.isub, 1), some (.i2l, 1), some (.invokestatic 142, 3), none, none, some (.ireturn, 1)]]
/-- MindPostModel.areTwo -/
def cd202 : List (List (Option (ClassFile.Instr × Nat))) := [[some (.aload_n 0, 1), some (.lload_n 1, 1), some (.invokevirtual 207, 3), none, none, some (.ifCond .eq 21, 3), none, none, some (.aload_n 0, 1), some (.lload_n 3, 1), some (.invokevirtual 207, 3), none, none, some (.ifCond .eq 13, 3), none, none],
  [some (.lload_n 1, 1), some (.lload_n 3, 1), some (.lcmp, 1), some (.ifCond .eq 7, 3), none, none, some (.iconst 1, 1), some (.goto 4, 3), none, none, some (.iconst 0, 1), some (.ireturn, 1)]]
/-- MindPostModel.bitsOf -/
def cd203 : List (List (Option (ClassFile.Instr × Nat))) := [[some (.iconst 0, 1), some (.istore_n 1, 1), some (.iconst 0, 1), some (.istore_n 2, 1), some (.iload_n 2, 1), some (.bipush 10, 2), none, some (.if_icmp .ge 17, 3), none, none, some (.iload_n 1, 1), some (.iload_n 0, 1), some (.iload_n 2, 1), some (.ishr, 1), some (.iconst 1, 1), some (.iand, 1)],
  [some (.iadd, 1), some (.istore_n 1, 1), some (.iinc 2 1, 3), none, none, some (.goto (-17), 3), none, none, some (.iload_n 1, 1), some (.ireturn, 1)]]
/-- MindPostModel.caresOf -/
def cd204 : List (List (Option (ClassFile.Instr × Nat))) := [[some (.aload_n 0, 1), some (.getfield 13, 3), none, none, some (.bipush 42, 2), none, some (.bipush 6, 2), none, some (.iload_n 1, 1), some (.imul, 1), some (.iadd, 1), some (.iload_n 2, 1), some (.iadd, 1), some (.iaload, 1), some (.ireturn, 1)]]
/-- MindPostModel.between -/
def cd205 : List (List (Option (ClassFile.Instr × Nat))) := [[some (.iload_n 0, 1), some (.tableswitch 80 3003 3008 #[39, 50, 61, 80, 72, 76], 39), none, none, none, none, none, none, none, none, none, none, none, none, none, none],
  [none, none, none, none, none, none, none, none, none, none, none, none, none, none, none, none],
  [none, none, none, none, none, none, none, none, some (.iload_n 1, 1), some (.iload_n 2, 1), some (.if_icmp .ne 7, 3), none, none, some (.iconst 1, 1), some (.goto 4, 3), none],
  [none, some (.iconst 0, 1), some (.ireturn, 1), some (.iload_n 1, 1), some (.iload_n 2, 1), some (.if_icmp .ge 7, 3), none, none, some (.iconst 1, 1), some (.goto 4, 3), none, none, some (.iconst 0, 1), some (.ireturn, 1), some (.iload_n 1, 1), some (.iload_n 2, 1)],
  [some (.if_icmp .le 7, 3), none, none, some (.iconst 1, 1), some (.goto 4, 3), none, none, some (.iconst 0, 1), some (.ireturn, 1), some (.iload_n 1, 1), some (.iload_n 2, 1), some (.iand, 1), some (.ireturn, 1), some (.iload_n 1, 1), some (.iload_n 2, 1), some (.ior, 1)],
  [some (.ireturn, 1), some (.iload_n 0, 1), some (.sipush 3000, 3), none, none, some (.if_icmp .ne 11, 3), none, none, some (.iload_n 1, 1), some (.i2l, 1), some (.iload_n 2, 1), some (.i2l, 1), some (.ladd, 1), some (.goto 23, 3), none, none],
  [some (.iload_n 0, 1), some (.sipush 3001, 3), none, none, some (.if_icmp .ne 11, 3), none, none, some (.iload_n 1, 1), some (.i2l, 1), some (.iload_n 2, 1), some (.i2l, 1), some (.lsub, 1), some (.goto 8, 3), none, none, some (.iload_n 1, 1)],
  [some (.i2l, 1), some (.iload_n 2, 1), some (.i2l, 1), some (.lmul, 1), some (.lstore_n 3, 1), some (.lload_n 3, 1), some (.ldc2_w 211, 3), none, none, some (.lcmp, 1), some (.ifCond .le 9, 3), none, none, some (.ldc2_w 211, 3), none, none],
  [some (.goto 18, 3), none, none, some (.lload_n 3, 1), some (.ldc2_w 213, 3), none, none, some (.lcmp, 1), some (.ifCond .ge 9, 3), none, none, some (.ldc2_w 213, 3), none, none, some (.goto 4, 3), none],
  [none, some (.lload_n 3, 1), some (.l2i, 1), some (.ireturn, 1)]]
/-- MindPostModel.reckons -/
def cd206 : List (List (Option (ClassFile.Instr × Nat))) := [[some (.aload_n 0, 1), some (.getfield 33, 3), none, none, some (.iconst 0, 1), some (.iload_n 2, 1), some (.iastore, 1), some (.aload_n 0, 1), some (.getfield 33, 3), none, none, some (.iconst 1, 1), some (.iload_n 3, 1), some (.iastore, 1), some (.aload_n 0, 1), some (.getfield 33, 3)],
  [none, none, some (.iconst 2, 1), some (.aload_n 0, 1), some (.getfield 13, 3), none, none, some (.bipush 36, 2), none, some (.iload_n 2, 1), some (.iadd, 1), some (.iaload, 1), some (.iastore, 1), some (.aload_n 0, 1), some (.getfield 33, 3), none],
  [none, some (.iconst 3, 1), some (.aload_n 0, 1), some (.getfield 13, 3), none, none, some (.bipush 15, 2), none, some (.iload_n 2, 1), some (.iadd, 1), some (.iaload, 1), some (.aload_n 0, 1), some (.getfield 13, 3), none, none, some (.bipush 15, 2)],
  [none, some (.iload_n 3, 1), some (.iadd, 1), some (.iaload, 1), some (.if_icmp .ne 7, 3), none, none, some (.iconst 1, 1), some (.goto 4, 3), none, none, some (.iconst 0, 1), some (.iastore, 1), some (.aload_n 0, 1), some (.getfield 33, 3), none],
  [none, some (.iconst 4, 1), some (.aload_n 0, 1), some (.iload_n 2, 1), some (.iload_n 3, 1), some (.invokevirtual 215, 3), none, none, some (.iastore, 1), some (.aload_n 0, 1), some (.getfield 33, 3), none, none, some (.iconst 5, 1), some (.aload_n 0, 1), some (.getfield 13, 3)],
  [none, none, some (.bipush 30, 2), none, some (.iload_n 2, 1), some (.iadd, 1), some (.iaload, 1), some (.iastore, 1), some (.aload_n 0, 1), some (.getfield 33, 3), none, none, some (.bipush 6, 2), none, some (.aload_n 0, 1), some (.getfield 13, 3)],
  [none, none, some (.bipush 9, 2), none, some (.iload_n 3, 1), some (.iadd, 1), some (.iaload, 1), some (.iastore, 1), some (.aload_n 0, 1), some (.getfield 33, 3), none, none, some (.bipush 7, 2), none, some (.aload_n 0, 1), some (.getfield 13, 3)],
  [none, none, some (.bipush 9, 2), none, some (.iload_n 2, 1), some (.iadd, 1), some (.iaload, 1), some (.iastore, 1), some (.iconst 0, 1), some (.istore 4, 2), none, some (.iconst 0, 1), some (.istore 5, 2), none, some (.iload 5, 2), none],
  [some (.aload_n 0, 1), some (.getfield 13, 3), none, none, some (.bipush 7, 2), none, some (.iload_n 1, 1), some (.iadd, 1), some (.iaload, 1), some (.if_icmp .ge 195, 3), none, none, some (.aload_n 0, 1), some (.getfield 13, 3), none, none],
  [some (.sipush 854, 3), none, none, some (.aload_n 0, 1), some (.getfield 13, 3), none, none, some (.iconst 5, 1), some (.iload_n 1, 1), some (.iadd, 1), some (.iaload, 1), some (.iadd, 1), some (.iload 5, 2), none, some (.iadd, 1), some (.iaload, 1)],
  [some (.istore 6, 2), none, some (.iload 6, 2), none, some (.sipush 3000, 3), none, none, some (.if_icmp .ge 40, 3), none, none, some (.aload_n 0, 1), some (.getfield 30, 3), none, none, some (.iload 4, 2), none],
  [some (.iload 6, 2), none, some (.sipush 1000, 3), none, none, some (.if_icmp .ge 8, 3), none, none, some (.iload 6, 2), none, some (.goto 14, 3), none, none, some (.aload_n 0, 1), some (.getfield 33, 3), none],
  [none, some (.iload 6, 2), none, some (.sipush 1000, 3), none, none, some (.isub, 1), some (.iaload, 1), some (.iastore, 1), some (.iinc 4 1, 3), none, none, some (.goto 122, 3), none, none, some (.iload 6, 2)],
  [none, some (.sipush 3006, 3), none, none, some (.if_icmp .ne 26, 3), none, none, some (.aload_n 0, 1), some (.getfield 30, 3), none, none, some (.iload 4, 2), none, some (.iconst 1, 1), some (.isub, 1), some (.iconst 1, 1)],
  [some (.aload_n 0, 1), some (.getfield 30, 3), none, none, some (.iload 4, 2), none, some (.iconst 1, 1), some (.isub, 1), some (.iaload, 1), some (.isub, 1), some (.iastore, 1), some (.goto 91, 3), none, none, some (.iload 6, 2), none],
  [some (.sipush 3009, 3), none, none, some (.if_icmp .ne 50, 3), none, none, some (.iinc 4 (-2), 3), none, none, some (.aload_n 0, 1), some (.getfield 30, 3), none, none, some (.iload 4, 2), none, some (.iconst 1, 1)],
  [some (.isub, 1), some (.aload_n 0, 1), some (.getfield 30, 3), none, none, some (.iload 4, 2), none, some (.iconst 1, 1), some (.isub, 1), some (.iaload, 1), some (.iconst 1, 1), some (.if_icmp .ne 13, 3), none, none, some (.aload_n 0, 1), some (.getfield 30, 3)],
  [none, none, some (.iload 4, 2), none, some (.iaload, 1), some (.goto 12, 3), none, none, some (.aload_n 0, 1), some (.getfield 30, 3), none, none, some (.iload 4, 2), none, some (.iconst 1, 1), some (.iadd, 1)],
  [some (.iaload, 1), some (.iastore, 1), some (.goto 36, 3), none, none, some (.iinc 4 (-1), 3), none, none, some (.aload_n 0, 1), some (.getfield 30, 3), none, none, some (.iload 4, 2), none, some (.iconst 1, 1), some (.isub, 1)],
  [some (.iload 6, 2), none, some (.aload_n 0, 1), some (.getfield 30, 3), none, none, some (.iload 4, 2), none, some (.iconst 1, 1), some (.isub, 1), some (.iaload, 1), some (.aload_n 0, 1), some (.getfield 30, 3), none, none, some (.iload 4, 2)],
  [none, some (.iaload, 1), some (.invokestatic 218, 3), none, none, some (.iastore, 1), some (.iinc 5 1, 3), none, none, some (.goto (-203), 3), none, none, some (.aload_n 0, 1), some (.getfield 30, 3), none, none],
  [some (.iconst 0, 1), some (.iaload, 1), some (.ireturn, 1)]]
/-- MindPostModel.mindsOf -/
def cd207 : List (List (Option (ClassFile.Instr × Nat))) := [[some (.aload_n 0, 1), some (.getfield 13, 3), none, none, some (.iconst 3, 1), some (.iaload, 1), some (.ifCond .ne 12, 3), none, none, some (.aload_n 0, 1), some (.iload_n 1, 1), some (.iload_n 2, 1), some (.invokevirtual 215, 3), none, none, some (.goto 10, 3)],
  [none, none, some (.aload_n 0, 1), some (.iconst 0, 1), some (.iload_n 1, 1), some (.iload_n 2, 1), some (.invokevirtual 222, 3), none, none, some (.ireturn, 1)]]
/-- MindPostModel.wouldOf -/
def cd208 : List (List (Option (ClassFile.Instr × Nat))) := [[some (.aload_n 0, 1), some (.getfield 13, 3), none, none, some (.iconst 4, 1), some (.iaload, 1), some (.ifCond .ne 15, 3), none, none, some (.aload_n 0, 1), some (.getfield 13, 3), none, none, some (.bipush 9, 2), none, some (.iload_n 2, 1)],
  [some (.iadd, 1), some (.iaload, 1), some (.goto 17, 3), none, none, some (.aload_n 0, 1), some (.iconst 1, 1), some (.iload_n 1, 1), some (.iload_n 2, 1), some (.invokevirtual 222, 3), none, none, some (.aload_n 0, 1), some (.getfield 13, 3), none, none],
  [some (.iconst 1, 1), some (.iaload, 1), some (.irem, 1), some (.istore_n 3, 1), some (.iload_n 3, 1), some (.ifCond .ge 14, 3), none, none, some (.iload_n 3, 1), some (.aload_n 0, 1), some (.getfield 13, 3), none, none, some (.iconst 1, 1), some (.iaload, 1), some (.iadd, 1)],
  [some (.goto 4, 3), none, none, some (.iload_n 3, 1), some (.ireturn, 1)]]
/-- MindPostModel.sender -/
def cd209 : List (List (Option (ClassFile.Instr × Nat))) := [[some (.iconst (-1), 1), some (.istore 4, 2), none, some (.iconst 0, 1), some (.istore 5, 2), none, some (.iconst 0, 1), some (.istore 6, 2), none, some (.iload 6, 2), none, some (.aload_n 0, 1), some (.getfield 13, 3), none, none, some (.iconst 2, 1)],
  [some (.iaload, 1), some (.if_icmp .ge 74, 3), none, none, some (.iload 6, 2), none, some (.iload_n 1, 1), some (.if_icmp .eq 62, 3), none, none, some (.iload 6, 2), none, some (.iload_n 3, 1), some (.if_icmp .eq 56, 3), none, none],
  [some (.iload 6, 2), none, some (.aload_n 0, 1), some (.getfield 36, 3), none, none, some (.if_icmp .eq 47, 3), none, none, some (.aload_n 0, 1), some (.getfield 13, 3), none, none, some (.bipush 30, 2), none, some (.iload 6, 2)],
  [none, some (.iadd, 1), some (.iaload, 1), some (.iload_n 2, 1), some (.if_icmp .eq 6, 3), none, none, some (.goto 30, 3), none, none, some (.aload_n 0, 1), some (.iload 6, 2), none, some (.iload_n 1, 1), some (.invokevirtual 225, 3), none],
  [none, some (.istore 7, 2), none, some (.iload 7, 2), none, some (.iload 5, 2), none, some (.if_icmp .gt 6, 3), none, none, some (.goto 11, 3), none, none, some (.iload 6, 2), none, some (.istore 4, 2)],
  [none, some (.iload 7, 2), none, some (.istore 5, 2), none, some (.iinc 6 1, 3), none, none, some (.goto (-79), 3), none, none, some (.iload 4, 2), none, some (.ireturn, 1)]]
/-- MindPostModel.nextOf -/
def cd210 : List (List (Option (ClassFile.Instr × Nat))) := [[some (.iload_n 2, 1), some (.aload_n 0, 1), some (.getfield 13, 3), none, none, some (.bipush 30, 2), none, some (.iload_n 1, 1), some (.iadd, 1), some (.iaload, 1), some (.if_icmp .ne 7, 3), none, none, some (.iconst (-1), 1), some (.goto 10, 3), none],
  [none, some (.aload_n 0, 1), some (.iload_n 1, 1), some (.iload_n 2, 1), some (.iconst (-1), 1), some (.invokevirtual 228, 3), none, none, some (.istore_n 3, 1), some (.iload_n 3, 1), some (.iconst (-1), 1), some (.if_icmp .ne 7, 3), none, none, some (.iload_n 2, 1), some (.goto 9, 3)],
  [none, none, some (.aload_n 0, 1), some (.iload_n 3, 1), some (.iload_n 1, 1), some (.invokevirtual 231, 3), none, none, some (.ireturn, 1)]]
/-- MindPostModel.isGiven -/
def cd211 : List (List (Option (ClassFile.Instr × Nat))) := [[some (.aload_n 0, 1), some (.getfield 13, 3), none, none, some (.bipush 29, 2), none, some (.iaload, 1), some (.i2l, 1), some (.iload_n 1, 1), some (.invokestatic 234, 3), none, none, some (.ireturn, 1)]]
/-- MindPostModel.person -/
def cd212 : List (List (Option (ClassFile.Instr × Nat))) := [[some (.aload_n 0, 1), some (.iconst 0, 1), some (.putfield 1, 3), none, none, some (.aload_n 0, 1), some (.iload_n 1, 1), some (.i2l, 1), some (.invokevirtual 207, 3), none, none, some (.ifCond .ne 6, 3), none, none, some (.bipush (-2), 2), none],
  [some (.ireturn, 1), some (.iload_n 2, 1), some (.tableswitch 94 0 5 #[38, 48, 58, 68, 78, 88], 38), none, none, none, none, none, none, none, none, none, none, none, none, none],
  [none, none, none, none, none, none, none, none, none, none, none, none, none, none, none, none],
  [none, none, none, none, none, none, none, none, some (.aload_n 0, 1), some (.getfield 13, 3), none, none, some (.bipush 30, 2), none, some (.iload_n 1, 1), some (.iadd, 1)],
  [some (.iaload, 1), some (.ireturn, 1), some (.aload_n 0, 1), some (.getfield 13, 3), none, none, some (.bipush 9, 2), none, some (.iload_n 1, 1), some (.iadd, 1), some (.iaload, 1), some (.ireturn, 1), some (.aload_n 0, 1), some (.getfield 13, 3), none, none],
  [some (.bipush 15, 2), none, some (.iload_n 1, 1), some (.iadd, 1), some (.iaload, 1), some (.ireturn, 1), some (.aload_n 0, 1), some (.getfield 13, 3), none, none, some (.bipush 36, 2), none, some (.iload_n 1, 1), some (.iadd, 1), some (.iaload, 1), some (.ireturn, 1)],
  [some (.aload_n 0, 1), some (.getfield 13, 3), none, none, some (.bipush 21, 2), none, some (.iload_n 1, 1), some (.iadd, 1), some (.iaload, 1), some (.ireturn, 1), some (.aload_n 0, 1), some (.iload_n 1, 1), some (.invokevirtual 238, 3), none, none, some (.ireturn, 1)],
  [some (.bipush (-2), 2), none, some (.ireturn, 1)]]
/-- MindPostModel.lettersTo -/
def cd213 : List (List (Option (ClassFile.Instr × Nat))) := [[some (.iconst 0, 1), some (.istore_n 2, 1), some (.iconst 0, 1), some (.istore_n 3, 1), some (.iload_n 3, 1), some (.aload_n 0, 1), some (.getfield 13, 3), none, none, some (.bipush 28, 2), none, some (.iaload, 1), some (.if_icmp .ge 32, 3), none, none, some (.iload_n 2, 1)],
  [some (.aload_n 0, 1), some (.getfield 13, 3), none, none, some (.bipush 84, 2), none, some (.iload_n 3, 1), some (.iadd, 1), some (.iaload, 1), some (.iload_n 1, 1), some (.if_icmp .ne 9, 3), none, none, some (.iconst 1, 1), some (.iload_n 3, 1), some (.ishl, 1)],
  [some (.goto 4, 3), none, none, some (.iconst 0, 1), some (.ior, 1), some (.istore_n 2, 1), some (.iinc 3 1, 3), none, none, some (.goto (-37), 3), none, none, some (.iload_n 2, 1), some (.ireturn, 1)]]
/-- MindPostModel.cares -/
def cd214 : List (List (Option (ClassFile.Instr × Nat))) := [[some (.aload_n 0, 1), some (.iconst 0, 1), some (.putfield 1, 3), none, none, some (.aload_n 0, 1), some (.iload_n 1, 1), some (.i2l, 1), some (.invokevirtual 207, 3), none, none, some (.ifCond .eq 21, 3), none, none, some (.aload_n 0, 1), some (.iload_n 2, 1)],
  [some (.i2l, 1), some (.invokevirtual 207, 3), none, none, some (.ifCond .eq 12, 3), none, none, some (.aload_n 0, 1), some (.iload_n 1, 1), some (.iload_n 2, 1), some (.invokevirtual 215, 3), none, none, some (.goto 5, 3), none, none],
  [some (.bipush (-2), 2), none, some (.ireturn, 1)]]
/-- MindPostModel.minds -/
def cd215 : List (List (Option (ClassFile.Instr × Nat))) := [[some (.aload_n 0, 1), some (.iconst 0, 1), some (.putfield 1, 3), none, none, some (.aload_n 0, 1), some (.iload_n 1, 1), some (.i2l, 1), some (.iload_n 2, 1), some (.i2l, 1), some (.invokevirtual 241, 3), none, none, some (.ifCond .eq 12, 3), none, none],
  [some (.aload_n 0, 1), some (.iload_n 1, 1), some (.iload_n 2, 1), some (.invokevirtual 225, 3), none, none, some (.goto 5, 3), none, none, some (.ldc 245, 2), none, some (.ireturn, 1)]]
/-- MindPostModel.would -/
def cd216 : List (List (Option (ClassFile.Instr × Nat))) := [[some (.aload_n 0, 1), some (.iconst 0, 1), some (.putfield 1, 3), none, none, some (.aload_n 0, 1), some (.iload_n 1, 1), some (.i2l, 1), some (.iload_n 2, 1), some (.i2l, 1), some (.invokevirtual 241, 3), none, none, some (.ifCond .eq 12, 3), none, none],
  [some (.aload_n 0, 1), some (.iload_n 1, 1), some (.iload_n 2, 1), some (.invokevirtual 231, 3), none, none, some (.goto 5, 3), none, none, some (.bipush (-2), 2), none, some (.ireturn, 1)]]
/-- MindPostModel.letter -/
def cd217 : List (List (Option (ClassFile.Instr × Nat))) := [[some (.aload_n 0, 1), some (.iconst 0, 1), some (.putfield 1, 3), none, none, some (.iload_n 1, 1), some (.i2l, 1), some (.lconst 0, 1), some (.aload_n 0, 1), some (.getfield 13, 3), none, none, some (.bipush 28, 2), none, some (.iaload, 1), some (.iconst 1, 1)],
  [some (.isub, 1), some (.i2l, 1), some (.invokestatic 142, 3), none, none, some (.ifCond .ne 6, 3), none, none, some (.bipush (-2), 2), none, some (.ireturn, 1), some (.iload_n 2, 1), some (.tableswitch 144 0 4 #[36, 46, 56, 70, 108], 36), none, none, none],
  [none, none, none, none, none, none, none, none, none, none, none, none, none, none, none, none],
  [none, none, none, none, none, none, none, none, none, none, none, none, none, none, none, none],
  [some (.aload_n 0, 1), some (.getfield 13, 3), none, none, some (.bipush 78, 2), none, some (.iload_n 1, 1), some (.iadd, 1), some (.iaload, 1), some (.ireturn, 1), some (.aload_n 0, 1), some (.getfield 13, 3), none, none, some (.bipush 84, 2), none],
  [some (.iload_n 1, 1), some (.iadd, 1), some (.iaload, 1), some (.ireturn, 1), some (.aload_n 0, 1), some (.iload_n 1, 1), some (.invokevirtual 246, 3), none, none, some (.ifCond .eq 7, 3), none, none, some (.iconst 1, 1), some (.goto 4, 3), none, none],
  [some (.iconst 0, 1), some (.ireturn, 1), some (.aload_n 0, 1), some (.iload_n 1, 1), some (.invokevirtual 246, 3), none, none, some (.ifCond .eq 15, 3), none, none, some (.aload_n 0, 1), some (.getfield 13, 3), none, none, some (.bipush 96, 2), none],
  [some (.iload_n 1, 1), some (.iadd, 1), some (.iaload, 1), some (.goto 10, 3), none, none, some (.aload_n 0, 1), some (.getfield 13, 3), none, none, some (.bipush 27, 2), none, some (.iaload, 1), some (.aload_n 0, 1), some (.getfield 13, 3), none],
  [none, some (.bipush 90, 2), none, some (.iload_n 1, 1), some (.iadd, 1), some (.iaload, 1), some (.isub, 1), some (.ireturn, 1), some (.aload_n 0, 1), some (.iload_n 1, 1), some (.invokevirtual 246, 3), none, none, some (.ifCond .eq 7, 3), none, none],
  [some (.iconst (-1), 1), some (.goto 26, 3), none, none, some (.aload_n 0, 1), some (.aload_n 0, 1), some (.getfield 13, 3), none, none, some (.bipush 84, 2), none, some (.iload_n 1, 1), some (.iadd, 1), some (.iaload, 1), some (.aload_n 0, 1), some (.getfield 13, 3)],
  [none, none, some (.bipush 78, 2), none, some (.iload_n 1, 1), some (.iadd, 1), some (.iaload, 1), some (.iconst (-1), 1), some (.invokevirtual 228, 3), none, none, some (.ireturn, 1), some (.bipush (-2), 2), none, some (.ireturn, 1)]]
/-- MindPostModel.keeps -/
def cd218 : List (List (Option (ClassFile.Instr × Nat))) := [[some (.iconst 0, 1), some (.istore_n 1, 1), some (.iload_n 1, 1), some (.bipush 75, 2), none, some (.if_icmp .ge 24, 3), none, none, some (.aload_n 0, 1), some (.getfield 39, 3), none, none, some (.iload_n 1, 1), some (.aload_n 0, 1), some (.getfield 13, 3), none],
  [none, some (.bipush 27, 2), none, some (.iload_n 1, 1), some (.iadd, 1), some (.iaload, 1), some (.iastore, 1), some (.iinc 1 1, 3), none, none, some (.goto (-24), 3), none, none, some (.return_, 1)]]
/-- MindPostModel.isAgain -/
def cd219 : List (List (Option (ClassFile.Instr × Nat))) := [[some (.iconst 0, 1), some (.istore_n 1, 1), some (.iload_n 1, 1), some (.bipush 75, 2), none, some (.if_icmp .ge 24, 3), none, none, some (.aload_n 0, 1), some (.getfield 13, 3), none, none, some (.bipush 27, 2), none, some (.iload_n 1, 1), some (.iadd, 1)],
  [some (.aload_n 0, 1), some (.getfield 39, 3), none, none, some (.iload_n 1, 1), some (.iaload, 1), some (.iastore, 1), some (.iinc 1 1, 3), none, none, some (.goto (-24), 3), none, none, some (.return_, 1)]]
/-- MindPostModel.notes -/
def cd220 : List (List (Option (ClassFile.Instr × Nat))) := [[some (.aload_n 0, 1), some (.getfield 13, 3), none, none, some (.bipush 102, 2), none, some (.iaload, 1), some (.bipush 10, 2), none, some (.if_icmp .ne 48, 3), none, none, some (.iconst 0, 1), some (.istore_n 1, 1), some (.iload_n 1, 1), some (.sipush 675, 3)],
  [none, none, some (.if_icmp .ge 28, 3), none, none, some (.aload_n 0, 1), some (.getfield 13, 3), none, none, some (.bipush 103, 2), none, some (.iload_n 1, 1), some (.iadd, 1), some (.aload_n 0, 1), some (.getfield 13, 3), none],
  [none, some (.sipush 178, 3), none, none, some (.iload_n 1, 1), some (.iadd, 1), some (.iaload, 1), some (.iastore, 1), some (.iinc 1 1, 3), none, none, some (.goto (-29), 3), none, none, some (.aload_n 0, 1), some (.getfield 13, 3)],
  [none, none, some (.bipush 102, 2), none, some (.dup2, 1), some (.iaload, 1), some (.iconst 1, 1), some (.isub, 1), some (.iastore, 1), some (.iconst 0, 1), some (.istore_n 1, 1), some (.iload_n 1, 1), some (.bipush 75, 2), none, some (.if_icmp .ge 35, 3), none],
  [none, some (.aload_n 0, 1), some (.getfield 13, 3), none, none, some (.bipush 103, 2), none, some (.bipush 75, 2), none, some (.aload_n 0, 1), some (.getfield 13, 3), none, none, some (.bipush 102, 2), none, some (.iaload, 1)],
  [some (.imul, 1), some (.iadd, 1), some (.iload_n 1, 1), some (.iadd, 1), some (.aload_n 0, 1), some (.getfield 39, 3), none, none, some (.iload_n 1, 1), some (.iaload, 1), some (.iastore, 1), some (.iinc 1 1, 3), none, none, some (.goto (-35), 3), none],
  [none, some (.aload_n 0, 1), some (.getfield 13, 3), none, none, some (.bipush 102, 2), none, some (.dup2, 1), some (.iaload, 1), some (.iconst 1, 1), some (.iadd, 1), some (.iastore, 1), some (.return_, 1)]]
/-- MindPostModel.gives -/
def cd221 : List (List (Option (ClassFile.Instr × Nat))) := [[some (.iconst 0, 1), some (.istore_n 1, 1), some (.iconst 0, 1), some (.istore_n 2, 1), some (.iload_n 2, 1), some (.aload_n 0, 1), some (.getfield 13, 3), none, none, some (.bipush 28, 2), none, some (.iaload, 1), some (.if_icmp .ge 81, 3), none, none, some (.aload_n 0, 1)],
  [some (.iload_n 2, 1), some (.invokevirtual 246, 3), none, none, some (.ifCond .ne 67, 3), none, none, some (.aload_n 0, 1), some (.getfield 13, 3), none, none, some (.bipush 78, 2), none, some (.iload_n 2, 1), some (.iadd, 1), some (.iaload, 1)],
  [some (.aload_n 0, 1), some (.getfield 13, 3), none, none, some (.bipush 30, 2), none, some (.aload_n 0, 1), some (.getfield 13, 3), none, none, some (.bipush 84, 2), none, some (.iload_n 2, 1), some (.iadd, 1), some (.iaload, 1), some (.iadd, 1)],
  [some (.iaload, 1), some (.if_icmp .eq 6, 3), none, none, some (.goto 35, 3), none, none, some (.aload_n 0, 1), some (.getfield 13, 3), none, none, some (.bipush 29, 2), none, some (.dup2, 1), some (.iaload, 1), some (.iconst 1, 1)],
  [some (.iload_n 2, 1), some (.ishl, 1), some (.ior, 1), some (.iastore, 1), some (.aload_n 0, 1), some (.getfield 13, 3), none, none, some (.bipush 96, 2), none, some (.iload_n 2, 1), some (.iadd, 1), some (.aload_n 0, 1), some (.getfield 13, 3), none, none],
  [some (.bipush 27, 2), none, some (.iaload, 1), some (.iastore, 1), some (.iinc 1 1, 3), none, none, some (.iinc 2 1, 3), none, none, some (.goto (-86), 3), none, none, some (.iload_n 1, 1), some (.ireturn, 1)]]
/-- MindPostModel.whyMail -/
def cd222 : List (List (Option (ClassFile.Instr × Nat))) := [[some (.aload_n 0, 1), some (.lload_n 1, 1), some (.invokevirtual 207, 3), none, none, some (.ifCond .eq 11, 3), none, none, some (.aload_n 0, 1), some (.lload_n 3, 1), some (.invokevirtual 249, 3), none, none, some (.ifCond .ne 7, 3), none, none],
  [some (.iconst 1, 1), some (.goto 20, 3), none, none, some (.aload_n 0, 1), some (.getfield 13, 3), none, none, some (.bipush 28, 2), none, some (.iaload, 1), some (.bipush 6, 2), none, some (.if_icmp .ne 7, 3), none, none],
  [some (.iconst 2, 1), some (.goto 4, 3), none, none, some (.iconst 0, 1), some (.ireturn, 1)]]
/-- MindPostModel.whyMove -/
def cd223 : List (List (Option (ClassFile.Instr × Nat))) := [[some (.aload_n 0, 1), some (.lload_n 1, 1), some (.invokevirtual 207, 3), none, none, some (.ifCond .eq 11, 3), none, none, some (.aload_n 0, 1), some (.lload_n 3, 1), some (.invokevirtual 249, 3), none, none, some (.ifCond .ne 7, 3), none, none],
  [some (.iconst 1, 1), some (.goto 24, 3), none, none, some (.aload_n 0, 1), some (.getfield 13, 3), none, none, some (.bipush 30, 2), none, some (.lload_n 1, 1), some (.l2i, 1), some (.iadd, 1), some (.iaload, 1), some (.i2l, 1), some (.lload_n 3, 1)],
  [some (.lcmp, 1), some (.ifCond .ne 7, 3), none, none, some (.iconst 2, 1), some (.goto 4, 3), none, none, some (.iconst 0, 1), some (.ireturn, 1)]]
/-- MindPostModel.whyArouse -/
def cd224 : List (List (Option (ClassFile.Instr × Nat))) := [[some (.aload_n 0, 1), some (.lload_n 1, 1), some (.lload_n 3, 1), some (.invokevirtual 241, 3), none, none, some (.ifCond .ne 7, 3), none, none, some (.iconst 1, 1), some (.goto 21, 3), none, none, some (.aload_n 0, 1), some (.lload_n 1, 1), some (.l2i, 1)],
  [some (.lload_n 3, 1), some (.l2i, 1), some (.invokevirtual 215, 3), none, none, some (.bipush 9, 2), none, some (.if_icmp .ne 7, 3), none, none, some (.iconst 2, 1), some (.goto 4, 3), none, none, some (.iconst 0, 1), some (.ireturn, 1)]]
/-- MindPostModel.mails -/
def cd225 : List (List (Option (ClassFile.Instr × Nat))) := [[some (.aload_n 0, 1), some (.getfield 13, 3), none, none, some (.bipush 28, 2), none, some (.iaload, 1), some (.istore_n 3, 1), some (.aload_n 0, 1), some (.getfield 13, 3), none, none, some (.bipush 28, 2), none, some (.dup2, 1), some (.iaload, 1)],
  [some (.iconst 1, 1), some (.iadd, 1), some (.iastore, 1), some (.aload_n 0, 1), some (.getfield 13, 3), none, none, some (.bipush 78, 2), none, some (.iload_n 3, 1), some (.iadd, 1), some (.iload_n 2, 1), some (.iastore, 1), some (.aload_n 0, 1), some (.getfield 13, 3), none],
  [none, some (.bipush 84, 2), none, some (.iload_n 3, 1), some (.iadd, 1), some (.iload_n 1, 1), some (.iastore, 1), some (.aload_n 0, 1), some (.getfield 13, 3), none, none, some (.bipush 90, 2), none, some (.iload_n 3, 1), some (.iadd, 1), some (.aload_n 0, 1)],
  [some (.getfield 13, 3), none, none, some (.bipush 27, 2), none, some (.iaload, 1), some (.iastore, 1), some (.aload_n 0, 1), some (.invokevirtual 252, 3), none, none, some (.pop, 1), some (.return_, 1)]]
/-- MindPostModel.moves1 -/
def cd226 : List (List (Option (ClassFile.Instr × Nat))) := [[some (.aload_n 0, 1), some (.getfield 13, 3), none, none, some (.bipush 30, 2), none, some (.iload_n 1, 1), some (.iadd, 1), some (.iload_n 2, 1), some (.iastore, 1), some (.aload_n 0, 1), some (.invokevirtual 252, 3), none, none, some (.ireturn, 1)]]
/-- MindPostModel.goesDay -/
def cd227 : List (List (Option (ClassFile.Instr × Nat))) := [[some (.aload_n 0, 1), some (.getfield 13, 3), none, none, some (.bipush 27, 2), none, some (.dup2, 1), some (.iaload, 1), some (.iconst 1, 1), some (.iadd, 1), some (.iastore, 1), some (.iconst 0, 1), some (.istore_n 1, 1), some (.iload_n 1, 1), some (.aload_n 0, 1), some (.getfield 13, 3)],
  [none, none, some (.bipush 28, 2), none, some (.iaload, 1), some (.if_icmp .ge 48, 3), none, none, some (.aload_n 0, 1), some (.iload_n 1, 1), some (.invokevirtual 246, 3), none, none, some (.ifCond .ne 34, 3), none, none],
  [some (.aload_n 0, 1), some (.getfield 13, 3), none, none, some (.bipush 78, 2), none, some (.iload_n 1, 1), some (.iadd, 1), some (.aload_n 0, 1), some (.aload_n 0, 1), some (.getfield 13, 3), none, none, some (.bipush 84, 2), none, some (.iload_n 1, 1)],
  [some (.iadd, 1), some (.iaload, 1), some (.aload_n 0, 1), some (.getfield 13, 3), none, none, some (.bipush 78, 2), none, some (.iload_n 1, 1), some (.iadd, 1), some (.iaload, 1), some (.invokevirtual 255, 3), none, none, some (.iastore, 1), some (.iinc 1 1, 3)],
  [none, none, some (.goto (-53), 3), none, none, some (.aload_n 0, 1), some (.invokevirtual 252, 3), none, none, some (.ireturn, 1)]]
/-- MindPostModel.mail -/
def cd228 : List (List (Option (ClassFile.Instr × Nat))) := [[some (.aload_n 0, 1), some (.iconst 0, 1), some (.putfield 1, 3), none, none, some (.aload_n 0, 1), some (.iload_n 1, 1), some (.i2l, 1), some (.iload_n 2, 1), some (.i2l, 1), some (.invokevirtual 258, 3), none, none, some (.istore_n 3, 1), some (.iload_n 3, 1), some (.ifCond .eq 8, 3)],
  [none, none, some (.bipush (-10), 2), none, some (.iload_n 3, 1), some (.isub, 1), some (.ireturn, 1), some (.aload_n 0, 1), some (.invokevirtual 262, 3), none, none, some (.aload_n 0, 1), some (.iload_n 1, 1), some (.iload_n 2, 1), some (.invokevirtual 265, 3), none],
  [none, some (.aload_n 0, 1), some (.invokevirtual 269, 3), none, none, some (.aload_n 0, 1), some (.getfield 13, 3), none, none, some (.bipush 28, 2), none, some (.iaload, 1), some (.iconst 1, 1), some (.isub, 1), some (.ireturn, 1)]]
/-- MindPostModel.move -/
def cd229 : List (List (Option (ClassFile.Instr × Nat))) := [[some (.aload_n 0, 1), some (.iconst 0, 1), some (.putfield 1, 3), none, none, some (.aload_n 0, 1), some (.iload_n 1, 1), some (.i2l, 1), some (.iload_n 2, 1), some (.i2l, 1), some (.invokevirtual 272, 3), none, none, some (.istore_n 3, 1), some (.iload_n 3, 1), some (.ifCond .eq 8, 3)],
  [none, none, some (.bipush (-10), 2), none, some (.iload_n 3, 1), some (.isub, 1), some (.ireturn, 1), some (.aload_n 0, 1), some (.invokevirtual 262, 3), none, none, some (.aload_n 0, 1), some (.iload_n 1, 1), some (.iload_n 2, 1), some (.invokevirtual 275, 3), none],
  [none, some (.istore 4, 2), none, some (.aload_n 0, 1), some (.invokevirtual 269, 3), none, none, some (.iload 4, 2), none, some (.ireturn, 1)]]
/-- MindPostModel.arouse -/
def cd230 : List (List (Option (ClassFile.Instr × Nat))) := [[some (.aload_n 0, 1), some (.iconst 0, 1), some (.putfield 1, 3), none, none, some (.aload_n 0, 1), some (.iload_n 1, 1), some (.i2l, 1), some (.iload_n 2, 1), some (.i2l, 1), some (.invokevirtual 278, 3), none, none, some (.istore_n 3, 1), some (.iload_n 3, 1), some (.ifCond .eq 8, 3)],
  [none, none, some (.bipush (-10), 2), none, some (.iload_n 3, 1), some (.isub, 1), some (.ireturn, 1), some (.aload_n 0, 1), some (.invokevirtual 262, 3), none, none, some (.aload_n 0, 1), some (.getfield 13, 3), none, none, some (.bipush 42, 2)],
  [none, some (.bipush 6, 2), none, some (.iload_n 1, 1), some (.imul, 1), some (.iadd, 1), some (.iload_n 2, 1), some (.iadd, 1), some (.dup2, 1), some (.iaload, 1), some (.iconst 1, 1), some (.iadd, 1), some (.iastore, 1), some (.aload_n 0, 1), some (.invokevirtual 269, 3), none],
  [none, some (.aload_n 0, 1), some (.iload_n 1, 1), some (.iload_n 2, 1), some (.invokevirtual 215, 3), none, none, some (.ireturn, 1)]]
/-- MindPostModel.mood -/
def cd231 : List (List (Option (ClassFile.Instr × Nat))) := [[some (.aload_n 0, 1), some (.iconst 0, 1), some (.putfield 1, 3), none, none, some (.aload_n 0, 1), some (.iload_n 1, 1), some (.i2l, 1), some (.invokevirtual 207, 3), none, none, some (.ifCond .eq 15, 3), none, none, some (.iload_n 2, 1), some (.i2l, 1)],
  [some (.lconst 0, 1), some (.ldc2_w 281, 3), none, none, some (.invokestatic 142, 3), none, none, some (.ifCond .ne 6, 3), none, none, some (.bipush (-11), 2), none, some (.ireturn, 1), some (.aload_n 0, 1), some (.invokevirtual 262, 3), none],
  [none, some (.aload_n 0, 1), some (.getfield 13, 3), none, none, some (.bipush 36, 2), none, some (.iload_n 1, 1), some (.iadd, 1), some (.iload_n 2, 1), some (.iastore, 1), some (.aload_n 0, 1), some (.invokevirtual 269, 3), none, none, some (.aload_n 0, 1)],
  [some (.getfield 39, 3), none, none, some (.bipush 9, 2), none, some (.iload_n 1, 1), some (.iadd, 1), some (.iaload, 1), some (.ireturn, 1)]]
/-- MindPostModel.days -/
def cd232 : List (List (Option (ClassFile.Instr × Nat))) := [[some (.aload_n 0, 1), some (.iconst 0, 1), some (.putfield 1, 3), none, none, some (.iload_n 1, 1), some (.i2l, 1), some (.lconst 1, 1), some (.ldc2_w 283, 3), none, none, some (.invokestatic 142, 3), none, none, some (.ifCond .ne 6, 3), none],
  [none, some (.bipush (-3), 2), none, some (.ireturn, 1), some (.aload_n 0, 1), some (.invokevirtual 262, 3), none, none, some (.iconst 0, 1), some (.istore_n 2, 1), some (.iconst 0, 1), some (.istore_n 3, 1), some (.iload_n 3, 1), some (.iload_n 1, 1), some (.if_icmp .ge 16, 3), none],
  [none, some (.iload_n 2, 1), some (.aload_n 0, 1), some (.invokevirtual 285, 3), none, none, some (.iadd, 1), some (.istore_n 2, 1), some (.iinc 3 1, 3), none, none, some (.goto (-15), 3), none, none, some (.aload_n 0, 1), some (.invokevirtual 269, 3)],
  [none, none, some (.iload_n 2, 1), some (.ireturn, 1)]]
/-- MindPostModel.undo -/
def cd233 : List (List (Option (ClassFile.Instr × Nat))) := [[some (.aload_n 0, 1), some (.iconst 0, 1), some (.putfield 1, 3), none, none, some (.iload_n 1, 1), some (.i2l, 1), some (.lconst 1, 1), some (.ldc2_w 288, 3), none, none, some (.invokestatic 142, 3), none, none, some (.ifCond .eq 14, 3), none],
  [none, some (.iload_n 1, 1), some (.aload_n 0, 1), some (.getfield 13, 3), none, none, some (.bipush 102, 2), none, some (.iaload, 1), some (.if_icmp .le 6, 3), none, none, some (.bipush (-3), 2), none, some (.ireturn, 1), some (.aload_n 0, 1)],
  [some (.getfield 13, 3), none, none, some (.bipush 102, 2), none, some (.dup2, 1), some (.iaload, 1), some (.iload_n 1, 1), some (.isub, 1), some (.iastore, 1), some (.iconst 0, 1), some (.istore_n 2, 1), some (.iload_n 2, 1), some (.bipush 75, 2), none, some (.if_icmp .ge 38, 3)],
  [none, none, some (.aload_n 0, 1), some (.getfield 13, 3), none, none, some (.bipush 27, 2), none, some (.iload_n 2, 1), some (.iadd, 1), some (.aload_n 0, 1), some (.getfield 13, 3), none, none, some (.bipush 103, 2), none],
  [some (.bipush 75, 2), none, some (.aload_n 0, 1), some (.getfield 13, 3), none, none, some (.bipush 102, 2), none, some (.iaload, 1), some (.imul, 1), some (.iadd, 1), some (.iload_n 2, 1), some (.iadd, 1), some (.iaload, 1), some (.iastore, 1), some (.iinc 2 1, 3)],
  [none, none, some (.goto (-38), 3), none, none, some (.aload_n 0, 1), some (.getfield 13, 3), none, none, some (.bipush 102, 2), none, some (.iaload, 1), some (.ireturn, 1)]]
/-- MindPostModel.whyNot -/
def cd234 : List (List (Option (ClassFile.Instr × Nat))) := [[some (.lload_n 1, 1), some (.ldc2_w 290, 3), none, none, some (.lcmp, 1), some (.ifCond .ne 5, 3), none, none, some (.iconst 0, 1), some (.ireturn, 1), some (.lload_n 1, 1), some (.lconst 0, 1), some (.ldc2_w 292, 3), none, none, some (.invokestatic 142, 3)],
  [none, none, some (.ifCond .ne 5, 3), none, none, some (.iconst 1, 1), some (.ireturn, 1), some (.lload_n 1, 1), some (.ldc2_w 294, 3), none, none, some (.lrem, 1), some (.ldc2_w 288, 3), none, none, some (.ldiv, 1)],
  [some (.lstore_n 3, 1), some (.lload_n 1, 1), some (.ldc2_w 288, 3), none, none, some (.lrem, 1), some (.lstore 5, 2), none, some (.lload_n 1, 1), some (.ldc2_w 294, 3), none, none, some (.lcmp, 1), some (.ifCond .ge 11, 3), none, none],
  [some (.aload_n 0, 1), some (.lload_n 3, 1), some (.lload 5, 2), none, some (.invokevirtual 258, 3), none, none, some (.ireturn, 1), some (.lload_n 1, 1), some (.ldc2_w 296, 3), none, none, some (.lcmp, 1), some (.ifCond .ge 11, 3), none, none],
  [some (.aload_n 0, 1), some (.lload_n 3, 1), some (.lload 5, 2), none, some (.invokevirtual 272, 3), none, none, some (.ireturn, 1), some (.lload_n 1, 1), some (.ldc2_w 298, 3), none, none, some (.lcmp, 1), some (.ifCond .ge 13, 3), none, none],
  [some (.aload_n 0, 1), some (.lload_n 3, 1), some (.lload 5, 2), none, some (.invokevirtual 278, 3), none, none, some (.goto 16, 3), none, none, some (.aload_n 0, 1), some (.lload_n 3, 1), some (.invokevirtual 207, 3), none, none, some (.ifCond .eq 7, 3)],
  [none, none, some (.iconst 0, 1), some (.goto 4, 3), none, none, some (.iconst 1, 1), some (.ireturn, 1)]]
/-- MindPostModel.does -/
def cd235 : List (List (Option (ClassFile.Instr × Nat))) := [[some (.iload_n 1, 1), some (.bipush 100, 2), none, some (.irem, 1), some (.bipush 10, 2), none, some (.idiv, 1), some (.istore_n 2, 1), some (.iload_n 1, 1), some (.bipush 10, 2), none, some (.irem, 1), some (.istore_n 3, 1), some (.iload_n 1, 1), some (.iconst (-1), 1), some (.if_icmp .ne 11, 3)],
  [none, none, some (.aload_n 0, 1), some (.invokevirtual 285, 3), none, none, some (.pop, 1), some (.goto 73, 3), none, none, some (.iload_n 1, 1), some (.bipush 100, 2), none, some (.if_icmp .ge 12, 3), none, none],
  [some (.aload_n 0, 1), some (.iload_n 2, 1), some (.iload_n 3, 1), some (.invokevirtual 265, 3), none, none, some (.goto 58, 3), none, none, some (.iload_n 1, 1), some (.sipush 200, 3), none, none, some (.if_icmp .ge 13, 3), none, none],
  [some (.aload_n 0, 1), some (.iload_n 2, 1), some (.iload_n 3, 1), some (.invokevirtual 275, 3), none, none, some (.pop, 1), some (.goto 41, 3), none, none, some (.iload_n 1, 1), some (.sipush 300, 3), none, none, some (.if_icmp .ge 24, 3), none],
  [none, some (.aload_n 0, 1), some (.getfield 13, 3), none, none, some (.bipush 42, 2), none, some (.bipush 6, 2), none, some (.iload_n 2, 1), some (.imul, 1), some (.iadd, 1), some (.iload_n 3, 1), some (.iadd, 1), some (.dup2, 1), some (.iaload, 1)],
  [some (.iconst 1, 1), some (.iadd, 1), some (.iastore, 1), some (.goto 13, 3), none, none, some (.aload_n 0, 1), some (.getfield 13, 3), none, none, some (.bipush 36, 2), none, some (.iload_n 2, 1), some (.iadd, 1), some (.iload_n 3, 1), some (.iastore, 1)],
  [some (.return_, 1)]]
/-- MindPostModel.tells -/
def cd236 : List (List (Option (ClassFile.Instr × Nat))) := [[some (.aload_n 0, 1), some (.iconst 0, 1), some (.putfield 300, 3), none, none, some (.iconst 0, 1), some (.istore_n 2, 1), some (.iload_n 2, 1), some (.aload_n 0, 1), some (.getfield 70, 3), none, none, some (.iload_n 1, 1), some (.iaload, 1), some (.if_icmp .ge 53, 3), none],
  [none, some (.aload_n 0, 1), some (.aload_n 0, 1), some (.aload_n 0, 1), some (.getfield 73, 3), none, none, some (.bipush 40, 2), none, some (.iload_n 1, 1), some (.imul, 1), some (.iload_n 2, 1), some (.iadd, 1), some (.laload, 1), some (.invokevirtual 303, 3), none],
  [none, some (.putfield 300, 3), none, none, some (.aload_n 0, 1), some (.getfield 300, 3), none, none, some (.ifCond .eq 5, 3), none, none, some (.iload_n 2, 1), some (.ireturn, 1), some (.aload_n 0, 1), some (.aload_n 0, 1), some (.getfield 73, 3)],
  [none, none, some (.bipush 40, 2), none, some (.iload_n 1, 1), some (.imul, 1), some (.iload_n 2, 1), some (.iadd, 1), some (.laload, 1), some (.l2i, 1), some (.invokevirtual 307, 3), none, none, some (.iinc 2 1, 3), none, none],
  [some (.goto (-57), 3), none, none, some (.aload_n 0, 1), some (.getfield 70, 3), none, none, some (.iload_n 1, 1), some (.iaload, 1), some (.ireturn, 1)]]
/-- MindPostModel.noTray -/
def cd237 : List (List (Option (ClassFile.Instr × Nat))) := [[some (.iload_n 1, 1), some (.i2l, 1), some (.lconst 0, 1), some (.ldc2_w 310, 3), none, none, some (.invokestatic 142, 3), none, none, some (.ifCond .ne 8, 3), none, none, some (.bipush (-2), 2), none, some (.goto 19, 3), none],
  [none, some (.aload_n 0, 1), some (.getfield 67, 3), none, none, some (.iload_n 1, 1), some (.iaload, 1), some (.iconst (-1), 1), some (.if_icmp .ne 8, 3), none, none, some (.bipush (-6), 2), none, some (.goto 4, 3), none, none],
  [some (.iconst 0, 1), some (.ireturn, 1)]]
/-- MindPostModel.lieAt -/
def cd238 : List (List (Option (ClassFile.Instr × Nat))) := [[some (.iconst 0, 1), some (.istore_n 1, 1), some (.iconst 0, 1), some (.istore_n 2, 1), some (.iload_n 2, 1), some (.aload_n 0, 1), some (.getfield 13, 3), none, none, some (.bipush 28, 2), none, some (.iaload, 1), some (.if_icmp .ge 35, 3), none, none, some (.iload_n 1, 1)],
  [some (.aload_n 0, 1), some (.iload_n 2, 1), some (.invokevirtual 246, 3), none, none, some (.ifCond .eq 7, 3), none, none, some (.iconst 0, 1), some (.goto 14, 3), none, none, some (.iconst 1, 1), some (.aload_n 0, 1), some (.getfield 13, 3), none],
  [none, some (.bipush 78, 2), none, some (.iload_n 2, 1), some (.iadd, 1), some (.iaload, 1), some (.ishl, 1), some (.ior, 1), some (.istore_n 1, 1), some (.iinc 2 1, 3), none, none, some (.goto (-40), 3), none, none, some (.iload_n 1, 1)],
  [some (.ireturn, 1)]]
/-- MindPostModel.judge -/
def cd239 : List (List (Option (ClassFile.Instr × Nat))) := [[some (.aload_n 0, 1), some (.iconst 0, 1), some (.putfield 1, 3), none, none, some (.iload_n 2, 1), some (.i2l, 1), some (.lconst 0, 1), some (.ldc2_w 310, 3), none, none, some (.invokestatic 142, 3), none, none, some (.ifCond .ne 6, 3), none],
  [none, some (.bipush (-2), 2), none, some (.ireturn, 1), some (.aload_n 0, 1), some (.iload_n 1, 1), some (.invokevirtual 312, 3), none, none, some (.istore_n 3, 1), some (.iload_n 3, 1), some (.ifCond .eq 5, 3), none, none, some (.iload_n 3, 1), some (.ireturn, 1)],
  [some (.aload_n 0, 1), some (.invokevirtual 262, 3), none, none, some (.aload_n 0, 1), some (.iload_n 1, 1), some (.invokevirtual 315, 3), none, none, some (.istore 4, 2), none, some (.aload_n 0, 1), some (.getfield 13, 3), none, none, some (.bipush 29, 2)],
  [none, some (.iaload, 1), some (.istore 5, 2), none, some (.aload_n 0, 1), some (.invokevirtual 318, 3), none, none, some (.istore 6, 2), none, some (.aload_n 0, 1), some (.invokevirtual 321, 3), none, none, some (.iload_n 2, 1), some (.ifCond .ne 19, 3)],
  [none, none, some (.aload_n 0, 1), some (.getfield 300, 3), none, none, some (.ifCond .ne 7, 3), none, none, some (.iconst (-1), 1), some (.goto 32, 3), none, none, some (.iload 4, 2), none, some (.goto 27, 3)],
  [none, none, some (.iload_n 2, 1), some (.iconst 1, 1), some (.if_icmp .ne 10, 3), none, none, some (.aload_n 0, 1), some (.getfield 300, 3), none, none, some (.goto 15, 3), none, none, some (.iload_n 2, 1), some (.iconst 2, 1)],
  [some (.if_icmp .ne 8, 3), none, none, some (.iload 5, 2), none, some (.goto 5, 3), none, none, some (.iload 6, 2), none, some (.ireturn, 1)]]
/-- MindPostModel.perform -/
def cd240 : List (List (Option (ClassFile.Instr × Nat))) := [[some (.aload_n 0, 1), some (.iconst 0, 1), some (.putfield 1, 3), none, none, some (.aload_n 0, 1), some (.iload_n 1, 1), some (.invokevirtual 312, 3), none, none, some (.istore_n 2, 1), some (.iload_n 2, 1), some (.ifCond .eq 5, 3), none, none, some (.iload_n 2, 1)],
  [some (.ireturn, 1), some (.aload_n 0, 1), some (.invokevirtual 262, 3), none, none, some (.aload_n 0, 1), some (.iload_n 1, 1), some (.invokevirtual 315, 3), none, none, some (.istore_n 3, 1), some (.iload_n 3, 1), some (.ifCond .le 7, 3), none, none, some (.aload_n 0, 1)],
  [some (.invokevirtual 269, 3), none, none, some (.iload_n 3, 1), some (.ireturn, 1)]]
/-- MindPostModel.draw -/
def cd241 : List (List (Option (ClassFile.Instr × Nat))) := [[some (.aload_n 0, 1), some (.ldc_w 324, 3), none, none, some (.aload_n 0, 1), some (.getfield 325, 3), none, none, some (.imul, 1), some (.sipush 12345, 3), none, none, some (.iadd, 1), some (.putfield 325, 3), none, none],
  [some (.aload_n 0, 1), some (.getfield 325, 3), none, none, some (.bipush 16, 2), none, some (.iushr, 1), some (.iload_n 1, 1), some (.irem, 1), some (.ireturn, 1)]]
/-- MindPostModel.drawn -/
def cd242 : List (List (Option (ClassFile.Instr × Nat))) := [[some (.aload_n 0, 1), some (.bipush 6, 2), none, some (.invokevirtual 328, 3), none, none, some (.istore_n 1, 1), some (.iload_n 1, 1), some (.iconst 2, 1), some (.if_icmp .ge 5, 3), none, none, some (.iconst (-1), 1), some (.ireturn, 1), some (.aload_n 0, 1), some (.bipush 6, 2)],
  [none, some (.invokevirtual 328, 3), none, none, some (.istore_n 2, 1), some (.bipush 100, 2), none, some (.iload_n 1, 1), some (.iconst 2, 1), some (.isub, 1), some (.imul, 1), some (.bipush 10, 2), none, some (.iload_n 2, 1), some (.imul, 1), some (.iadd, 1)],
  [some (.iload_n 1, 1), some (.iconst 5, 1), some (.if_icmp .ne 12, 3), none, none, some (.aload_n 0, 1), some (.bipush 10, 2), none, some (.invokevirtual 328, 3), none, none, some (.goto 9, 3), none, none, some (.aload_n 0, 1), some (.bipush 6, 2)],
  [none, some (.invokevirtual 328, 3), none, none, some (.iadd, 1), some (.ireturn, 1)]]
/-- MindPostModel.year -/
def cd243 : List (List (Option (ClassFile.Instr × Nat))) := [[some (.aload_n 0, 1), some (.iconst 0, 1), some (.putfield 1, 3), none, none, some (.iload_n 2, 1), some (.i2l, 1), some (.lconst 1, 1), some (.ldc2_w 331, 3), none, none, some (.invokestatic 142, 3), none, none, some (.ifCond .ne 6, 3), none],
  [none, some (.bipush (-3), 2), none, some (.ireturn, 1), some (.aload_n 0, 1), some (.invokevirtual 262, 3), none, none, some (.aload_n 0, 1), some (.iload_n 1, 1), some (.putfield 325, 3), none, none, some (.iconst 0, 1), some (.istore_n 3, 1), some (.iconst 0, 1)],
  [some (.istore 4, 2), none, some (.iload 4, 2), none, some (.iload_n 2, 1), some (.if_icmp .ge 37, 3), none, none, some (.aload_n 0, 1), some (.invokevirtual 333, 3), none, none, some (.istore 5, 2), none, some (.aload_n 0, 1), some (.iload 5, 2)],
  [none, some (.i2l, 1), some (.invokevirtual 303, 3), none, none, some (.ifCond .eq 6, 3), none, none, some (.goto 12, 3), none, none, some (.aload_n 0, 1), some (.iload 5, 2), none, some (.invokevirtual 307, 3), none],
  [none, some (.iinc 3 1, 3), none, none, some (.iinc 4 1, 3), none, none, some (.goto (-37), 3), none, none, some (.iload_n 3, 1), some (.ifCond .le 7, 3), none, none, some (.aload_n 0, 1), some (.invokevirtual 269, 3)],
  [none, none, some (.iload_n 3, 1), some (.ireturn, 1)]]
/-- MindPostModel.laysNext -/
def cd244 : List (List (Option (ClassFile.Instr × Nat))) := [[some (.iconst 0, 1), some (.istore_n 2, 1), some (.iload_n 2, 1), some (.aload_n 0, 1), some (.getfield 13, 3), none, none, some (.iconst 1, 1), some (.iaload, 1), some (.if_icmp .ge 21, 3), none, none, some (.aload_n 0, 1), some (.getfield 42, 3), none, none],
  [some (.iload_n 2, 1), some (.aload_n 0, 1), some (.iload_n 1, 1), some (.iload_n 2, 1), some (.invokevirtual 255, 3), none, none, some (.iastore, 1), some (.iinc 2 1, 3), none, none, some (.goto (-25), 3), none, none, some (.return_, 1)]]
/-- MindPostModel.isWay -/
def cd245 : List (List (Option (ClassFile.Instr × Nat))) := [[some (.aload_n 0, 1), some (.iload_n 1, 1), some (.i2l, 1), some (.invokevirtual 207, 3), none, none, some (.ifCond .eq 16, 3), none, none, some (.aload_n 0, 1), some (.iload_n 2, 1), some (.i2l, 1), some (.invokevirtual 249, 3), none, none, some (.ifCond .eq 7, 3)],
  [none, none, some (.iconst 1, 1), some (.goto 4, 3), none, none, some (.iconst 0, 1), some (.ireturn, 1)]]
/-- MindPostModel.liesIn -/
def cd246 : List (List (Option (ClassFile.Instr × Nat))) := [[some (.iload_n 1, 1), some (.istore_n 3, 1), some (.iconst 0, 1), some (.istore 4, 2), none, some (.iload 4, 2), none, some (.iload_n 2, 1), some (.if_icmp .ge 16, 3), none, none, some (.aload_n 0, 1), some (.getfield 42, 3), none, none, some (.iload_n 3, 1)],
  [some (.iaload, 1), some (.istore_n 3, 1), some (.iinc 4 1, 3), none, none, some (.goto (-16), 3), none, none, some (.iload_n 3, 1), some (.ireturn, 1)]]
/-- MindPostModel.lies -/
def cd247 : List (List (Option (ClassFile.Instr × Nat))) := [[some (.aload_n 0, 1), some (.iconst 0, 1), some (.putfield 1, 3), none, none, some (.aload_n 0, 1), some (.iload_n 1, 1), some (.iload_n 2, 1), some (.invokevirtual 336, 3), none, none, some (.ifCond .ne 6, 3), none, none, some (.bipush (-2), 2), none],
  [some (.ireturn, 1), some (.iload_n 3, 1), some (.i2l, 1), some (.lconst 0, 1), some (.ldc2_w 340, 3), none, none, some (.invokestatic 142, 3), none, none, some (.ifCond .ne 6, 3), none, none, some (.bipush (-3), 2), none, some (.ireturn, 1)],
  [some (.aload_n 0, 1), some (.iload_n 1, 1), some (.invokevirtual 342, 3), none, none, some (.aload_n 0, 1), some (.iload_n 2, 1), some (.iload_n 3, 1), some (.invokevirtual 345, 3), none, none, some (.ireturn, 1)]]
/-- MindPostModel.comesIn -/
def cd248 : List (List (Option (ClassFile.Instr × Nat))) := [[some (.iload_n 2, 1), some (.istore_n 3, 1), some (.iconst 0, 1), some (.istore 4, 2), none, some (.iload 4, 2), none, some (.bipush 6, 2), none, some (.if_icmp .gt 32, 3), none, none, some (.iload_n 3, 1), some (.aload_n 0, 1), some (.getfield 13, 3), none],
  [none, some (.bipush 30, 2), none, some (.iload_n 1, 1), some (.iadd, 1), some (.iaload, 1), some (.if_icmp .ne 6, 3), none, none, some (.iload 4, 2), none, some (.ireturn, 1), some (.aload_n 0, 1), some (.getfield 42, 3), none, none],
  [some (.iload_n 3, 1), some (.iaload, 1), some (.istore_n 3, 1), some (.iinc 4 1, 3), none, none, some (.goto (-33), 3), none, none, some (.iconst (-1), 1), some (.ireturn, 1)]]
/-- MindPostModel.comesNow -/
def cd249 : List (List (Option (ClassFile.Instr × Nat))) := [[some (.aload_n 0, 1), some (.iload_n 1, 1), some (.invokevirtual 342, 3), none, none, some (.aload_n 0, 1), some (.iload_n 1, 1), some (.iload_n 2, 1), some (.invokevirtual 348, 3), none, none, some (.ireturn, 1)]]
/-- MindPostModel.comes -/
def cd250 : List (List (Option (ClassFile.Instr × Nat))) := [[some (.aload_n 0, 1), some (.iconst 0, 1), some (.putfield 1, 3), none, none, some (.aload_n 0, 1), some (.iload_n 1, 1), some (.iload_n 2, 1), some (.invokevirtual 336, 3), none, none, some (.ifCond .eq 12, 3), none, none, some (.aload_n 0, 1), some (.iload_n 1, 1)],
  [some (.iload_n 2, 1), some (.invokevirtual 351, 3), none, none, some (.goto 5, 3), none, none, some (.bipush (-2), 2), none, some (.ireturn, 1)]]
/-- MindPostModel.isRound -/
def cd251 : List (List (Option (ClassFile.Instr × Nat))) := [[some (.aload_n 0, 1), some (.getfield 42, 3), none, none, some (.iload_n 1, 1), some (.iaload, 1), some (.istore_n 2, 1), some (.iconst 0, 1), some (.istore_n 3, 1), some (.iload_n 3, 1), some (.bipush 6, 2), none, some (.if_icmp .ge 21, 3), none, none, some (.iload_n 2, 1)],
  [some (.iload_n 1, 1), some (.if_icmp .eq 16, 3), none, none, some (.aload_n 0, 1), some (.getfield 42, 3), none, none, some (.iload_n 2, 1), some (.iaload, 1), some (.istore_n 2, 1), some (.iinc 3 1, 3), none, none, some (.goto (-21), 3), none],
  [none, some (.iload_n 2, 1), some (.iload_n 1, 1), some (.if_icmp .ne 7, 3), none, none, some (.iconst 1, 1), some (.goto 4, 3), none, none, some (.iconst 0, 1), some (.ireturn, 1)]]
/-- MindPostModel.tailOf -/
def cd252 : List (List (Option (ClassFile.Instr × Nat))) := [[some (.iconst 0, 1), some (.istore_n 2, 1), some (.aload_n 0, 1), some (.aload_n 0, 1), some (.iload_n 1, 1), some (.iload_n 2, 1), some (.invokevirtual 345, 3), none, none, some (.invokevirtual 354, 3), none, none, some (.ifCond .ne 9, 3), none, none, some (.iinc 2 1, 3)],
  [none, none, some (.goto (-16), 3), none, none, some (.iload_n 2, 1), some (.ireturn, 1)]]
/-- MindPostModel.lengthOf -/
def cd253 : List (List (Option (ClassFile.Instr × Nat))) := [[some (.iconst 1, 1), some (.istore_n 2, 1), some (.aload_n 0, 1), some (.getfield 42, 3), none, none, some (.iload_n 1, 1), some (.iaload, 1), some (.istore_n 3, 1), some (.iload_n 3, 1), some (.iload_n 1, 1), some (.if_icmp .eq 16, 3), none, none, some (.iinc 2 1, 3), none],
  [none, some (.aload_n 0, 1), some (.getfield 42, 3), none, none, some (.iload_n 3, 1), some (.iaload, 1), some (.istore_n 3, 1), some (.goto (-15), 3), none, none, some (.iload_n 2, 1), some (.ireturn, 1)]]
/-- MindPostModel.ends -/
def cd254 : List (List (Option (ClassFile.Instr × Nat))) := [[some (.aload_n 0, 1), some (.iconst 0, 1), some (.putfield 1, 3), none, none, some (.aload_n 0, 1), some (.iload_n 1, 1), some (.iload_n 2, 1), some (.invokevirtual 336, 3), none, none, some (.ifCond .eq 15, 3), none, none, some (.iload_n 3, 1), some (.i2l, 1)],
  [some (.lconst 0, 1), some (.ldc2_w 310, 3), none, none, some (.invokestatic 142, 3), none, none, some (.ifCond .ne 6, 3), none, none, some (.bipush (-2), 2), none, some (.ireturn, 1), some (.aload_n 0, 1), some (.iload_n 1, 1), some (.invokevirtual 342, 3)],
  [none, none, some (.aload_n 0, 1), some (.iload_n 2, 1), some (.invokevirtual 357, 3), none, none, some (.istore 4, 2), none, some (.aload_n 0, 1), some (.iload_n 2, 1), some (.iload 4, 2), none, some (.invokevirtual 345, 3), none, none],
  [some (.istore 5, 2), none, some (.iload_n 3, 1), some (.tableswitch 71 0 2 #[25, 61, 68], 25), none, none, none, none, none, none, none, none, none, none, none, none],
  [none, none, none, none, none, none, none, none, none, none, none, none, some (.iload 5, 2), none, some (.aload_n 0, 1), some (.getfield 13, 3)],
  [none, none, some (.bipush 30, 2), none, some (.iload_n 1, 1), some (.iadd, 1), some (.iaload, 1), some (.if_icmp .ne 7, 3), none, none, some (.iconst 0, 1), some (.goto 20, 3), none, none, some (.aload_n 0, 1), some (.getfield 42, 3)],
  [none, none, some (.iload 5, 2), none, some (.iaload, 1), some (.iload 5, 2), none, some (.if_icmp .ne 7, 3), none, none, some (.iconst 1, 1), some (.goto 4, 3), none, none, some (.iconst 2, 1), some (.ireturn, 1)],
  [some (.aload_n 0, 1), some (.iload 5, 2), none, some (.invokevirtual 360, 3), none, none, some (.ireturn, 1), some (.iload 4, 2), none, some (.ireturn, 1), some (.iload 5, 2), none, some (.ireturn, 1)]]
/-- MindPostModel.hands -/
def cd255 : List (List (Option (ClassFile.Instr × Nat))) := [[some (.aload_n 0, 1), some (.iconst 0, 1), some (.putfield 1, 3), none, none, some (.aload_n 0, 1), some (.iload_n 1, 1), some (.iload_n 2, 1), some (.invokevirtual 336, 3), none, none, some (.ifCond .ne 6, 3), none, none, some (.bipush (-2), 2), none],
  [some (.ireturn, 1), some (.aload_n 0, 1), some (.iload_n 1, 1), some (.invokevirtual 342, 3), none, none, some (.aload_n 0, 1), some (.iload_n 2, 1), some (.invokevirtual 357, 3), none, none, some (.istore_n 3, 1), some (.iload_n 3, 1), some (.aload_n 0, 1), some (.aload_n 0, 1), some (.iload_n 2, 1)],
  [some (.iload_n 3, 1), some (.invokevirtual 345, 3), none, none, some (.invokevirtual 360, 3), none, none, some (.iadd, 1), some (.istore_n 3, 1), some (.iconst 0, 1), some (.istore 4, 2), none, some (.iload_n 2, 1), some (.istore 5, 2), none, some (.iconst 0, 1)],
  [some (.istore 6, 2), none, some (.iload 6, 2), none, some (.iload_n 3, 1), some (.if_icmp .ge 45, 3), none, none, some (.aload_n 0, 1), some (.getfield 42, 3), none, none, some (.iload 5, 2), none, some (.iaload, 1), some (.iload 5, 2)],
  [none, some (.if_icmp .eq 18, 3), none, none, some (.iload 4, 2), none, some (.iconst 1, 1), some (.aload_n 0, 1), some (.iload_n 1, 1), some (.iload 5, 2), none, some (.iconst (-1), 1), some (.invokevirtual 228, 3), none, none, some (.ishl, 1)],
  [some (.ior, 1), some (.istore 4, 2), none, some (.aload_n 0, 1), some (.getfield 42, 3), none, none, some (.iload 5, 2), none, some (.iaload, 1), some (.istore 5, 2), none, some (.iinc 6 1, 3), none, none, some (.goto (-45), 3)],
  [none, none, some (.iload 4, 2), none, some (.ireturn, 1)]]
/-- MindPostModel.sourcesOf -/
def cd256 : List (List (Option (ClassFile.Instr × Nat))) := [[some (.aload_n 0, 1), some (.iload_n 1, 1), some (.invokevirtual 342, 3), none, none, some (.iconst 0, 1), some (.istore_n 2, 1), some (.iconst 0, 1), some (.istore_n 3, 1), some (.iload_n 3, 1), some (.aload_n 0, 1), some (.getfield 13, 3), none, none, some (.iconst 1, 1), some (.iaload, 1)],
  [some (.if_icmp .ge 29, 3), none, none, some (.iload_n 2, 1), some (.aload_n 0, 1), some (.iload_n 1, 1), some (.iload_n 3, 1), some (.invokevirtual 348, 3), none, none, some (.iconst (-1), 1), some (.if_icmp .ne 7, 3), none, none, some (.iconst 0, 1), some (.goto 6, 3)],
  [none, none, some (.iconst 1, 1), some (.iload_n 3, 1), some (.ishl, 1), some (.ior, 1), some (.istore_n 2, 1), some (.iinc 3 1, 3), none, none, some (.goto (-33), 3), none, none, some (.iload_n 2, 1), some (.ireturn, 1)]]
/-- MindPostModel.sources -/
def cd257 : List (List (Option (ClassFile.Instr × Nat))) := [[some (.aload_n 0, 1), some (.iconst 0, 1), some (.putfield 1, 3), none, none, some (.aload_n 0, 1), some (.iload_n 1, 1), some (.i2l, 1), some (.invokevirtual 207, 3), none, none, some (.ifCond .eq 11, 3), none, none, some (.aload_n 0, 1), some (.iload_n 1, 1)],
  [some (.invokevirtual 363, 3), none, none, some (.goto 5, 3), none, none, some (.bipush (-2), 2), none, some (.ireturn, 1)]]
/-- MindPostModel.soonest -/
def cd258 : List (List (Option (ClassFile.Instr × Nat))) := [[some (.aload_n 0, 1), some (.iconst 0, 1), some (.putfield 1, 3), none, none, some (.aload_n 0, 1), some (.iload_n 1, 1), some (.i2l, 1), some (.invokevirtual 207, 3), none, none, some (.ifCond .ne 6, 3), none, none, some (.bipush (-2), 2), none],
  [some (.ireturn, 1), some (.aload_n 0, 1), some (.iload_n 1, 1), some (.invokevirtual 342, 3), none, none, some (.iconst (-1), 1), some (.istore_n 2, 1), some (.ldc_w 366, 3), none, none, some (.istore_n 3, 1), some (.iconst 0, 1), some (.istore 4, 2), none, some (.iload 4, 2)],
  [none, some (.aload_n 0, 1), some (.getfield 13, 3), none, none, some (.iconst 1, 1), some (.iaload, 1), some (.if_icmp .ge 57, 3), none, none, some (.iload 4, 2), none, some (.aload_n 0, 1), some (.getfield 13, 3), none, none],
  [some (.bipush 30, 2), none, some (.iload_n 1, 1), some (.iadd, 1), some (.iaload, 1), some (.if_icmp .ne 7, 3), none, none, some (.iconst (-1), 1), some (.goto 10, 3), none, none, some (.aload_n 0, 1), some (.iload_n 1, 1), some (.iload 4, 2), none],
  [some (.invokevirtual 348, 3), none, none, some (.istore 5, 2), none, some (.iload 5, 2), none, some (.iconst (-1), 1), some (.if_icmp .eq 18, 3), none, none, some (.iload 5, 2), none, some (.iload_n 3, 1), some (.if_icmp .lt 6, 3), none],
  [none, some (.goto 9, 3), none, none, some (.iload 4, 2), none, some (.istore_n 2, 1), some (.iload 5, 2), none, some (.istore_n 3, 1), some (.iinc 4 1, 3), none, none, some (.goto (-62), 3), none, none],
  [some (.iload_n 2, 1), some (.ireturn, 1)]]
/-- MindPostModel.rings -/
def cd259 : List (List (Option (ClassFile.Instr × Nat))) := [[some (.aload_n 0, 1), some (.iconst 0, 1), some (.putfield 1, 3), none, none, some (.aload_n 0, 1), some (.iload_n 1, 1), some (.i2l, 1), some (.invokevirtual 207, 3), none, none, some (.ifCond .ne 6, 3), none, none, some (.bipush (-2), 2), none],
  [some (.ireturn, 1), some (.aload_n 0, 1), some (.iload_n 1, 1), some (.invokevirtual 342, 3), none, none, some (.iconst 0, 1), some (.istore_n 2, 1), some (.iconst 0, 1), some (.istore_n 3, 1), some (.iload_n 3, 1), some (.aload_n 0, 1), some (.getfield 13, 3), none, none, some (.iconst 1, 1)],
  [some (.iaload, 1), some (.if_icmp .ge 88, 3), none, none, some (.aload_n 0, 1), some (.getfield 42, 3), none, none, some (.iload_n 3, 1), some (.iaload, 1), some (.iload_n 3, 1), some (.if_icmp .eq 72, 3), none, none, some (.aload_n 0, 1), some (.iload_n 3, 1)],
  [some (.invokevirtual 354, 3), none, none, some (.ifCond .ne 6, 3), none, none, some (.goto 61, 3), none, none, some (.iconst 1, 1), some (.istore 4, 2), none, some (.aload_n 0, 1), some (.getfield 42, 3), none, none],
  [some (.iload_n 3, 1), some (.iaload, 1), some (.istore 5, 2), none, some (.iload 5, 2), none, some (.iload_n 3, 1), some (.if_icmp .eq 31, 3), none, none, some (.iload 4, 2), none, some (.iload 5, 2), none, some (.iload_n 3, 1), some (.if_icmp .le 7, 3)],
  [none, none, some (.iconst 1, 1), some (.goto 4, 3), none, none, some (.iconst 0, 1), some (.iand, 1), some (.istore 4, 2), none, some (.aload_n 0, 1), some (.getfield 42, 3), none, none, some (.iload 5, 2), none],
  [some (.iaload, 1), some (.istore 5, 2), none, some (.goto (-31), 3), none, none, some (.iload_n 2, 1), some (.iload 4, 2), none, some (.ifCond .eq 7, 3), none, none, some (.iconst 1, 1), some (.goto 4, 3), none, none],
  [some (.iconst 0, 1), some (.iadd, 1), some (.istore_n 2, 1), some (.iinc 3 1, 3), none, none, some (.goto (-92), 3), none, none, some (.iload_n 2, 1), some (.ireturn, 1)]]
/-- MindPostModel.offices -/
def cd260 : List (List (Option (ClassFile.Instr × Nat))) := [[some (.aload_n 0, 1), some (.iconst 0, 1), some (.putfield 1, 3), none, none, some (.aload_n 0, 1), some (.iload_n 1, 1), some (.i2l, 1), some (.invokevirtual 207, 3), none, none, some (.ifCond .ne 6, 3), none, none, some (.bipush (-2), 2), none],
  [some (.ireturn, 1), some (.aload_n 0, 1), some (.iload_n 1, 1), some (.invokevirtual 342, 3), none, none, some (.iconst 0, 1), some (.istore_n 2, 1), some (.iconst 0, 1), some (.istore_n 3, 1), some (.iload_n 3, 1), some (.aload_n 0, 1), some (.getfield 13, 3), none, none, some (.iconst 1, 1)],
  [some (.iaload, 1), some (.if_icmp .ge 42, 3), none, none, some (.iload_n 2, 1), some (.aload_n 0, 1), some (.getfield 42, 3), none, none, some (.iload_n 3, 1), some (.iaload, 1), some (.iload_n 3, 1), some (.if_icmp .ne 22, 3), none, none, some (.iload_n 3, 1)],
  [some (.aload_n 0, 1), some (.getfield 13, 3), none, none, some (.bipush 30, 2), none, some (.iload_n 1, 1), some (.iadd, 1), some (.iaload, 1), some (.if_icmp .eq 9, 3), none, none, some (.iconst 1, 1), some (.iload_n 3, 1), some (.ishl, 1), some (.goto 4, 3)],
  [none, none, some (.iconst 0, 1), some (.ior, 1), some (.istore_n 2, 1), some (.iinc 3 1, 3), none, none, some (.goto (-46), 3), none, none, some (.iload_n 2, 1), some (.ireturn, 1)]]
/-- MindPostModel.needed -/
def cd261 : List (List (Option (ClassFile.Instr × Nat))) := [[some (.aload_n 0, 1), some (.iconst 0, 1), some (.putfield 1, 3), none, none, some (.aload_n 0, 1), some (.iload_n 1, 1), some (.iload_n 2, 1), some (.invokevirtual 336, 3), none, none, some (.ifCond .ne 6, 3), none, none, some (.bipush (-2), 2), none],
  [some (.ireturn, 1), some (.iconst 0, 1), some (.istore_n 3, 1), some (.aload_n 0, 1), some (.iload_n 1, 1), some (.iload_n 2, 1), some (.invokevirtual 351, 3), none, none, some (.iconst (-1), 1), some (.if_icmp .ne 5, 3), none, none, some (.iload_n 3, 1), some (.ireturn, 1), some (.iconst 0, 1)],
  [some (.istore 4, 2), none, some (.iload 4, 2), none, some (.aload_n 0, 1), some (.getfield 13, 3), none, none, some (.iconst 2, 1), some (.iaload, 1), some (.if_icmp .ge 45, 3), none, none, some (.iload 4, 2), none, some (.iload_n 1, 1)],
  [some (.if_icmp .ne 6, 3), none, none, some (.goto 30, 3), none, none, some (.aload_n 0, 1), some (.iload 4, 2), none, some (.putfield 36, 3), none, none, some (.iload_n 3, 1), some (.aload_n 0, 1), some (.iload_n 1, 1), some (.iload_n 2, 1)],
  [some (.invokevirtual 351, 3), none, none, some (.iconst (-1), 1), some (.if_icmp .ne 10, 3), none, none, some (.iconst 1, 1), some (.iload 4, 2), none, some (.ishl, 1), some (.goto 4, 3), none, none, some (.iconst 0, 1), some (.ior, 1)],
  [some (.istore_n 3, 1), some (.iinc 4 1, 3), none, none, some (.goto (-50), 3), none, none, some (.aload_n 0, 1), some (.iconst (-1), 1), some (.putfield 36, 3), none, none, some (.iload_n 3, 1), some (.ireturn, 1)]]
/-- MindPostModel.movedOf -/
def cd262 : List (List (Option (ClassFile.Instr × Nat))) := [[some (.iconst 0, 1), some (.istore_n 1, 1), some (.iconst 0, 1), some (.istore_n 2, 1), some (.iload_n 2, 1), some (.aload_n 0, 1), some (.getfield 13, 3), none, none, some (.iconst 2, 1), some (.iaload, 1), some (.if_icmp .ge 37, 3), none, none, some (.iload_n 1, 1), some (.aload_n 0, 1)],
  [some (.getfield 13, 3), none, none, some (.bipush 30, 2), none, some (.iload_n 2, 1), some (.iadd, 1), some (.iaload, 1), some (.aload_n 0, 1), some (.getfield 39, 3), none, none, some (.iconst 3, 1), some (.iload_n 2, 1), some (.iadd, 1), some (.iaload, 1)],
  [some (.if_icmp .ne 7, 3), none, none, some (.iconst 0, 1), some (.goto 4, 3), none, none, some (.iconst 1, 1), some (.iadd, 1), some (.istore_n 1, 1), some (.iinc 2 1, 3), none, none, some (.goto (-41), 3), none, none],
  [some (.iload_n 1, 1), some (.ireturn, 1)]]
/-- MindPostModel.goesMoves -/
def cd263 : List (List (Option (ClassFile.Instr × Nat))) := [[some (.iload_n 1, 1), some (.aload_n 0, 1), some (.getfield 13, 3), none, none, some (.iconst 2, 1), some (.iaload, 1), some (.if_icmp .ne 69, 3), none, none, some (.aload_n 0, 1), some (.invokevirtual 367, 3), none, none, some (.istore 4, 2), none],
  [some (.iload 4, 2), none, some (.aload_n 0, 1), some (.getfield 370, 3), none, none, some (.if_icmp .ge 13, 3), none, none, some (.aload_n 0, 1), some (.iload_n 2, 1), some (.iload_n 3, 1), some (.invokevirtual 351, 3), none, none, some (.iconst (-1), 1)],
  [some (.if_icmp .ne 4, 3), none, none, some (.return_, 1), some (.aload_n 0, 1), some (.iload 4, 2), none, some (.putfield 370, 3), none, none, some (.iconst 0, 1), some (.istore 5, 2), none, some (.iload 5, 2), none, some (.bipush 6, 2)],
  [none, some (.if_icmp .ge 26, 3), none, none, some (.aload_n 0, 1), some (.getfield 48, 3), none, none, some (.iload 5, 2), none, some (.aload_n 0, 1), some (.getfield 13, 3), none, none, some (.bipush 30, 2), none],
  [some (.iload 5, 2), none, some (.iadd, 1), some (.iaload, 1), some (.iastore, 1), some (.iinc 5 1, 3), none, none, some (.goto (-27), 3), none, none, some (.return_, 1), some (.iload_n 1, 1), some (.iload_n 2, 1), some (.if_icmp .ne 13, 3), none],
  [none, some (.aload_n 0, 1), some (.iload_n 1, 1), some (.iconst 1, 1), some (.iadd, 1), some (.iload_n 2, 1), some (.iload_n 3, 1), some (.invokevirtual 373, 3), none, none, some (.return_, 1), some (.iconst 0, 1), some (.istore 4, 2), none, some (.iload 4, 2), none],
  [some (.aload_n 0, 1), some (.getfield 13, 3), none, none, some (.iconst 1, 1), some (.iaload, 1), some (.if_icmp .ge 29, 3), none, none, some (.aload_n 0, 1), some (.getfield 13, 3), none, none, some (.bipush 30, 2), none, some (.iload_n 1, 1)],
  [some (.iadd, 1), some (.iload 4, 2), none, some (.iastore, 1), some (.aload_n 0, 1), some (.iload_n 1, 1), some (.iconst 1, 1), some (.iadd, 1), some (.iload_n 2, 1), some (.iload_n 3, 1), some (.invokevirtual 373, 3), none, none, some (.iinc 4 1, 3), none, none],
  [some (.goto (-34), 3), none, none, some (.aload_n 0, 1), some (.getfield 13, 3), none, none, some (.bipush 30, 2), none, some (.iload_n 1, 1), some (.iadd, 1), some (.aload_n 0, 1), some (.getfield 39, 3), none, none, some (.iconst 3, 1)],
  [some (.iload_n 1, 1), some (.iadd, 1), some (.iaload, 1), some (.iastore, 1), some (.return_, 1)]]
/-- MindPostModel.isTold -/
def cd264 : List (List (Option (ClassFile.Instr × Nat))) := [[some (.iload_n 1, 1), some (.ifCond .eq 21, 3), none, none, some (.iload_n 1, 1), some (.bipush 10, 2), none, some (.if_icmp .lt 19, 3), none, none, some (.aload_n 0, 1), some (.iload_n 1, 1), some (.bipush 10, 2), none, some (.isub, 1), some (.i2l, 1)],
  [some (.invokevirtual 207, 3), none, none, some (.ifCond .eq 7, 3), none, none, some (.iconst 1, 1), some (.goto 4, 3), none, none, some (.iconst 0, 1), some (.ireturn, 1)]]
/-- MindPostModel.moves -/
def cd265 : List (List (Option (ClassFile.Instr × Nat))) := [[some (.aload_n 0, 1), some (.iconst 0, 1), some (.putfield 1, 3), none, none, some (.aload_n 0, 1), some (.iload_n 1, 1), some (.iload_n 2, 1), some (.invokevirtual 336, 3), none, none, some (.ifCond .eq 11, 3), none, none, some (.aload_n 0, 1), some (.iload_n 3, 1)],
  [some (.invokevirtual 377, 3), none, none, some (.ifCond .ne 6, 3), none, none, some (.bipush (-2), 2), none, some (.ireturn, 1), some (.aload_n 0, 1), some (.invokevirtual 262, 3), none, none, some (.aload_n 0, 1), some (.ldc_w 366, 3), none],
  [none, some (.putfield 370, 3), none, none, some (.aload_n 0, 1), some (.iconst 0, 1), some (.iload_n 1, 1), some (.iload_n 2, 1), some (.invokevirtual 373, 3), none, none, some (.aload_n 0, 1), some (.getfield 370, 3), none, none, some (.ldc_w 366, 3)],
  [none, none, some (.if_icmp .ne 7, 3), none, none, some (.iconst (-1), 1), some (.goto 23, 3), none, none, some (.iload_n 3, 1), some (.ifCond .ne 10, 3), none, none, some (.aload_n 0, 1), some (.getfield 370, 3), none],
  [none, some (.goto 12, 3), none, none, some (.aload_n 0, 1), some (.getfield 48, 3), none, none, some (.iload_n 3, 1), some (.bipush 10, 2), none, some (.isub, 1), some (.iaload, 1), some (.ireturn, 1)]]
/-- MindPostModel.goesFeeling -/
def cd266 : List (List (Option (ClassFile.Instr × Nat))) := [[some (.iload_n 1, 1), some (.aload_n 0, 1), some (.getfield 13, 3), none, none, some (.iconst 2, 1), some (.iaload, 1), some (.if_icmp .ne 24, 3), none, none, some (.iload_n 2, 1), some (.ifCond .ne 18, 3), none, none, some (.aload_n 0, 1), some (.iload_n 3, 1)],
  [some (.iload 4, 2), none, some (.invokevirtual 351, 3), none, none, some (.iconst (-1), 1), some (.if_icmp .eq 7, 3), none, none, some (.iconst 1, 1), some (.goto 4, 3), none, none, some (.iconst 0, 1), some (.ireturn, 1), some (.bipush 42, 2)],
  [none, some (.bipush 6, 2), none, some (.iload_n 1, 1), some (.imul, 1), some (.iadd, 1), some (.iload_n 3, 1), some (.iadd, 1), some (.istore 5, 2), none, some (.aload_n 0, 1), some (.getfield 13, 3), none, none, some (.iload 5, 2), none],
  [some (.iaload, 1), some (.istore 6, 2), none, some (.iload_n 1, 1), some (.iload_n 3, 1), some (.if_icmp .ne 7, 3), none, none, some (.iconst 0, 1), some (.goto 21, 3), none, none, some (.iload_n 2, 1), some (.bipush 9, 2), none, some (.iload 6, 2)],
  [none, some (.isub, 1), some (.if_icmp .ge 7, 3), none, none, some (.iload_n 2, 1), some (.goto 8, 3), none, none, some (.bipush 9, 2), none, some (.iload 6, 2), none, some (.isub, 1), some (.istore 7, 2), none],
  [some (.iconst 0, 1), some (.istore 8, 2), none, some (.iconst 0, 1), some (.istore 9, 2), none, some (.iload 9, 2), none, some (.iload 7, 2), none, some (.if_icmp .gt 50, 3), none, none, some (.iload 8, 2), none, some (.ifCond .ne 45, 3)],
  [none, none, some (.aload_n 0, 1), some (.getfield 48, 3), none, none, some (.iload_n 1, 1), some (.iload 9, 2), none, some (.iastore, 1), some (.aload_n 0, 1), some (.getfield 13, 3), none, none, some (.iload 5, 2), none],
  [some (.iload 6, 2), none, some (.iload 9, 2), none, some (.iadd, 1), some (.iastore, 1), some (.aload_n 0, 1), some (.iload_n 1, 1), some (.iconst 1, 1), some (.iadd, 1), some (.iload_n 2, 1), some (.iload 9, 2), none, some (.isub, 1), some (.iload_n 3, 1), some (.iload 4, 2)],
  [none, some (.invokevirtual 380, 3), none, none, some (.istore 8, 2), none, some (.iinc 9 1, 3), none, none, some (.goto (-51), 3), none, none, some (.aload_n 0, 1), some (.getfield 13, 3), none, none],
  [some (.iload 5, 2), none, some (.iload 6, 2), none, some (.iastore, 1), some (.iload 8, 2), none, some (.ireturn, 1)]]
/-- MindPostModel.feeling -/
def cd267 : List (List (Option (ClassFile.Instr × Nat))) := [[some (.aload_n 0, 1), some (.iconst 0, 1), some (.putfield 1, 3), none, none, some (.aload_n 0, 1), some (.iload_n 1, 1), some (.iload_n 2, 1), some (.invokevirtual 336, 3), none, none, some (.ifCond .eq 11, 3), none, none, some (.aload_n 0, 1), some (.iload_n 3, 1)],
  [some (.invokevirtual 377, 3), none, none, some (.ifCond .ne 6, 3), none, none, some (.bipush (-2), 2), none, some (.ireturn, 1), some (.iconst 0, 1), some (.istore 4, 2), none, some (.iload 4, 2), none, some (.bipush 9, 2), none],
  [some (.if_icmp .gt 40, 3), none, none, some (.aload_n 0, 1), some (.iconst 0, 1), some (.iload 4, 2), none, some (.iload_n 1, 1), some (.iload_n 2, 1), some (.invokevirtual 380, 3), none, none, some (.ifCond .eq 22, 3), none, none, some (.iload_n 3, 1)],
  [some (.ifCond .ne 8, 3), none, none, some (.iload 4, 2), none, some (.goto 12, 3), none, none, some (.aload_n 0, 1), some (.getfield 48, 3), none, none, some (.iload_n 3, 1), some (.bipush 10, 2), none, some (.isub, 1)],
  [some (.iaload, 1), some (.ireturn, 1), some (.iinc 4 1, 3), none, none, some (.goto (-41), 3), none, none, some (.iconst (-1), 1), some (.ireturn, 1)]]
/-- MindPostModel.laysFound -/
def cd268 : List (List (Option (ClassFile.Instr × Nat))) := [[some (.aload_n 0, 1), some (.getfield 13, 3), none, none, some (.bipush 30, 2), none, some (.iload_n 1, 1), some (.iadd, 1), some (.iaload, 1), some (.istore_n 2, 1), some (.iconst 0, 1), some (.istore_n 3, 1), some (.iload_n 3, 1), some (.aload_n 0, 1), some (.getfield 13, 3), none],
  [none, some (.iconst 1, 1), some (.iaload, 1), some (.if_icmp .ge 33, 3), none, none, some (.aload_n 0, 1), some (.getfield 13, 3), none, none, some (.bipush 30, 2), none, some (.iload_n 1, 1), some (.iadd, 1), some (.iload_n 3, 1), some (.iastore, 1)],
  [some (.aload_n 0, 1), some (.getfield 45, 3), none, none, some (.iload_n 3, 1), some (.aload_n 0, 1), some (.iload_n 1, 1), some (.invokevirtual 363, 3), none, none, some (.invokestatic 384, 3), none, none, some (.iastore, 1), some (.iinc 3 1, 3), none],
  [none, some (.goto (-37), 3), none, none, some (.aload_n 0, 1), some (.getfield 13, 3), none, none, some (.bipush 30, 2), none, some (.iload_n 1, 1), some (.iadd, 1), some (.iload_n 2, 1), some (.iastore, 1), some (.return_, 1)]]
/-- MindPostModel.found -/
def cd269 : List (List (Option (ClassFile.Instr × Nat))) := [[some (.aload_n 0, 1), some (.iconst 0, 1), some (.putfield 1, 3), none, none, some (.aload_n 0, 1), some (.iload_n 1, 1), some (.i2l, 1), some (.invokevirtual 207, 3), none, none, some (.ifCond .ne 6, 3), none, none, some (.bipush (-2), 2), none],
  [some (.ireturn, 1), some (.aload_n 0, 1), some (.iload_n 1, 1), some (.invokevirtual 387, 3), none, none, some (.iconst 0, 1), some (.istore_n 2, 1), some (.iconst 1, 1), some (.istore_n 3, 1), some (.iload_n 3, 1), some (.aload_n 0, 1), some (.getfield 13, 3), none, none, some (.iconst 1, 1)],
  [some (.iaload, 1), some (.if_icmp .ge 26, 3), none, none, some (.aload_n 0, 1), some (.getfield 45, 3), none, none, some (.iload_n 3, 1), some (.iaload, 1), some (.aload_n 0, 1), some (.getfield 45, 3), none, none, some (.iload_n 2, 1), some (.iaload, 1)],
  [some (.if_icmp .le 5, 3), none, none, some (.iload_n 3, 1), some (.istore_n 2, 1), some (.iinc 3 1, 3), none, none, some (.goto (-30), 3), none, none, some (.iload_n 2, 1), some (.ireturn, 1)]]
/-- MindPostModel.hides -/
def cd270 : List (List (Option (ClassFile.Instr × Nat))) := [[some (.aload_n 0, 1), some (.iconst 0, 1), some (.putfield 1, 3), none, none, some (.aload_n 0, 1), some (.iload_n 1, 1), some (.i2l, 1), some (.invokevirtual 207, 3), none, none, some (.ifCond .ne 6, 3), none, none, some (.bipush (-2), 2), none],
  [some (.ireturn, 1), some (.aload_n 0, 1), some (.iload_n 1, 1), some (.invokevirtual 387, 3), none, none, some (.iconst 0, 1), some (.istore_n 2, 1), some (.iconst 1, 1), some (.istore_n 3, 1), some (.iload_n 3, 1), some (.aload_n 0, 1), some (.getfield 13, 3), none, none, some (.iconst 1, 1)],
  [some (.iaload, 1), some (.if_icmp .ge 26, 3), none, none, some (.aload_n 0, 1), some (.getfield 45, 3), none, none, some (.iload_n 3, 1), some (.iaload, 1), some (.aload_n 0, 1), some (.getfield 45, 3), none, none, some (.iload_n 2, 1), some (.iaload, 1)],
  [some (.if_icmp .ge 5, 3), none, none, some (.iload_n 3, 1), some (.istore_n 2, 1), some (.iinc 3 1, 3), none, none, some (.goto (-30), 3), none, none, some (.iload_n 2, 1), some (.ireturn, 1)]]
/-- MindPostModel.noSeen -/
def cd271 : List (List (Option (ClassFile.Instr × Nat))) := [[some (.aload_n 0, 1), some (.iload_n 1, 1), some (.invokevirtual 312, 3), none, none, some (.istore_n 2, 1), some (.iload_n 2, 1), some (.ifCond .eq 5, 3), none, none, some (.iload_n 2, 1), some (.ireturn, 1), some (.aload_n 0, 1), some (.getfield 70, 3), none, none],
  [some (.iload_n 1, 1), some (.iaload, 1), some (.i2l, 1), some (.lconst 1, 1), some (.ldc2_w 390, 3), none, none, some (.invokestatic 142, 3), none, none, some (.ifCond .ne 6, 3), none, none, some (.bipush (-4), 2), none, some (.ireturn, 1)],
  [some (.iconst 0, 1), some (.istore_n 3, 1), some (.iload_n 3, 1), some (.aload_n 0, 1), some (.getfield 70, 3), none, none, some (.iload_n 1, 1), some (.iaload, 1), some (.if_icmp .ge 48, 3), none, none, some (.aload_n 0, 1), some (.getfield 73, 3), none, none],
  [some (.bipush 40, 2), none, some (.iload_n 1, 1), some (.imul, 1), some (.iload_n 3, 1), some (.iadd, 1), some (.laload, 1), some (.ldc2_w 290, 3), none, none, some (.lcmp, 1), some (.ifCond .eq 24, 3), none, none, some (.aload_n 0, 1), some (.aload_n 0, 1)],
  [some (.getfield 73, 3), none, none, some (.bipush 40, 2), none, some (.iload_n 1, 1), some (.imul, 1), some (.iload_n 3, 1), some (.iadd, 1), some (.laload, 1), some (.invokevirtual 249, 3), none, none, some (.ifCond .ne 6, 3), none, none],
  [some (.bipush (-3), 2), none, some (.ireturn, 1), some (.iinc 3 1, 3), none, none, some (.goto (-52), 3), none, none, some (.iconst 0, 1), some (.ireturn, 1)]]
/-- MindPostModel.noSeenOf -/
def cd272 : List (List (Option (ClassFile.Instr × Nat))) := [[some (.iload_n 1, 1), some (.i2l, 1), some (.lconst 0, 1), some (.ldc2_w 310, 3), none, none, some (.invokestatic 142, 3), none, none, some (.ifCond .eq 12, 3), none, none, some (.aload_n 0, 1), some (.iload_n 2, 1), some (.iload_n 3, 1), some (.invokevirtual 336, 3)],
  [none, none, some (.ifCond .ne 8, 3), none, none, some (.bipush (-2), 2), none, some (.goto 8, 3), none, none, some (.aload_n 0, 1), some (.iload_n 1, 1), some (.invokevirtual 392, 3), none, none, some (.ireturn, 1)]]
/-- MindPostModel.isSo -/
def cd273 : List (List (Option (ClassFile.Instr × Nat))) := [[some (.aload_n 0, 1), some (.iload_n 2, 1), some (.invokevirtual 342, 3), none, none, some (.iconst 0, 1), some (.istore 4, 2), none, some (.iload 4, 2), none, some (.aload_n 0, 1), some (.getfield 70, 3), none, none, some (.iload_n 1, 1), some (.iaload, 1)],
  [some (.if_icmp .ge 48, 3), none, none, some (.aload_n 0, 1), some (.getfield 73, 3), none, none, some (.bipush 40, 2), none, some (.iload_n 1, 1), some (.imul, 1), some (.iload 4, 2), none, some (.iadd, 1), some (.laload, 1), some (.lstore 5, 2)],
  [none, some (.lload 5, 2), none, some (.ldc2_w 290, 3), none, none, some (.lcmp, 1), some (.ifCond .eq 19, 3), none, none, some (.lload 5, 2), none, some (.aload_n 0, 1), some (.iload_n 3, 1), some (.iload 4, 2), none],
  [some (.invokevirtual 345, 3), none, none, some (.i2l, 1), some (.lcmp, 1), some (.ifCond .eq 5, 3), none, none, some (.iconst 0, 1), some (.ireturn, 1), some (.iinc 4 1, 3), none, none, some (.goto (-53), 3), none, none],
  [some (.iconst 1, 1), some (.ireturn, 1)]]
/-- MindPostModel.seenSet -/
def cd274 : List (List (Option (ClassFile.Instr × Nat))) := [[some (.aload_n 0, 1), some (.getfield 13, 3), none, none, some (.bipush 30, 2), none, some (.iload_n 2, 1), some (.iadd, 1), some (.iaload, 1), some (.istore 4, 2), none, some (.iconst 0, 1), some (.istore 5, 2), none, some (.iconst 0, 1), some (.istore 6, 2)],
  [none, some (.iload 6, 2), none, some (.aload_n 0, 1), some (.getfield 13, 3), none, none, some (.iconst 1, 1), some (.iaload, 1), some (.if_icmp .ge 43, 3), none, none, some (.aload_n 0, 1), some (.getfield 13, 3), none, none],
  [some (.bipush 30, 2), none, some (.iload_n 2, 1), some (.iadd, 1), some (.iload 6, 2), none, some (.iastore, 1), some (.iload 5, 2), none, some (.aload_n 0, 1), some (.iload_n 1, 1), some (.iload_n 2, 1), some (.iload_n 3, 1), some (.invokevirtual 395, 3), none, none],
  [some (.ifCond .eq 10, 3), none, none, some (.iconst 1, 1), some (.iload 6, 2), none, some (.ishl, 1), some (.goto 4, 3), none, none, some (.iconst 0, 1), some (.ior, 1), some (.istore 5, 2), none, some (.iinc 6 1, 3), none],
  [none, some (.goto (-48), 3), none, none, some (.aload_n 0, 1), some (.getfield 13, 3), none, none, some (.bipush 30, 2), none, some (.iload_n 2, 1), some (.iadd, 1), some (.iload 4, 2), none, some (.iastore, 1), some (.iload 5, 2)],
  [none, some (.ireturn, 1)]]
/-- MindPostModel.seen -/
def cd275 : List (List (Option (ClassFile.Instr × Nat))) := [[some (.aload_n 0, 1), some (.iconst 0, 1), some (.putfield 1, 3), none, none, some (.aload_n 0, 1), some (.iload_n 1, 1), some (.iload_n 2, 1), some (.iload_n 3, 1), some (.invokevirtual 399, 3), none, none, some (.istore 4, 2), none, some (.iload 4, 2), none],
  [some (.ifCond .eq 8, 3), none, none, some (.iload 4, 2), none, some (.goto 10, 3), none, none, some (.aload_n 0, 1), some (.iload_n 1, 1), some (.iload_n 2, 1), some (.iload_n 3, 1), some (.invokevirtual 402, 3), none, none, some (.ireturn, 1)]]
/-- MindPostModel.probe -/
def cd276 : List (List (Option (ClassFile.Instr × Nat))) := [[some (.aload_n 0, 1), some (.iconst 0, 1), some (.putfield 1, 3), none, none, some (.aload_n 0, 1), some (.iload_n 1, 1), some (.iload_n 2, 1), some (.iload_n 3, 1), some (.invokevirtual 399, 3), none, none, some (.istore 5, 2), none, some (.iload 5, 2), none],
  [some (.ifCond .eq 6, 3), none, none, some (.iload 5, 2), none, some (.ireturn, 1), some (.iload 4, 2), none, some (.i2l, 1), some (.lconst 1, 1), some (.ldc2_w 281, 3), none, none, some (.invokestatic 142, 3), none, none],
  [some (.ifCond .ne 6, 3), none, none, some (.bipush (-3), 2), none, some (.ireturn, 1), some (.aload_n 0, 1), some (.iload_n 1, 1), some (.iload_n 2, 1), some (.iload_n 3, 1), some (.invokevirtual 402, 3), none, none, some (.istore 6, 2), none, some (.aload_n 0, 1)],
  [some (.getfield 13, 3), none, none, some (.bipush 30, 2), none, some (.iload_n 2, 1), some (.iadd, 1), some (.iaload, 1), some (.istore 7, 2), none, some (.iconst (-1), 1), some (.istore 8, 2), none, some (.ldc_w 366, 3), none, none],
  [some (.istore 9, 2), none, some (.iconst 0, 1), some (.istore 10, 2), none, some (.iload 10, 2), none, some (.aload_n 0, 1), some (.getfield 13, 3), none, none, some (.iconst 1, 1), some (.iaload, 1), some (.if_icmp .ge 156, 3), none, none],
  [some (.iload 6, 2), none, some (.ifCond .eq 151, 3), none, none, some (.iconst 0, 1), some (.istore 11, 2), none, some (.iload 11, 2), none, some (.bipush 6, 2), none, some (.if_icmp .ge 17, 3), none, none, some (.aload_n 0, 1)],
  [some (.getfield 45, 3), none, none, some (.iload 11, 2), none, some (.iconst 0, 1), some (.iastore, 1), some (.iinc 11 1, 3), none, none, some (.goto (-18), 3), none, none, some (.iconst 0, 1), some (.istore 11, 2), none],
  [some (.iconst 0, 1), some (.istore 12, 2), none, some (.iload 12, 2), none, some (.aload_n 0, 1), some (.getfield 13, 3), none, none, some (.iconst 1, 1), some (.iaload, 1), some (.if_icmp .ge 86, 3), none, none, some (.iload 6, 2), none],
  [some (.i2l, 1), some (.iload 12, 2), none, some (.invokestatic 234, 3), none, none, some (.ifCond .ne 6, 3), none, none, some (.goto 66, 3), none, none, some (.aload_n 0, 1), some (.getfield 13, 3), none, none],
  [some (.bipush 30, 2), none, some (.iload_n 2, 1), some (.iadd, 1), some (.iload 12, 2), none, some (.iastore, 1), some (.aload_n 0, 1), some (.iload_n 2, 1), some (.invokevirtual 342, 3), none, none, some (.aload_n 0, 1), some (.iload 10, 2), none, some (.iload 4, 2)],
  [none, some (.invokevirtual 345, 3), none, none, some (.istore 13, 2), none, some (.aload_n 0, 1), some (.getfield 45, 3), none, none, some (.iload 13, 2), none, some (.dup2, 1), some (.iaload, 1), some (.iconst 1, 1), some (.iadd, 1)],
  [some (.iastore, 1), some (.aload_n 0, 1), some (.getfield 45, 3), none, none, some (.iload 13, 2), none, some (.iaload, 1), some (.iload 11, 2), none, some (.if_icmp .le 13, 3), none, none, some (.aload_n 0, 1), some (.getfield 45, 3), none],
  [none, some (.iload 13, 2), none, some (.iaload, 1), some (.goto 5, 3), none, none, some (.iload 11, 2), none, some (.istore 11, 2), none, some (.iinc 12 1, 3), none, none, some (.goto (-91), 3), none],
  [none, some (.iload 11, 2), none, some (.iload 9, 2), none, some (.if_icmp .lt 6, 3), none, none, some (.goto 11, 3), none, none, some (.iload 10, 2), none, some (.istore 8, 2), none, some (.iload 11, 2)],
  [none, some (.istore 9, 2), none, some (.iinc 10 1, 3), none, none, some (.goto (-161), 3), none, none, some (.aload_n 0, 1), some (.getfield 13, 3), none, none, some (.bipush 30, 2), none, some (.iload_n 2, 1)],
  [some (.iadd, 1), some (.iload 7, 2), none, some (.iastore, 1), some (.iload 8, 2), none, some (.ireturn, 1)]]
/-- MindPostModel.heartOf -/
def cd277 : List (List (Option (ClassFile.Instr × Nat))) := [[some (.bipush 42, 2), none, some (.bipush 6, 2), none, some (.iload 4, 2), none, some (.imul, 1), some (.iadd, 1), some (.iload_n 2, 1), some (.iadd, 1), some (.istore 5, 2), none, some (.aload_n 0, 1), some (.getfield 13, 3), none, none],
  [some (.iload 5, 2), none, some (.iaload, 1), some (.istore 6, 2), none, some (.iconst 0, 1), some (.istore 7, 2), none, some (.iconst 0, 1), some (.istore 8, 2), none, some (.iload 8, 2), none, some (.bipush 10, 2), none, some (.if_icmp .ge 41, 3)],
  [none, none, some (.aload_n 0, 1), some (.getfield 13, 3), none, none, some (.iload 5, 2), none, some (.iload 8, 2), none, some (.iastore, 1), some (.iload 7, 2), none, some (.aload_n 0, 1), some (.iload_n 1, 1), some (.iload_n 2, 1)],
  [some (.iload_n 3, 1), some (.invokevirtual 395, 3), none, none, some (.ifCond .eq 10, 3), none, none, some (.iconst 1, 1), some (.iload 8, 2), none, some (.ishl, 1), some (.goto 4, 3), none, none, some (.iconst 0, 1), some (.ior, 1)],
  [some (.istore 7, 2), none, some (.iinc 8 1, 3), none, none, some (.goto (-42), 3), none, none, some (.aload_n 0, 1), some (.getfield 13, 3), none, none, some (.iload 5, 2), none, some (.iload 6, 2), none],
  [some (.iastore, 1), some (.iload 7, 2), none, some (.ireturn, 1)]]
/-- MindPostModel.heart -/
def cd278 : List (List (Option (ClassFile.Instr × Nat))) := [[some (.aload_n 0, 1), some (.iconst 0, 1), some (.putfield 1, 3), none, none, some (.iload_n 1, 1), some (.i2l, 1), some (.lconst 0, 1), some (.ldc2_w 310, 3), none, none, some (.invokestatic 142, 3), none, none, some (.ifCond .eq 24, 3), none],
  [none, some (.aload_n 0, 1), some (.iload_n 2, 1), some (.i2l, 1), some (.iload 4, 2), none, some (.i2l, 1), some (.invokevirtual 241, 3), none, none, some (.ifCond .eq 12, 3), none, none, some (.aload_n 0, 1), some (.iload_n 3, 1), some (.i2l, 1)],
  [some (.invokevirtual 249, 3), none, none, some (.ifCond .ne 6, 3), none, none, some (.bipush (-2), 2), none, some (.ireturn, 1), some (.aload_n 0, 1), some (.iload_n 1, 1), some (.invokevirtual 392, 3), none, none, some (.istore 5, 2), none],
  [some (.iload 5, 2), none, some (.ifCond .eq 8, 3), none, none, some (.iload 5, 2), none, some (.goto 12, 3), none, none, some (.aload_n 0, 1), some (.iload_n 1, 1), some (.iload_n 2, 1), some (.iload_n 3, 1), some (.iload 4, 2), none],
  [some (.invokevirtual 405, 3), none, none, some (.ireturn, 1)]]
/-- MindPostModel.suspects -/
def cd279 : List (List (Option (ClassFile.Instr × Nat))) := [[some (.aload_n 0, 1), some (.iconst 0, 1), some (.putfield 1, 3), none, none, some (.aload_n 0, 1), some (.iload_n 1, 1), some (.iload_n 2, 1), some (.iload_n 3, 1), some (.invokevirtual 399, 3), none, none, some (.istore 4, 2), none, some (.iload 4, 2), none],
  [some (.ifCond .eq 6, 3), none, none, some (.iload 4, 2), none, some (.ireturn, 1), some (.iconst 0, 1), some (.istore 5, 2), none, some (.aload_n 0, 1), some (.iload_n 1, 1), some (.iload_n 2, 1), some (.iload_n 3, 1), some (.invokevirtual 395, 3), none, none],
  [some (.ifCond .eq 6, 3), none, none, some (.iload 5, 2), none, some (.ireturn, 1), some (.iconst 0, 1), some (.istore 6, 2), none, some (.iload 6, 2), none, some (.aload_n 0, 1), some (.getfield 13, 3), none, none, some (.iconst 2, 1)],
  [some (.iaload, 1), some (.if_icmp .ge 40, 3), none, none, some (.iload 5, 2), none, some (.iload 6, 2), none, some (.iload_n 2, 1), some (.if_icmp .eq 22, 3), none, none, some (.aload_n 0, 1), some (.iload_n 1, 1), some (.iload_n 2, 1), some (.iload_n 3, 1)],
  [some (.iload 6, 2), none, some (.invokevirtual 405, 3), none, none, some (.ifCond .eq 10, 3), none, none, some (.iconst 1, 1), some (.iload 6, 2), none, some (.ishl, 1), some (.goto 4, 3), none, none, some (.iconst 0, 1)],
  [some (.ior, 1), some (.istore 5, 2), none, some (.iinc 6 1, 3), none, none, some (.goto (-45), 3), none, none, some (.iload 5, 2), none, some (.ireturn, 1)]]
/-- MindPostModel.meet -/
def cd280 : List (List (Option (ClassFile.Instr × Nat))) := [[some (.aload_n 0, 1), some (.iconst 0, 1), some (.putfield 1, 3), none, none, some (.aload_n 0, 1), some (.iload_n 1, 1), some (.iload_n 2, 1), some (.invokevirtual 336, 3), none, none, some (.ifCond .eq 13, 3), none, none, some (.aload_n 0, 1), some (.iload_n 3, 1)],
  [some (.iload 4, 2), none, some (.invokevirtual 336, 3), none, none, some (.ifCond .ne 6, 3), none, none, some (.bipush (-2), 2), none, some (.ireturn, 1), some (.aload_n 0, 1), some (.iload_n 3, 1), some (.invokevirtual 342, 3), none, none],
  [some (.iconst 0, 1), some (.istore 5, 2), none, some (.iload 5, 2), none, some (.bipush 6, 2), none, some (.if_icmp .ge 23, 3), none, none, some (.aload_n 0, 1), some (.getfield 51, 3), none, none, some (.iload 5, 2), none],
  [some (.aload_n 0, 1), some (.getfield 42, 3), none, none, some (.iload 5, 2), none, some (.iaload, 1), some (.iastore, 1), some (.iinc 5 1, 3), none, none, some (.goto (-24), 3), none, none, some (.aload_n 0, 1), some (.iload_n 1, 1)],
  [some (.invokevirtual 342, 3), none, none, some (.iload_n 2, 1), some (.istore 5, 2), none, some (.iload 4, 2), none, some (.istore 6, 2), none, some (.iconst 0, 1), some (.istore 7, 2), none, some (.iload 7, 2), none, some (.bipush 100, 2)],
  [none, some (.if_icmp .ge 37, 3), none, none, some (.iload 5, 2), none, some (.iload 6, 2), none, some (.if_icmp .ne 6, 3), none, none, some (.iload 7, 2), none, some (.ireturn, 1), some (.aload_n 0, 1), some (.getfield 42, 3)],
  [none, none, some (.iload 5, 2), none, some (.iaload, 1), some (.istore 5, 2), none, some (.aload_n 0, 1), some (.getfield 51, 3), none, none, some (.iload 6, 2), none, some (.iaload, 1), some (.istore 6, 2), none],
  [some (.iinc 7 1, 3), none, none, some (.goto (-38), 3), none, none, some (.iconst (-1), 1), some (.ireturn, 1)]]
/-- MindPostModel.hub -/
def cd281 : List (List (Option (ClassFile.Instr × Nat))) := [[some (.aload_n 0, 1), some (.iconst 0, 1), some (.putfield 1, 3), none, none, some (.iconst 0, 1), some (.istore_n 1, 1), some (.iload_n 1, 1), some (.bipush 6, 2), none, some (.if_icmp .ge 16, 3), none, none, some (.aload_n 0, 1), some (.getfield 45, 3), none],
  [none, some (.iload_n 1, 1), some (.iconst 0, 1), some (.iastore, 1), some (.iinc 1 1, 3), none, none, some (.goto (-16), 3), none, none, some (.iconst 0, 1), some (.istore_n 1, 1), some (.iload_n 1, 1), some (.aload_n 0, 1), some (.getfield 13, 3), none],
  [none, some (.iconst 2, 1), some (.iaload, 1), some (.if_icmp .ge 56, 3), none, none, some (.aload_n 0, 1), some (.iload_n 1, 1), some (.invokevirtual 363, 3), none, none, some (.istore_n 2, 1), some (.iconst 0, 1), some (.istore_n 3, 1), some (.iload_n 3, 1), some (.aload_n 0, 1)],
  [some (.getfield 13, 3), none, none, some (.iconst 1, 1), some (.iaload, 1), some (.if_icmp .ge 32, 3), none, none, some (.aload_n 0, 1), some (.getfield 45, 3), none, none, some (.iload_n 3, 1), some (.dup2, 1), some (.iaload, 1), some (.iload_n 2, 1)],
  [some (.i2l, 1), some (.iload_n 3, 1), some (.invokestatic 234, 3), none, none, some (.ifCond .eq 7, 3), none, none, some (.iconst 1, 1), some (.goto 4, 3), none, none, some (.iconst 0, 1), some (.iadd, 1), some (.iastore, 1), some (.iinc 3 1, 3)],
  [none, none, some (.goto (-36), 3), none, none, some (.iinc 1 1, 3), none, none, some (.goto (-60), 3), none, none, some (.iconst 0, 1), some (.istore_n 1, 1), some (.iconst 1, 1), some (.istore_n 2, 1), some (.iload_n 2, 1)],
  [some (.aload_n 0, 1), some (.getfield 13, 3), none, none, some (.iconst 1, 1), some (.iaload, 1), some (.if_icmp .ge 26, 3), none, none, some (.aload_n 0, 1), some (.getfield 45, 3), none, none, some (.iload_n 2, 1), some (.iaload, 1), some (.aload_n 0, 1)],
  [some (.getfield 45, 3), none, none, some (.iload_n 1, 1), some (.iaload, 1), some (.if_icmp .le 5, 3), none, none, some (.iload_n 2, 1), some (.istore_n 1, 1), some (.iinc 2 1, 3), none, none, some (.goto (-30), 3), none, none],
  [some (.iload_n 1, 1), some (.ireturn, 1)]]
/-- MindPostModel.laysAway -/
def cd282 : List (List (Option (ClassFile.Instr × Nat))) := [[some (.aload_n 0, 1), some (.iload_n 1, 1), some (.invokevirtual 342, 3), none, none, some (.iconst 0, 1), some (.istore_n 2, 1), some (.iload_n 2, 1), some (.aload_n 0, 1), some (.getfield 13, 3), none, none, some (.iconst 1, 1), some (.iaload, 1), some (.if_icmp .ge 99, 3), none],
  [none, some (.iload_n 2, 1), some (.aload_n 0, 1), some (.getfield 13, 3), none, none, some (.bipush 30, 2), none, some (.iload_n 1, 1), some (.iadd, 1), some (.iaload, 1), some (.if_icmp .ne 7, 3), none, none, some (.iconst (-1), 1), some (.goto 10, 3)],
  [none, none, some (.aload_n 0, 1), some (.iload_n 1, 1), some (.iload_n 2, 1), some (.iconst (-1), 1), some (.invokevirtual 228, 3), none, none, some (.istore_n 3, 1), some (.iload_n 3, 1), some (.iconst (-1), 1), some (.if_icmp .ne 7, 3), none, none, some (.iconst (-1), 1)],
  [some (.goto 10, 3), none, none, some (.aload_n 0, 1), some (.iload_n 1, 1), some (.iload_n 2, 1), some (.iload_n 3, 1), some (.invokevirtual 228, 3), none, none, some (.istore 4, 2), none, some (.aload_n 0, 1), some (.getfield 57, 3), none, none],
  [some (.iload_n 2, 1), some (.iload_n 3, 1), some (.iconst (-1), 1), some (.if_icmp .ne 7, 3), none, none, some (.iconst 0, 1), some (.goto 12, 3), none, none, some (.aload_n 0, 1), some (.getfield 13, 3), none, none, some (.bipush 21, 2), none],
  [some (.iload_n 3, 1), some (.iadd, 1), some (.iaload, 1), some (.iastore, 1), some (.aload_n 0, 1), some (.getfield 54, 3), none, none, some (.iload_n 2, 1), some (.iload 4, 2), none, some (.iconst (-1), 1), some (.if_icmp .ne 7, 3), none, none, some (.iload_n 2, 1)],
  [some (.goto 10, 3), none, none, some (.aload_n 0, 1), some (.iload 4, 2), none, some (.iload_n 1, 1), some (.invokevirtual 231, 3), none, none, some (.iastore, 1), some (.iinc 2 1, 3), none, none, some (.goto (-103), 3), none],
  [none, some (.return_, 1)]]
/-- MindPostModel.laysLikely -/
def cd283 : List (List (Option (ClassFile.Instr × Nat))) := [[some (.aload_n 0, 1), some (.iload_n 1, 1), some (.invokevirtual 409, 3), none, none, some (.iconst 0, 1), some (.istore_n 3, 1), some (.iload_n 3, 1), some (.aload_n 0, 1), some (.getfield 13, 3), none, none, some (.iconst 1, 1), some (.iaload, 1), some (.if_icmp .ge 33, 3), none],
  [none, some (.aload_n 0, 1), some (.getfield 60, 3), none, none, some (.iload_n 3, 1), some (.iload_n 3, 1), some (.aload_n 0, 1), some (.getfield 13, 3), none, none, some (.bipush 30, 2), none, some (.iload_n 1, 1), some (.iadd, 1), some (.iaload, 1)],
  [some (.if_icmp .ne 7, 3), none, none, some (.lconst 1, 1), some (.goto 4, 3), none, none, some (.lconst 0, 1), some (.lastore, 1), some (.iinc 3 1, 3), none, none, some (.goto (-37), 3), none, none, some (.iconst 0, 1)],
  [some (.istore_n 3, 1), some (.iload_n 3, 1), some (.iload_n 2, 1), some (.if_icmp .ge 116, 3), none, none, some (.iconst 0, 1), some (.istore 4, 2), none, some (.iload 4, 2), none, some (.aload_n 0, 1), some (.getfield 13, 3), none, none, some (.iconst 1, 1)],
  [some (.iaload, 1), some (.if_icmp .ge 62, 3), none, none, some (.aload_n 0, 1), some (.getfield 64, 3), none, none, some (.iload 4, 2), none, some (.aload_n 0, 1), some (.getfield 60, 3), none, none, some (.aload_n 0, 1), some (.getfield 42, 3)],
  [none, none, some (.iload 4, 2), none, some (.iaload, 1), some (.laload, 1), some (.bipush 10, 2), none, some (.aload_n 0, 1), some (.getfield 57, 3), none, none, some (.iload 4, 2), none, some (.iaload, 1), some (.isub, 1)],
  [some (.i2l, 1), some (.lmul, 1), some (.aload_n 0, 1), some (.getfield 60, 3), none, none, some (.aload_n 0, 1), some (.getfield 54, 3), none, none, some (.iload 4, 2), none, some (.iaload, 1), some (.laload, 1), some (.aload_n 0, 1), some (.getfield 57, 3)],
  [none, none, some (.iload 4, 2), none, some (.iaload, 1), some (.i2l, 1), some (.lmul, 1), some (.ladd, 1), some (.lastore, 1), some (.iinc 4 1, 3), none, none, some (.goto (-67), 3), none, none, some (.iconst 0, 1)],
  [some (.istore 4, 2), none, some (.iload 4, 2), none, some (.aload_n 0, 1), some (.getfield 13, 3), none, none, some (.iconst 1, 1), some (.iaload, 1), some (.if_icmp .ge 23, 3), none, none, some (.aload_n 0, 1), some (.getfield 60, 3), none],
  [none, some (.iload 4, 2), none, some (.aload_n 0, 1), some (.getfield 64, 3), none, none, some (.iload 4, 2), none, some (.laload, 1), some (.lastore, 1), some (.iinc 4 1, 3), none, none, some (.goto (-28), 3), none],
  [none, some (.iinc 3 1, 3), none, none, some (.goto (-115), 3), none, none, some (.return_, 1)]]
/-- MindPostModel.tens -/
def cd284 : List (List (Option (ClassFile.Instr × Nat))) := [[some (.lconst 1, 1), some (.lstore_n 1, 1), some (.iconst 0, 1), some (.istore_n 3, 1), some (.iload_n 3, 1), some (.iload_n 0, 1), some (.if_icmp .ge 15, 3), none, none, some (.lload_n 1, 1), some (.ldc2_w 288, 3), none, none, some (.lmul, 1), some (.lstore_n 1, 1), some (.iinc 3 1, 3)],
  [none, none, some (.goto (-14), 3), none, none, some (.lload_n 1, 1), some (.lreturn, 1)]]
/-- MindPostModel.common -/
def cd285 : List (List (Option (ClassFile.Instr × Nat))) := [[some (.lload_n 2, 1), some (.lconst 0, 1), some (.lcmp, 1), some (.ifCond .ne 7, 3), none, none, some (.lload_n 0, 1), some (.goto 10, 3), none, none, some (.lload_n 2, 1), some (.lload_n 0, 1), some (.lload_n 2, 1), some (.lrem, 1), some (.invokestatic 412, 3), none],
  [none, some (.lreturn, 1)]]
/-- MindPostModel.chance -/
def cd286 : List (List (Option (ClassFile.Instr × Nat))) := [[some (.aload_n 0, 1), some (.iconst 0, 1), some (.putfield 1, 3), none, none, some (.aload_n 0, 1), some (.iload_n 1, 1), some (.iload_n 2, 1), some (.invokevirtual 336, 3), none, none, some (.ifCond .eq 14, 3), none, none, some (.iload 4, 2), none],
  [some (.i2l, 1), some (.lconst 0, 1), some (.lconst 1, 1), some (.invokestatic 142, 3), none, none, some (.ifCond .ne 7, 3), none, none, some (.ldc2_w 416, 3), none, none, some (.lreturn, 1), some (.iload_n 3, 1), some (.i2l, 1), some (.lconst 0, 1)],
  [some (.ldc2_w 418, 3), none, none, some (.invokestatic 142, 3), none, none, some (.ifCond .ne 7, 3), none, none, some (.ldc2_w 420, 3), none, none, some (.lreturn, 1), some (.aload_n 0, 1), some (.iload_n 1, 1), some (.iload_n 3, 1)],
  [some (.invokevirtual 422, 3), none, none, some (.aload_n 0, 1), some (.getfield 60, 3), none, none, some (.iload_n 2, 1), some (.laload, 1), some (.iload_n 3, 1), some (.invokestatic 425, 3), none, none, some (.invokestatic 412, 3), none, none],
  [some (.lstore 5, 2), none, some (.iload 4, 2), none, some (.ifCond .ne 12, 3), none, none, some (.aload_n 0, 1), some (.getfield 60, 3), none, none, some (.iload_n 2, 1), some (.laload, 1), some (.goto 7, 3), none, none],
  [some (.iload_n 3, 1), some (.invokestatic 425, 3), none, none, some (.lload 5, 2), none, some (.ldiv, 1), some (.lreturn, 1)]]
/-- MindPostModel.likely -/
def cd287 : List (List (Option (ClassFile.Instr × Nat))) := [[some (.aload_n 0, 1), some (.iconst 0, 1), some (.putfield 1, 3), none, none, some (.aload_n 0, 1), some (.iload_n 1, 1), some (.iload_n 2, 1), some (.invokevirtual 336, 3), none, none, some (.ifCond .ne 6, 3), none, none, some (.bipush (-2), 2), none],
  [some (.ireturn, 1), some (.iload_n 3, 1), some (.i2l, 1), some (.lconst 0, 1), some (.ldc2_w 294, 3), none, none, some (.invokestatic 142, 3), none, none, some (.ifCond .ne 6, 3), none, none, some (.bipush (-3), 2), none, some (.ireturn, 1)],
  [some (.iconst 0, 1), some (.istore 4, 2), none, some (.iload 4, 2), none, some (.bipush 15, 2), none, some (.if_icmp .gt 41, 3), none, none, some (.aload_n 0, 1), some (.iload_n 1, 1), some (.iload 4, 2), none, some (.invokevirtual 422, 3), none],
  [none, some (.aload_n 0, 1), some (.getfield 60, 3), none, none, some (.iload_n 2, 1), some (.laload, 1), some (.ldc2_w 294, 3), none, none, some (.lmul, 1), some (.iload_n 3, 1), some (.i2l, 1), some (.iload 4, 2), none, some (.invokestatic 425, 3)],
  [none, none, some (.lmul, 1), some (.lcmp, 1), some (.ifCond .lt 6, 3), none, none, some (.iload 4, 2), none, some (.ireturn, 1), some (.iinc 4 1, 3), none, none, some (.goto (-42), 3), none, none],
  [some (.iconst (-1), 1), some (.ireturn, 1)]]
/-- MindPostModel.surest -/
def cd288 : List (List (Option (ClassFile.Instr × Nat))) := [[some (.aload_n 0, 1), some (.iconst 0, 1), some (.putfield 1, 3), none, none, some (.aload_n 0, 1), some (.iload_n 1, 1), some (.i2l, 1), some (.invokevirtual 207, 3), none, none, some (.ifCond .ne 6, 3), none, none, some (.bipush (-2), 2), none],
  [some (.ireturn, 1), some (.iload_n 2, 1), some (.i2l, 1), some (.lconst 0, 1), some (.ldc2_w 418, 3), none, none, some (.invokestatic 142, 3), none, none, some (.ifCond .ne 6, 3), none, none, some (.bipush (-3), 2), none, some (.ireturn, 1)],
  [some (.aload_n 0, 1), some (.iload_n 1, 1), some (.iload_n 2, 1), some (.invokevirtual 422, 3), none, none, some (.iconst (-1), 1), some (.istore_n 3, 1), some (.lconst 0, 1), some (.lstore 4, 2), none, some (.iconst 0, 1), some (.istore 6, 2), none, some (.iload 6, 2), none],
  [some (.aload_n 0, 1), some (.getfield 13, 3), none, none, some (.iconst 1, 1), some (.iaload, 1), some (.if_icmp .ge 51, 3), none, none, some (.iload 6, 2), none, some (.aload_n 0, 1), some (.getfield 13, 3), none, none, some (.bipush 30, 2)],
  [none, some (.iload_n 1, 1), some (.iadd, 1), some (.iaload, 1), some (.if_icmp .eq 31, 3), none, none, some (.aload_n 0, 1), some (.getfield 60, 3), none, none, some (.iload 6, 2), none, some (.laload, 1), some (.lload 4, 2), none],
  [some (.lcmp, 1), some (.ifCond .gt 6, 3), none, none, some (.goto 15, 3), none, none, some (.iload 6, 2), none, some (.istore_n 3, 1), some (.aload_n 0, 1), some (.getfield 60, 3), none, none, some (.iload 6, 2), none],
  [some (.laload, 1), some (.lstore 4, 2), none, some (.iinc 6 1, 3), none, none, some (.goto (-56), 3), none, none, some (.iload_n 3, 1), some (.ireturn, 1)]]
/-- MindPostModel.cut -/
def cd289 : List (List (Option (ClassFile.Instr × Nat))) := [[some (.iload_n 2, 1), some (.ifCond .ne 10, 3), none, none, some (.lload_n 0, 1), some (.l2i, 1), some (.i2b, 1), some (.i2l, 1), some (.goto 27, 3), none, none, some (.iload_n 2, 1), some (.iconst 1, 1), some (.if_icmp .ne 10, 3), none, none],
  [some (.lload_n 0, 1), some (.l2i, 1), some (.i2s, 1), some (.i2l, 1), some (.goto 15, 3), none, none, some (.iload_n 2, 1), some (.iconst 2, 1), some (.if_icmp .ne 9, 3), none, none, some (.lload_n 0, 1), some (.l2i, 1), some (.i2l, 1), some (.goto 4, 3)],
  [none, none, some (.lload_n 0, 1), some (.lreturn, 1)]]
/-- MindPostModel.numbers -/
def cd290 : List (List (Option (ClassFile.Instr × Nat))) := [[some (.aload_n 0, 1), some (.iconst 0, 1), some (.putfield 1, 3), none, none, some (.iload_n 1, 1), some (.i2l, 1), some (.lconst 0, 1), some (.ldc2_w 310, 3), none, none, some (.invokestatic 142, 3), none, none, some (.ifCond .eq 15, 3), none],
  [none, some (.iload_n 2, 1), some (.i2l, 1), some (.lconst 0, 1), some (.ldc2_w 310, 3), none, none, some (.invokestatic 142, 3), none, none, some (.ifCond .ne 6, 3), none, none, some (.bipush (-2), 2), none, some (.ireturn, 1)],
  [some (.iload_n 3, 1), some (.i2l, 1), some (.lconst 0, 1), some (.ldc2_w 331, 3), none, none, some (.invokestatic 142, 3), none, none, some (.ifCond .ne 6, 3), none, none, some (.bipush (-3), 2), none, some (.ireturn, 1), some (.aload_n 0, 1)],
  [some (.getfield 67, 3), none, none, some (.iload_n 1, 1), some (.iload_n 2, 1), some (.iastore, 1), some (.aload_n 0, 1), some (.getfield 70, 3), none, none, some (.iload_n 1, 1), some (.iload_n 3, 1), some (.iastore, 1), some (.iconst 0, 1), some (.istore 4, 2), none],
  [some (.iload 4, 2), none, some (.iload_n 3, 1), some (.if_icmp .ge 22, 3), none, none, some (.aload_n 0, 1), some (.getfield 73, 3), none, none, some (.bipush 40, 2), none, some (.iload_n 1, 1), some (.imul, 1), some (.iload 4, 2), none],
  [some (.iadd, 1), some (.lconst 0, 1), some (.lastore, 1), some (.iinc 4 1, 3), none, none, some (.goto (-22), 3), none, none, some (.iconst 0, 1), some (.ireturn, 1)]]
/-- MindPostModel.write -/
def cd291 : List (List (Option (ClassFile.Instr × Nat))) := [[some (.aload_n 0, 1), some (.iconst 0, 1), some (.putfield 1, 3), none, none, some (.aload_n 0, 1), some (.iload_n 1, 1), some (.invokevirtual 312, 3), none, none, some (.istore 5, 2), none, some (.iload 5, 2), none, some (.ifCond .eq 7, 3), none],
  [none, some (.iload 5, 2), none, some (.i2l, 1), some (.lreturn, 1), some (.iload_n 2, 1), some (.i2l, 1), some (.lconst 0, 1), some (.aload_n 0, 1), some (.getfield 70, 3), none, none, some (.iload_n 1, 1), some (.iaload, 1), some (.iconst 1, 1), some (.isub, 1)],
  [some (.i2l, 1), some (.invokestatic 142, 3), none, none, some (.ifCond .ne 7, 3), none, none, some (.ldc2_w 429, 3), none, none, some (.lreturn, 1), some (.aload_n 0, 1), some (.getfield 73, 3), none, none, some (.bipush 40, 2)],
  [none, some (.iload_n 1, 1), some (.imul, 1), some (.iload_n 2, 1), some (.iadd, 1), some (.lload_n 3, 1), some (.aload_n 0, 1), some (.getfield 67, 3), none, none, some (.iload_n 1, 1), some (.iaload, 1), some (.invokestatic 431, 3), none, none, some (.lastore, 1)],
  [some (.aload_n 0, 1), some (.getfield 73, 3), none, none, some (.bipush 40, 2), none, some (.iload_n 1, 1), some (.imul, 1), some (.iload_n 2, 1), some (.iadd, 1), some (.laload, 1), some (.lreturn, 1)]]
/-- MindPostModel.lists -/
def cd292 : List (List (Option (ClassFile.Instr × Nat))) := [[some (.aload_n 0, 1), some (.iconst 0, 1), some (.putfield 1, 3), none, none, some (.iload_n 1, 1), some (.i2l, 1), some (.lconst 0, 1), some (.ldc2_w 310, 3), none, none, some (.invokestatic 142, 3), none, none, some (.ifCond .eq 12, 3), none],
  [none, some (.aload_n 0, 1), some (.iload_n 2, 1), some (.iload_n 3, 1), some (.invokevirtual 336, 3), none, none, some (.ifCond .ne 6, 3), none, none, some (.bipush (-2), 2), none, some (.ireturn, 1), some (.aload_n 0, 1), some (.iload_n 1, 1), some (.invokevirtual 312, 3)],
  [none, none, some (.istore 4, 2), none, some (.iload 4, 2), none, some (.ifCond .eq 6, 3), none, none, some (.iload 4, 2), none, some (.ireturn, 1), some (.aload_n 0, 1), some (.iload_n 2, 1), some (.invokevirtual 342, 3), none],
  [none, some (.iconst 0, 1), some (.istore 5, 2), none, some (.iload 5, 2), none, some (.aload_n 0, 1), some (.getfield 70, 3), none, none, some (.iload_n 1, 1), some (.iaload, 1), some (.if_icmp .ge 29, 3), none, none, some (.aload_n 0, 1)],
  [some (.getfield 73, 3), none, none, some (.bipush 40, 2), none, some (.iload_n 1, 1), some (.imul, 1), some (.iload 5, 2), none, some (.iadd, 1), some (.aload_n 0, 1), some (.iload_n 3, 1), some (.iload 5, 2), none, some (.invokevirtual 345, 3), none],
  [none, some (.i2l, 1), some (.lastore, 1), some (.iinc 5 1, 3), none, none, some (.goto (-34), 3), none, none, some (.aload_n 0, 1), some (.getfield 70, 3), none, none, some (.iload_n 1, 1), some (.iaload, 1), some (.ireturn, 1)]]
/-- MindPostModel.image -/
def cd293 : List (List (Option (ClassFile.Instr × Nat))) := [[some (.aload_n 0, 1), some (.iconst 0, 1), some (.putfield 1, 3), none, none, some (.iload_n 1, 1), some (.i2l, 1), some (.lconst 0, 1), some (.lconst 1, 1), some (.invokestatic 142, 3), none, none, some (.ifCond .ne 6, 3), none, none, some (.bipush (-2), 2)],
  [none, some (.ireturn, 1), some (.iconst 0, 1), some (.istore_n 2, 1), some (.iload_n 2, 1), some (.sipush 1754, 3), none, none, some (.if_icmp .ge 29, 3), none, none, some (.aload_n 0, 1), some (.getfield 13, 3), none, none, some (.sipush 1754, 3)],
  [none, none, some (.iload_n 1, 1), some (.iconst 1, 1), some (.iadd, 1), some (.imul, 1), some (.iload_n 2, 1), some (.iadd, 1), some (.aload_n 0, 1), some (.getfield 13, 3), none, none, some (.iload_n 2, 1), some (.iaload, 1), some (.iastore, 1), some (.iinc 2 1, 3)],
  [none, none, some (.goto (-30), 3), none, none, some (.aload_n 0, 1), some (.getfield 17, 3), none, none, some (.iload_n 1, 1), some (.iconst 1, 1), some (.bastore, 1), some (.iconst 0, 1), some (.ireturn, 1)]]
/-- MindPostModel.restore -/
def cd294 : List (List (Option (ClassFile.Instr × Nat))) := [[some (.aload_n 0, 1), some (.iconst 0, 1), some (.putfield 1, 3), none, none, some (.iload_n 1, 1), some (.i2l, 1), some (.lconst 0, 1), some (.lconst 1, 1), some (.invokestatic 142, 3), none, none, some (.ifCond .ne 6, 3), none, none, some (.bipush (-2), 2)],
  [none, some (.ireturn, 1), some (.aload_n 0, 1), some (.getfield 17, 3), none, none, some (.iload_n 1, 1), some (.baload, 1), some (.ifCond .ne 6, 3), none, none, some (.bipush (-5), 2), none, some (.ireturn, 1), some (.iconst 0, 1), some (.istore_n 2, 1)],
  [some (.iload_n 2, 1), some (.sipush 1754, 3), none, none, some (.if_icmp .ge 29, 3), none, none, some (.aload_n 0, 1), some (.getfield 13, 3), none, none, some (.iload_n 2, 1), some (.aload_n 0, 1), some (.getfield 13, 3), none, none],
  [some (.sipush 1754, 3), none, none, some (.iload_n 1, 1), some (.iconst 1, 1), some (.iadd, 1), some (.imul, 1), some (.iload_n 2, 1), some (.iadd, 1), some (.iaload, 1), some (.iastore, 1), some (.iinc 2 1, 3), none, none, some (.goto (-30), 3), none],
  [none, some (.aload_n 0, 1), some (.getfield 13, 3), none, none, some (.bipush 102, 2), none, some (.iconst 0, 1), some (.iastore, 1), some (.iconst 0, 1), some (.ireturn, 1)]]
/-- MindPostModel.caresAll -/
def cd295 : List (List (Option (ClassFile.Instr × Nat))) := [[some (.iconst 0, 1), some (.istore_n 1, 1), some (.iconst 0, 1), some (.istore_n 2, 1), some (.iload_n 2, 1), some (.bipush 36, 2), none, some (.if_icmp .ge 21, 3), none, none, some (.iload_n 1, 1), some (.aload_n 0, 1), some (.getfield 13, 3), none, none, some (.bipush 42, 2)],
  [none, some (.iload_n 2, 1), some (.iadd, 1), some (.iaload, 1), some (.iadd, 1), some (.istore_n 1, 1), some (.iinc 2 1, 3), none, none, some (.goto (-21), 3), none, none, some (.iload_n 1, 1), some (.ireturn, 1)]]
/-- MindPostModel.count -/
def cd296 : List (List (Option (ClassFile.Instr × Nat))) := [[some (.aload_n 0, 1), some (.iconst 0, 1), some (.putfield 1, 3), none, none, some (.iload_n 1, 1), some (.tableswitch 113 0 8 #[50, 57, 64, 72, 80, 88, 93, 101, 106], 50), none, none, none, none, none, none, none, none, none],
  [none, none, none, none, none, none, none, none, none, none, none, none, none, none, none, none],
  [none, none, none, none, none, none, none, none, none, none, none, none, none, none, none, none],
  [none, none, none, none, none, none, none, none, some (.aload_n 0, 1), some (.getfield 13, 3), none, none, some (.iconst 1, 1), some (.iaload, 1), some (.ireturn, 1), some (.aload_n 0, 1)],
  [some (.getfield 13, 3), none, none, some (.iconst 2, 1), some (.iaload, 1), some (.ireturn, 1), some (.aload_n 0, 1), some (.getfield 13, 3), none, none, some (.bipush 28, 2), none, some (.iaload, 1), some (.ireturn, 1), some (.aload_n 0, 1), some (.getfield 13, 3)],
  [none, none, some (.bipush 29, 2), none, some (.iaload, 1), some (.ireturn, 1), some (.aload_n 0, 1), some (.getfield 13, 3), none, none, some (.bipush 27, 2), none, some (.iaload, 1), some (.ireturn, 1), some (.aload_n 0, 1), some (.invokevirtual 435, 3)],
  [none, none, some (.ireturn, 1), some (.aload_n 0, 1), some (.getfield 13, 3), none, none, some (.bipush 102, 2), none, some (.iaload, 1), some (.ireturn, 1), some (.aload_n 0, 1), some (.getfield 80, 3), none, none, some (.ireturn, 1)],
  [some (.aload_n 0, 1), some (.getfield 13, 3), none, none, some (.iconst 0, 1), some (.iaload, 1), some (.ireturn, 1), some (.iconst (-1), 1), some (.ireturn, 1)]]
/-- java/lang/Integer.bitCount -/
def cd297 : List (List (Option (ClassFile.Instr × Nat))) := [[some (.iload_n 0, 1), some (.iload_n 0, 1), some (.iconst 1, 1), some (.iushr, 1), some (.ldc_w 265, 3), none, none, some (.iand, 1), some (.isub, 1), some (.istore_n 0, 1), some (.iload_n 0, 1), some (.ldc_w 266, 3), none, none, some (.iand, 1), some (.iload_n 0, 1)],
  [some (.iconst 2, 1), some (.iushr, 1), some (.ldc_w 266, 3), none, none, some (.iand, 1), some (.iadd, 1), some (.istore_n 0, 1), some (.iload_n 0, 1), some (.iload_n 0, 1), some (.iconst 4, 1), some (.iushr, 1), some (.iadd, 1), some (.ldc_w 267, 3), none, none],
  [some (.iand, 1), some (.istore_n 0, 1), some (.iload_n 0, 1), some (.iload_n 0, 1), some (.bipush 8, 2), none, some (.iushr, 1), some (.iadd, 1), some (.istore_n 0, 1), some (.iload_n 0, 1), some (.iload_n 0, 1), some (.bipush 16, 2), none, some (.iushr, 1), some (.iadd, 1), some (.istore_n 0, 1)],
  [some (.iload_n 0, 1), some (.bipush 63, 2), none, some (.iand, 1), some (.ireturn, 1)]]
/-- java/lang/Math.floorMod -/
def cd298 : List (List (Option (ClassFile.Instr × Nat))) := [[some (.iload_n 0, 1), some (.iload_n 1, 1), some (.irem, 1), some (.istore_n 2, 1), some (.iload_n 0, 1), some (.iload_n 1, 1), some (.ixor, 1), some (.ifCond .ge 11, 3), none, none, some (.iload_n 2, 1), some (.ifCond .eq 7, 3), none, none, some (.iload_n 2, 1), some (.iload_n 1, 1)],
  [some (.iadd, 1), some (.ireturn, 1), some (.iload_n 2, 1), some (.ireturn, 1)]]
/-- java/lang/Math.max -/
def cd299 : List (List (Option (ClassFile.Instr × Nat))) := [[some (.iload_n 0, 1), some (.iload_n 1, 1), some (.if_icmp .lt 7, 3), none, none, some (.iload_n 0, 1), some (.goto 4, 3), none, none, some (.iload_n 1, 1), some (.ireturn, 1)]]
/-- java/lang/Math.min -/
def cd300 : List (List (Option (ClassFile.Instr × Nat))) := [[some (.iload_n 0, 1), some (.iload_n 1, 1), some (.if_icmp .gt 7, 3), none, none, some (.iload_n 0, 1), some (.goto 4, 3), none, none, some (.iload_n 1, 1), some (.ireturn, 1)]]
/-- java/lang/String.length -/
def cd301 : List (List (Option (ClassFile.Instr × Nat))) := [[some (.aload_n 0, 1), some (.getfield 9, 3), none, none, some (.arraylength, 1), some (.aload_n 0, 1), some (.invokevirtual 335, 3), none, none, some (.ishr, 1), some (.ireturn, 1)]]
/-- java/lang/String.charAt -/
def cd302 : List (List (Option (ClassFile.Instr × Nat))) := [[some (.aload_n 0, 1), some (.invokevirtual 492, 3), none, none, some (.ifCond .eq 12, 3), none, none, some (.aload_n 0, 1), some (.getfield 9, 3), none, none, some (.iload_n 1, 1), some (.invokestatic 495, 3), none, none, some (.ireturn, 1)],
  [some (.aload_n 0, 1), some (.getfield 9, 3), none, none, some (.iload_n 1, 1), some (.invokestatic 498, 3), none, none, some (.ireturn, 1)]]
/-- java/lang/String.indexOf -/
def cd303 : List (List (Option (ClassFile.Instr × Nat))) := [[some (.aload_n 0, 1), some (.iload_n 1, 1), some (.iconst 0, 1), some (.invokevirtual 633, 3), none, none, some (.ireturn, 1)]]
/-- java/lang/String.indexOf -/
def cd304 : List (List (Option (ClassFile.Instr × Nat))) := [[some (.aload_n 0, 1), some (.invokevirtual 492, 3), none, none, some (.ifCond .eq 19, 3), none, none, some (.aload_n 0, 1), some (.getfield 9, 3), none, none, some (.iload_n 1, 1), some (.iload_n 2, 1), some (.aload_n 0, 1), some (.invokevirtual 505, 3), none],
  [none, some (.invokestatic 637, 3), none, none, some (.goto 16, 3), none, none, some (.aload_n 0, 1), some (.getfield 9, 3), none, none, some (.iload_n 1, 1), some (.iload_n 2, 1), some (.aload_n 0, 1), some (.invokevirtual 505, 3), none],
  [none, some (.invokestatic 640, 3), none, none, some (.ireturn, 1)]]
/-- java/lang/String.coder -/
def cd305 : List (List (Option (ClassFile.Instr × Nat))) := [[some (.getstatic 38, 3), none, none, some (.ifCond .eq 10, 3), none, none, some (.aload_n 0, 1), some (.getfield 15, 3), none, none, some (.goto 4, 3), none, none, some (.iconst 1, 1), some (.ireturn, 1)]]
/-- java/lang/String.isLatin1 -/
def cd306 : List (List (Option (ClassFile.Instr × Nat))) := [[some (.getstatic 38, 3), none, none, some (.ifCond .eq 14, 3), none, none, some (.aload_n 0, 1), some (.getfield 15, 3), none, none, some (.ifCond .ne 7, 3), none, none, some (.iconst 1, 1), some (.goto 4, 3), none],
  [none, some (.iconst 0, 1), some (.ireturn, 1)]]
/-- java/lang/String.checkIndex -/
def cd307 : List (List (Option (ClassFile.Instr × Nat))) := [[some (.iload_n 0, 1), some (.iload_n 1, 1), some (.getstatic 1053, 3), none, none, some (.invokestatic 1059, 3), none, none, some (.pop, 1), some (.return_, 1)]]
/-- java/lang/StringLatin1.charAt -/
def cd308 : List (List (Option (ClassFile.Instr × Nat))) := [[some (.iload_n 1, 1), some (.aload_n 0, 1), some (.arraylength, 1), some (.invokestatic 9, 3), none, none, some (.aload_n 0, 1), some (.iload_n 1, 1), some (.baload, 1), some (.sipush 255, 3), none, none, some (.iand, 1), some (.i2c, 1), some (.ireturn, 1)]]
/-- java/lang/StringLatin1.canEncode -/
def cd309 : List (List (Option (ClassFile.Instr × Nat))) := [[some (.iload_n 0, 1), some (.ifCond .lt 14, 3), none, none, some (.iload_n 0, 1), some (.sipush 255, 3), none, none, some (.if_icmp .gt 7, 3), none, none, some (.iconst 1, 1), some (.goto 4, 3), none, none, some (.iconst 0, 1)],
  [some (.ireturn, 1)]]
/-- java/lang/StringLatin1.indexOf -/
def cd310 : List (List (Option (ClassFile.Instr × Nat))) := [[some (.iload_n 1, 1), some (.invokestatic 88, 3), none, none, some (.ifCond .ne 5, 3), none, none, some (.iconst (-1), 1), some (.ireturn, 1), some (.iload_n 2, 1), some (.iconst 0, 1), some (.invokestatic 92, 3), none, none, some (.istore_n 2, 1), some (.iload_n 3, 1)],
  [some (.aload_n 0, 1), some (.arraylength, 1), some (.invokestatic 38, 3), none, none, some (.istore_n 3, 1), some (.iload_n 2, 1), some (.iload_n 3, 1), some (.if_icmp .lt 5, 3), none, none, some (.iconst (-1), 1), some (.ireturn, 1), some (.aload_n 0, 1), some (.iload_n 1, 1), some (.iload_n 2, 1)],
  [some (.iload_n 3, 1), some (.invokestatic 95, 3), none, none, some (.ireturn, 1)]]
/-- java/lang/StringLatin1.indexOfChar -/
def cd311 : List (List (Option (ClassFile.Instr × Nat))) := [[some (.iload_n 1, 1), some (.i2b, 1), some (.istore 4, 2), none, some (.iload_n 2, 1), some (.istore 5, 2), none, some (.iload 5, 2), none, some (.iload_n 3, 1), some (.if_icmp .ge 21, 3), none, none, some (.aload_n 0, 1), some (.iload 5, 2), none],
  [some (.baload, 1), some (.iload 4, 2), none, some (.if_icmp .ne 6, 3), none, none, some (.iload 5, 2), none, some (.ireturn, 1), some (.iinc 5 1, 3), none, none, some (.goto (-21), 3), none, none, some (.iconst (-1), 1)],
  [some (.ireturn, 1)]]
/-- jdk/internal/util/Preconditions.checkIndex -/
def cd312 : List (List (Option (ClassFile.Instr × Nat))) := [[some (.iload_n 0, 1), some (.ifCond .lt 8, 3), none, none, some (.iload_n 0, 1), some (.iload_n 1, 1), some (.if_icmp .lt 10, 3), none, none, some (.aload_n 2, 1), some (.iload_n 0, 1), some (.iload_n 1, 1), some (.invokestatic 95, 3), none, none, some (.athrow, 1)],
  [some (.iload_n 0, 1), some (.ireturn, 1)]]
/-- MindPostLaw.law -/
def cd313 : List (List (Option (ClassFile.Instr × Nat))) := [[some (.new 7, 3), none, none, some (.dup, 1), some (.invokespecial 9, 3), none, none, some (.astore_n 1, 1), some (.new 10, 3), none, none, some (.dup, 1), some (.invokespecial 12, 3), none, none, some (.astore_n 2, 1)],
  [some (.iconst 0, 1), some (.istore_n 3, 1), some (.iload_n 3, 1), some (.aload_n 0, 1), some (.arraylength, 1), some (.bipush 6, 2), none, some (.isub, 1), some (.if_icmp .gt 1777, 3), none, none, some (.aload_n 0, 1), some (.iload_n 3, 1), some (.iaload, 1), some (.bipush 63, 2), none],
  [some (.iand, 1), some (.tableswitch 1762 0 44 #[195, 258, 281, 304, 337, 370, 403, 436, 469, 502, 535, 568, 601, 624, 647, 680, 703, 736, 779, 812, 855, 888, 911, 934, 957, 980, 1013, 1056, 1099, 1122, 1145, 1188, 1241, 1294, 1337, 1390, 1403, 1457, 1500, 1533, 1576, 1650, 1693, 1716, 1739], 195), none, none, none, none, none, none, none, none, none, none, none, none, none, none],
  [none, none, none, none, none, none, none, none, none, none, none, none, none, none, none, none],
  [none, none, none, none, none, none, none, none, none, none, none, none, none, none, none, none],
  [none, none, none, none, none, none, none, none, none, none, none, none, none, none, none, none],
  [none, none, none, none, none, none, none, none, none, none, none, none, none, none, none, none],
  [none, none, none, none, none, none, none, none, none, none, none, none, none, none, none, none],
  [none, none, none, none, none, none, none, none, none, none, none, none, none, none, none, none],
  [none, none, none, none, none, none, none, none, none, none, none, none, none, none, none, none],
  [none, none, none, none, none, none, none, none, none, none, none, none, none, none, none, none],
  [none, none, none, none, none, none, none, none, none, none, none, none, none, none, none, none],
  [none, none, none, none, none, none, none, none, none, none, none, none, none, none, none, none],
  [none, none, none, none, none, none, none, none, none, none, none, none, none, none, none, none],
  [none, none, none, none, some (.aload_n 1, 1), some (.aload_n 0, 1), some (.iload_n 3, 1), some (.iconst 1, 1), some (.iadd, 1), some (.iaload, 1), some (.aload_n 0, 1), some (.iload_n 3, 1), some (.iconst 2, 1), some (.iadd, 1), some (.iaload, 1), some (.aload_n 0, 1)],
  [some (.iload_n 3, 1), some (.iconst 3, 1), some (.iadd, 1), some (.iaload, 1), some (.aload_n 0, 1), some (.iload_n 3, 1), some (.iconst 4, 1), some (.iadd, 1), some (.iaload, 1), some (.aload_n 0, 1), some (.iload_n 3, 1), some (.iconst 5, 1), some (.iadd, 1), some (.iaload, 1), some (.invokevirtual 13, 3), none],
  [none, some (.aload_n 2, 1), some (.aload_n 0, 1), some (.iload_n 3, 1), some (.iconst 1, 1), some (.iadd, 1), some (.iaload, 1), some (.aload_n 0, 1), some (.iload_n 3, 1), some (.iconst 2, 1), some (.iadd, 1), some (.iaload, 1), some (.aload_n 0, 1), some (.iload_n 3, 1), some (.iconst 3, 1), some (.iadd, 1)],
  [some (.iaload, 1), some (.aload_n 0, 1), some (.iload_n 3, 1), some (.iconst 4, 1), some (.iadd, 1), some (.iaload, 1), some (.aload_n 0, 1), some (.iload_n 3, 1), some (.iconst 5, 1), some (.iadd, 1), some (.iaload, 1), some (.invokevirtual 17, 3), none, none, some (.if_icmp .eq 1509, 3), none],
  [none, some (.iconst 0, 1), some (.ireturn, 1), some (.aload_n 1, 1), some (.aload_n 0, 1), some (.iload_n 3, 1), some (.iconst 1, 1), some (.iadd, 1), some (.iaload, 1), some (.invokevirtual 18, 3), none, none, some (.aload_n 2, 1), some (.aload_n 0, 1), some (.iload_n 3, 1), some (.iconst 1, 1)],
  [some (.iadd, 1), some (.iaload, 1), some (.invokevirtual 22, 3), none, none, some (.if_icmp .eq 1486, 3), none, none, some (.iconst 0, 1), some (.ireturn, 1), some (.aload_n 1, 1), some (.aload_n 0, 1), some (.iload_n 3, 1), some (.iconst 1, 1), some (.iadd, 1), some (.iaload, 1)],
  [some (.invokevirtual 23, 3), none, none, some (.aload_n 2, 1), some (.aload_n 0, 1), some (.iload_n 3, 1), some (.iconst 1, 1), some (.iadd, 1), some (.iaload, 1), some (.invokevirtual 26, 3), none, none, some (.if_icmp .eq 1463, 3), none, none, some (.iconst 0, 1)],
  [some (.ireturn, 1), some (.aload_n 1, 1), some (.aload_n 0, 1), some (.iload_n 3, 1), some (.iconst 1, 1), some (.iadd, 1), some (.iaload, 1), some (.aload_n 0, 1), some (.iload_n 3, 1), some (.iconst 2, 1), some (.iadd, 1), some (.iaload, 1), some (.invokevirtual 27, 3), none, none, some (.aload_n 2, 1)],
  [some (.aload_n 0, 1), some (.iload_n 3, 1), some (.iconst 1, 1), some (.iadd, 1), some (.iaload, 1), some (.aload_n 0, 1), some (.iload_n 3, 1), some (.iconst 2, 1), some (.iadd, 1), some (.iaload, 1), some (.invokevirtual 31, 3), none, none, some (.if_icmp .eq 1430, 3), none, none],
  [some (.iconst 0, 1), some (.ireturn, 1), some (.aload_n 1, 1), some (.aload_n 0, 1), some (.iload_n 3, 1), some (.iconst 1, 1), some (.iadd, 1), some (.iaload, 1), some (.aload_n 0, 1), some (.iload_n 3, 1), some (.iconst 2, 1), some (.iadd, 1), some (.iaload, 1), some (.invokevirtual 32, 3), none, none],
  [some (.aload_n 2, 1), some (.aload_n 0, 1), some (.iload_n 3, 1), some (.iconst 1, 1), some (.iadd, 1), some (.iaload, 1), some (.aload_n 0, 1), some (.iload_n 3, 1), some (.iconst 2, 1), some (.iadd, 1), some (.iaload, 1), some (.invokevirtual 35, 3), none, none, some (.if_icmp .eq 1397, 3), none],
  [none, some (.iconst 0, 1), some (.ireturn, 1), some (.aload_n 1, 1), some (.aload_n 0, 1), some (.iload_n 3, 1), some (.iconst 1, 1), some (.iadd, 1), some (.iaload, 1), some (.aload_n 0, 1), some (.iload_n 3, 1), some (.iconst 2, 1), some (.iadd, 1), some (.iaload, 1), some (.invokevirtual 36, 3), none],
  [none, some (.aload_n 2, 1), some (.aload_n 0, 1), some (.iload_n 3, 1), some (.iconst 1, 1), some (.iadd, 1), some (.iaload, 1), some (.aload_n 0, 1), some (.iload_n 3, 1), some (.iconst 2, 1), some (.iadd, 1), some (.iaload, 1), some (.invokevirtual 39, 3), none, none, some (.if_icmp .eq 1364, 3)],
  [none, none, some (.iconst 0, 1), some (.ireturn, 1), some (.aload_n 1, 1), some (.aload_n 0, 1), some (.iload_n 3, 1), some (.iconst 1, 1), some (.iadd, 1), some (.iaload, 1), some (.aload_n 0, 1), some (.iload_n 3, 1), some (.iconst 2, 1), some (.iadd, 1), some (.iaload, 1), some (.invokevirtual 40, 3)],
  [none, none, some (.aload_n 2, 1), some (.aload_n 0, 1), some (.iload_n 3, 1), some (.iconst 1, 1), some (.iadd, 1), some (.iaload, 1), some (.aload_n 0, 1), some (.iload_n 3, 1), some (.iconst 2, 1), some (.iadd, 1), some (.iaload, 1), some (.invokevirtual 43, 3), none, none],
  [some (.if_icmp .eq 1331, 3), none, none, some (.iconst 0, 1), some (.ireturn, 1), some (.aload_n 1, 1), some (.aload_n 0, 1), some (.iload_n 3, 1), some (.iconst 1, 1), some (.iadd, 1), some (.iaload, 1), some (.aload_n 0, 1), some (.iload_n 3, 1), some (.iconst 2, 1), some (.iadd, 1), some (.iaload, 1)],
  [some (.invokevirtual 44, 3), none, none, some (.aload_n 2, 1), some (.aload_n 0, 1), some (.iload_n 3, 1), some (.iconst 1, 1), some (.iadd, 1), some (.iaload, 1), some (.aload_n 0, 1), some (.iload_n 3, 1), some (.iconst 2, 1), some (.iadd, 1), some (.iaload, 1), some (.invokevirtual 47, 3), none],
  [none, some (.if_icmp .eq 1298, 3), none, none, some (.iconst 0, 1), some (.ireturn, 1), some (.aload_n 1, 1), some (.aload_n 0, 1), some (.iload_n 3, 1), some (.iconst 1, 1), some (.iadd, 1), some (.iaload, 1), some (.aload_n 0, 1), some (.iload_n 3, 1), some (.iconst 2, 1), some (.iadd, 1)],
  [some (.iaload, 1), some (.invokevirtual 48, 3), none, none, some (.aload_n 2, 1), some (.aload_n 0, 1), some (.iload_n 3, 1), some (.iconst 1, 1), some (.iadd, 1), some (.iaload, 1), some (.aload_n 0, 1), some (.iload_n 3, 1), some (.iconst 2, 1), some (.iadd, 1), some (.iaload, 1), some (.invokevirtual 51, 3)],
  [none, none, some (.if_icmp .eq 1265, 3), none, none, some (.iconst 0, 1), some (.ireturn, 1), some (.aload_n 1, 1), some (.aload_n 0, 1), some (.iload_n 3, 1), some (.iconst 1, 1), some (.iadd, 1), some (.iaload, 1), some (.aload_n 0, 1), some (.iload_n 3, 1), some (.iconst 2, 1)],
  [some (.iadd, 1), some (.iaload, 1), some (.invokevirtual 52, 3), none, none, some (.aload_n 2, 1), some (.aload_n 0, 1), some (.iload_n 3, 1), some (.iconst 1, 1), some (.iadd, 1), some (.iaload, 1), some (.aload_n 0, 1), some (.iload_n 3, 1), some (.iconst 2, 1), some (.iadd, 1), some (.iaload, 1)],
  [some (.invokevirtual 55, 3), none, none, some (.if_icmp .eq 1232, 3), none, none, some (.iconst 0, 1), some (.ireturn, 1), some (.aload_n 1, 1), some (.aload_n 0, 1), some (.iload_n 3, 1), some (.iconst 1, 1), some (.iadd, 1), some (.iaload, 1), some (.aload_n 0, 1), some (.iload_n 3, 1)],
  [some (.iconst 2, 1), some (.iadd, 1), some (.iaload, 1), some (.invokevirtual 56, 3), none, none, some (.aload_n 2, 1), some (.aload_n 0, 1), some (.iload_n 3, 1), some (.iconst 1, 1), some (.iadd, 1), some (.iaload, 1), some (.aload_n 0, 1), some (.iload_n 3, 1), some (.iconst 2, 1), some (.iadd, 1)],
  [some (.iaload, 1), some (.invokevirtual 59, 3), none, none, some (.if_icmp .eq 1199, 3), none, none, some (.iconst 0, 1), some (.ireturn, 1), some (.aload_n 1, 1), some (.aload_n 0, 1), some (.iload_n 3, 1), some (.iconst 1, 1), some (.iadd, 1), some (.iaload, 1), some (.aload_n 0, 1)],
  [some (.iload_n 3, 1), some (.iconst 2, 1), some (.iadd, 1), some (.iaload, 1), some (.invokevirtual 60, 3), none, none, some (.aload_n 2, 1), some (.aload_n 0, 1), some (.iload_n 3, 1), some (.iconst 1, 1), some (.iadd, 1), some (.iaload, 1), some (.aload_n 0, 1), some (.iload_n 3, 1), some (.iconst 2, 1)],
  [some (.iadd, 1), some (.iaload, 1), some (.invokevirtual 63, 3), none, none, some (.if_icmp .eq 1166, 3), none, none, some (.iconst 0, 1), some (.ireturn, 1), some (.aload_n 1, 1), some (.aload_n 0, 1), some (.iload_n 3, 1), some (.iconst 1, 1), some (.iadd, 1), some (.iaload, 1)],
  [some (.invokevirtual 64, 3), none, none, some (.aload_n 2, 1), some (.aload_n 0, 1), some (.iload_n 3, 1), some (.iconst 1, 1), some (.iadd, 1), some (.iaload, 1), some (.invokevirtual 67, 3), none, none, some (.if_icmp .eq 1143, 3), none, none, some (.iconst 0, 1)],
  [some (.ireturn, 1), some (.aload_n 1, 1), some (.aload_n 0, 1), some (.iload_n 3, 1), some (.iconst 1, 1), some (.iadd, 1), some (.iaload, 1), some (.invokevirtual 68, 3), none, none, some (.aload_n 2, 1), some (.aload_n 0, 1), some (.iload_n 3, 1), some (.iconst 1, 1), some (.iadd, 1), some (.iaload, 1)],
  [some (.invokevirtual 71, 3), none, none, some (.if_icmp .eq 1120, 3), none, none, some (.iconst 0, 1), some (.ireturn, 1), some (.aload_n 1, 1), some (.aload_n 0, 1), some (.iload_n 3, 1), some (.iconst 1, 1), some (.iadd, 1), some (.iaload, 1), some (.aload_n 0, 1), some (.iload_n 3, 1)],
  [some (.iconst 2, 1), some (.iadd, 1), some (.iaload, 1), some (.invokevirtual 72, 3), none, none, some (.aload_n 2, 1), some (.aload_n 0, 1), some (.iload_n 3, 1), some (.iconst 1, 1), some (.iadd, 1), some (.iaload, 1), some (.aload_n 0, 1), some (.iload_n 3, 1), some (.iconst 2, 1), some (.iadd, 1)],
  [some (.iaload, 1), some (.invokevirtual 75, 3), none, none, some (.if_icmp .eq 1087, 3), none, none, some (.iconst 0, 1), some (.ireturn, 1), some (.aload_n 1, 1), some (.aload_n 0, 1), some (.iload_n 3, 1), some (.iconst 1, 1), some (.iadd, 1), some (.iaload, 1), some (.invokevirtual 76, 3)],
  [none, none, some (.aload_n 2, 1), some (.aload_n 0, 1), some (.iload_n 3, 1), some (.iconst 1, 1), some (.iadd, 1), some (.iaload, 1), some (.invokevirtual 79, 3), none, none, some (.if_icmp .eq 1064, 3), none, none, some (.iconst 0, 1), some (.ireturn, 1)],
  [some (.aload_n 1, 1), some (.aload_n 0, 1), some (.iload_n 3, 1), some (.iconst 1, 1), some (.iadd, 1), some (.iaload, 1), some (.aload_n 0, 1), some (.iload_n 3, 1), some (.iconst 2, 1), some (.iadd, 1), some (.iaload, 1), some (.invokevirtual 80, 3), none, none, some (.aload_n 2, 1), some (.aload_n 0, 1)],
  [some (.iload_n 3, 1), some (.iconst 1, 1), some (.iadd, 1), some (.iaload, 1), some (.aload_n 0, 1), some (.iload_n 3, 1), some (.iconst 2, 1), some (.iadd, 1), some (.iaload, 1), some (.invokevirtual 83, 3), none, none, some (.if_icmp .eq 1031, 3), none, none, some (.iconst 0, 1)],
  [some (.ireturn, 1), some (.aload_n 1, 1), some (.aload_n 0, 1), some (.iload_n 3, 1), some (.iconst 1, 1), some (.iadd, 1), some (.iaload, 1), some (.aload_n 0, 1), some (.iload_n 3, 1), some (.iconst 2, 1), some (.iadd, 1), some (.iaload, 1), some (.aload_n 0, 1), some (.iload_n 3, 1), some (.iconst 3, 1), some (.iadd, 1)],
  [some (.iaload, 1), some (.invokevirtual 84, 3), none, none, some (.aload_n 2, 1), some (.aload_n 0, 1), some (.iload_n 3, 1), some (.iconst 1, 1), some (.iadd, 1), some (.iaload, 1), some (.aload_n 0, 1), some (.iload_n 3, 1), some (.iconst 2, 1), some (.iadd, 1), some (.iaload, 1), some (.aload_n 0, 1)],
  [some (.iload_n 3, 1), some (.iconst 3, 1), some (.iadd, 1), some (.iaload, 1), some (.invokevirtual 88, 3), none, none, some (.if_icmp .eq 988, 3), none, none, some (.iconst 0, 1), some (.ireturn, 1), some (.aload_n 1, 1), some (.aload_n 0, 1), some (.iload_n 3, 1), some (.iconst 1, 1)],
  [some (.iadd, 1), some (.iaload, 1), some (.aload_n 0, 1), some (.iload_n 3, 1), some (.iconst 2, 1), some (.iadd, 1), some (.iaload, 1), some (.invokevirtual 89, 3), none, none, some (.aload_n 2, 1), some (.aload_n 0, 1), some (.iload_n 3, 1), some (.iconst 1, 1), some (.iadd, 1), some (.iaload, 1)],
  [some (.aload_n 0, 1), some (.iload_n 3, 1), some (.iconst 2, 1), some (.iadd, 1), some (.iaload, 1), some (.invokevirtual 92, 3), none, none, some (.if_icmp .eq 955, 3), none, none, some (.iconst 0, 1), some (.ireturn, 1), some (.aload_n 1, 1), some (.aload_n 0, 1), some (.iload_n 3, 1)],
  [some (.iconst 1, 1), some (.iadd, 1), some (.iaload, 1), some (.aload_n 0, 1), some (.iload_n 3, 1), some (.iconst 2, 1), some (.iadd, 1), some (.iaload, 1), some (.aload_n 0, 1), some (.iload_n 3, 1), some (.iconst 3, 1), some (.iadd, 1), some (.iaload, 1), some (.invokevirtual 93, 3), none, none],
  [some (.aload_n 2, 1), some (.aload_n 0, 1), some (.iload_n 3, 1), some (.iconst 1, 1), some (.iadd, 1), some (.iaload, 1), some (.aload_n 0, 1), some (.iload_n 3, 1), some (.iconst 2, 1), some (.iadd, 1), some (.iaload, 1), some (.aload_n 0, 1), some (.iload_n 3, 1), some (.iconst 3, 1), some (.iadd, 1), some (.iaload, 1)],
  [some (.invokevirtual 96, 3), none, none, some (.if_icmp .eq 912, 3), none, none, some (.iconst 0, 1), some (.ireturn, 1), some (.aload_n 1, 1), some (.aload_n 0, 1), some (.iload_n 3, 1), some (.iconst 1, 1), some (.iadd, 1), some (.iaload, 1), some (.aload_n 0, 1), some (.iload_n 3, 1)],
  [some (.iconst 2, 1), some (.iadd, 1), some (.iaload, 1), some (.invokevirtual 97, 3), none, none, some (.aload_n 2, 1), some (.aload_n 0, 1), some (.iload_n 3, 1), some (.iconst 1, 1), some (.iadd, 1), some (.iaload, 1), some (.aload_n 0, 1), some (.iload_n 3, 1), some (.iconst 2, 1), some (.iadd, 1)],
  [some (.iaload, 1), some (.invokevirtual 100, 3), none, none, some (.if_icmp .eq 879, 3), none, none, some (.iconst 0, 1), some (.ireturn, 1), some (.aload_n 1, 1), some (.aload_n 0, 1), some (.iload_n 3, 1), some (.iconst 1, 1), some (.iadd, 1), some (.iaload, 1), some (.invokevirtual 101, 3)],
  [none, none, some (.aload_n 2, 1), some (.aload_n 0, 1), some (.iload_n 3, 1), some (.iconst 1, 1), some (.iadd, 1), some (.iaload, 1), some (.invokevirtual 104, 3), none, none, some (.if_icmp .eq 856, 3), none, none, some (.iconst 0, 1), some (.ireturn, 1)],
  [some (.aload_n 1, 1), some (.aload_n 0, 1), some (.iload_n 3, 1), some (.iconst 1, 1), some (.iadd, 1), some (.iaload, 1), some (.invokevirtual 105, 3), none, none, some (.aload_n 2, 1), some (.aload_n 0, 1), some (.iload_n 3, 1), some (.iconst 1, 1), some (.iadd, 1), some (.iaload, 1), some (.invokevirtual 108, 3)],
  [none, none, some (.if_icmp .eq 833, 3), none, none, some (.iconst 0, 1), some (.ireturn, 1), some (.aload_n 1, 1), some (.aload_n 0, 1), some (.iload_n 3, 1), some (.iconst 1, 1), some (.iadd, 1), some (.iaload, 1), some (.invokevirtual 109, 3), none, none],
  [some (.aload_n 2, 1), some (.aload_n 0, 1), some (.iload_n 3, 1), some (.iconst 1, 1), some (.iadd, 1), some (.iaload, 1), some (.invokevirtual 112, 3), none, none, some (.if_icmp .eq 810, 3), none, none, some (.iconst 0, 1), some (.ireturn, 1), some (.aload_n 1, 1), some (.aload_n 0, 1)],
  [some (.iload_n 3, 1), some (.iconst 1, 1), some (.iadd, 1), some (.iaload, 1), some (.invokevirtual 113, 3), none, none, some (.aload_n 2, 1), some (.aload_n 0, 1), some (.iload_n 3, 1), some (.iconst 1, 1), some (.iadd, 1), some (.iaload, 1), some (.invokevirtual 116, 3), none, none],
  [some (.if_icmp .eq 787, 3), none, none, some (.iconst 0, 1), some (.ireturn, 1), some (.aload_n 1, 1), some (.aload_n 0, 1), some (.iload_n 3, 1), some (.iconst 1, 1), some (.iadd, 1), some (.iaload, 1), some (.aload_n 0, 1), some (.iload_n 3, 1), some (.iconst 2, 1), some (.iadd, 1), some (.iaload, 1)],
  [some (.invokevirtual 117, 3), none, none, some (.aload_n 2, 1), some (.aload_n 0, 1), some (.iload_n 3, 1), some (.iconst 1, 1), some (.iadd, 1), some (.iaload, 1), some (.aload_n 0, 1), some (.iload_n 3, 1), some (.iconst 2, 1), some (.iadd, 1), some (.iaload, 1), some (.invokevirtual 120, 3), none],
  [none, some (.if_icmp .eq 754, 3), none, none, some (.iconst 0, 1), some (.ireturn, 1), some (.aload_n 1, 1), some (.aload_n 0, 1), some (.iload_n 3, 1), some (.iconst 1, 1), some (.iadd, 1), some (.iaload, 1), some (.aload_n 0, 1), some (.iload_n 3, 1), some (.iconst 2, 1), some (.iadd, 1)],
  [some (.iaload, 1), some (.aload_n 0, 1), some (.iload_n 3, 1), some (.iconst 3, 1), some (.iadd, 1), some (.iaload, 1), some (.invokevirtual 121, 3), none, none, some (.aload_n 2, 1), some (.aload_n 0, 1), some (.iload_n 3, 1), some (.iconst 1, 1), some (.iadd, 1), some (.iaload, 1), some (.aload_n 0, 1)],
  [some (.iload_n 3, 1), some (.iconst 2, 1), some (.iadd, 1), some (.iaload, 1), some (.aload_n 0, 1), some (.iload_n 3, 1), some (.iconst 3, 1), some (.iadd, 1), some (.iaload, 1), some (.invokevirtual 124, 3), none, none, some (.if_icmp .eq 711, 3), none, none, some (.iconst 0, 1)],
  [some (.ireturn, 1), some (.aload_n 1, 1), some (.aload_n 0, 1), some (.iload_n 3, 1), some (.iconst 1, 1), some (.iadd, 1), some (.iaload, 1), some (.aload_n 0, 1), some (.iload_n 3, 1), some (.iconst 2, 1), some (.iadd, 1), some (.iaload, 1), some (.aload_n 0, 1), some (.iload_n 3, 1), some (.iconst 3, 1), some (.iadd, 1)],
  [some (.iaload, 1), some (.invokevirtual 125, 3), none, none, some (.aload_n 2, 1), some (.aload_n 0, 1), some (.iload_n 3, 1), some (.iconst 1, 1), some (.iadd, 1), some (.iaload, 1), some (.aload_n 0, 1), some (.iload_n 3, 1), some (.iconst 2, 1), some (.iadd, 1), some (.iaload, 1), some (.aload_n 0, 1)],
  [some (.iload_n 3, 1), some (.iconst 3, 1), some (.iadd, 1), some (.iaload, 1), some (.invokevirtual 128, 3), none, none, some (.if_icmp .eq 668, 3), none, none, some (.iconst 0, 1), some (.ireturn, 1), some (.aload_n 1, 1), some (.aload_n 0, 1), some (.iload_n 3, 1), some (.iconst 1, 1)],
  [some (.iadd, 1), some (.iaload, 1), some (.invokevirtual 129, 3), none, none, some (.aload_n 2, 1), some (.aload_n 0, 1), some (.iload_n 3, 1), some (.iconst 1, 1), some (.iadd, 1), some (.iaload, 1), some (.invokevirtual 132, 3), none, none, some (.if_icmp .eq 645, 3), none],
  [none, some (.iconst 0, 1), some (.ireturn, 1), some (.aload_n 1, 1), some (.aload_n 0, 1), some (.iload_n 3, 1), some (.iconst 1, 1), some (.iadd, 1), some (.iaload, 1), some (.invokevirtual 133, 3), none, none, some (.aload_n 2, 1), some (.aload_n 0, 1), some (.iload_n 3, 1), some (.iconst 1, 1)],
  [some (.iadd, 1), some (.iaload, 1), some (.invokevirtual 136, 3), none, none, some (.if_icmp .eq 622, 3), none, none, some (.iconst 0, 1), some (.ireturn, 1), some (.aload_n 1, 1), some (.aload_n 0, 1), some (.iload_n 3, 1), some (.iconst 1, 1), some (.iadd, 1), some (.iaload, 1)],
  [some (.aload_n 0, 1), some (.iload_n 3, 1), some (.iconst 2, 1), some (.iadd, 1), some (.iaload, 1), some (.aload_n 0, 1), some (.iload_n 3, 1), some (.iconst 3, 1), some (.iadd, 1), some (.iaload, 1), some (.invokevirtual 137, 3), none, none, some (.aload_n 2, 1), some (.aload_n 0, 1), some (.iload_n 3, 1)],
  [some (.iconst 1, 1), some (.iadd, 1), some (.iaload, 1), some (.aload_n 0, 1), some (.iload_n 3, 1), some (.iconst 2, 1), some (.iadd, 1), some (.iaload, 1), some (.aload_n 0, 1), some (.iload_n 3, 1), some (.iconst 3, 1), some (.iadd, 1), some (.iaload, 1), some (.invokevirtual 140, 3), none, none],
  [some (.if_icmp .eq 579, 3), none, none, some (.iconst 0, 1), some (.ireturn, 1), some (.aload_n 1, 1), some (.aload_n 0, 1), some (.iload_n 3, 1), some (.iconst 1, 1), some (.iadd, 1), some (.iaload, 1), some (.aload_n 0, 1), some (.iload_n 3, 1), some (.iconst 2, 1), some (.iadd, 1), some (.iaload, 1)],
  [some (.aload_n 0, 1), some (.iload_n 3, 1), some (.iconst 3, 1), some (.iadd, 1), some (.iaload, 1), some (.aload_n 0, 1), some (.iload_n 3, 1), some (.iconst 4, 1), some (.iadd, 1), some (.iaload, 1), some (.invokevirtual 141, 3), none, none, some (.aload_n 2, 1), some (.aload_n 0, 1), some (.iload_n 3, 1)],
  [some (.iconst 1, 1), some (.iadd, 1), some (.iaload, 1), some (.aload_n 0, 1), some (.iload_n 3, 1), some (.iconst 2, 1), some (.iadd, 1), some (.iaload, 1), some (.aload_n 0, 1), some (.iload_n 3, 1), some (.iconst 3, 1), some (.iadd, 1), some (.iaload, 1), some (.aload_n 0, 1), some (.iload_n 3, 1), some (.iconst 4, 1)],
  [some (.iadd, 1), some (.iaload, 1), some (.invokevirtual 145, 3), none, none, some (.if_icmp .eq 526, 3), none, none, some (.iconst 0, 1), some (.ireturn, 1), some (.aload_n 1, 1), some (.aload_n 0, 1), some (.iload_n 3, 1), some (.iconst 1, 1), some (.iadd, 1), some (.iaload, 1)],
  [some (.aload_n 0, 1), some (.iload_n 3, 1), some (.iconst 2, 1), some (.iadd, 1), some (.iaload, 1), some (.aload_n 0, 1), some (.iload_n 3, 1), some (.iconst 3, 1), some (.iadd, 1), some (.iaload, 1), some (.aload_n 0, 1), some (.iload_n 3, 1), some (.iconst 4, 1), some (.iadd, 1), some (.iaload, 1), some (.invokevirtual 146, 3)],
  [none, none, some (.aload_n 2, 1), some (.aload_n 0, 1), some (.iload_n 3, 1), some (.iconst 1, 1), some (.iadd, 1), some (.iaload, 1), some (.aload_n 0, 1), some (.iload_n 3, 1), some (.iconst 2, 1), some (.iadd, 1), some (.iaload, 1), some (.aload_n 0, 1), some (.iload_n 3, 1), some (.iconst 3, 1)],
  [some (.iadd, 1), some (.iaload, 1), some (.aload_n 0, 1), some (.iload_n 3, 1), some (.iconst 4, 1), some (.iadd, 1), some (.iaload, 1), some (.invokevirtual 149, 3), none, none, some (.if_icmp .eq 473, 3), none, none, some (.iconst 0, 1), some (.ireturn, 1), some (.aload_n 1, 1)],
  [some (.aload_n 0, 1), some (.iload_n 3, 1), some (.iconst 1, 1), some (.iadd, 1), some (.iaload, 1), some (.aload_n 0, 1), some (.iload_n 3, 1), some (.iconst 2, 1), some (.iadd, 1), some (.iaload, 1), some (.aload_n 0, 1), some (.iload_n 3, 1), some (.iconst 3, 1), some (.iadd, 1), some (.iaload, 1), some (.invokevirtual 150, 3)],
  [none, none, some (.aload_n 2, 1), some (.aload_n 0, 1), some (.iload_n 3, 1), some (.iconst 1, 1), some (.iadd, 1), some (.iaload, 1), some (.aload_n 0, 1), some (.iload_n 3, 1), some (.iconst 2, 1), some (.iadd, 1), some (.iaload, 1), some (.aload_n 0, 1), some (.iload_n 3, 1), some (.iconst 3, 1)],
  [some (.iadd, 1), some (.iaload, 1), some (.invokevirtual 153, 3), none, none, some (.if_icmp .eq 430, 3), none, none, some (.iconst 0, 1), some (.ireturn, 1), some (.aload_n 1, 1), some (.aload_n 0, 1), some (.iload_n 3, 1), some (.iconst 1, 1), some (.iadd, 1), some (.iaload, 1)],
  [some (.aload_n 0, 1), some (.iload_n 3, 1), some (.iconst 2, 1), some (.iadd, 1), some (.iaload, 1), some (.aload_n 0, 1), some (.iload_n 3, 1), some (.iconst 3, 1), some (.iadd, 1), some (.iaload, 1), some (.aload_n 0, 1), some (.iload_n 3, 1), some (.iconst 4, 1), some (.iadd, 1), some (.iaload, 1), some (.invokevirtual 154, 3)],
  [none, none, some (.aload_n 2, 1), some (.aload_n 0, 1), some (.iload_n 3, 1), some (.iconst 1, 1), some (.iadd, 1), some (.iaload, 1), some (.aload_n 0, 1), some (.iload_n 3, 1), some (.iconst 2, 1), some (.iadd, 1), some (.iaload, 1), some (.aload_n 0, 1), some (.iload_n 3, 1), some (.iconst 3, 1)],
  [some (.iadd, 1), some (.iaload, 1), some (.aload_n 0, 1), some (.iload_n 3, 1), some (.iconst 4, 1), some (.iadd, 1), some (.iaload, 1), some (.invokevirtual 157, 3), none, none, some (.if_icmp .eq 377, 3), none, none, some (.iconst 0, 1), some (.ireturn, 1), some (.aload_n 1, 1)],
  [some (.invokevirtual 158, 3), none, none, some (.aload_n 2, 1), some (.invokevirtual 162, 3), none, none, some (.if_icmp .eq 364, 3), none, none, some (.iconst 0, 1), some (.ireturn, 1), some (.aload_n 1, 1), some (.aload_n 0, 1), some (.iload_n 3, 1), some (.iconst 1, 1)],
  [some (.iadd, 1), some (.iaload, 1), some (.aload_n 0, 1), some (.iload_n 3, 1), some (.iconst 2, 1), some (.iadd, 1), some (.iaload, 1), some (.aload_n 0, 1), some (.iload_n 3, 1), some (.iconst 3, 1), some (.iadd, 1), some (.iaload, 1), some (.aload_n 0, 1), some (.iload_n 3, 1), some (.iconst 4, 1), some (.iadd, 1)],
  [some (.iaload, 1), some (.invokevirtual 163, 3), none, none, some (.aload_n 2, 1), some (.aload_n 0, 1), some (.iload_n 3, 1), some (.iconst 1, 1), some (.iadd, 1), some (.iaload, 1), some (.aload_n 0, 1), some (.iload_n 3, 1), some (.iconst 2, 1), some (.iadd, 1), some (.iaload, 1), some (.aload_n 0, 1)],
  [some (.iload_n 3, 1), some (.iconst 3, 1), some (.iadd, 1), some (.iaload, 1), some (.aload_n 0, 1), some (.iload_n 3, 1), some (.iconst 4, 1), some (.iadd, 1), some (.iaload, 1), some (.invokevirtual 167, 3), none, none, some (.lcmp, 1), some (.ifCond .eq 310, 3), none, none],
  [some (.iconst 0, 1), some (.ireturn, 1), some (.aload_n 1, 1), some (.aload_n 0, 1), some (.iload_n 3, 1), some (.iconst 1, 1), some (.iadd, 1), some (.iaload, 1), some (.aload_n 0, 1), some (.iload_n 3, 1), some (.iconst 2, 1), some (.iadd, 1), some (.iaload, 1), some (.aload_n 0, 1), some (.iload_n 3, 1), some (.iconst 3, 1)],
  [some (.iadd, 1), some (.iaload, 1), some (.invokevirtual 168, 3), none, none, some (.aload_n 2, 1), some (.aload_n 0, 1), some (.iload_n 3, 1), some (.iconst 1, 1), some (.iadd, 1), some (.iaload, 1), some (.aload_n 0, 1), some (.iload_n 3, 1), some (.iconst 2, 1), some (.iadd, 1), some (.iaload, 1)],
  [some (.aload_n 0, 1), some (.iload_n 3, 1), some (.iconst 3, 1), some (.iadd, 1), some (.iaload, 1), some (.invokevirtual 171, 3), none, none, some (.if_icmp .eq 267, 3), none, none, some (.iconst 0, 1), some (.ireturn, 1), some (.aload_n 1, 1), some (.aload_n 0, 1), some (.iload_n 3, 1)],
  [some (.iconst 1, 1), some (.iadd, 1), some (.iaload, 1), some (.aload_n 0, 1), some (.iload_n 3, 1), some (.iconst 2, 1), some (.iadd, 1), some (.iaload, 1), some (.invokevirtual 172, 3), none, none, some (.aload_n 2, 1), some (.aload_n 0, 1), some (.iload_n 3, 1), some (.iconst 1, 1), some (.iadd, 1)],
  [some (.iaload, 1), some (.aload_n 0, 1), some (.iload_n 3, 1), some (.iconst 2, 1), some (.iadd, 1), some (.iaload, 1), some (.invokevirtual 175, 3), none, none, some (.if_icmp .eq 234, 3), none, none, some (.iconst 0, 1), some (.ireturn, 1), some (.aload_n 1, 1), some (.aload_n 0, 1)],
  [some (.iload_n 3, 1), some (.iconst 1, 1), some (.iadd, 1), some (.iaload, 1), some (.aload_n 0, 1), some (.iload_n 3, 1), some (.iconst 2, 1), some (.iadd, 1), some (.iaload, 1), some (.aload_n 0, 1), some (.iload_n 3, 1), some (.iconst 3, 1), some (.iadd, 1), some (.iaload, 1), some (.invokevirtual 176, 3), none],
  [none, some (.aload_n 2, 1), some (.aload_n 0, 1), some (.iload_n 3, 1), some (.iconst 1, 1), some (.iadd, 1), some (.iaload, 1), some (.aload_n 0, 1), some (.iload_n 3, 1), some (.iconst 2, 1), some (.iadd, 1), some (.iaload, 1), some (.aload_n 0, 1), some (.iload_n 3, 1), some (.iconst 3, 1), some (.iadd, 1)],
  [some (.iaload, 1), some (.invokevirtual 179, 3), none, none, some (.if_icmp .eq 191, 3), none, none, some (.iconst 0, 1), some (.ireturn, 1), some (.aload_n 1, 1), some (.aload_n 0, 1), some (.iload_n 3, 1), some (.iconst 1, 1), some (.iadd, 1), some (.iaload, 1), some (.aload_n 0, 1)],
  [some (.iload_n 3, 1), some (.iconst 2, 1), some (.iadd, 1), some (.iaload, 1), some (.aload_n 0, 1), some (.iload_n 3, 1), some (.iconst 3, 1), some (.iadd, 1), some (.iaload, 1), some (.i2l, 1), some (.bipush 32, 2), none, some (.lshl, 1), some (.aload_n 0, 1), some (.iload_n 3, 1), some (.iconst 4, 1)],
  [some (.iadd, 1), some (.iaload, 1), some (.i2l, 1), some (.ldc2_w 180, 3), none, none, some (.land, 1), some (.lor, 1), some (.invokevirtual 182, 3), none, none, some (.aload_n 2, 1), some (.aload_n 0, 1), some (.iload_n 3, 1), some (.iconst 1, 1), some (.iadd, 1)],
  [some (.iaload, 1), some (.aload_n 0, 1), some (.iload_n 3, 1), some (.iconst 2, 1), some (.iadd, 1), some (.iaload, 1), some (.aload_n 0, 1), some (.iload_n 3, 1), some (.iconst 3, 1), some (.iadd, 1), some (.iaload, 1), some (.i2l, 1), some (.bipush 32, 2), none, some (.lshl, 1), some (.aload_n 0, 1)],
  [some (.iload_n 3, 1), some (.iconst 4, 1), some (.iadd, 1), some (.iaload, 1), some (.i2l, 1), some (.ldc2_w 180, 3), none, none, some (.land, 1), some (.lor, 1), some (.invokevirtual 186, 3), none, none, some (.lcmp, 1), some (.ifCond .eq 117, 3), none],
  [none, some (.iconst 0, 1), some (.ireturn, 1), some (.aload_n 1, 1), some (.aload_n 0, 1), some (.iload_n 3, 1), some (.iconst 1, 1), some (.iadd, 1), some (.iaload, 1), some (.aload_n 0, 1), some (.iload_n 3, 1), some (.iconst 2, 1), some (.iadd, 1), some (.iaload, 1), some (.aload_n 0, 1), some (.iload_n 3, 1)],
  [some (.iconst 3, 1), some (.iadd, 1), some (.iaload, 1), some (.invokevirtual 187, 3), none, none, some (.aload_n 2, 1), some (.aload_n 0, 1), some (.iload_n 3, 1), some (.iconst 1, 1), some (.iadd, 1), some (.iaload, 1), some (.aload_n 0, 1), some (.iload_n 3, 1), some (.iconst 2, 1), some (.iadd, 1)],
  [some (.iaload, 1), some (.aload_n 0, 1), some (.iload_n 3, 1), some (.iconst 3, 1), some (.iadd, 1), some (.iaload, 1), some (.invokevirtual 190, 3), none, none, some (.if_icmp .eq 74, 3), none, none, some (.iconst 0, 1), some (.ireturn, 1), some (.aload_n 1, 1), some (.aload_n 0, 1)],
  [some (.iload_n 3, 1), some (.iconst 1, 1), some (.iadd, 1), some (.iaload, 1), some (.invokevirtual 191, 3), none, none, some (.aload_n 2, 1), some (.aload_n 0, 1), some (.iload_n 3, 1), some (.iconst 1, 1), some (.iadd, 1), some (.iaload, 1), some (.invokevirtual 194, 3), none, none],
  [some (.if_icmp .eq 51, 3), none, none, some (.iconst 0, 1), some (.ireturn, 1), some (.aload_n 1, 1), some (.aload_n 0, 1), some (.iload_n 3, 1), some (.iconst 1, 1), some (.iadd, 1), some (.iaload, 1), some (.invokevirtual 195, 3), none, none, some (.aload_n 2, 1), some (.aload_n 0, 1)],
  [some (.iload_n 3, 1), some (.iconst 1, 1), some (.iadd, 1), some (.iaload, 1), some (.invokevirtual 198, 3), none, none, some (.if_icmp .eq 28, 3), none, none, some (.iconst 0, 1), some (.ireturn, 1), some (.aload_n 1, 1), some (.aload_n 0, 1), some (.iload_n 3, 1), some (.iconst 1, 1)],
  [some (.iadd, 1), some (.iaload, 1), some (.invokevirtual 199, 3), none, none, some (.aload_n 2, 1), some (.aload_n 0, 1), some (.iload_n 3, 1), some (.iconst 1, 1), some (.iadd, 1), some (.iaload, 1), some (.invokevirtual 202, 3), none, none, some (.if_icmp .eq 5, 3), none],
  [none, some (.iconst 0, 1), some (.ireturn, 1), some (.iinc 3 6, 3), none, none, some (.goto (-1780), 3), none, none, some (.iconst 1, 1), some (.ireturn, 1)]]
def mtab : List (List sT) := [[(0, cd0, 3, [2, 2, 2], 5, 0), (0, cd1, 2, [2], 5, 1), (0, cd2, 4, [0, 2], 5, 1), (0, cd3, 7, [0, 2], 1, 1), (0, cd4, 8, [0, 0, 2], 1, 1), (1, cd5, 3, [2, 2, 2], 5, 0), (1, cd6, 5, [0, 0, 0, 2, 2], 0, 1), (1, cd7, 5, [0, 0, 2, 2], 0, 1), (1, cd8, 6, [0, 0, 2, 2], 0, 1), (1, cd9, 5, [0, 0, 2, 2], 0, 1), (1, cd10, 5, [0, 0, 2, 2], 0, 1), (1, cd11, 5, [0, 2, 2], 0, 1), (1, cd12, 6, [0, 0, 2, 2], 0, 1), (1, cd13, 7, [2, 2, 2], 0, 1), (1, cd14, 5, [1, 2, 2], 0, 1), (1, cd15, 8, [0, 0, 2, 2], 0, 1)],
  [(1, cd16, 5, [0, 2, 2], 0, 1), (1, cd17, 2, [0, 2], 0, 1), (2, cd18, 1, [2], 5, 0), (2, cd19, 2, [2], 5, 1), (2, cd20, 2, [2, 2], 5, 1), (2, cd21, 2, [0, 2], 5, 1), (2, cd22, 2, [0, 2], 5, 1), (2, cd23, 2, [0, 2], 5, 1), (2, cd24, 2, [0, 2], 6, 1), (2, cd25, 6, [0, 2], 0, 1), (2, cd26, 2, [0, 2], 5, 1), (2, cd27, 1, [2], 0, 1), (2, cd28, 3, [2], 5, 1), (2, cd29, 3, [0, 0, 0], 0, 1), (2, cd30, 2, [1], 0, 1), (3, cd31, 1, [2], 5, 0)],
  [(3, cd32, 2, [2], 5, 1), (3, cd33, 2, [2, 2], 5, 1), (3, cd34, 4, [0, 2], 0, 1), (3, cd35, 3, [2], 0, 1), (3, cd36, 3, [2], 0, 1), (3, cd37, 3, [2], 0, 1), (4, cd38, 2, [2], 5, 0), (4, cd39, 2, [2, 2], 5, 1), (4, cd40, 3, [2, 0, 2], 5, 1), (5, cd41, 2, [2, 2], 5, 0), (5, cd42, 3, [0, 2], 5, 1), (5, cd43, 2, [0, 2], 5, 1), (5, cd44, 2, [0, 2], 5, 1), (5, cd45, 4, [0, 0, 2], 0, 1), (5, cd46, 1, [2], 5, 1), (5, cd47, 3, [2], 5, 1)],
  [(5, cd48, 1, [0], 6, 1), (5, cd49, 3, [0, 2], 5, 1), (5, cd50, 4, [2], 5, 1), (5, cd51, 2, [0, 2], 5, 1), (5, cd52, 2, [0, 2], 5, 1), (5, cd53, 4, [0, 2], 5, 1), (5, cd54, 3, [0, 2], 5, 1), (5, cd55, 3, [0, 2], 5, 1), (5, cd56, 2, [0, 2], 5, 1), (5, cd57, 2, [0, 2], 6, 1), (5, cd58, 2, [0, 2], 6, 1), (5, cd59, 3, [0, 2], 5, 1), (5, cd60, 3, [0, 2], 5, 1), (5, cd61, 2, [0, 2], 5, 1), (5, cd62, 3, [0, 2], 5, 1), (6, cd63, 3, [2, 2, 2], 5, 0)],
  [(6, cd64, 4, [0, 2], 0, 1), (6, cd65, 2, [0, 2], 6, 1), (6, cd66, 6, [0, 0, 2], 6, 1), (6, cd67, 4, [0, 2], 0, 1), (6, cd68, 6, [0, 0, 2], 6, 1), (7, cd69, 2, [2, 2], 5, 0), (7, cd70, 3, [2], 5, 1), (7, cd71, 6, [0, 2], 5, 1), (7, cd72, 2, [0, 2], 0, 1), (7, cd73, 1, [0], 0, 1), (7, cd74, 4, [0, 0, 2], 0, 1), (7, cd75, 5, [0, 0, 0, 2], 0, 1), (7, cd76, 5, [0, 0, 2], 0, 1), (7, cd77, 6, [0, 0, 2], 0, 1), (7, cd78, 5, [0, 0, 0, 2], 6, 1), (8, cd79, 1, [2], 5, 0)],
  [(8, cd80, 2, [2], 5, 1), (8, cd81, 2, [2, 2], 5, 1), (9, cd82, 1, [2], 5, 0), (9, cd83, 4, [0, 0, 2], 5, 1), (9, cd84, 4, [1, 0, 2], 1, 1), (9, cd85, 3, [1, 2], 1, 1), (10, cd86, 3, [2, 2, 2], 5, 0), (10, cd87, 3, [0, 2, 2], 5, 1), (10, cd88, 6, [0, 0, 2, 2], 5, 1), (10, cd89, 3, [2], 5, 1), (10, cd90, 2, [0, 2], 0, 1), (10, cd91, 3, [0, 0, 2], 0, 1), (10, cd92, 3, [0, 2], 5, 1), (10, cd93, 3, [0, 0, 2], 0, 1), (10, cd94, 6, [0, 0, 2], 0, 1), (10, cd95, 3, [0, 2], 0, 1)],
  [(10, cd96, 6, [0, 0, 2], 0, 1), (10, cd97, 4, [0, 2], 0, 1), (10, cd98, 5, [0, 2], 0, 1), (10, cd99, 5, [0, 0, 2], 0, 1), (10, cd100, 8, [0, 2], 0, 1), (10, cd101, 3, [2], 0, 1), (10, cd102, 5, [2, 0, 2], 6, 1), (10, cd103, 6, [2, 0, 2], 0, 1), (10, cd104, 7, [2, 0, 0, 2], 0, 1), (10, cd105, 5, [0, 2], 6, 1), (10, cd106, 4, [0, 2], 0, 1), (11, cd107, 2, [2], 5, 0), (11, cd108, 6, [0, 0, 0, 0, 0, 2], 0, 1), (11, cd109, 3, [0, 2], 5, 1), (11, cd110, 2, [0, 2], 0, 1), (11, cd111, 2, [0, 2], 0, 1)],
  [(11, cd112, 3, [0, 0, 2], 0, 1), (11, cd113, 3, [0, 0, 2], 0, 1), (11, cd114, 3, [0, 0, 2], 0, 1), (11, cd115, 3, [0, 0, 2], 0, 1), (11, cd116, 4, [0, 0, 2], 0, 1), (11, cd117, 2, [0, 2], 0, 1), (11, cd118, 3, [0, 0, 2], 0, 1), (11, cd119, 3, [0, 0, 2], 0, 1), (11, cd120, 3, [0, 0, 2], 0, 1), (11, cd121, 3, [0, 0, 2], 0, 1), (11, cd122, 5, [0, 0, 0, 2], 0, 1), (11, cd123, 2, [0, 2], 0, 1), (11, cd124, 2, [0, 2], 0, 1), (11, cd125, 4, [0, 0, 2], 0, 1), (11, cd126, 2, [0, 2], 0, 1), (11, cd127, 3, [0, 0, 2], 0, 1)],
  [(11, cd128, 2, [0, 2], 0, 1), (11, cd129, 4, [0, 0, 0, 2], 0, 1), (11, cd130, 3, [0, 0, 2], 0, 1), (11, cd131, 6, [0, 0, 0, 2], 0, 1), (11, cd132, 3, [0, 0, 2], 0, 1), (11, cd133, 2, [0, 2], 0, 1), (11, cd134, 6, [0, 2], 0, 1), (11, cd135, 5, [0, 2], 0, 1), (11, cd136, 4, [0, 2], 0, 1), (11, cd137, 5, [0, 0, 2], 0, 1), (11, cd138, 5, [0, 0, 0, 2], 0, 1), (11, cd139, 5, [0, 0, 0, 2], 0, 1), (11, cd140, 2, [0, 2], 0, 1), (11, cd141, 2, [0, 2], 0, 1), (11, cd142, 7, [0, 0, 2], 0, 1), (11, cd143, 5, [0, 0, 0, 2], 0, 1)],
  [(11, cd144, 11, [0, 0, 0, 0, 2], 0, 1), (11, cd145, 7, [0, 0, 0, 2], 0, 1), (11, cd146, 6, [0, 0, 0, 0, 2], 0, 1), (11, cd147, 7, [0, 0, 0, 2], 0, 1), (11, cd148, 5, [0, 0, 2], 0, 1), (11, cd149, 9, [0, 0, 0, 0, 2], 0, 1), (11, cd150, 4, [2], 0, 1), (11, cd151, 5, [0, 0, 0, 0, 2], 1, 1), (11, cd152, 5, [0, 0, 0, 2], 0, 1), (11, cd153, 7, [0, 0, 2], 0, 1), (11, cd154, 4, [0, 0, 0, 2], 0, 1), (11, cd155, 6, [1, 0, 0, 2], 1, 1), (11, cd156, 7, [0, 0, 0, 2], 0, 1), (11, cd157, 2, [0, 2], 0, 3), (11, cd158, 2, [0, 2], 0, 1), (11, cd159, 2, [0, 2], 0, 1)],
  [(11, cd160, 2, [0, 2], 6, 1), (11, cd161, 2, [0, 2], 6, 1), (11, cd162, 3, [0, 0, 2], 6, 1), (11, cd163, 3, [0, 0, 2], 6, 1), (11, cd164, 2, [0, 2], 6, 1), (11, cd165, 2, [0, 2], 6, 1), (11, cd166, 2, [0, 2], 6, 1), (11, cd167, 2, [2], 5, 1), (12, cd168, 6, [1, 1, 1], 6, 1), (12, cd169, 1, [2], 5, 0), (12, cd170, 2, [2], 5, 2), (12, cd171, 8, [0, 0, 0, 0, 0, 2], 0, 1), (12, cd172, 2, [0, 2], 0, 1), (12, cd173, 1, [0], 6, 1), (12, cd174, 1, [0], 6, 1), (12, cd175, 4, [2], 0, 1)],
  [(12, cd176, 2, [2], 5, 1), (12, cd177, 2, [0, 2], 5, 1), (12, cd178, 2, [0, 2], 6, 1), (12, cd179, 2, [0, 2], 6, 1), (12, cd180, 4, [0, 0, 2], 0, 1), (12, cd181, 3, [0, 1], 6, 1), (12, cd182, 2, [0, 2], 0, 1), (12, cd183, 2, [0, 2], 5, 1), (12, cd184, 2, [0, 2], 6, 1), (12, cd185, 2, [0, 2], 5, 1), (12, cd186, 2, [0, 2], 5, 1), (12, cd187, 2, [0, 2], 5, 1), (12, cd188, 3, [0, 2], 5, 1), (12, cd189, 3, [0, 2], 5, 1), (12, cd190, 2, [0, 2], 5, 1), (12, cd191, 2, [0, 2], 5, 1)],
  [(12, cd192, 2, [0, 2], 6, 1), (12, cd193, 2, [2], 5, 1), (12, cd194, 4, [2], 5, 1), (12, cd195, 3, [0, 2], 5, 1), (12, cd196, 1, [2], 5, 1), (12, cd197, 1, [2], 5, 1), (12, cd198, 3, [0, 2], 0, 1), (12, cd199, 2, [0, 2], 0, 1), (12, cd200, 3, [1, 2], 6, 1), (12, cd201, 3, [1, 2], 6, 1), (12, cd202, 5, [1, 1, 2], 6, 1), (12, cd203, 3, [0], 0, 1), (12, cd204, 3, [0, 0, 2], 0, 1), (12, cd205, 5, [0, 0, 0], 0, 1), (12, cd206, 7, [0, 0, 0, 2], 0, 1), (12, cd207, 3, [0, 0, 2], 0, 1)],
  [(12, cd208, 4, [0, 0, 2], 0, 1), (12, cd209, 8, [0, 0, 0, 2], 0, 1), (12, cd210, 4, [0, 0, 2], 0, 1), (12, cd211, 2, [0, 2], 6, 1), (12, cd212, 3, [0, 0, 2], 0, 1), (12, cd213, 4, [0, 2], 0, 1), (12, cd214, 3, [0, 0, 2], 0, 1), (12, cd215, 3, [0, 0, 2], 0, 1), (12, cd216, 3, [0, 0, 2], 0, 1), (12, cd217, 3, [0, 0, 2], 0, 1), (12, cd218, 2, [2], 5, 1), (12, cd219, 2, [2], 5, 1), (12, cd220, 2, [2], 5, 1), (12, cd221, 3, [2], 0, 1), (12, cd222, 5, [1, 1, 2], 0, 1), (12, cd223, 5, [1, 1, 2], 0, 1)],
  [(12, cd224, 5, [1, 1, 2], 0, 1), (12, cd225, 4, [0, 0, 2], 5, 1), (12, cd226, 3, [0, 0, 2], 0, 1), (12, cd227, 2, [2], 0, 1), (12, cd228, 4, [0, 0, 2], 0, 1), (12, cd229, 5, [0, 0, 2], 0, 1), (12, cd230, 4, [0, 0, 2], 0, 1), (12, cd231, 3, [0, 0, 2], 0, 1), (12, cd232, 4, [0, 2], 0, 1), (12, cd233, 3, [0, 2], 0, 1), (12, cd234, 7, [1, 2], 0, 1), (12, cd235, 4, [0, 2], 5, 1), (12, cd236, 3, [0, 2], 0, 1), (12, cd237, 2, [0, 2], 0, 1), (12, cd238, 3, [2], 0, 1), (12, cd239, 7, [0, 0, 2], 0, 1)],
  [(12, cd240, 4, [0, 2], 0, 1), (12, cd241, 2, [0, 2], 0, 1), (12, cd242, 3, [2], 0, 1), (12, cd243, 6, [0, 0, 2], 0, 1), (12, cd244, 3, [0, 2], 5, 1), (12, cd245, 3, [0, 0, 2], 6, 1), (12, cd246, 5, [0, 0, 2], 0, 1), (12, cd247, 4, [0, 0, 0, 2], 0, 1), (12, cd248, 5, [0, 0, 2], 0, 1), (12, cd249, 3, [0, 0, 2], 0, 1), (12, cd250, 3, [0, 0, 2], 0, 1), (12, cd251, 4, [0, 2], 6, 1), (12, cd252, 3, [0, 2], 0, 1), (12, cd253, 4, [0, 2], 0, 1), (12, cd254, 6, [0, 0, 0, 2], 0, 1), (12, cd255, 7, [0, 0, 2], 0, 1)],
  [(12, cd256, 4, [0, 2], 0, 1), (12, cd257, 2, [0, 2], 0, 1), (12, cd258, 6, [0, 2], 0, 1), (12, cd259, 6, [0, 2], 0, 1), (12, cd260, 4, [0, 2], 0, 1), (12, cd261, 5, [0, 0, 2], 0, 1), (12, cd262, 3, [2], 0, 1), (12, cd263, 6, [0, 0, 0, 2], 5, 1), (12, cd264, 2, [0, 2], 6, 1), (12, cd265, 4, [0, 0, 0, 2], 0, 1), (12, cd266, 10, [0, 0, 0, 0, 2], 6, 1), (12, cd267, 5, [0, 0, 0, 2], 0, 1), (12, cd268, 4, [0, 2], 5, 1), (12, cd269, 4, [0, 2], 0, 1), (12, cd270, 4, [0, 2], 0, 1), (12, cd271, 4, [0, 2], 0, 1)],
  [(12, cd272, 4, [0, 0, 0, 2], 0, 1), (12, cd273, 7, [0, 0, 0, 2], 6, 1), (12, cd274, 7, [0, 0, 0, 2], 0, 1), (12, cd275, 5, [0, 0, 0, 2], 0, 1), (12, cd276, 14, [0, 0, 0, 0, 2], 0, 1), (12, cd277, 9, [0, 0, 0, 0, 2], 0, 1), (12, cd278, 6, [0, 0, 0, 0, 2], 0, 1), (12, cd279, 7, [0, 0, 0, 2], 0, 1), (12, cd280, 8, [0, 0, 0, 0, 2], 0, 1), (12, cd281, 4, [2], 0, 1), (12, cd282, 5, [0, 2], 5, 1), (12, cd283, 5, [0, 0, 2], 5, 1), (12, cd284, 4, [0], 1, 1), (12, cd285, 4, [1, 1], 1, 1), (12, cd286, 7, [0, 0, 0, 0, 2], 1, 1), (12, cd287, 5, [0, 0, 0, 2], 0, 1)],
  [(12, cd288, 7, [0, 0, 2], 0, 1), (12, cd289, 3, [0, 1], 1, 1), (12, cd290, 5, [0, 0, 0, 2], 0, 1), (12, cd291, 6, [1, 0, 0, 2], 1, 1), (12, cd292, 6, [0, 0, 0, 2], 0, 1), (12, cd293, 3, [0, 2], 0, 1), (12, cd294, 3, [0, 2], 0, 1), (12, cd295, 3, [2], 0, 1), (12, cd296, 2, [0, 2], 0, 1), (20, cd297, 1, [0], 0, 2), (21, cd298, 3, [0, 0], 0, 2), (21, cd299, 2, [0, 0], 0, 2), (21, cd300, 2, [0, 0], 0, 2), (22, cd301, 1, [3], 0, 2), (22, cd302, 2, [0, 3], 8, 2), (22, cd303, 2, [0, 3], 0, 2)],
  [(22, cd304, 3, [0, 0, 3], 0, 2), (22, cd305, 1, [3], 7, 2), (22, cd306, 1, [3], 6, 2), (22, cd307, 2, [0, 0], 5, 2), (23, cd308, 2, [0, 5], 8, 2), (23, cd309, 1, [0], 6, 2), (23, cd310, 4, [0, 0, 0, 5], 0, 2), (23, cd311, 6, [0, 0, 0, 5], 0, 2), (24, cd312, 3, [6, 0, 0], 0, 2), (25, cd313, 4, [4], 6, 3)]]
def mT (y : Nat) : sT := (mtab.getD (y / 16) []).getD (y % 16) (99, [], 0, [], 99, 0)
def mOwn (y : Nat) : Nat := (mT y).1
def mCode (y : Nat) : List (List (Option (ClassFile.Instr × Nat))) := (mT y).2.1
def mMax (y : Nat) : Nat := (mT y).2.2.1
def mTags (y : Nat) : List Nat := (mT y).2.2.2.1
def mRet (y : Nat) : Nat := (mT y).2.2.2.2.1
def mFm (y : Nat) : Nat := (mT y).2.2.2.2.2
