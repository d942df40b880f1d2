def zTf (a : Nat) : vw_C := zCl.getD a ("", zT0, 0)
def zFL : List (Nat × Nat × Nat × Nat) := [(0, 11, 0, 0), (0, 15, 0, 1), (0, 18, 0, 2), (0, 21, 0, 4), (0, 25, 0, 3), (1, 9, 1, 0), (1, 15, 1, 1), (1, 18, 1, 2), (1, 21, 1, 3), (1, 30, 1, 4), (1, 34, 1, 5), (2, 9, 2, 0), (2, 13, 2, 1), (2, 16, 2, 2), (2, 19, 2, 3), (3, 10, 3, 2), (3, 19, 3, 3), (3, 23, 10, 2), (3, 33, 10, 3), (3, 37, 3, 1), (3, 38, 3, 0), (4, 9, 4, 0), (4, 15, 4, 1), (4, 18, 4, 2), (4, 21, 4, 3), (4, 33, 4, 4), (4, 37, 4, 5), (4, 40, 4, 6), (5, 13, 5, 1), (5, 18, 5, 2), (5, 26, 5, 0), (6, 9, 6, 0), (6, 15, 6, 1), (6, 18, 6, 3), (6, 21, 6, 4), (6, 27, 6, 2), (6, 31, 7, 0), (6, 40, 7, 1), (6, 47, 6, 5), (7, 9, 7, 0), (7, 15, 7, 2), (7, 19, 7, 1), (8, 11, 8, 1), (8, 15, 8, 2), (8, 18, 8, 0), (8, 34, 10, 4), (9, 9, 9, 0), (9, 15, 9, 1), (9, 19, 9, 2), (9, 28, 9, 3), (9, 31, 9, 4), (10, 9, 10, 0), (10, 15, 10, 1), (10, 21, 10, 2), (10, 25, 10, 7), (10, 28, 10, 8), (10, 42, 10, 3), (10, 54, 4, 5), (10, 71, 4, 6), (10, 78, 10, 4), (10, 81, 10, 5), (10, 84, 4, 0), (10, 87, 4, 2), (10, 90, 4, 4), (10, 93, 4, 3), (10, 100, 4, 1), (10, 103, 10, 6), (10, 117, 6, 0), (11, 10, 11, 0), (11, 19, 11, 1), (11, 28, 11, 2), (11, 35, 11, 3), (11, 44, 11, 4), (11, 48, 11, 5), (11, 54, 11, 6), (11, 61, 11, 7), (11, 67, 11, 8), (11, 74, 11, 9), (11, 81, 11, 10), (11, 85, 11, 11), (11, 89, 11, 16), (11, 97, 9, 1), (11, 116, 10, 3), (11, 119, 5, 0), (11, 124, 9, 0), (11, 155, 10, 2), (11, 159, 4, 2), (11, 164, 4, 0), (11, 167, 10, 0), (11, 173, 4, 1), (11, 176, 4, 6), (11, 179, 4, 3), (11, 182, 4, 4), (11, 189, 4, 5), (11, 200, 10, 1), (11, 213, 11, 13), (11, 243, 10, 4), (11, 246, 10, 5), (11, 258, 10, 6), (11, 276, 0, 3), (11, 277, 0, 0), (11, 280, 0, 1), (11, 283, 0, 2), (11, 305, 1, 0), (11, 308, 1, 1), (11, 309, 1, 2), (11, 310, 1, 3), (11, 324, 11, 14), (11, 327, 11, 15), (11, 333, 11, 12), (11, 342, 10, 7), (11, 397, 2, 3), (11, 401, 2, 0), (11, 412, 8, 0), (11, 437, 3, 0), (11, 441, 3, 1), (11, 445, 1, 4), (12, 9, 12, 0), (12, 13, 12, 2), (12, 16, 12, 3), (12, 19, 12, 5), (12, 22, 12, 8), (12, 26, 12, 10), (12, 29, 12, 18), (12, 32, 12, 19), (12, 35, 12, 29), (12, 38, 12, 31), (12, 41, 12, 32), (12, 44, 12, 34), (12, 47, 12, 37), (12, 50, 12, 39), (12, 53, 12, 40), (12, 56, 12, 41), (12, 59, 12, 42), (12, 62, 12, 44), (12, 65, 12, 45), (12, 68, 12, 48), (12, 71, 12, 49), (12, 75, 12, 50), (12, 78, 12, 12), (12, 82, 12, 11), (12, 85, 12, 1), (12, 96, 12, 9), (12, 99, 12, 13), (12, 102, 12, 14), (12, 105, 12, 15), (12, 108, 12, 16), (12, 111, 12, 17), (12, 140, 12, 30), (12, 143, 12, 47), (12, 157, 12, 6), (12, 172, 12, 21), (12, 179, 12, 22), (12, 182, 12, 23), (12, 185, 12, 24), (12, 188, 12, 25), (12, 191, 12, 20), (12, 217, 12, 4), (12, 228, 12, 26), (12, 231, 12, 27), (12, 234, 12, 28), (12, 237, 12, 7), (12, 282, 12, 33), (12, 294, 12, 36), (12, 297, 12, 35), (12, 306, 12, 38), (12, 351, 12, 43), (12, 359, 12, 46)]
def zML : List (Nat × Nat × Nat × Nat) := [(0, 29, 61, 1), (0, 35, 8, 1), (0, 38, 66, 1), (0, 42, 64, 1), (0, 46, 65, 1), (0, 49, 9, 1), (0, 52, 68, 1), (0, 56, 67, 1), (0, 59, 10, 1), (1, 37, 1, 0), (1, 43, 14, 1), (3, 9, 25, 2), (3, 18, 11, 4), (3, 26, 26, 1), (3, 30, 12, 1), (4, 24, 29, 1), (4, 43, 131, 3), (4, 47, 27, 1), (4, 51, 5, 0), (4, 57, 28, 1), (4, 61, 132, 3), (4, 65, 31, 1), (4, 68, 4, 0), (4, 74, 3, 0), (5, 17, 22, 4), (5, 22, 23, 1), (5, 29, 4, 0), (5, 35, 24, 1), (6, 24, 39, 1), (6, 41, 4, 0), (6, 50, 44, 0), (7, 23, 48, 1), (7, 27, 49, 1), (7, 30, 64, 1), (7, 36, 65, 1), (7, 39, 47, 1), (7, 43, 50, 1), (7, 46, 51, 1), (7, 49, 66, 1), (7, 52, 52, 1), (7, 55, 67, 1), (7, 59, 53, 1), (7, 62, 54, 0), (8, 22, 3, 0), (8, 28, 77, 1), (8, 37, 132, 3), (9, 22, 4, 0), (9, 35, 64, 1), (9, 39, 69, 1), (10, 20, 25, 2), (10, 38, 26, 1), (10, 46, 131, 3), (10, 50, 72, 1), (10, 57, 132, 3), (10, 61, 74, 1), (10, 64, 78, 1), (10, 68, 79, 1), (10, 74, 33, 1), (10, 96, 28, 1), (10, 106, 73, 1), (10, 109, 80, 1), (10, 113, 27, 1), (10, 122, 0, 0), (10, 127, 42, 1), (10, 130, 43, 1), (11, 9, 58, 4), (11, 18, 38, 2), (11, 25, 45, 2), (11, 34, 6, 2), (11, 41, 70, 2), (11, 53, 11, 4), (11, 60, 34, 2), (11, 73, 19, 4), (11, 80, 55, 4), (11, 92, 22, 4), (11, 93, 59, 1), (11, 101, 60, 1), (11, 105, 141, 1), (11, 109, 62, 1), (11, 113, 63, 1), (11, 120, 67, 1), (11, 127, 41, 1), (11, 131, 61, 1), (11, 135, 46, 1), (11, 138, 39, 1), (11, 141, 40, 1), (11, 145, 134, 1), (11, 170, 74, 1), (11, 185, 132, 0), (11, 192, 133, 0), (11, 196, 144, 0), (11, 203, 145, 0), (11, 207, 146, 1), (11, 210, 72, 1), (11, 216, 75, 1), (11, 219, 0, 0), (11, 224, 136, 1), (11, 227, 137, 1), (11, 230, 27, 1), (11, 234, 31, 1), (11, 237, 71, 1), (11, 240, 131, 0), (11, 249, 79, 1), (11, 252, 76, 1), (11, 255, 138, 1), (11, 261, 148, 1), (11, 264, 147, 1), (11, 268, 139, 1), (11, 271, 7, 1), (11, 272, 35, 1), (11, 286, 149, 1), (11, 290, 36, 1), (11, 293, 37, 1), (11, 297, 13, 1), (11, 302, 14, 1), (11, 312, 16, 1), (11, 315, 18, 1), (11, 318, 17, 1), (11, 321, 150, 1), (11, 330, 154, 1), (11, 336, 155, 1), (11, 339, 158, 1), (11, 345, 156, 1), (11, 348, 157, 1), (11, 351, 159, 1), (11, 354, 73, 1), (11, 357, 160, 0), (11, 360, 135, 1), (11, 363, 161, 1), (11, 366, 163, 1), (11, 369, 153, 1), (11, 372, 2, 0), (11, 377, 152, 0), (11, 380, 33, 1), (11, 383, 32, 1), (11, 386, 164, 1), (11, 389, 166, 1), (11, 392, 165, 1), (11, 395, 140, 1), (11, 398, 20, 1), (11, 404, 21, 1), (11, 407, 167, 1), (11, 410, 56, 1), (11, 413, 168, 1), (11, 416, 57, 1), (11, 420, 30, 1), (11, 423, 5, 0), (11, 429, 4, 0), (11, 432, 3, 0), (11, 435, 23, 1), (11, 442, 24, 1), (11, 448, 142, 1), (11, 451, 66, 1), (11, 454, 143, 1), (11, 457, 68, 1), (11, 460, 77, 1), (11, 464, 15, 1), (11, 467, 151, 0), (11, 470, 29, 1), (11, 473, 162, 1), (12, 88, 171, 0), (12, 92, 176, 1), (12, 114, 183, 1), (12, 118, 182, 1), (12, 121, 185, 1), (12, 125, 184, 1), (12, 129, 181, 1), (12, 133, 191, 1), (12, 136, 190, 0), (12, 146, 187, 1), (12, 150, 186, 1), (12, 154, 188, 1), (12, 160, 194, 1), (12, 163, 195, 1), (12, 166, 196, 1), (12, 169, 193, 1), (12, 175, 197, 1), (12, 194, 175, 1), (12, 198, 173, 1), (12, 201, 177, 1), (12, 204, 4, 0), (12, 210, 3, 0), (12, 213, 172, 0), (12, 220, 203, 1), (12, 223, 0, 0), (12, 241, 206, 1), (12, 245, 207, 1), (12, 248, 199, 1), (12, 252, 208, 0), (12, 256, 210, 1), (12, 260, 209, 1), (12, 264, 211, 0), (12, 267, 213, 1), (12, 270, 174, 1), (12, 273, 205, 1), (12, 276, 216, 1), (12, 279, 220, 1), (12, 285, 221, 1), (12, 288, 223, 1), (12, 291, 224, 1), (12, 300, 227, 1), (12, 303, 228, 1), (12, 309, 230, 1), (12, 312, 178, 0), (12, 315, 234, 1), (12, 318, 236, 1), (12, 321, 237, 1), (12, 325, 241, 1), (12, 329, 244, 1), (12, 332, 246, 0), (12, 336, 247, 1), (12, 339, 2, 0), (12, 342, 249, 0), (12, 345, 253, 1), (12, 348, 255, 1), (12, 354, 259, 1), (12, 362, 265, 1), (12, 365, 264, 1)]
def zNL : List (Nat × Nat × Nat) := [(3, 7, 4), (3, 16, 1), (5, 11, 3), (10, 18, 4), (11, 7, 9), (11, 16, 6), (11, 23, 7), (11, 32, 0), (11, 39, 10), (11, 51, 1), (11, 58, 5), (11, 65, 3), (11, 71, 2), (11, 78, 8)]
def zAL : List (Nat × Nat) := [(5, 11), (11, 65)]
def zCP : List (Nat × Nat) := [(1, 24), (4, 27), (6, 34), (10, 32)]
def zOB : List (Nat × Nat) := [(0, 3), (1, 3), (2, 1), (3, 1), (4, 3), (5, 3), (6, 3), (7, 3), (8, 3), (9, 3), (10, 3), (11, 1), (12, 3)]
def zKN : List (Nat × Nat × Int32) := [(11, 428, 1103515245), (12, 324, 1000000), (12, 335, 1000001), (12, 358, 2147483647), (12, 367, 1103515245), (13, 265, 1431655765), (13, 266, 858993459), (13, 267, 252645135)]
abbrev zWF (q : Nat × Nat × Nat × Nat) : Cond := .fieldLink (zCs q.1) q.2.1 (zCs q.2.2.1) ((zTf q.2.2.1).2.1 q.2.2.2).2.1 ((zTf q.2.2.1).2.1 q.2.2.2).2.2.1
abbrev zWM (q : Nat × Nat × Nat × Nat) : Cond := if q.2.2.2 < 3 then .methodLink (zCs q.1) q.2.1 (zY q.2.2.1) else .methodLinkNest (zCs q.1) q.2.1 (zY q.2.2.1) "StartedByAYawn"
set_option maxRecDepth 100000 in
theorem zFLc_0 : zWF (0, 11, 0, 0) ∈ tables_1 := List.mem_of_getElem? (i := 109) rfl
set_option maxRecDepth 100000 in
theorem zFLc_1 : zWF (0, 15, 0, 1) ∈ tables_1 := List.mem_of_getElem? (i := 111) rfl
set_option maxRecDepth 100000 in
theorem zFLc_2 : zWF (0, 18, 0, 2) ∈ tables_1 := List.mem_of_getElem? (i := 113) rfl
set_option maxRecDepth 100000 in
theorem zFLc_3 : zWF (0, 21, 0, 4) ∈ tables_1 := List.mem_of_getElem? (i := 117) rfl
set_option maxRecDepth 100000 in
theorem zFLc_4 : zWF (0, 25, 0, 3) ∈ tables_1 := List.mem_of_getElem? (i := 115) rfl
set_option maxRecDepth 100000 in
theorem zFLc_5 : zWF (1, 9, 1, 0) ∈ tables_1 := List.mem_of_getElem? (i := 229) rfl
set_option maxRecDepth 100000 in
theorem zFLc_6 : zWF (1, 15, 1, 1) ∈ tables_1 := List.mem_of_getElem? (i := 231) rfl
set_option maxRecDepth 100000 in
theorem zFLc_7 : zWF (1, 18, 1, 2) ∈ tables_1 := List.mem_of_getElem? (i := 233) rfl
set_option maxRecDepth 100000 in
theorem zFLc_8 : zWF (1, 21, 1, 3) ∈ tables_1 := List.mem_of_getElem? (i := 235) rfl
set_option maxRecDepth 100000 in
theorem zFLc_9 : zWF (1, 30, 1, 4) ∈ tables_1 := List.mem_of_getElem? (i := 237) rfl
set_option maxRecDepth 100000 in
theorem zFLc_10 : zWF (1, 34, 1, 5) ∈ tables_1 := List.mem_of_getElem? (i := 239) rfl
set_option maxRecDepth 100000 in
theorem zFLc_11 : zWF (2, 9, 2, 0) ∈ tables_1 := List.mem_of_getElem? (i := 303) rfl
set_option maxRecDepth 100000 in
theorem zFLc_12 : zWF (2, 13, 2, 1) ∈ tables_1 := List.mem_of_getElem? (i := 305) rfl
set_option maxRecDepth 100000 in
theorem zFLc_13 : zWF (2, 16, 2, 2) ∈ tables_1 := List.mem_of_getElem? (i := 306) rfl
set_option maxRecDepth 100000 in
theorem zFLc_14 : zWF (2, 19, 2, 3) ∈ tables_1 := List.mem_of_getElem? (i := 307) rfl
set_option maxRecDepth 100000 in
theorem zFLc_15 : zWF (3, 10, 3, 2) ∈ tables_1 := List.mem_of_getElem? (i := 274) rfl
set_option maxRecDepth 100000 in
theorem zFLc_16 : zWF (3, 19, 3, 3) ∈ tables_1 := List.mem_of_getElem? (i := 275) rfl
set_option maxRecDepth 100000 in
theorem zFLc_17 : zWF (3, 23, 10, 2) ∈ tables_1 := List.mem_of_getElem? (i := 189) rfl
set_option maxRecDepth 100000 in
theorem zFLc_18 : zWF (3, 33, 10, 3) ∈ tables_1 := List.mem_of_getElem? (i := 191) rfl
set_option maxRecDepth 100000 in
theorem zFLc_19 : zWF (3, 37, 3, 1) ∈ tables_1 := List.mem_of_getElem? (i := 272) rfl
set_option maxRecDepth 100000 in
theorem zFLc_20 : zWF (3, 38, 3, 0) ∈ tables_1 := List.mem_of_getElem? (i := 270) rfl
set_option maxRecDepth 100000 in
theorem zFLc_21 : zWF (4, 9, 4, 0) ∈ tables_1 := List.mem_of_getElem? (i := 148) rfl
set_option maxRecDepth 100000 in
theorem zFLc_22 : zWF (4, 15, 4, 1) ∈ tables_1 := List.mem_of_getElem? (i := 151) rfl
set_option maxRecDepth 100000 in
theorem zFLc_23 : zWF (4, 18, 4, 2) ∈ tables_1 := List.mem_of_getElem? (i := 154) rfl
set_option maxRecDepth 100000 in
theorem zFLc_24 : zWF (4, 21, 4, 3) ∈ tables_1 := List.mem_of_getElem? (i := 157) rfl
set_option maxRecDepth 100000 in
theorem zFLc_25 : zWF (4, 33, 4, 4) ∈ tables_1 := List.mem_of_getElem? (i := 160) rfl
set_option maxRecDepth 100000 in
theorem zFLc_26 : zWF (4, 37, 4, 5) ∈ tables_1 := List.mem_of_getElem? (i := 163) rfl
set_option maxRecDepth 100000 in
theorem zFLc_27 : zWF (4, 40, 4, 6) ∈ tables_1 := List.mem_of_getElem? (i := 166) rfl
set_option maxRecDepth 100000 in
theorem zFLc_28 : zWF (5, 13, 5, 1) ∈ tables_1 := List.mem_of_getElem? (i := 287) rfl
set_option maxRecDepth 100000 in
theorem zFLc_29 : zWF (5, 18, 5, 2) ∈ tables_1 := List.mem_of_getElem? (i := 288) rfl
set_option maxRecDepth 100000 in
theorem zFLc_30 : zWF (5, 26, 5, 0) ∈ tables_1 := List.mem_of_getElem? (i := 285) rfl
set_option maxRecDepth 100000 in
theorem zFLc_31 : zWF (6, 9, 6, 0) ∈ tables_1 := List.mem_of_getElem? (i := 65) rfl
set_option maxRecDepth 100000 in
theorem zFLc_32 : zWF (6, 15, 6, 1) ∈ tables_1 := List.mem_of_getElem? (i := 67) rfl
set_option maxRecDepth 100000 in
theorem zFLc_33 : zWF (6, 18, 6, 3) ∈ tables_1 := List.mem_of_getElem? (i := 69) rfl
set_option maxRecDepth 100000 in
theorem zFLc_34 : zWF (6, 21, 6, 4) ∈ tables_1 := List.mem_of_getElem? (i := 70) rfl
set_option maxRecDepth 100000 in
theorem zFLc_35 : zWF (6, 27, 6, 2) ∈ tables_1 := List.mem_of_getElem? (i := 68) rfl
set_option maxRecDepth 100000 in
theorem zFLc_36 : zWF (6, 31, 7, 0) ∈ tables_1 := List.mem_of_getElem? (i := 92) rfl
set_option maxRecDepth 100000 in
theorem zFLc_37 : zWF (6, 40, 7, 1) ∈ tables_1 := List.mem_of_getElem? (i := 94) rfl
set_option maxRecDepth 100000 in
theorem zFLc_38 : zWF (6, 47, 6, 5) ∈ tables_1 := List.mem_of_getElem? (i := 71) rfl
set_option maxRecDepth 100000 in
theorem zFLc_39 : zWF (7, 9, 7, 0) ∈ tables_1 := List.mem_of_getElem? (i := 91) rfl
set_option maxRecDepth 100000 in
theorem zFLc_40 : zWF (7, 15, 7, 2) ∈ tables_1 := List.mem_of_getElem? (i := 95) rfl
set_option maxRecDepth 100000 in
theorem zFLc_41 : zWF (7, 19, 7, 1) ∈ tables_1 := List.mem_of_getElem? (i := 93) rfl
set_option maxRecDepth 100000 in
theorem zFLc_42 : zWF (8, 11, 8, 1) ∈ tables_1 := List.mem_of_getElem? (i := 326) rfl
set_option maxRecDepth 100000 in
theorem zFLc_43 : zWF (8, 15, 8, 2) ∈ tables_1 := List.mem_of_getElem? (i := 327) rfl
set_option maxRecDepth 100000 in
theorem zFLc_44 : zWF (8, 18, 8, 0) ∈ tables_1 := List.mem_of_getElem? (i := 324) rfl
set_option maxRecDepth 100000 in
theorem zFLc_45 : zWF (8, 34, 10, 4) ∈ tables_1 := List.mem_of_getElem? (i := 194) rfl
set_option maxRecDepth 100000 in
theorem zFLc_46 : zWF (9, 9, 9, 0) ∈ tables_1 := List.mem_of_getElem? (i := 36) rfl
set_option maxRecDepth 100000 in
theorem zFLc_47 : zWF (9, 15, 9, 1) ∈ tables_1 := List.mem_of_getElem? (i := 38) rfl
set_option maxRecDepth 100000 in
theorem zFLc_48 : zWF (9, 19, 9, 2) ∈ tables_1 := List.mem_of_getElem? (i := 40) rfl
set_option maxRecDepth 100000 in
theorem zFLc_49 : zWF (9, 28, 9, 3) ∈ tables_1 := List.mem_of_getElem? (i := 41) rfl
set_option maxRecDepth 100000 in
theorem zFLc_50 : zWF (9, 31, 9, 4) ∈ tables_1 := List.mem_of_getElem? (i := 42) rfl
set_option maxRecDepth 100000 in
theorem zFLc_51 : zWF (10, 9, 10, 0) ∈ tables_1 := List.mem_of_getElem? (i := 184) rfl
set_option maxRecDepth 100000 in
theorem zFLc_52 : zWF (10, 15, 10, 1) ∈ tables_1 := List.mem_of_getElem? (i := 186) rfl
set_option maxRecDepth 100000 in
theorem zFLc_53 : zWF (10, 21, 10, 2) ∈ tables_1 := List.mem_of_getElem? (i := 188) rfl
set_option maxRecDepth 100000 in
theorem zFLc_54 : zWF (10, 25, 10, 7) ∈ tables_1 := List.mem_of_getElem? (i := 201) rfl
set_option maxRecDepth 100000 in
theorem zFLc_55 : zWF (10, 28, 10, 8) ∈ tables_1 := List.mem_of_getElem? (i := 203) rfl
set_option maxRecDepth 100000 in
theorem zFLc_56 : zWF (10, 42, 10, 3) ∈ tables_1 := List.mem_of_getElem? (i := 192) rfl
set_option maxRecDepth 100000 in
theorem zFLc_57 : zWF (10, 54, 4, 5) ∈ tables_1 := List.mem_of_getElem? (i := 164) rfl
set_option maxRecDepth 100000 in
theorem zFLc_58 : zWF (10, 71, 4, 6) ∈ tables_1 := List.mem_of_getElem? (i := 168) rfl
set_option maxRecDepth 100000 in
theorem zFLc_59 : zWF (10, 78, 10, 4) ∈ tables_1 := List.mem_of_getElem? (i := 195) rfl
set_option maxRecDepth 100000 in
theorem zFLc_60 : zWF (10, 81, 10, 5) ∈ tables_1 := List.mem_of_getElem? (i := 197) rfl
set_option maxRecDepth 100000 in
theorem zFLc_61 : zWF (10, 84, 4, 0) ∈ tables_1 := List.mem_of_getElem? (i := 150) rfl
set_option maxRecDepth 100000 in
theorem zFLc_62 : zWF (10, 87, 4, 2) ∈ tables_1 := List.mem_of_getElem? (i := 156) rfl
set_option maxRecDepth 100000 in
theorem zFLc_63 : zWF (10, 90, 4, 4) ∈ tables_1 := List.mem_of_getElem? (i := 162) rfl
set_option maxRecDepth 100000 in
theorem zFLc_64 : zWF (10, 93, 4, 3) ∈ tables_1 := List.mem_of_getElem? (i := 159) rfl
set_option maxRecDepth 100000 in
theorem zFLc_65 : zWF (10, 100, 4, 1) ∈ tables_1 := List.mem_of_getElem? (i := 153) rfl
set_option maxRecDepth 100000 in
theorem zFLc_66 : zWF (10, 103, 10, 6) ∈ tables_1 := List.mem_of_getElem? (i := 199) rfl
set_option maxRecDepth 100000 in
theorem zFLc_67 : zWF (10, 117, 6, 0) ∈ tables_1 := List.mem_of_getElem? (i := 66) rfl
set_option maxRecDepth 100000 in
theorem zFLc_68 : zWF (11, 10, 11, 0) ∈ tables_1 := List.mem_of_getElem? (i := 336) rfl
set_option maxRecDepth 100000 in
theorem zFLc_69 : zWF (11, 19, 11, 1) ∈ tables_1 := List.mem_of_getElem? (i := 337) rfl
set_option maxRecDepth 100000 in
theorem zFLc_70 : zWF (11, 28, 11, 2) ∈ tables_1 := List.mem_of_getElem? (i := 338) rfl
set_option maxRecDepth 100000 in
theorem zFLc_71 : zWF (11, 35, 11, 3) ∈ tables_1 := List.mem_of_getElem? (i := 339) rfl
set_option maxRecDepth 100000 in
theorem zFLc_72 : zWF (11, 44, 11, 4) ∈ tables_1 := List.mem_of_getElem? (i := 340) rfl
set_option maxRecDepth 100000 in
theorem zFLc_73 : zWF (11, 48, 11, 5) ∈ tables_1 := List.mem_of_getElem? (i := 341) rfl
set_option maxRecDepth 100000 in
theorem zFLc_74 : zWF (11, 54, 11, 6) ∈ tables_1 := List.mem_of_getElem? (i := 342) rfl
set_option maxRecDepth 100000 in
theorem zFLc_75 : zWF (11, 61, 11, 7) ∈ tables_1 := List.mem_of_getElem? (i := 343) rfl
set_option maxRecDepth 100000 in
theorem zFLc_76 : zWF (11, 67, 11, 8) ∈ tables_1 := List.mem_of_getElem? (i := 344) rfl
set_option maxRecDepth 100000 in
theorem zFLc_77 : zWF (11, 74, 11, 9) ∈ tables_1 := List.mem_of_getElem? (i := 345) rfl
set_option maxRecDepth 100000 in
theorem zFLc_78 : zWF (11, 81, 11, 10) ∈ tables_1 := List.mem_of_getElem? (i := 346) rfl
set_option maxRecDepth 100000 in
theorem zFLc_79 : zWF (11, 85, 11, 11) ∈ tables_1 := List.mem_of_getElem? (i := 347) rfl
set_option maxRecDepth 100000 in
theorem zFLc_80 : zWF (11, 89, 11, 16) ∈ tables_1 := List.mem_of_getElem? (i := 352) rfl
set_option maxRecDepth 100000 in
theorem zFLc_81 : zWF (11, 97, 9, 1) ∈ tables_1 := List.mem_of_getElem? (i := 39) rfl
set_option maxRecDepth 100000 in
theorem zFLc_82 : zWF (11, 116, 10, 3) ∈ tables_1 := List.mem_of_getElem? (i := 193) rfl
set_option maxRecDepth 100000 in
theorem zFLc_83 : zWF (11, 119, 5, 0) ∈ tables_1 := List.mem_of_getElem? (i := 286) rfl
set_option maxRecDepth 100000 in
theorem zFLc_84 : zWF (11, 124, 9, 0) ∈ tables_1 := List.mem_of_getElem? (i := 37) rfl
set_option maxRecDepth 100000 in
theorem zFLc_85 : zWF (11, 155, 10, 2) ∈ tables_1 := List.mem_of_getElem? (i := 190) rfl
set_option maxRecDepth 100000 in
theorem zFLc_86 : zWF (11, 159, 4, 2) ∈ tables_1 := List.mem_of_getElem? (i := 155) rfl
set_option maxRecDepth 100000 in
theorem zFLc_87 : zWF (11, 164, 4, 0) ∈ tables_1 := List.mem_of_getElem? (i := 149) rfl
set_option maxRecDepth 100000 in
theorem zFLc_88 : zWF (11, 167, 10, 0) ∈ tables_1 := List.mem_of_getElem? (i := 185) rfl
set_option maxRecDepth 100000 in
theorem zFLc_89 : zWF (11, 173, 4, 1) ∈ tables_1 := List.mem_of_getElem? (i := 152) rfl
set_option maxRecDepth 100000 in
theorem zFLc_90 : zWF (11, 176, 4, 6) ∈ tables_1 := List.mem_of_getElem? (i := 167) rfl
set_option maxRecDepth 100000 in
theorem zFLc_91 : zWF (11, 179, 4, 3) ∈ tables_1 := List.mem_of_getElem? (i := 158) rfl
set_option maxRecDepth 100000 in
theorem zFLc_92 : zWF (11, 182, 4, 4) ∈ tables_1 := List.mem_of_getElem? (i := 161) rfl
set_option maxRecDepth 100000 in
theorem zFLc_93 : zWF (11, 189, 4, 5) ∈ tables_1 := List.mem_of_getElem? (i := 165) rfl
set_option maxRecDepth 100000 in
theorem zFLc_94 : zWF (11, 200, 10, 1) ∈ tables_1 := List.mem_of_getElem? (i := 187) rfl
set_option maxRecDepth 100000 in
theorem zFLc_95 : zWF (11, 213, 11, 13) ∈ tables_1 := List.mem_of_getElem? (i := 349) rfl
set_option maxRecDepth 100000 in
theorem zFLc_96 : zWF (11, 243, 10, 4) ∈ tables_1 := List.mem_of_getElem? (i := 196) rfl
set_option maxRecDepth 100000 in
theorem zFLc_97 : zWF (11, 246, 10, 5) ∈ tables_1 := List.mem_of_getElem? (i := 198) rfl
set_option maxRecDepth 100000 in
theorem zFLc_98 : zWF (11, 258, 10, 6) ∈ tables_1 := List.mem_of_getElem? (i := 200) rfl
set_option maxRecDepth 100000 in
theorem zFLc_99 : zWF (11, 276, 0, 3) ∈ tables_1 := List.mem_of_getElem? (i := 116) rfl
set_option maxRecDepth 100000 in
theorem zFLc_100 : zWF (11, 277, 0, 0) ∈ tables_1 := List.mem_of_getElem? (i := 110) rfl
set_option maxRecDepth 100000 in
theorem zFLc_101 : zWF (11, 280, 0, 1) ∈ tables_1 := List.mem_of_getElem? (i := 112) rfl
set_option maxRecDepth 100000 in
theorem zFLc_102 : zWF (11, 283, 0, 2) ∈ tables_1 := List.mem_of_getElem? (i := 114) rfl
set_option maxRecDepth 100000 in
theorem zFLc_103 : zWF (11, 305, 1, 0) ∈ tables_1 := List.mem_of_getElem? (i := 230) rfl
set_option maxRecDepth 100000 in
theorem zFLc_104 : zWF (11, 308, 1, 1) ∈ tables_1 := List.mem_of_getElem? (i := 232) rfl
set_option maxRecDepth 100000 in
theorem zFLc_105 : zWF (11, 309, 1, 2) ∈ tables_1 := List.mem_of_getElem? (i := 234) rfl
set_option maxRecDepth 100000 in
theorem zFLc_106 : zWF (11, 310, 1, 3) ∈ tables_1 := List.mem_of_getElem? (i := 236) rfl
set_option maxRecDepth 100000 in
theorem zFLc_107 : zWF (11, 324, 11, 14) ∈ tables_1 := List.mem_of_getElem? (i := 350) rfl
set_option maxRecDepth 100000 in
theorem zFLc_108 : zWF (11, 327, 11, 15) ∈ tables_1 := List.mem_of_getElem? (i := 351) rfl
set_option maxRecDepth 100000 in
theorem zFLc_109 : zWF (11, 333, 11, 12) ∈ tables_1 := List.mem_of_getElem? (i := 348) rfl
set_option maxRecDepth 100000 in
theorem zFLc_110 : zWF (11, 342, 10, 7) ∈ tables_1 := List.mem_of_getElem? (i := 202) rfl
set_option maxRecDepth 100000 in
theorem zFLc_111 : zWF (11, 397, 2, 3) ∈ tables_1 := List.mem_of_getElem? (i := 308) rfl
set_option maxRecDepth 100000 in
theorem zFLc_112 : zWF (11, 401, 2, 0) ∈ tables_1 := List.mem_of_getElem? (i := 304) rfl
set_option maxRecDepth 100000 in
theorem zFLc_113 : zWF (11, 412, 8, 0) ∈ tables_1 := List.mem_of_getElem? (i := 325) rfl
set_option maxRecDepth 100000 in
theorem zFLc_114 : zWF (11, 437, 3, 0) ∈ tables_1 := List.mem_of_getElem? (i := 271) rfl
set_option maxRecDepth 100000 in
theorem zFLc_115 : zWF (11, 441, 3, 1) ∈ tables_1 := List.mem_of_getElem? (i := 273) rfl
set_option maxRecDepth 100000 in
theorem zFLc_116 : zWF (11, 445, 1, 4) ∈ tables_1 := List.mem_of_getElem? (i := 238) rfl
set_option maxRecDepth 100000 in
theorem zFLc_117 : zWF (12, 9, 12, 0) ∈ tables_1 := List.mem_of_getElem? (i := 1121) rfl
set_option maxRecDepth 100000 in
theorem zFLc_118 : zWF (12, 13, 12, 2) ∈ tables_1 := List.mem_of_getElem? (i := 1123) rfl
set_option maxRecDepth 100000 in
theorem zFLc_119 : zWF (12, 16, 12, 3) ∈ tables_1 := List.mem_of_getElem? (i := 1124) rfl
set_option maxRecDepth 100000 in
theorem zFLc_120 : zWF (12, 19, 12, 5) ∈ tables_1 := List.mem_of_getElem? (i := 1126) rfl
set_option maxRecDepth 100000 in
theorem zFLc_121 : zWF (12, 22, 12, 8) ∈ tables_1 := List.mem_of_getElem? (i := 1129) rfl
set_option maxRecDepth 100000 in
theorem zFLc_122 : zWF (12, 26, 12, 10) ∈ tables_1 := List.mem_of_getElem? (i := 1131) rfl
set_option maxRecDepth 100000 in
theorem zFLc_123 : zWF (12, 29, 12, 18) ∈ tables_1 := List.mem_of_getElem? (i := 1139) rfl
set_option maxRecDepth 100000 in
theorem zFLc_124 : zWF (12, 32, 12, 19) ∈ tables_1 := List.mem_of_getElem? (i := 1140) rfl
set_option maxRecDepth 100000 in
theorem zFLc_125 : zWF (12, 35, 12, 29) ∈ tables_1 := List.mem_of_getElem? (i := 1150) rfl
set_option maxRecDepth 100000 in
theorem zFLc_126 : zWF (12, 38, 12, 31) ∈ tables_1 := List.mem_of_getElem? (i := 1152) rfl
set_option maxRecDepth 100000 in
theorem zFLc_127 : zWF (12, 41, 12, 32) ∈ tables_1 := List.mem_of_getElem? (i := 1153) rfl
set_option maxRecDepth 100000 in
theorem zFLc_128 : zWF (12, 44, 12, 34) ∈ tables_1 := List.mem_of_getElem? (i := 1155) rfl
set_option maxRecDepth 100000 in
theorem zFLc_129 : zWF (12, 47, 12, 37) ∈ tables_1 := List.mem_of_getElem? (i := 1158) rfl
set_option maxRecDepth 100000 in
theorem zFLc_130 : zWF (12, 50, 12, 39) ∈ tables_1 := List.mem_of_getElem? (i := 1160) rfl
set_option maxRecDepth 100000 in
theorem zFLc_131 : zWF (12, 53, 12, 40) ∈ tables_1 := List.mem_of_getElem? (i := 1161) rfl
set_option maxRecDepth 100000 in
theorem zFLc_132 : zWF (12, 56, 12, 41) ∈ tables_1 := List.mem_of_getElem? (i := 1162) rfl
set_option maxRecDepth 100000 in
theorem zFLc_133 : zWF (12, 59, 12, 42) ∈ tables_1 := List.mem_of_getElem? (i := 1163) rfl
set_option maxRecDepth 100000 in
theorem zFLc_134 : zWF (12, 62, 12, 44) ∈ tables_1 := List.mem_of_getElem? (i := 1165) rfl
set_option maxRecDepth 100000 in
theorem zFLc_135 : zWF (12, 65, 12, 45) ∈ tables_1 := List.mem_of_getElem? (i := 1166) rfl
set_option maxRecDepth 100000 in
theorem zFLc_136 : zWF (12, 68, 12, 48) ∈ tables_1 := List.mem_of_getElem? (i := 1169) rfl
set_option maxRecDepth 100000 in
theorem zFLc_137 : zWF (12, 71, 12, 49) ∈ tables_1 := List.mem_of_getElem? (i := 1170) rfl
set_option maxRecDepth 100000 in
theorem zFLc_138 : zWF (12, 75, 12, 50) ∈ tables_1 := List.mem_of_getElem? (i := 1171) rfl
set_option maxRecDepth 100000 in
theorem zFLc_139 : zWF (12, 78, 12, 12) ∈ tables_1 := List.mem_of_getElem? (i := 1133) rfl
set_option maxRecDepth 100000 in
theorem zFLc_140 : zWF (12, 82, 12, 11) ∈ tables_1 := List.mem_of_getElem? (i := 1132) rfl
set_option maxRecDepth 100000 in
theorem zFLc_141 : zWF (12, 85, 12, 1) ∈ tables_1 := List.mem_of_getElem? (i := 1122) rfl
set_option maxRecDepth 100000 in
theorem zFLc_142 : zWF (12, 96, 12, 9) ∈ tables_1 := List.mem_of_getElem? (i := 1130) rfl
set_option maxRecDepth 100000 in
theorem zFLc_143 : zWF (12, 99, 12, 13) ∈ tables_1 := List.mem_of_getElem? (i := 1134) rfl
set_option maxRecDepth 100000 in
theorem zFLc_144 : zWF (12, 102, 12, 14) ∈ tables_1 := List.mem_of_getElem? (i := 1135) rfl
set_option maxRecDepth 100000 in
theorem zFLc_145 : zWF (12, 105, 12, 15) ∈ tables_1 := List.mem_of_getElem? (i := 1136) rfl
set_option maxRecDepth 100000 in
theorem zFLc_146 : zWF (12, 108, 12, 16) ∈ tables_1 := List.mem_of_getElem? (i := 1137) rfl
set_option maxRecDepth 100000 in
theorem zFLc_147 : zWF (12, 111, 12, 17) ∈ tables_1 := List.mem_of_getElem? (i := 1138) rfl
set_option maxRecDepth 100000 in
theorem zFLc_148 : zWF (12, 140, 12, 30) ∈ tables_1 := List.mem_of_getElem? (i := 1151) rfl
set_option maxRecDepth 100000 in
theorem zFLc_149 : zWF (12, 143, 12, 47) ∈ tables_1 := List.mem_of_getElem? (i := 1168) rfl
set_option maxRecDepth 100000 in
theorem zFLc_150 : zWF (12, 157, 12, 6) ∈ tables_1 := List.mem_of_getElem? (i := 1127) rfl
set_option maxRecDepth 100000 in
theorem zFLc_151 : zWF (12, 172, 12, 21) ∈ tables_1 := List.mem_of_getElem? (i := 1142) rfl
set_option maxRecDepth 100000 in
theorem zFLc_152 : zWF (12, 179, 12, 22) ∈ tables_1 := List.mem_of_getElem? (i := 1143) rfl
set_option maxRecDepth 100000 in
theorem zFLc_153 : zWF (12, 182, 12, 23) ∈ tables_1 := List.mem_of_getElem? (i := 1144) rfl
set_option maxRecDepth 100000 in
theorem zFLc_154 : zWF (12, 185, 12, 24) ∈ tables_1 := List.mem_of_getElem? (i := 1145) rfl
set_option maxRecDepth 100000 in
theorem zFLc_155 : zWF (12, 188, 12, 25) ∈ tables_1 := List.mem_of_getElem? (i := 1146) rfl
set_option maxRecDepth 100000 in
theorem zFLc_156 : zWF (12, 191, 12, 20) ∈ tables_1 := List.mem_of_getElem? (i := 1141) rfl
set_option maxRecDepth 100000 in
theorem zFLc_157 : zWF (12, 217, 12, 4) ∈ tables_1 := List.mem_of_getElem? (i := 1125) rfl
set_option maxRecDepth 100000 in
theorem zFLc_158 : zWF (12, 228, 12, 26) ∈ tables_1 := List.mem_of_getElem? (i := 1147) rfl
set_option maxRecDepth 100000 in
theorem zFLc_159 : zWF (12, 231, 12, 27) ∈ tables_1 := List.mem_of_getElem? (i := 1148) rfl
set_option maxRecDepth 100000 in
theorem zFLc_160 : zWF (12, 234, 12, 28) ∈ tables_1 := List.mem_of_getElem? (i := 1149) rfl
set_option maxRecDepth 100000 in
theorem zFLc_161 : zWF (12, 237, 12, 7) ∈ tables_1 := List.mem_of_getElem? (i := 1128) rfl
set_option maxRecDepth 100000 in
theorem zFLc_162 : zWF (12, 282, 12, 33) ∈ tables_1 := List.mem_of_getElem? (i := 1154) rfl
set_option maxRecDepth 100000 in
theorem zFLc_163 : zWF (12, 294, 12, 36) ∈ tables_1 := List.mem_of_getElem? (i := 1157) rfl
set_option maxRecDepth 100000 in
theorem zFLc_164 : zWF (12, 297, 12, 35) ∈ tables_1 := List.mem_of_getElem? (i := 1156) rfl
set_option maxRecDepth 100000 in
theorem zFLc_165 : zWF (12, 306, 12, 38) ∈ tables_1 := List.mem_of_getElem? (i := 1159) rfl
set_option maxRecDepth 100000 in
theorem zFLc_166 : zWF (12, 351, 12, 43) ∈ tables_1 := List.mem_of_getElem? (i := 1164) rfl
set_option maxRecDepth 100000 in
theorem zFLc_167 : zWF (12, 359, 12, 46) ∈ tables_1 := List.mem_of_getElem? (i := 1167) rfl
def zFLc_l0 : List (Nat × Nat × Nat × Nat) := [(0, 11, 0, 0), (0, 15, 0, 1), (0, 18, 0, 2), (0, 21, 0, 4), (0, 25, 0, 3), (1, 9, 1, 0), (1, 15, 1, 1), (1, 18, 1, 2), (1, 21, 1, 3), (1, 30, 1, 4), (1, 34, 1, 5), (2, 9, 2, 0), (2, 13, 2, 1), (2, 16, 2, 2), (2, 19, 2, 3), (3, 10, 3, 2)]
theorem zFLc_r0 : ∀ q ∈ zFLc_l0, zWF q ∈ tables_1 := List.forall_mem_cons.mpr ⟨zFLc_0, List.forall_mem_cons.mpr ⟨zFLc_1, List.forall_mem_cons.mpr ⟨zFLc_2, List.forall_mem_cons.mpr ⟨zFLc_3, List.forall_mem_cons.mpr ⟨zFLc_4, List.forall_mem_cons.mpr ⟨zFLc_5, List.forall_mem_cons.mpr ⟨zFLc_6, List.forall_mem_cons.mpr ⟨zFLc_7, List.forall_mem_cons.mpr ⟨zFLc_8, List.forall_mem_cons.mpr ⟨zFLc_9, List.forall_mem_cons.mpr ⟨zFLc_10, List.forall_mem_cons.mpr ⟨zFLc_11, List.forall_mem_cons.mpr ⟨zFLc_12, List.forall_mem_cons.mpr ⟨zFLc_13, List.forall_mem_cons.mpr ⟨zFLc_14, List.forall_mem_cons.mpr ⟨zFLc_15, fun _ h => absurd h List.not_mem_nil⟩⟩⟩⟩⟩⟩⟩⟩⟩⟩⟩⟩⟩⟩⟩⟩
def zFLc_l1 : List (Nat × Nat × Nat × Nat) := [(3, 19, 3, 3), (3, 23, 10, 2), (3, 33, 10, 3), (3, 37, 3, 1), (3, 38, 3, 0), (4, 9, 4, 0), (4, 15, 4, 1), (4, 18, 4, 2), (4, 21, 4, 3), (4, 33, 4, 4), (4, 37, 4, 5), (4, 40, 4, 6), (5, 13, 5, 1), (5, 18, 5, 2), (5, 26, 5, 0), (6, 9, 6, 0)]
theorem zFLc_r1 : ∀ q ∈ zFLc_l1, zWF q ∈ tables_1 := List.forall_mem_cons.mpr ⟨zFLc_16, List.forall_mem_cons.mpr ⟨zFLc_17, List.forall_mem_cons.mpr ⟨zFLc_18, List.forall_mem_cons.mpr ⟨zFLc_19, List.forall_mem_cons.mpr ⟨zFLc_20, List.forall_mem_cons.mpr ⟨zFLc_21, List.forall_mem_cons.mpr ⟨zFLc_22, List.forall_mem_cons.mpr ⟨zFLc_23, List.forall_mem_cons.mpr ⟨zFLc_24, List.forall_mem_cons.mpr ⟨zFLc_25, List.forall_mem_cons.mpr ⟨zFLc_26, List.forall_mem_cons.mpr ⟨zFLc_27, List.forall_mem_cons.mpr ⟨zFLc_28, List.forall_mem_cons.mpr ⟨zFLc_29, List.forall_mem_cons.mpr ⟨zFLc_30, List.forall_mem_cons.mpr ⟨zFLc_31, fun _ h => absurd h List.not_mem_nil⟩⟩⟩⟩⟩⟩⟩⟩⟩⟩⟩⟩⟩⟩⟩⟩
def zFLc_l2 : List (Nat × Nat × Nat × Nat) := [(6, 15, 6, 1), (6, 18, 6, 3), (6, 21, 6, 4), (6, 27, 6, 2), (6, 31, 7, 0), (6, 40, 7, 1), (6, 47, 6, 5), (7, 9, 7, 0), (7, 15, 7, 2), (7, 19, 7, 1), (8, 11, 8, 1), (8, 15, 8, 2), (8, 18, 8, 0), (8, 34, 10, 4), (9, 9, 9, 0), (9, 15, 9, 1)]
theorem zFLc_r2 : ∀ q ∈ zFLc_l2, zWF q ∈ tables_1 := List.forall_mem_cons.mpr ⟨zFLc_32, List.forall_mem_cons.mpr ⟨zFLc_33, List.forall_mem_cons.mpr ⟨zFLc_34, List.forall_mem_cons.mpr ⟨zFLc_35, List.forall_mem_cons.mpr ⟨zFLc_36, List.forall_mem_cons.mpr ⟨zFLc_37, List.forall_mem_cons.mpr ⟨zFLc_38, List.forall_mem_cons.mpr ⟨zFLc_39, List.forall_mem_cons.mpr ⟨zFLc_40, List.forall_mem_cons.mpr ⟨zFLc_41, List.forall_mem_cons.mpr ⟨zFLc_42, List.forall_mem_cons.mpr ⟨zFLc_43, List.forall_mem_cons.mpr ⟨zFLc_44, List.forall_mem_cons.mpr ⟨zFLc_45, List.forall_mem_cons.mpr ⟨zFLc_46, List.forall_mem_cons.mpr ⟨zFLc_47, fun _ h => absurd h List.not_mem_nil⟩⟩⟩⟩⟩⟩⟩⟩⟩⟩⟩⟩⟩⟩⟩⟩
def zFLc_l3 : List (Nat × Nat × Nat × Nat) := [(9, 19, 9, 2), (9, 28, 9, 3), (9, 31, 9, 4), (10, 9, 10, 0), (10, 15, 10, 1), (10, 21, 10, 2), (10, 25, 10, 7), (10, 28, 10, 8), (10, 42, 10, 3), (10, 54, 4, 5), (10, 71, 4, 6), (10, 78, 10, 4), (10, 81, 10, 5), (10, 84, 4, 0), (10, 87, 4, 2), (10, 90, 4, 4)]
theorem zFLc_r3 : ∀ q ∈ zFLc_l3, zWF q ∈ tables_1 := List.forall_mem_cons.mpr ⟨zFLc_48, List.forall_mem_cons.mpr ⟨zFLc_49, List.forall_mem_cons.mpr ⟨zFLc_50, List.forall_mem_cons.mpr ⟨zFLc_51, List.forall_mem_cons.mpr ⟨zFLc_52, List.forall_mem_cons.mpr ⟨zFLc_53, List.forall_mem_cons.mpr ⟨zFLc_54, List.forall_mem_cons.mpr ⟨zFLc_55, List.forall_mem_cons.mpr ⟨zFLc_56, List.forall_mem_cons.mpr ⟨zFLc_57, List.forall_mem_cons.mpr ⟨zFLc_58, List.forall_mem_cons.mpr ⟨zFLc_59, List.forall_mem_cons.mpr ⟨zFLc_60, List.forall_mem_cons.mpr ⟨zFLc_61, List.forall_mem_cons.mpr ⟨zFLc_62, List.forall_mem_cons.mpr ⟨zFLc_63, fun _ h => absurd h List.not_mem_nil⟩⟩⟩⟩⟩⟩⟩⟩⟩⟩⟩⟩⟩⟩⟩⟩
def zFLc_l4 : List (Nat × Nat × Nat × Nat) := [(10, 93, 4, 3), (10, 100, 4, 1), (10, 103, 10, 6), (10, 117, 6, 0), (11, 10, 11, 0), (11, 19, 11, 1), (11, 28, 11, 2), (11, 35, 11, 3), (11, 44, 11, 4), (11, 48, 11, 5), (11, 54, 11, 6), (11, 61, 11, 7), (11, 67, 11, 8), (11, 74, 11, 9), (11, 81, 11, 10), (11, 85, 11, 11)]
theorem zFLc_r4 : ∀ q ∈ zFLc_l4, zWF q ∈ tables_1 := List.forall_mem_cons.mpr ⟨zFLc_64, List.forall_mem_cons.mpr ⟨zFLc_65, List.forall_mem_cons.mpr ⟨zFLc_66, List.forall_mem_cons.mpr ⟨zFLc_67, List.forall_mem_cons.mpr ⟨zFLc_68, List.forall_mem_cons.mpr ⟨zFLc_69, List.forall_mem_cons.mpr ⟨zFLc_70, List.forall_mem_cons.mpr ⟨zFLc_71, List.forall_mem_cons.mpr ⟨zFLc_72, List.forall_mem_cons.mpr ⟨zFLc_73, List.forall_mem_cons.mpr ⟨zFLc_74, List.forall_mem_cons.mpr ⟨zFLc_75, List.forall_mem_cons.mpr ⟨zFLc_76, List.forall_mem_cons.mpr ⟨zFLc_77, List.forall_mem_cons.mpr ⟨zFLc_78, List.forall_mem_cons.mpr ⟨zFLc_79, fun _ h => absurd h List.not_mem_nil⟩⟩⟩⟩⟩⟩⟩⟩⟩⟩⟩⟩⟩⟩⟩⟩
def zFLc_l5 : List (Nat × Nat × Nat × Nat) := [(11, 89, 11, 16), (11, 97, 9, 1), (11, 116, 10, 3), (11, 119, 5, 0), (11, 124, 9, 0), (11, 155, 10, 2), (11, 159, 4, 2), (11, 164, 4, 0), (11, 167, 10, 0), (11, 173, 4, 1), (11, 176, 4, 6), (11, 179, 4, 3), (11, 182, 4, 4), (11, 189, 4, 5), (11, 200, 10, 1), (11, 213, 11, 13)]
theorem zFLc_r5 : ∀ q ∈ zFLc_l5, zWF q ∈ tables_1 := List.forall_mem_cons.mpr ⟨zFLc_80, List.forall_mem_cons.mpr ⟨zFLc_81, List.forall_mem_cons.mpr ⟨zFLc_82, List.forall_mem_cons.mpr ⟨zFLc_83, List.forall_mem_cons.mpr ⟨zFLc_84, List.forall_mem_cons.mpr ⟨zFLc_85, List.forall_mem_cons.mpr ⟨zFLc_86, List.forall_mem_cons.mpr ⟨zFLc_87, List.forall_mem_cons.mpr ⟨zFLc_88, List.forall_mem_cons.mpr ⟨zFLc_89, List.forall_mem_cons.mpr ⟨zFLc_90, List.forall_mem_cons.mpr ⟨zFLc_91, List.forall_mem_cons.mpr ⟨zFLc_92, List.forall_mem_cons.mpr ⟨zFLc_93, List.forall_mem_cons.mpr ⟨zFLc_94, List.forall_mem_cons.mpr ⟨zFLc_95, fun _ h => absurd h List.not_mem_nil⟩⟩⟩⟩⟩⟩⟩⟩⟩⟩⟩⟩⟩⟩⟩⟩
def zFLc_l6 : List (Nat × Nat × Nat × Nat) := [(11, 243, 10, 4), (11, 246, 10, 5), (11, 258, 10, 6), (11, 276, 0, 3), (11, 277, 0, 0), (11, 280, 0, 1), (11, 283, 0, 2), (11, 305, 1, 0), (11, 308, 1, 1), (11, 309, 1, 2), (11, 310, 1, 3), (11, 324, 11, 14), (11, 327, 11, 15), (11, 333, 11, 12), (11, 342, 10, 7), (11, 397, 2, 3)]
theorem zFLc_r6 : ∀ q ∈ zFLc_l6, zWF q ∈ tables_1 := List.forall_mem_cons.mpr ⟨zFLc_96, List.forall_mem_cons.mpr ⟨zFLc_97, List.forall_mem_cons.mpr ⟨zFLc_98, List.forall_mem_cons.mpr ⟨zFLc_99, List.forall_mem_cons.mpr ⟨zFLc_100, List.forall_mem_cons.mpr ⟨zFLc_101, List.forall_mem_cons.mpr ⟨zFLc_102, List.forall_mem_cons.mpr ⟨zFLc_103, List.forall_mem_cons.mpr ⟨zFLc_104, List.forall_mem_cons.mpr ⟨zFLc_105, List.forall_mem_cons.mpr ⟨zFLc_106, List.forall_mem_cons.mpr ⟨zFLc_107, List.forall_mem_cons.mpr ⟨zFLc_108, List.forall_mem_cons.mpr ⟨zFLc_109, List.forall_mem_cons.mpr ⟨zFLc_110, List.forall_mem_cons.mpr ⟨zFLc_111, fun _ h => absurd h List.not_mem_nil⟩⟩⟩⟩⟩⟩⟩⟩⟩⟩⟩⟩⟩⟩⟩⟩
def zFLc_l7 : List (Nat × Nat × Nat × Nat) := [(11, 401, 2, 0), (11, 412, 8, 0), (11, 437, 3, 0), (11, 441, 3, 1), (11, 445, 1, 4), (12, 9, 12, 0), (12, 13, 12, 2), (12, 16, 12, 3), (12, 19, 12, 5), (12, 22, 12, 8), (12, 26, 12, 10), (12, 29, 12, 18), (12, 32, 12, 19), (12, 35, 12, 29), (12, 38, 12, 31), (12, 41, 12, 32)]
theorem zFLc_r7 : ∀ q ∈ zFLc_l7, zWF q ∈ tables_1 := List.forall_mem_cons.mpr ⟨zFLc_112, List.forall_mem_cons.mpr ⟨zFLc_113, List.forall_mem_cons.mpr ⟨zFLc_114, List.forall_mem_cons.mpr ⟨zFLc_115, List.forall_mem_cons.mpr ⟨zFLc_116, List.forall_mem_cons.mpr ⟨zFLc_117, List.forall_mem_cons.mpr ⟨zFLc_118, List.forall_mem_cons.mpr ⟨zFLc_119, List.forall_mem_cons.mpr ⟨zFLc_120, List.forall_mem_cons.mpr ⟨zFLc_121, List.forall_mem_cons.mpr ⟨zFLc_122, List.forall_mem_cons.mpr ⟨zFLc_123, List.forall_mem_cons.mpr ⟨zFLc_124, List.forall_mem_cons.mpr ⟨zFLc_125, List.forall_mem_cons.mpr ⟨zFLc_126, List.forall_mem_cons.mpr ⟨zFLc_127, fun _ h => absurd h List.not_mem_nil⟩⟩⟩⟩⟩⟩⟩⟩⟩⟩⟩⟩⟩⟩⟩⟩
def zFLc_l8 : List (Nat × Nat × Nat × Nat) := [(12, 44, 12, 34), (12, 47, 12, 37), (12, 50, 12, 39), (12, 53, 12, 40), (12, 56, 12, 41), (12, 59, 12, 42), (12, 62, 12, 44), (12, 65, 12, 45), (12, 68, 12, 48), (12, 71, 12, 49), (12, 75, 12, 50), (12, 78, 12, 12), (12, 82, 12, 11), (12, 85, 12, 1), (12, 96, 12, 9), (12, 99, 12, 13)]
theorem zFLc_r8 : ∀ q ∈ zFLc_l8, zWF q ∈ tables_1 := List.forall_mem_cons.mpr ⟨zFLc_128, List.forall_mem_cons.mpr ⟨zFLc_129, List.forall_mem_cons.mpr ⟨zFLc_130, List.forall_mem_cons.mpr ⟨zFLc_131, List.forall_mem_cons.mpr ⟨zFLc_132, List.forall_mem_cons.mpr ⟨zFLc_133, List.forall_mem_cons.mpr ⟨zFLc_134, List.forall_mem_cons.mpr ⟨zFLc_135, List.forall_mem_cons.mpr ⟨zFLc_136, List.forall_mem_cons.mpr ⟨zFLc_137, List.forall_mem_cons.mpr ⟨zFLc_138, List.forall_mem_cons.mpr ⟨zFLc_139, List.forall_mem_cons.mpr ⟨zFLc_140, List.forall_mem_cons.mpr ⟨zFLc_141, List.forall_mem_cons.mpr ⟨zFLc_142, List.forall_mem_cons.mpr ⟨zFLc_143, fun _ h => absurd h List.not_mem_nil⟩⟩⟩⟩⟩⟩⟩⟩⟩⟩⟩⟩⟩⟩⟩⟩
def zFLc_l9 : List (Nat × Nat × Nat × Nat) := [(12, 102, 12, 14), (12, 105, 12, 15), (12, 108, 12, 16), (12, 111, 12, 17), (12, 140, 12, 30), (12, 143, 12, 47), (12, 157, 12, 6), (12, 172, 12, 21), (12, 179, 12, 22), (12, 182, 12, 23), (12, 185, 12, 24), (12, 188, 12, 25), (12, 191, 12, 20), (12, 217, 12, 4), (12, 228, 12, 26), (12, 231, 12, 27)]
theorem zFLc_r9 : ∀ q ∈ zFLc_l9, zWF q ∈ tables_1 := List.forall_mem_cons.mpr ⟨zFLc_144, List.forall_mem_cons.mpr ⟨zFLc_145, List.forall_mem_cons.mpr ⟨zFLc_146, List.forall_mem_cons.mpr ⟨zFLc_147, List.forall_mem_cons.mpr ⟨zFLc_148, List.forall_mem_cons.mpr ⟨zFLc_149, List.forall_mem_cons.mpr ⟨zFLc_150, List.forall_mem_cons.mpr ⟨zFLc_151, List.forall_mem_cons.mpr ⟨zFLc_152, List.forall_mem_cons.mpr ⟨zFLc_153, List.forall_mem_cons.mpr ⟨zFLc_154, List.forall_mem_cons.mpr ⟨zFLc_155, List.forall_mem_cons.mpr ⟨zFLc_156, List.forall_mem_cons.mpr ⟨zFLc_157, List.forall_mem_cons.mpr ⟨zFLc_158, List.forall_mem_cons.mpr ⟨zFLc_159, fun _ h => absurd h List.not_mem_nil⟩⟩⟩⟩⟩⟩⟩⟩⟩⟩⟩⟩⟩⟩⟩⟩
def zFLc_l10 : List (Nat × Nat × Nat × Nat) := [(12, 234, 12, 28), (12, 237, 12, 7), (12, 282, 12, 33), (12, 294, 12, 36), (12, 297, 12, 35), (12, 306, 12, 38), (12, 351, 12, 43), (12, 359, 12, 46)]
theorem zFLc_r10 : ∀ q ∈ zFLc_l10, zWF q ∈ tables_1 := List.forall_mem_cons.mpr ⟨zFLc_160, List.forall_mem_cons.mpr ⟨zFLc_161, List.forall_mem_cons.mpr ⟨zFLc_162, List.forall_mem_cons.mpr ⟨zFLc_163, List.forall_mem_cons.mpr ⟨zFLc_164, List.forall_mem_cons.mpr ⟨zFLc_165, List.forall_mem_cons.mpr ⟨zFLc_166, List.forall_mem_cons.mpr ⟨zFLc_167, fun _ h => absurd h List.not_mem_nil⟩⟩⟩⟩⟩⟩⟩⟩
theorem zFLc_sp : zFL = zFLc_l0 ++ (zFLc_l1 ++ (zFLc_l2 ++ (zFLc_l3 ++ (zFLc_l4 ++ (zFLc_l5 ++ (zFLc_l6 ++ (zFLc_l7 ++ (zFLc_l8 ++ (zFLc_l9 ++ (zFLc_l10)))))))))) := by decide +kernel
theorem zFLc_all : ∀ q ∈ zFL, zWF q ∈ tables_1 := by
  rw [zFLc_sp]
  exact List.forall_mem_append.mpr ⟨zFLc_r0, List.forall_mem_append.mpr ⟨zFLc_r1, List.forall_mem_append.mpr ⟨zFLc_r2, List.forall_mem_append.mpr ⟨zFLc_r3, List.forall_mem_append.mpr ⟨zFLc_r4, List.forall_mem_append.mpr ⟨zFLc_r5, List.forall_mem_append.mpr ⟨zFLc_r6, List.forall_mem_append.mpr ⟨zFLc_r7, List.forall_mem_append.mpr ⟨zFLc_r8, List.forall_mem_append.mpr ⟨zFLc_r9, zFLc_r10⟩⟩⟩⟩⟩⟩⟩⟩⟩⟩
theorem zFL_ok2 : ∀ q ∈ zFL, (zTf q.2.2.1).1 = zCs q.2.2.1 ∧ q.2.2.2 < (zTf q.2.2.1).2.2 ∧ q.2.2.1 < 13 := by decide +kernel
set_option maxRecDepth 100000 in
theorem zMLc_0 : zWM (0, 29, 61, 1) ∈ tables_1 := List.mem_of_getElem? (i := 734) rfl
set_option maxRecDepth 100000 in
theorem zMLc_1 : zWM (0, 35, 8, 1) ∈ tables_1 := List.mem_of_getElem? (i := 735) rfl
set_option maxRecDepth 100000 in
theorem zMLc_2 : zWM (0, 38, 66, 1) ∈ tables_1 := List.mem_of_getElem? (i := 751) rfl
set_option maxRecDepth 100000 in
theorem zMLc_3 : zWM (0, 42, 64, 1) ∈ tables_1 := List.mem_of_getElem? (i := 739) rfl
set_option maxRecDepth 100000 in
theorem zMLc_4 : zWM (0, 46, 65, 1) ∈ tables_1 := List.mem_of_getElem? (i := 740) rfl
set_option maxRecDepth 100000 in
theorem zMLc_5 : zWM (0, 49, 9, 1) ∈ tables_1 := List.mem_of_getElem? (i := 741) rfl
set_option maxRecDepth 100000 in
theorem zMLc_6 : zWM (0, 52, 68, 1) ∈ tables_1 := List.mem_of_getElem? (i := 750) rfl
set_option maxRecDepth 100000 in
theorem zMLc_7 : zWM (0, 56, 67, 1) ∈ tables_1 := List.mem_of_getElem? (i := 745) rfl
set_option maxRecDepth 100000 in
theorem zMLc_8 : zWM (0, 59, 10, 1) ∈ tables_1 := List.mem_of_getElem? (i := 746) rfl
set_option maxRecDepth 100000 in
theorem zMLc_9 : zWM (1, 37, 1, 0) ∈ tables_1 := List.mem_of_getElem? (i := 711) rfl
set_option maxRecDepth 100000 in
theorem zMLc_10 : zWM (1, 43, 14, 1) ∈ tables_1 := List.mem_of_getElem? (i := 707) rfl
set_option maxRecDepth 100000 in
theorem zMLc_11 : zWM (3, 9, 25, 2) ∈ tables_1 := List.mem_of_getElem? (i := 267) rfl
set_option maxRecDepth 100000 in
theorem zMLc_12 : zWM (3, 18, 11, 4) ∈ tables_1 := List.mem_of_getElem? (i := 269) rfl
set_option maxRecDepth 100000 in
theorem zMLc_13 : zWM (3, 26, 26, 1) ∈ tables_1 := List.mem_of_getElem? (i := 606) rfl
set_option maxRecDepth 100000 in
theorem zMLc_14 : zWM (3, 30, 12, 1) ∈ tables_1 := List.mem_of_getElem? (i := 611) rfl
set_option maxRecDepth 100000 in
theorem zMLc_15 : zWM (4, 24, 29, 1) ∈ tables_1 := List.mem_of_getElem? (i := 141) rfl
set_option maxRecDepth 100000 in
theorem zMLc_16 : zWM (4, 43, 131, 3) ∈ tables_1 := List.mem_of_getElem? (i := 625) rfl
set_option maxRecDepth 100000 in
theorem zMLc_17 : zWM (4, 47, 27, 1) ∈ tables_1 := List.mem_of_getElem? (i := 638) rfl
set_option maxRecDepth 100000 in
theorem zMLc_18 : zWM (4, 51, 5, 0) ∈ tables_1 := List.mem_of_getElem? (i := 145) rfl
set_option maxRecDepth 100000 in
theorem zMLc_19 : zWM (4, 57, 28, 1) ∈ tables_1 := List.mem_of_getElem? (i := 634) rfl
set_option maxRecDepth 100000 in
theorem zMLc_20 : zWM (4, 61, 132, 3) ∈ tables_1 := List.mem_of_getElem? (i := 848) rfl
set_option maxRecDepth 100000 in
theorem zMLc_21 : zWM (4, 65, 31, 1) ∈ tables_1 := List.mem_of_getElem? (i := 849) rfl
set_option maxRecDepth 100000 in
theorem zMLc_22 : zWM (4, 68, 4, 0) ∈ tables_1 := List.mem_of_getElem? (i := 700) rfl
set_option maxRecDepth 100000 in
theorem zMLc_23 : zWM (4, 74, 3, 0) ∈ tables_1 := List.mem_of_getElem? (i := 701) rfl
set_option maxRecDepth 100000 in
theorem zMLc_24 : zWM (5, 17, 22, 4) ∈ tables_1 := List.mem_of_getElem? (i := 262) rfl
set_option maxRecDepth 100000 in
theorem zMLc_25 : zWM (5, 22, 23, 1) ∈ tables_1 := List.mem_of_getElem? (i := 602) rfl
set_option maxRecDepth 100000 in
theorem zMLc_26 : zWM (5, 29, 4, 0) ∈ tables_1 := List.mem_of_getElem? (i := 620) rfl
set_option maxRecDepth 100000 in
theorem zMLc_27 : zWM (5, 35, 24, 1) ∈ tables_1 := List.mem_of_getElem? (i := 764) rfl
set_option maxRecDepth 100000 in
theorem zMLc_28 : zWM (6, 24, 39, 1) ∈ tables_1 := List.mem_of_getElem? (i := 61) rfl
set_option maxRecDepth 100000 in
theorem zMLc_29 : zWM (6, 41, 4, 0) ∈ tables_1 := List.mem_of_getElem? (i := 466) rfl
set_option maxRecDepth 100000 in
theorem zMLc_30 : zWM (6, 50, 44, 0) ∈ tables_1 := List.mem_of_getElem? (i := 667) rfl
set_option maxRecDepth 100000 in
theorem zMLc_31 : zWM (7, 23, 48, 1) ∈ tables_1 := List.mem_of_getElem? (i := 475) rfl
set_option maxRecDepth 100000 in
theorem zMLc_32 : zWM (7, 27, 49, 1) ∈ tables_1 := List.mem_of_getElem? (i := 479) rfl
set_option maxRecDepth 100000 in
theorem zMLc_33 : zWM (7, 30, 64, 1) ∈ tables_1 := List.mem_of_getElem? (i := 496) rfl
set_option maxRecDepth 100000 in
theorem zMLc_34 : zWM (7, 36, 65, 1) ∈ tables_1 := List.mem_of_getElem? (i := 497) rfl
set_option maxRecDepth 100000 in
theorem zMLc_35 : zWM (7, 39, 47, 1) ∈ tables_1 := List.mem_of_getElem? (i := 506) rfl
set_option maxRecDepth 100000 in
theorem zMLc_36 : zWM (7, 43, 50, 1) ∈ tables_1 := List.mem_of_getElem? (i := 483) rfl
set_option maxRecDepth 100000 in
theorem zMLc_37 : zWM (7, 46, 51, 1) ∈ tables_1 := List.mem_of_getElem? (i := 487) rfl
set_option maxRecDepth 100000 in
theorem zMLc_38 : zWM (7, 49, 66, 1) ∈ tables_1 := List.mem_of_getElem? (i := 491) rfl
set_option maxRecDepth 100000 in
theorem zMLc_39 : zWM (7, 52, 52, 1) ∈ tables_1 := List.mem_of_getElem? (i := 492) rfl
set_option maxRecDepth 100000 in
theorem zMLc_40 : zWM (7, 55, 67, 1) ∈ tables_1 := List.mem_of_getElem? (i := 501) rfl
set_option maxRecDepth 100000 in
theorem zMLc_41 : zWM (7, 59, 53, 1) ∈ tables_1 := List.mem_of_getElem? (i := 502) rfl
set_option maxRecDepth 100000 in
theorem zMLc_42 : zWM (7, 62, 54, 0) ∈ tables_1 := List.mem_of_getElem? (i := 510) rfl
set_option maxRecDepth 100000 in
theorem zMLc_43 : zWM (8, 22, 3, 0) ∈ tables_1 := List.mem_of_getElem? (i := 994) rfl
set_option maxRecDepth 100000 in
theorem zMLc_44 : zWM (8, 28, 77, 1) ∈ tables_1 := List.mem_of_getElem? (i := 995) rfl
set_option maxRecDepth 100000 in
theorem zMLc_45 : zWM (8, 37, 132, 3) ∈ tables_1 := List.mem_of_getElem? (i := 996) rfl
set_option maxRecDepth 100000 in
theorem zMLc_46 : zWM (9, 22, 4, 0) ∈ tables_1 := List.mem_of_getElem? (i := 408) rfl
set_option maxRecDepth 100000 in
theorem zMLc_47 : zWM (9, 35, 64, 1) ∈ tables_1 := List.mem_of_getElem? (i := 431) rfl
set_option maxRecDepth 100000 in
theorem zMLc_48 : zWM (9, 39, 69, 1) ∈ tables_1 := List.mem_of_getElem? (i := 427) rfl
set_option maxRecDepth 100000 in
theorem zMLc_49 : zWM (10, 20, 25, 2) ∈ tables_1 := List.mem_of_getElem? (i := 137) rfl
set_option maxRecDepth 100000 in
theorem zMLc_50 : zWM (10, 38, 26, 1) ∈ tables_1 := List.mem_of_getElem? (i := 648) rfl
set_option maxRecDepth 100000 in
theorem zMLc_51 : zWM (10, 46, 131, 3) ∈ tables_1 := List.mem_of_getElem? (i := 558) rfl
set_option maxRecDepth 100000 in
theorem zMLc_52 : zWM (10, 50, 72, 1) ∈ tables_1 := List.mem_of_getElem? (i := 570) rfl
set_option maxRecDepth 100000 in
theorem zMLc_53 : zWM (10, 57, 132, 3) ∈ tables_1 := List.mem_of_getElem? (i := 563) rfl
set_option maxRecDepth 100000 in
theorem zMLc_54 : zWM (10, 61, 74, 1) ∈ tables_1 := List.mem_of_getElem? (i := 566) rfl
set_option maxRecDepth 100000 in
theorem zMLc_55 : zWM (10, 64, 78, 1) ∈ tables_1 := List.mem_of_getElem? (i := 691) rfl
set_option maxRecDepth 100000 in
theorem zMLc_56 : zWM (10, 68, 79, 1) ∈ tables_1 := List.mem_of_getElem? (i := 702) rfl
set_option maxRecDepth 100000 in
theorem zMLc_57 : zWM (10, 74, 33, 1) ∈ tables_1 := List.mem_of_getElem? (i := 696) rfl
set_option maxRecDepth 100000 in
theorem zMLc_58 : zWM (10, 96, 28, 1) ∈ tables_1 := List.mem_of_getElem? (i := 695) rfl
set_option maxRecDepth 100000 in
theorem zMLc_59 : zWM (10, 106, 73, 1) ∈ tables_1 := List.mem_of_getElem? (i := 653) rfl
set_option maxRecDepth 100000 in
theorem zMLc_60 : zWM (10, 109, 80, 1) ∈ tables_1 := List.mem_of_getElem? (i := 654) rfl
set_option maxRecDepth 100000 in
theorem zMLc_61 : zWM (10, 113, 27, 1) ∈ tables_1 := List.mem_of_getElem? (i := 670) rfl
set_option maxRecDepth 100000 in
theorem zMLc_62 : zWM (10, 122, 0, 0) ∈ tables_1 := List.mem_of_getElem? (i := 658) rfl
set_option maxRecDepth 100000 in
theorem zMLc_63 : zWM (10, 127, 42, 1) ∈ tables_1 := List.mem_of_getElem? (i := 659) rfl
set_option maxRecDepth 100000 in
theorem zMLc_64 : zWM (10, 130, 43, 1) ∈ tables_1 := List.mem_of_getElem? (i := 663) rfl
set_option maxRecDepth 100000 in
theorem zMLc_65 : zWM (11, 9, 58, 4) ∈ tables_1 := List.mem_of_getElem? (i := 32) rfl
set_option maxRecDepth 100000 in
theorem zMLc_66 : zWM (11, 18, 38, 2) ∈ tables_1 := List.mem_of_getElem? (i := 57) rfl
set_option maxRecDepth 100000 in
theorem zMLc_67 : zWM (11, 25, 45, 2) ∈ tables_1 := List.mem_of_getElem? (i := 87) rfl
set_option maxRecDepth 100000 in
theorem zMLc_68 : zWM (11, 34, 6, 2) ∈ tables_1 := List.mem_of_getElem? (i := 105) rfl
set_option maxRecDepth 100000 in
theorem zMLc_69 : zWM (11, 41, 70, 2) ∈ tables_1 := List.mem_of_getElem? (i := 131) rfl
set_option maxRecDepth 100000 in
theorem zMLc_70 : zWM (11, 53, 11, 4) ∈ tables_1 := List.mem_of_getElem? (i := 225) rfl
set_option maxRecDepth 100000 in
theorem zMLc_71 : zWM (11, 60, 34, 2) ∈ tables_1 := List.mem_of_getElem? (i := 255) rfl
set_option maxRecDepth 100000 in
theorem zMLc_72 : zWM (11, 73, 19, 4) ∈ tables_1 := List.mem_of_getElem? (i := 299) rfl
set_option maxRecDepth 100000 in
theorem zMLc_73 : zWM (11, 80, 55, 4) ∈ tables_1 := List.mem_of_getElem? (i := 320) rfl
set_option maxRecDepth 100000 in
theorem zMLc_74 : zWM (11, 92, 22, 4) ∈ tables_1 := List.mem_of_getElem? (i := 335) rfl
set_option maxRecDepth 100000 in
theorem zMLc_75 : zWM (11, 93, 59, 1) ∈ tables_1 := List.mem_of_getElem? (i := 392) rfl
set_option maxRecDepth 100000 in
theorem zMLc_76 : zWM (11, 101, 60, 1) ∈ tables_1 := List.mem_of_getElem? (i := 404) rfl
set_option maxRecDepth 100000 in
theorem zMLc_77 : zWM (11, 105, 141, 1) ∈ tables_1 := List.mem_of_getElem? (i := 411) rfl
set_option maxRecDepth 100000 in
theorem zMLc_78 : zWM (11, 109, 62, 1) ∈ tables_1 := List.mem_of_getElem? (i := 450) rfl
set_option maxRecDepth 100000 in
theorem zMLc_79 : zWM (11, 113, 63, 1) ∈ tables_1 := List.mem_of_getElem? (i := 454) rfl
set_option maxRecDepth 100000 in
theorem zMLc_80 : zWM (11, 120, 67, 1) ∈ tables_1 := List.mem_of_getElem? (i := 423) rfl
set_option maxRecDepth 100000 in
theorem zMLc_81 : zWM (11, 127, 41, 1) ∈ tables_1 := List.mem_of_getElem? (i := 462) rfl
set_option maxRecDepth 100000 in
theorem zMLc_82 : zWM (11, 131, 61, 1) ∈ tables_1 := List.mem_of_getElem? (i := 415) rfl
set_option maxRecDepth 100000 in
theorem zMLc_83 : zWM (11, 135, 46, 1) ∈ tables_1 := List.mem_of_getElem? (i := 471) rfl
set_option maxRecDepth 100000 in
theorem zMLc_84 : zWM (11, 138, 39, 1) ∈ tables_1 := List.mem_of_getElem? (i := 513) rfl
set_option maxRecDepth 100000 in
theorem zMLc_85 : zWM (11, 141, 40, 1) ∈ tables_1 := List.mem_of_getElem? (i := 514) rfl
set_option maxRecDepth 100000 in
theorem zMLc_86 : zWM (11, 145, 134, 1) ∈ tables_1 := List.mem_of_getElem? (i := 525) rfl
set_option maxRecDepth 100000 in
theorem zMLc_87 : zWM (11, 170, 74, 1) ∈ tables_1 := List.mem_of_getElem? (i := 882) rfl
set_option maxRecDepth 100000 in
theorem zMLc_88 : zWM (11, 185, 132, 0) ∈ tables_1 := List.mem_of_getElem? (i := 593) rfl
set_option maxRecDepth 100000 in
theorem zMLc_89 : zWM (11, 192, 133, 0) ∈ tables_1 := List.mem_of_getElem? (i := 529) rfl
set_option maxRecDepth 100000 in
theorem zMLc_90 : zWM (11, 196, 144, 0) ∈ tables_1 := List.mem_of_getElem? (i := 532) rfl
set_option maxRecDepth 100000 in
theorem zMLc_91 : zWM (11, 203, 145, 0) ∈ tables_1 := List.mem_of_getElem? (i := 539) rfl
set_option maxRecDepth 100000 in
theorem zMLc_92 : zWM (11, 207, 146, 1) ∈ tables_1 := List.mem_of_getElem? (i := 546) rfl
set_option maxRecDepth 100000 in
theorem zMLc_93 : zWM (11, 210, 72, 1) ∈ tables_1 := List.mem_of_getElem? (i := 554) rfl
set_option maxRecDepth 100000 in
theorem zMLc_94 : zWM (11, 216, 75, 1) ∈ tables_1 := List.mem_of_getElem? (i := 559) rfl
set_option maxRecDepth 100000 in
theorem zMLc_95 : zWM (11, 219, 0, 0) ∈ tables_1 := List.mem_of_getElem? (i := 571) rfl
set_option maxRecDepth 100000 in
theorem zMLc_96 : zWM (11, 224, 136, 1) ∈ tables_1 := List.mem_of_getElem? (i := 581) rfl
set_option maxRecDepth 100000 in
theorem zMLc_97 : zWM (11, 227, 137, 1) ∈ tables_1 := List.mem_of_getElem? (i := 594) rfl
set_option maxRecDepth 100000 in
theorem zMLc_98 : zWM (11, 230, 27, 1) ∈ tables_1 := List.mem_of_getElem? (i := 621) rfl
set_option maxRecDepth 100000 in
theorem zMLc_99 : zWM (11, 234, 31, 1) ∈ tables_1 := List.mem_of_getElem? (i := 630) rfl
set_option maxRecDepth 100000 in
theorem zMLc_100 : zWM (11, 237, 71, 1) ∈ tables_1 := List.mem_of_getElem? (i := 643) rfl
set_option maxRecDepth 100000 in
theorem zMLc_101 : zWM (11, 240, 131, 0) ∈ tables_1 := List.mem_of_getElem? (i := 447) rfl
set_option maxRecDepth 100000 in
theorem zMLc_102 : zWM (11, 249, 79, 1) ∈ tables_1 := List.mem_of_getElem? (i := 649) rfl
set_option maxRecDepth 100000 in
theorem zMLc_103 : zWM (11, 252, 76, 1) ∈ tables_1 := List.mem_of_getElem? (i := 671) rfl
set_option maxRecDepth 100000 in
theorem zMLc_104 : zWM (11, 255, 138, 1) ∈ tables_1 := List.mem_of_getElem? (i := 675) rfl
set_option maxRecDepth 100000 in
theorem zMLc_105 : zWM (11, 261, 148, 1) ∈ tables_1 := List.mem_of_getElem? (i := 683) rfl
set_option maxRecDepth 100000 in
theorem zMLc_106 : zWM (11, 264, 147, 1) ∈ tables_1 := List.mem_of_getElem? (i := 714) rfl
set_option maxRecDepth 100000 in
theorem zMLc_107 : zWM (11, 268, 139, 1) ∈ tables_1 := List.mem_of_getElem? (i := 718) rfl
set_option maxRecDepth 100000 in
theorem zMLc_108 : zWM (11, 271, 7, 1) ∈ tables_1 := List.mem_of_getElem? (i := 730) rfl
set_option maxRecDepth 100000 in
theorem zMLc_109 : zWM (11, 272, 35, 1) ∈ tables_1 := List.mem_of_getElem? (i := 598) rfl
set_option maxRecDepth 100000 in
theorem zMLc_110 : zWM (11, 286, 149, 1) ∈ tables_1 := List.mem_of_getElem? (i := 752) rfl
set_option maxRecDepth 100000 in
theorem zMLc_111 : zWM (11, 290, 36, 1) ∈ tables_1 := List.mem_of_getElem? (i := 616) rfl
set_option maxRecDepth 100000 in
theorem zMLc_112 : zWM (11, 293, 37, 1) ∈ tables_1 := List.mem_of_getElem? (i := 760) rfl
set_option maxRecDepth 100000 in
theorem zMLc_113 : zWM (11, 297, 13, 1) ∈ tables_1 := List.mem_of_getElem? (i := 772) rfl
set_option maxRecDepth 100000 in
theorem zMLc_114 : zWM (11, 302, 14, 1) ∈ tables_1 := List.mem_of_getElem? (i := 1106) rfl
set_option maxRecDepth 100000 in
theorem zMLc_115 : zWM (11, 312, 16, 1) ∈ tables_1 := List.mem_of_getElem? (i := 776) rfl
set_option maxRecDepth 100000 in
theorem zMLc_116 : zWM (11, 315, 18, 1) ∈ tables_1 := List.mem_of_getElem? (i := 780) rfl
set_option maxRecDepth 100000 in
theorem zMLc_117 : zWM (11, 318, 17, 1) ∈ tables_1 := List.mem_of_getElem? (i := 784) rfl
set_option maxRecDepth 100000 in
theorem zMLc_118 : zWM (11, 321, 150, 1) ∈ tables_1 := List.mem_of_getElem? (i := 792) rfl
set_option maxRecDepth 100000 in
theorem zMLc_119 : zWM (11, 330, 154, 1) ∈ tables_1 := List.mem_of_getElem? (i := 803) rfl
set_option maxRecDepth 100000 in
theorem zMLc_120 : zWM (11, 336, 155, 1) ∈ tables_1 := List.mem_of_getElem? (i := 812) rfl
set_option maxRecDepth 100000 in
theorem zMLc_121 : zWM (11, 339, 158, 1) ∈ tables_1 := List.mem_of_getElem? (i := 820) rfl
set_option maxRecDepth 100000 in
theorem zMLc_122 : zWM (11, 345, 156, 1) ∈ tables_1 := List.mem_of_getElem? (i := 828) rfl
set_option maxRecDepth 100000 in
theorem zMLc_123 : zWM (11, 348, 157, 1) ∈ tables_1 := List.mem_of_getElem? (i := 832) rfl
set_option maxRecDepth 100000 in
theorem zMLc_124 : zWM (11, 351, 159, 1) ∈ tables_1 := List.mem_of_getElem? (i := 840) rfl
set_option maxRecDepth 100000 in
theorem zMLc_125 : zWM (11, 354, 73, 1) ∈ tables_1 := List.mem_of_getElem? (i := 589) rfl
set_option maxRecDepth 100000 in
theorem zMLc_126 : zWM (11, 357, 160, 0) ∈ tables_1 := List.mem_of_getElem? (i := 863) rfl
set_option maxRecDepth 100000 in
theorem zMLc_127 : zWM (11, 360, 135, 1) ∈ tables_1 := List.mem_of_getElem? (i := 585) rfl
set_option maxRecDepth 100000 in
theorem zMLc_128 : zWM (11, 363, 161, 1) ∈ tables_1 := List.mem_of_getElem? (i := 874) rfl
set_option maxRecDepth 100000 in
theorem zMLc_129 : zWM (11, 366, 163, 1) ∈ tables_1 := List.mem_of_getElem? (i := 883) rfl
set_option maxRecDepth 100000 in
theorem zMLc_130 : zWM (11, 369, 153, 1) ∈ tables_1 := List.mem_of_getElem? (i := 895) rfl
set_option maxRecDepth 100000 in
theorem zMLc_131 : zWM (11, 372, 2, 0) ∈ tables_1 := List.mem_of_getElem? (i := 900) rfl
set_option maxRecDepth 100000 in
theorem zMLc_132 : zWM (11, 377, 152, 0) ∈ tables_1 := List.mem_of_getElem? (i := 907) rfl
set_option maxRecDepth 100000 in
theorem zMLc_133 : zWM (11, 380, 33, 1) ∈ tables_1 := List.mem_of_getElem? (i := 899) rfl
set_option maxRecDepth 100000 in
theorem zMLc_134 : zWM (11, 383, 32, 1) ∈ tables_1 := List.mem_of_getElem? (i := 844) rfl
set_option maxRecDepth 100000 in
theorem zMLc_135 : zWM (11, 386, 164, 1) ∈ tables_1 := List.mem_of_getElem? (i := 922) rfl
set_option maxRecDepth 100000 in
theorem zMLc_136 : zWM (11, 389, 166, 1) ∈ tables_1 := List.mem_of_getElem? (i := 930) rfl
set_option maxRecDepth 100000 in
theorem zMLc_137 : zWM (11, 392, 165, 1) ∈ tables_1 := List.mem_of_getElem? (i := 934) rfl
set_option maxRecDepth 100000 in
theorem zMLc_138 : zWM (11, 395, 140, 1) ∈ tables_1 := List.mem_of_getElem? (i := 938) rfl
set_option maxRecDepth 100000 in
theorem zMLc_139 : zWM (11, 398, 20, 1) ∈ tables_1 := List.mem_of_getElem? (i := 946) rfl
set_option maxRecDepth 100000 in
theorem zMLc_140 : zWM (11, 404, 21, 1) ∈ tables_1 := List.mem_of_getElem? (i := 958) rfl
set_option maxRecDepth 100000 in
theorem zMLc_141 : zWM (11, 407, 167, 1) ∈ tables_1 := List.mem_of_getElem? (i := 966) rfl
set_option maxRecDepth 100000 in
theorem zMLc_142 : zWM (11, 410, 56, 1) ∈ tables_1 := List.mem_of_getElem? (i := 974) rfl
set_option maxRecDepth 100000 in
theorem zMLc_143 : zWM (11, 413, 168, 1) ∈ tables_1 := List.mem_of_getElem? (i := 986) rfl
set_option maxRecDepth 100000 in
theorem zMLc_144 : zWM (11, 416, 57, 1) ∈ tables_1 := List.mem_of_getElem? (i := 990) rfl
set_option maxRecDepth 100000 in
theorem zMLc_145 : zWM (11, 420, 30, 1) ∈ tables_1 := List.mem_of_getElem? (i := 851) rfl
set_option maxRecDepth 100000 in
theorem zMLc_146 : zWM (11, 423, 5, 0) ∈ tables_1 := List.mem_of_getElem? (i := 807) rfl
set_option maxRecDepth 100000 in
theorem zMLc_147 : zWM (11, 429, 4, 0) ∈ tables_1 := List.mem_of_getElem? (i := 542) rfl
set_option maxRecDepth 100000 in
theorem zMLc_148 : zWM (11, 432, 3, 0) ∈ tables_1 := List.mem_of_getElem? (i := 543) rfl
set_option maxRecDepth 100000 in
theorem zMLc_149 : zWM (11, 435, 23, 1) ∈ tables_1 := List.mem_of_getElem? (i := 1014) rfl
set_option maxRecDepth 100000 in
theorem zMLc_150 : zWM (11, 442, 24, 1) ∈ tables_1 := List.mem_of_getElem? (i := 1019) rfl
set_option maxRecDepth 100000 in
theorem zMLc_151 : zWM (11, 448, 142, 1) ∈ tables_1 := List.mem_of_getElem? (i := 419) rfl
set_option maxRecDepth 100000 in
theorem zMLc_152 : zWM (11, 451, 66, 1) ∈ tables_1 := List.mem_of_getElem? (i := 435) rfl
set_option maxRecDepth 100000 in
theorem zMLc_153 : zWM (11, 454, 143, 1) ∈ tables_1 := List.mem_of_getElem? (i := 439) rfl
set_option maxRecDepth 100000 in
theorem zMLc_154 : zWM (11, 457, 68, 1) ∈ tables_1 := List.mem_of_getElem? (i := 443) rfl
set_option maxRecDepth 100000 in
theorem zMLc_155 : zWM (11, 460, 77, 1) ∈ tables_1 := List.mem_of_getElem? (i := 687) rfl
set_option maxRecDepth 100000 in
theorem zMLc_156 : zWM (11, 464, 15, 1) ∈ tables_1 := List.mem_of_getElem? (i := 703) rfl
set_option maxRecDepth 100000 in
theorem zMLc_157 : zWM (11, 467, 151, 0) ∈ tables_1 := List.mem_of_getElem? (i := 796) rfl
set_option maxRecDepth 100000 in
theorem zMLc_158 : zWM (11, 470, 29, 1) ∈ tables_1 := List.mem_of_getElem? (i := 850) rfl
set_option maxRecDepth 100000 in
theorem zMLc_159 : zWM (11, 473, 162, 1) ∈ tables_1 := List.mem_of_getElem? (i := 878) rfl
set_option maxRecDepth 100000 in
theorem zMLc_160 : zWM (12, 88, 171, 0) ∈ tables_1 := List.mem_of_getElem? (i := 1288) rfl
set_option maxRecDepth 100000 in
theorem zMLc_161 : zWM (12, 92, 176, 1) ∈ tables_1 := List.mem_of_getElem? (i := 1378) rfl
set_option maxRecDepth 100000 in
theorem zMLc_162 : zWM (12, 114, 183, 1) ∈ tables_1 := List.mem_of_getElem? (i := 1299) rfl
set_option maxRecDepth 100000 in
theorem zMLc_163 : zWM (12, 118, 182, 1) ∈ tables_1 := List.mem_of_getElem? (i := 1315) rfl
set_option maxRecDepth 100000 in
theorem zMLc_164 : zWM (12, 121, 185, 1) ∈ tables_1 := List.mem_of_getElem? (i := 1323) rfl
set_option maxRecDepth 100000 in
theorem zMLc_165 : zWM (12, 125, 184, 1) ∈ tables_1 := List.mem_of_getElem? (i := 1303) rfl
set_option maxRecDepth 100000 in
theorem zMLc_166 : zWM (12, 129, 181, 1) ∈ tables_1 := List.mem_of_getElem? (i := 1295) rfl
set_option maxRecDepth 100000 in
theorem zMLc_167 : zWM (12, 133, 191, 1) ∈ tables_1 := List.mem_of_getElem? (i := 1307) rfl
set_option maxRecDepth 100000 in
theorem zMLc_168 : zWM (12, 136, 190, 0) ∈ tables_1 := List.mem_of_getElem? (i := 1331) rfl
set_option maxRecDepth 100000 in
theorem zMLc_169 : zWM (12, 146, 187, 1) ∈ tables_1 := List.mem_of_getElem? (i := 1311) rfl
set_option maxRecDepth 100000 in
theorem zMLc_170 : zWM (12, 150, 186, 1) ∈ tables_1 := List.mem_of_getElem? (i := 1319) rfl
set_option maxRecDepth 100000 in
theorem zMLc_171 : zWM (12, 154, 188, 1) ∈ tables_1 := List.mem_of_getElem? (i := 1327) rfl
set_option maxRecDepth 100000 in
theorem zMLc_172 : zWM (12, 160, 194, 1) ∈ tables_1 := List.mem_of_getElem? (i := 1346) rfl
set_option maxRecDepth 100000 in
theorem zMLc_173 : zWM (12, 163, 195, 1) ∈ tables_1 := List.mem_of_getElem? (i := 1350) rfl
set_option maxRecDepth 100000 in
theorem zMLc_174 : zWM (12, 166, 196, 1) ∈ tables_1 := List.mem_of_getElem? (i := 1354) rfl
set_option maxRecDepth 100000 in
theorem zMLc_175 : zWM (12, 169, 193, 1) ∈ tables_1 := List.mem_of_getElem? (i := 1342) rfl
set_option maxRecDepth 100000 in
theorem zMLc_176 : zWM (12, 175, 197, 1) ∈ tables_1 := List.mem_of_getElem? (i := 1358) rfl
set_option maxRecDepth 100000 in
theorem zMLc_177 : zWM (12, 194, 175, 1) ∈ tables_1 := List.mem_of_getElem? (i := 1366) rfl
set_option maxRecDepth 100000 in
theorem zMLc_178 : zWM (12, 198, 173, 1) ∈ tables_1 := List.mem_of_getElem? (i := 1370) rfl
set_option maxRecDepth 100000 in
theorem zMLc_179 : zWM (12, 201, 177, 1) ∈ tables_1 := List.mem_of_getElem? (i := 1374) rfl
set_option maxRecDepth 100000 in
theorem zMLc_180 : zWM (12, 204, 4, 0) ∈ tables_1 := List.mem_of_getElem? (i := 1390) rfl
set_option maxRecDepth 100000 in
theorem zMLc_181 : zWM (12, 210, 3, 0) ∈ tables_1 := List.mem_of_getElem? (i := 1391) rfl
set_option maxRecDepth 100000 in
theorem zMLc_182 : zWM (12, 213, 172, 0) ∈ tables_1 := List.mem_of_getElem? (i := 1400) rfl
set_option maxRecDepth 100000 in
theorem zMLc_183 : zWM (12, 220, 203, 1) ∈ tables_1 := List.mem_of_getElem? (i := 1396) rfl
set_option maxRecDepth 100000 in
theorem zMLc_184 : zWM (12, 223, 0, 0) ∈ tables_1 := List.mem_of_getElem? (i := 1403) rfl
set_option maxRecDepth 100000 in
theorem zMLc_185 : zWM (12, 241, 206, 1) ∈ tables_1 := List.mem_of_getElem? (i := 1450) rfl
set_option maxRecDepth 100000 in
theorem zMLc_186 : zWM (12, 245, 207, 1) ∈ tables_1 := List.mem_of_getElem? (i := 1454) rfl
set_option maxRecDepth 100000 in
theorem zMLc_187 : zWM (12, 248, 199, 1) ∈ tables_1 := List.mem_of_getElem? (i := 1434) rfl
set_option maxRecDepth 100000 in
theorem zMLc_188 : zWM (12, 252, 208, 0) ∈ tables_1 := List.mem_of_getElem? (i := 1416) rfl
set_option maxRecDepth 100000 in
theorem zMLc_189 : zWM (12, 256, 210, 1) ∈ tables_1 := List.mem_of_getElem? (i := 1408) rfl
set_option maxRecDepth 100000 in
theorem zMLc_190 : zWM (12, 260, 209, 1) ∈ tables_1 := List.mem_of_getElem? (i := 1412) rfl
set_option maxRecDepth 100000 in
theorem zMLc_191 : zWM (12, 264, 211, 0) ∈ tables_1 := List.mem_of_getElem? (i := 1419) rfl
set_option maxRecDepth 100000 in
theorem zMLc_192 : zWM (12, 267, 213, 1) ∈ tables_1 := List.mem_of_getElem? (i := 1426) rfl
set_option maxRecDepth 100000 in
theorem zMLc_193 : zWM (12, 270, 174, 1) ∈ tables_1 := List.mem_of_getElem? (i := 1438) rfl
set_option maxRecDepth 100000 in
theorem zMLc_194 : zWM (12, 273, 205, 1) ∈ tables_1 := List.mem_of_getElem? (i := 1446) rfl
set_option maxRecDepth 100000 in
theorem zMLc_195 : zWM (12, 276, 216, 1) ∈ tables_1 := List.mem_of_getElem? (i := 1458) rfl
set_option maxRecDepth 100000 in
theorem zMLc_196 : zWM (12, 279, 220, 1) ∈ tables_1 := List.mem_of_getElem? (i := 1470) rfl
set_option maxRecDepth 100000 in
theorem zMLc_197 : zWM (12, 285, 221, 1) ∈ tables_1 := List.mem_of_getElem? (i := 1474) rfl
set_option maxRecDepth 100000 in
theorem zMLc_198 : zWM (12, 288, 223, 1) ∈ tables_1 := List.mem_of_getElem? (i := 1486) rfl
set_option maxRecDepth 100000 in
theorem zMLc_199 : zWM (12, 291, 224, 1) ∈ tables_1 := List.mem_of_getElem? (i := 1490) rfl
set_option maxRecDepth 100000 in
theorem zMLc_200 : zWM (12, 300, 227, 1) ∈ tables_1 := List.mem_of_getElem? (i := 1502) rfl
set_option maxRecDepth 100000 in
theorem zMLc_201 : zWM (12, 303, 228, 1) ∈ tables_1 := List.mem_of_getElem? (i := 1506) rfl
set_option maxRecDepth 100000 in
theorem zMLc_202 : zWM (12, 309, 230, 1) ∈ tables_1 := List.mem_of_getElem? (i := 1514) rfl
set_option maxRecDepth 100000 in
theorem zMLc_203 : zWM (12, 312, 178, 0) ∈ tables_1 := List.mem_of_getElem? (i := 1530) rfl
set_option maxRecDepth 100000 in
theorem zMLc_204 : zWM (12, 315, 234, 1) ∈ tables_1 := List.mem_of_getElem? (i := 1533) rfl
set_option maxRecDepth 100000 in
theorem zMLc_205 : zWM (12, 318, 236, 1) ∈ tables_1 := List.mem_of_getElem? (i := 1545) rfl
set_option maxRecDepth 100000 in
theorem zMLc_206 : zWM (12, 321, 237, 1) ∈ tables_1 := List.mem_of_getElem? (i := 1541) rfl
set_option maxRecDepth 100000 in
theorem zMLc_207 : zWM (12, 325, 241, 1) ∈ tables_1 := List.mem_of_getElem? (i := 1561) rfl
set_option maxRecDepth 100000 in
theorem zMLc_208 : zWM (12, 329, 244, 1) ∈ tables_1 := List.mem_of_getElem? (i := 1570) rfl
set_option maxRecDepth 100000 in
theorem zMLc_209 : zWM (12, 332, 246, 0) ∈ tables_1 := List.mem_of_getElem? (i := 1587) rfl
set_option maxRecDepth 100000 in
theorem zMLc_210 : zWM (12, 336, 247, 1) ∈ tables_1 := List.mem_of_getElem? (i := 1583) rfl
set_option maxRecDepth 100000 in
theorem zMLc_211 : zWM (12, 339, 2, 0) ∈ tables_1 := List.mem_of_getElem? (i := 1590) rfl
set_option maxRecDepth 100000 in
theorem zMLc_212 : zWM (12, 342, 249, 0) ∈ tables_1 := List.mem_of_getElem? (i := 1595) rfl
set_option maxRecDepth 100000 in
theorem zMLc_213 : zWM (12, 345, 253, 1) ∈ tables_1 := List.mem_of_getElem? (i := 1610) rfl
set_option maxRecDepth 100000 in
theorem zMLc_214 : zWM (12, 348, 255, 1) ∈ tables_1 := List.mem_of_getElem? (i := 1618) rfl
set_option maxRecDepth 100000 in
theorem zMLc_215 : zWM (12, 354, 259, 1) ∈ tables_1 := List.mem_of_getElem? (i := 1634) rfl
set_option maxRecDepth 100000 in
theorem zMLc_216 : zWM (12, 362, 265, 1) ∈ tables_1 := List.mem_of_getElem? (i := 1655) rfl
set_option maxRecDepth 100000 in
theorem zMLc_217 : zWM (12, 365, 264, 1) ∈ tables_1 := List.mem_of_getElem? (i := 1659) rfl
def zMLc_l0 : List (Nat × Nat × Nat × Nat) := [(0, 29, 61, 1), (0, 35, 8, 1), (0, 38, 66, 1), (0, 42, 64, 1), (0, 46, 65, 1), (0, 49, 9, 1), (0, 52, 68, 1), (0, 56, 67, 1), (0, 59, 10, 1), (1, 37, 1, 0), (1, 43, 14, 1), (3, 9, 25, 2), (3, 18, 11, 4), (3, 26, 26, 1), (3, 30, 12, 1), (4, 24, 29, 1)]
theorem zMLc_r0 : ∀ q ∈ zMLc_l0, zWM q ∈ tables_1 := List.forall_mem_cons.mpr ⟨zMLc_0, List.forall_mem_cons.mpr ⟨zMLc_1, List.forall_mem_cons.mpr ⟨zMLc_2, List.forall_mem_cons.mpr ⟨zMLc_3, List.forall_mem_cons.mpr ⟨zMLc_4, List.forall_mem_cons.mpr ⟨zMLc_5, List.forall_mem_cons.mpr ⟨zMLc_6, List.forall_mem_cons.mpr ⟨zMLc_7, List.forall_mem_cons.mpr ⟨zMLc_8, List.forall_mem_cons.mpr ⟨zMLc_9, List.forall_mem_cons.mpr ⟨zMLc_10, List.forall_mem_cons.mpr ⟨zMLc_11, List.forall_mem_cons.mpr ⟨zMLc_12, List.forall_mem_cons.mpr ⟨zMLc_13, List.forall_mem_cons.mpr ⟨zMLc_14, List.forall_mem_cons.mpr ⟨zMLc_15, fun _ h => absurd h List.not_mem_nil⟩⟩⟩⟩⟩⟩⟩⟩⟩⟩⟩⟩⟩⟩⟩⟩
def zMLc_l1 : List (Nat × Nat × Nat × Nat) := [(4, 43, 131, 3), (4, 47, 27, 1), (4, 51, 5, 0), (4, 57, 28, 1), (4, 61, 132, 3), (4, 65, 31, 1), (4, 68, 4, 0), (4, 74, 3, 0), (5, 17, 22, 4), (5, 22, 23, 1), (5, 29, 4, 0), (5, 35, 24, 1), (6, 24, 39, 1), (6, 41, 4, 0), (6, 50, 44, 0), (7, 23, 48, 1)]
theorem zMLc_r1 : ∀ q ∈ zMLc_l1, zWM q ∈ tables_1 := List.forall_mem_cons.mpr ⟨zMLc_16, List.forall_mem_cons.mpr ⟨zMLc_17, List.forall_mem_cons.mpr ⟨zMLc_18, List.forall_mem_cons.mpr ⟨zMLc_19, List.forall_mem_cons.mpr ⟨zMLc_20, List.forall_mem_cons.mpr ⟨zMLc_21, List.forall_mem_cons.mpr ⟨zMLc_22, List.forall_mem_cons.mpr ⟨zMLc_23, List.forall_mem_cons.mpr ⟨zMLc_24, List.forall_mem_cons.mpr ⟨zMLc_25, List.forall_mem_cons.mpr ⟨zMLc_26, List.forall_mem_cons.mpr ⟨zMLc_27, List.forall_mem_cons.mpr ⟨zMLc_28, List.forall_mem_cons.mpr ⟨zMLc_29, List.forall_mem_cons.mpr ⟨zMLc_30, List.forall_mem_cons.mpr ⟨zMLc_31, fun _ h => absurd h List.not_mem_nil⟩⟩⟩⟩⟩⟩⟩⟩⟩⟩⟩⟩⟩⟩⟩⟩
def zMLc_l2 : List (Nat × Nat × Nat × Nat) := [(7, 27, 49, 1), (7, 30, 64, 1), (7, 36, 65, 1), (7, 39, 47, 1), (7, 43, 50, 1), (7, 46, 51, 1), (7, 49, 66, 1), (7, 52, 52, 1), (7, 55, 67, 1), (7, 59, 53, 1), (7, 62, 54, 0), (8, 22, 3, 0), (8, 28, 77, 1), (8, 37, 132, 3), (9, 22, 4, 0), (9, 35, 64, 1)]
theorem zMLc_r2 : ∀ q ∈ zMLc_l2, zWM q ∈ tables_1 := List.forall_mem_cons.mpr ⟨zMLc_32, List.forall_mem_cons.mpr ⟨zMLc_33, List.forall_mem_cons.mpr ⟨zMLc_34, List.forall_mem_cons.mpr ⟨zMLc_35, List.forall_mem_cons.mpr ⟨zMLc_36, List.forall_mem_cons.mpr ⟨zMLc_37, List.forall_mem_cons.mpr ⟨zMLc_38, List.forall_mem_cons.mpr ⟨zMLc_39, List.forall_mem_cons.mpr ⟨zMLc_40, List.forall_mem_cons.mpr ⟨zMLc_41, List.forall_mem_cons.mpr ⟨zMLc_42, List.forall_mem_cons.mpr ⟨zMLc_43, List.forall_mem_cons.mpr ⟨zMLc_44, List.forall_mem_cons.mpr ⟨zMLc_45, List.forall_mem_cons.mpr ⟨zMLc_46, List.forall_mem_cons.mpr ⟨zMLc_47, fun _ h => absurd h List.not_mem_nil⟩⟩⟩⟩⟩⟩⟩⟩⟩⟩⟩⟩⟩⟩⟩⟩
def zMLc_l3 : List (Nat × Nat × Nat × Nat) := [(9, 39, 69, 1), (10, 20, 25, 2), (10, 38, 26, 1), (10, 46, 131, 3), (10, 50, 72, 1), (10, 57, 132, 3), (10, 61, 74, 1), (10, 64, 78, 1), (10, 68, 79, 1), (10, 74, 33, 1), (10, 96, 28, 1), (10, 106, 73, 1), (10, 109, 80, 1), (10, 113, 27, 1), (10, 122, 0, 0), (10, 127, 42, 1)]
theorem zMLc_r3 : ∀ q ∈ zMLc_l3, zWM q ∈ tables_1 := List.forall_mem_cons.mpr ⟨zMLc_48, List.forall_mem_cons.mpr ⟨zMLc_49, List.forall_mem_cons.mpr ⟨zMLc_50, List.forall_mem_cons.mpr ⟨zMLc_51, List.forall_mem_cons.mpr ⟨zMLc_52, List.forall_mem_cons.mpr ⟨zMLc_53, List.forall_mem_cons.mpr ⟨zMLc_54, List.forall_mem_cons.mpr ⟨zMLc_55, List.forall_mem_cons.mpr ⟨zMLc_56, List.forall_mem_cons.mpr ⟨zMLc_57, List.forall_mem_cons.mpr ⟨zMLc_58, List.forall_mem_cons.mpr ⟨zMLc_59, List.forall_mem_cons.mpr ⟨zMLc_60, List.forall_mem_cons.mpr ⟨zMLc_61, List.forall_mem_cons.mpr ⟨zMLc_62, List.forall_mem_cons.mpr ⟨zMLc_63, fun _ h => absurd h List.not_mem_nil⟩⟩⟩⟩⟩⟩⟩⟩⟩⟩⟩⟩⟩⟩⟩⟩
def zMLc_l4 : List (Nat × Nat × Nat × Nat) := [(10, 130, 43, 1), (11, 9, 58, 4), (11, 18, 38, 2), (11, 25, 45, 2), (11, 34, 6, 2), (11, 41, 70, 2), (11, 53, 11, 4), (11, 60, 34, 2), (11, 73, 19, 4), (11, 80, 55, 4), (11, 92, 22, 4), (11, 93, 59, 1), (11, 101, 60, 1), (11, 105, 141, 1), (11, 109, 62, 1), (11, 113, 63, 1)]
theorem zMLc_r4 : ∀ q ∈ zMLc_l4, zWM q ∈ tables_1 := List.forall_mem_cons.mpr ⟨zMLc_64, List.forall_mem_cons.mpr ⟨zMLc_65, List.forall_mem_cons.mpr ⟨zMLc_66, List.forall_mem_cons.mpr ⟨zMLc_67, List.forall_mem_cons.mpr ⟨zMLc_68, List.forall_mem_cons.mpr ⟨zMLc_69, List.forall_mem_cons.mpr ⟨zMLc_70, List.forall_mem_cons.mpr ⟨zMLc_71, List.forall_mem_cons.mpr ⟨zMLc_72, List.forall_mem_cons.mpr ⟨zMLc_73, List.forall_mem_cons.mpr ⟨zMLc_74, List.forall_mem_cons.mpr ⟨zMLc_75, List.forall_mem_cons.mpr ⟨zMLc_76, List.forall_mem_cons.mpr ⟨zMLc_77, List.forall_mem_cons.mpr ⟨zMLc_78, List.forall_mem_cons.mpr ⟨zMLc_79, fun _ h => absurd h List.not_mem_nil⟩⟩⟩⟩⟩⟩⟩⟩⟩⟩⟩⟩⟩⟩⟩⟩
def zMLc_l5 : List (Nat × Nat × Nat × Nat) := [(11, 120, 67, 1), (11, 127, 41, 1), (11, 131, 61, 1), (11, 135, 46, 1), (11, 138, 39, 1), (11, 141, 40, 1), (11, 145, 134, 1), (11, 170, 74, 1), (11, 185, 132, 0), (11, 192, 133, 0), (11, 196, 144, 0), (11, 203, 145, 0), (11, 207, 146, 1), (11, 210, 72, 1), (11, 216, 75, 1), (11, 219, 0, 0)]
theorem zMLc_r5 : ∀ q ∈ zMLc_l5, zWM q ∈ tables_1 := List.forall_mem_cons.mpr ⟨zMLc_80, List.forall_mem_cons.mpr ⟨zMLc_81, List.forall_mem_cons.mpr ⟨zMLc_82, List.forall_mem_cons.mpr ⟨zMLc_83, List.forall_mem_cons.mpr ⟨zMLc_84, List.forall_mem_cons.mpr ⟨zMLc_85, List.forall_mem_cons.mpr ⟨zMLc_86, List.forall_mem_cons.mpr ⟨zMLc_87, List.forall_mem_cons.mpr ⟨zMLc_88, List.forall_mem_cons.mpr ⟨zMLc_89, List.forall_mem_cons.mpr ⟨zMLc_90, List.forall_mem_cons.mpr ⟨zMLc_91, List.forall_mem_cons.mpr ⟨zMLc_92, List.forall_mem_cons.mpr ⟨zMLc_93, List.forall_mem_cons.mpr ⟨zMLc_94, List.forall_mem_cons.mpr ⟨zMLc_95, fun _ h => absurd h List.not_mem_nil⟩⟩⟩⟩⟩⟩⟩⟩⟩⟩⟩⟩⟩⟩⟩⟩
def zMLc_l6 : List (Nat × Nat × Nat × Nat) := [(11, 224, 136, 1), (11, 227, 137, 1), (11, 230, 27, 1), (11, 234, 31, 1), (11, 237, 71, 1), (11, 240, 131, 0), (11, 249, 79, 1), (11, 252, 76, 1), (11, 255, 138, 1), (11, 261, 148, 1), (11, 264, 147, 1), (11, 268, 139, 1), (11, 271, 7, 1), (11, 272, 35, 1), (11, 286, 149, 1), (11, 290, 36, 1)]
theorem zMLc_r6 : ∀ q ∈ zMLc_l6, zWM q ∈ tables_1 := List.forall_mem_cons.mpr ⟨zMLc_96, List.forall_mem_cons.mpr ⟨zMLc_97, List.forall_mem_cons.mpr ⟨zMLc_98, List.forall_mem_cons.mpr ⟨zMLc_99, List.forall_mem_cons.mpr ⟨zMLc_100, List.forall_mem_cons.mpr ⟨zMLc_101, List.forall_mem_cons.mpr ⟨zMLc_102, List.forall_mem_cons.mpr ⟨zMLc_103, List.forall_mem_cons.mpr ⟨zMLc_104, List.forall_mem_cons.mpr ⟨zMLc_105, List.forall_mem_cons.mpr ⟨zMLc_106, List.forall_mem_cons.mpr ⟨zMLc_107, List.forall_mem_cons.mpr ⟨zMLc_108, List.forall_mem_cons.mpr ⟨zMLc_109, List.forall_mem_cons.mpr ⟨zMLc_110, List.forall_mem_cons.mpr ⟨zMLc_111, fun _ h => absurd h List.not_mem_nil⟩⟩⟩⟩⟩⟩⟩⟩⟩⟩⟩⟩⟩⟩⟩⟩
def zMLc_l7 : List (Nat × Nat × Nat × Nat) := [(11, 293, 37, 1), (11, 297, 13, 1), (11, 302, 14, 1), (11, 312, 16, 1), (11, 315, 18, 1), (11, 318, 17, 1), (11, 321, 150, 1), (11, 330, 154, 1), (11, 336, 155, 1), (11, 339, 158, 1), (11, 345, 156, 1), (11, 348, 157, 1), (11, 351, 159, 1), (11, 354, 73, 1), (11, 357, 160, 0), (11, 360, 135, 1)]
theorem zMLc_r7 : ∀ q ∈ zMLc_l7, zWM q ∈ tables_1 := List.forall_mem_cons.mpr ⟨zMLc_112, List.forall_mem_cons.mpr ⟨zMLc_113, List.forall_mem_cons.mpr ⟨zMLc_114, List.forall_mem_cons.mpr ⟨zMLc_115, List.forall_mem_cons.mpr ⟨zMLc_116, List.forall_mem_cons.mpr ⟨zMLc_117, List.forall_mem_cons.mpr ⟨zMLc_118, List.forall_mem_cons.mpr ⟨zMLc_119, List.forall_mem_cons.mpr ⟨zMLc_120, List.forall_mem_cons.mpr ⟨zMLc_121, List.forall_mem_cons.mpr ⟨zMLc_122, List.forall_mem_cons.mpr ⟨zMLc_123, List.forall_mem_cons.mpr ⟨zMLc_124, List.forall_mem_cons.mpr ⟨zMLc_125, List.forall_mem_cons.mpr ⟨zMLc_126, List.forall_mem_cons.mpr ⟨zMLc_127, fun _ h => absurd h List.not_mem_nil⟩⟩⟩⟩⟩⟩⟩⟩⟩⟩⟩⟩⟩⟩⟩⟩
def zMLc_l8 : List (Nat × Nat × Nat × Nat) := [(11, 363, 161, 1), (11, 366, 163, 1), (11, 369, 153, 1), (11, 372, 2, 0), (11, 377, 152, 0), (11, 380, 33, 1), (11, 383, 32, 1), (11, 386, 164, 1), (11, 389, 166, 1), (11, 392, 165, 1), (11, 395, 140, 1), (11, 398, 20, 1), (11, 404, 21, 1), (11, 407, 167, 1), (11, 410, 56, 1), (11, 413, 168, 1)]
theorem zMLc_r8 : ∀ q ∈ zMLc_l8, zWM q ∈ tables_1 := List.forall_mem_cons.mpr ⟨zMLc_128, List.forall_mem_cons.mpr ⟨zMLc_129, List.forall_mem_cons.mpr ⟨zMLc_130, List.forall_mem_cons.mpr ⟨zMLc_131, List.forall_mem_cons.mpr ⟨zMLc_132, List.forall_mem_cons.mpr ⟨zMLc_133, List.forall_mem_cons.mpr ⟨zMLc_134, List.forall_mem_cons.mpr ⟨zMLc_135, List.forall_mem_cons.mpr ⟨zMLc_136, List.forall_mem_cons.mpr ⟨zMLc_137, List.forall_mem_cons.mpr ⟨zMLc_138, List.forall_mem_cons.mpr ⟨zMLc_139, List.forall_mem_cons.mpr ⟨zMLc_140, List.forall_mem_cons.mpr ⟨zMLc_141, List.forall_mem_cons.mpr ⟨zMLc_142, List.forall_mem_cons.mpr ⟨zMLc_143, fun _ h => absurd h List.not_mem_nil⟩⟩⟩⟩⟩⟩⟩⟩⟩⟩⟩⟩⟩⟩⟩⟩
def zMLc_l9 : List (Nat × Nat × Nat × Nat) := [(11, 416, 57, 1), (11, 420, 30, 1), (11, 423, 5, 0), (11, 429, 4, 0), (11, 432, 3, 0), (11, 435, 23, 1), (11, 442, 24, 1), (11, 448, 142, 1), (11, 451, 66, 1), (11, 454, 143, 1), (11, 457, 68, 1), (11, 460, 77, 1), (11, 464, 15, 1), (11, 467, 151, 0), (11, 470, 29, 1), (11, 473, 162, 1)]
theorem zMLc_r9 : ∀ q ∈ zMLc_l9, zWM q ∈ tables_1 := List.forall_mem_cons.mpr ⟨zMLc_144, List.forall_mem_cons.mpr ⟨zMLc_145, List.forall_mem_cons.mpr ⟨zMLc_146, List.forall_mem_cons.mpr ⟨zMLc_147, List.forall_mem_cons.mpr ⟨zMLc_148, List.forall_mem_cons.mpr ⟨zMLc_149, List.forall_mem_cons.mpr ⟨zMLc_150, List.forall_mem_cons.mpr ⟨zMLc_151, List.forall_mem_cons.mpr ⟨zMLc_152, List.forall_mem_cons.mpr ⟨zMLc_153, List.forall_mem_cons.mpr ⟨zMLc_154, List.forall_mem_cons.mpr ⟨zMLc_155, List.forall_mem_cons.mpr ⟨zMLc_156, List.forall_mem_cons.mpr ⟨zMLc_157, List.forall_mem_cons.mpr ⟨zMLc_158, List.forall_mem_cons.mpr ⟨zMLc_159, fun _ h => absurd h List.not_mem_nil⟩⟩⟩⟩⟩⟩⟩⟩⟩⟩⟩⟩⟩⟩⟩⟩
def zMLc_l10 : List (Nat × Nat × Nat × Nat) := [(12, 88, 171, 0), (12, 92, 176, 1), (12, 114, 183, 1), (12, 118, 182, 1), (12, 121, 185, 1), (12, 125, 184, 1), (12, 129, 181, 1), (12, 133, 191, 1), (12, 136, 190, 0), (12, 146, 187, 1), (12, 150, 186, 1), (12, 154, 188, 1), (12, 160, 194, 1), (12, 163, 195, 1), (12, 166, 196, 1), (12, 169, 193, 1)]
theorem zMLc_r10 : ∀ q ∈ zMLc_l10, zWM q ∈ tables_1 := List.forall_mem_cons.mpr ⟨zMLc_160, List.forall_mem_cons.mpr ⟨zMLc_161, List.forall_mem_cons.mpr ⟨zMLc_162, List.forall_mem_cons.mpr ⟨zMLc_163, List.forall_mem_cons.mpr ⟨zMLc_164, List.forall_mem_cons.mpr ⟨zMLc_165, List.forall_mem_cons.mpr ⟨zMLc_166, List.forall_mem_cons.mpr ⟨zMLc_167, List.forall_mem_cons.mpr ⟨zMLc_168, List.forall_mem_cons.mpr ⟨zMLc_169, List.forall_mem_cons.mpr ⟨zMLc_170, List.forall_mem_cons.mpr ⟨zMLc_171, List.forall_mem_cons.mpr ⟨zMLc_172, List.forall_mem_cons.mpr ⟨zMLc_173, List.forall_mem_cons.mpr ⟨zMLc_174, List.forall_mem_cons.mpr ⟨zMLc_175, fun _ h => absurd h List.not_mem_nil⟩⟩⟩⟩⟩⟩⟩⟩⟩⟩⟩⟩⟩⟩⟩⟩
def zMLc_l11 : List (Nat × Nat × Nat × Nat) := [(12, 175, 197, 1), (12, 194, 175, 1), (12, 198, 173, 1), (12, 201, 177, 1), (12, 204, 4, 0), (12, 210, 3, 0), (12, 213, 172, 0), (12, 220, 203, 1), (12, 223, 0, 0), (12, 241, 206, 1), (12, 245, 207, 1), (12, 248, 199, 1), (12, 252, 208, 0), (12, 256, 210, 1), (12, 260, 209, 1), (12, 264, 211, 0)]
theorem zMLc_r11 : ∀ q ∈ zMLc_l11, zWM q ∈ tables_1 := List.forall_mem_cons.mpr ⟨zMLc_176, List.forall_mem_cons.mpr ⟨zMLc_177, List.forall_mem_cons.mpr ⟨zMLc_178, List.forall_mem_cons.mpr ⟨zMLc_179, List.forall_mem_cons.mpr ⟨zMLc_180, List.forall_mem_cons.mpr ⟨zMLc_181, List.forall_mem_cons.mpr ⟨zMLc_182, List.forall_mem_cons.mpr ⟨zMLc_183, List.forall_mem_cons.mpr ⟨zMLc_184, List.forall_mem_cons.mpr ⟨zMLc_185, List.forall_mem_cons.mpr ⟨zMLc_186, List.forall_mem_cons.mpr ⟨zMLc_187, List.forall_mem_cons.mpr ⟨zMLc_188, List.forall_mem_cons.mpr ⟨zMLc_189, List.forall_mem_cons.mpr ⟨zMLc_190, List.forall_mem_cons.mpr ⟨zMLc_191, fun _ h => absurd h List.not_mem_nil⟩⟩⟩⟩⟩⟩⟩⟩⟩⟩⟩⟩⟩⟩⟩⟩
def zMLc_l12 : List (Nat × Nat × Nat × Nat) := [(12, 267, 213, 1), (12, 270, 174, 1), (12, 273, 205, 1), (12, 276, 216, 1), (12, 279, 220, 1), (12, 285, 221, 1), (12, 288, 223, 1), (12, 291, 224, 1), (12, 300, 227, 1), (12, 303, 228, 1), (12, 309, 230, 1), (12, 312, 178, 0), (12, 315, 234, 1), (12, 318, 236, 1), (12, 321, 237, 1), (12, 325, 241, 1)]
theorem zMLc_r12 : ∀ q ∈ zMLc_l12, zWM q ∈ tables_1 := List.forall_mem_cons.mpr ⟨zMLc_192, List.forall_mem_cons.mpr ⟨zMLc_193, List.forall_mem_cons.mpr ⟨zMLc_194, List.forall_mem_cons.mpr ⟨zMLc_195, List.forall_mem_cons.mpr ⟨zMLc_196, List.forall_mem_cons.mpr ⟨zMLc_197, List.forall_mem_cons.mpr ⟨zMLc_198, List.forall_mem_cons.mpr ⟨zMLc_199, List.forall_mem_cons.mpr ⟨zMLc_200, List.forall_mem_cons.mpr ⟨zMLc_201, List.forall_mem_cons.mpr ⟨zMLc_202, List.forall_mem_cons.mpr ⟨zMLc_203, List.forall_mem_cons.mpr ⟨zMLc_204, List.forall_mem_cons.mpr ⟨zMLc_205, List.forall_mem_cons.mpr ⟨zMLc_206, List.forall_mem_cons.mpr ⟨zMLc_207, fun _ h => absurd h List.not_mem_nil⟩⟩⟩⟩⟩⟩⟩⟩⟩⟩⟩⟩⟩⟩⟩⟩
def zMLc_l13 : List (Nat × Nat × Nat × Nat) := [(12, 329, 244, 1), (12, 332, 246, 0), (12, 336, 247, 1), (12, 339, 2, 0), (12, 342, 249, 0), (12, 345, 253, 1), (12, 348, 255, 1), (12, 354, 259, 1), (12, 362, 265, 1), (12, 365, 264, 1)]
theorem zMLc_r13 : ∀ q ∈ zMLc_l13, zWM q ∈ tables_1 := List.forall_mem_cons.mpr ⟨zMLc_208, List.forall_mem_cons.mpr ⟨zMLc_209, List.forall_mem_cons.mpr ⟨zMLc_210, List.forall_mem_cons.mpr ⟨zMLc_211, List.forall_mem_cons.mpr ⟨zMLc_212, List.forall_mem_cons.mpr ⟨zMLc_213, List.forall_mem_cons.mpr ⟨zMLc_214, List.forall_mem_cons.mpr ⟨zMLc_215, List.forall_mem_cons.mpr ⟨zMLc_216, List.forall_mem_cons.mpr ⟨zMLc_217, fun _ h => absurd h List.not_mem_nil⟩⟩⟩⟩⟩⟩⟩⟩⟩⟩
theorem zMLc_sp : zML = zMLc_l0 ++ (zMLc_l1 ++ (zMLc_l2 ++ (zMLc_l3 ++ (zMLc_l4 ++ (zMLc_l5 ++ (zMLc_l6 ++ (zMLc_l7 ++ (zMLc_l8 ++ (zMLc_l9 ++ (zMLc_l10 ++ (zMLc_l11 ++ (zMLc_l12 ++ (zMLc_l13))))))))))))) := by decide +kernel
theorem zMLc_all : ∀ q ∈ zML, zWM q ∈ tables_1 := by
  rw [zMLc_sp]
  exact List.forall_mem_append.mpr ⟨zMLc_r0, List.forall_mem_append.mpr ⟨zMLc_r1, List.forall_mem_append.mpr ⟨zMLc_r2, List.forall_mem_append.mpr ⟨zMLc_r3, List.forall_mem_append.mpr ⟨zMLc_r4, List.forall_mem_append.mpr ⟨zMLc_r5, List.forall_mem_append.mpr ⟨zMLc_r6, List.forall_mem_append.mpr ⟨zMLc_r7, List.forall_mem_append.mpr ⟨zMLc_r8, List.forall_mem_append.mpr ⟨zMLc_r9, List.forall_mem_append.mpr ⟨zMLc_r10, List.forall_mem_append.mpr ⟨zMLc_r11, List.forall_mem_append.mpr ⟨zMLc_r12, zMLc_r13⟩⟩⟩⟩⟩⟩⟩⟩⟩⟩⟩⟩⟩
theorem zML_ok2 : ∀ q ∈ zML, q.2.2.1 < 274 := by decide +kernel
theorem zNL_ok : ∀ q ∈ zNL, Cond.classLink (zCs q.1) q.2.1 (zCs q.2.2) ∈ tables_1 ∧ Cond.instantiable (zCs q.2.2) (zTf q.2.2).2.2 ∈ tables_1 ∧ Cond.initialized (zCs q.2.2) ∈ tables_1 ∧ q.2.2 < 13 ∧ (zTf q.2.2).1 = zCs q.2.2 := by decide +kernel
theorem zAL_ok : ∀ q ∈ zAL, Cond.classLink (zCs q.1) q.2 "StartedByAYawn$Kept" ∈ tables_1 := by decide +kernel
theorem zCP_ok : ∀ q ∈ zCP, Cond.methodLink (zCs q.1) q.2 arraycopyName ∈ tables_1 := by decide +kernel
theorem zOB_ok : ∀ q ∈ zOB, Cond.methodLink (zCs q.1) q.2 Lib.objectInit ∈ tables_1 := by decide +kernel
theorem zKN_ok : ∀ q ∈ zKN, Cond.constant (zCs q.1) q.2.1 q.2.2 ∈ tables_1 := by decide +kernel
def zSt : List Nat := [0, 1, 2, 3, 4, 5, 44, 54, 131, 132, 133, 144, 145, 151, 152, 160, 171, 172, 178, 190, 208, 211, 246, 249]
def zIn : List Nat := [6, 11, 19, 22, 25, 34, 38, 45, 55, 58, 70, 81, 169]
def zVi : List Nat := [7, 8, 9, 10, 12, 13, 14, 15, 16, 17, 18, 20, 21, 23, 24, 26, 27, 28, 29, 30, 31, 32, 33, 35, 36, 37, 39, 40, 41, 42, 43, 46, 47, 48, 49, 50, 51, 52, 53, 56, 57, 59, 60, 61, 62, 63, 64, 65, 66, 67, 68, 69, 71, 72, 73, 74, 75, 76, 77, 78, 79, 80, 82, 83, 84, 85, 86, 87, 88, 89, 90, 91, 92, 93, 94, 95, 96, 97, 98, 99, 100, 101, 102, 103, 104, 105, 106, 107, 108, 109, 110, 111, 112, 113, 114, 115, 116, 117, 118, 119, 120, 121, 122, 123, 124, 125, 126, 127, 128, 129, 130, 134, 135, 136, 137, 138, 139, 140, 141, 142, 143, 146, 147, 148, 149, 150, 153, 154, 155, 156, 157, 158, 159, 161, 162, 163, 164, 165, 166, 167, 168, 170, 173, 174, 175, 176, 177, 179, 180, 181, 182, 183, 184, 185, 186, 187, 188, 189, 191, 192, 193, 194, 195, 196, 197, 198, 199, 200, 201, 202, 203, 204, 205, 206, 207, 209, 210, 212, 213, 214, 215, 216, 217, 218, 219, 220, 221, 222, 223, 224, 225, 226, 227, 228, 229, 230, 231, 232, 233, 234, 235, 236, 237, 238, 239, 240, 241, 242, 243, 244, 245, 247, 248, 250, 251, 252, 253, 254, 255, 256, 257, 258, 259, 260, 261, 262, 263, 264, 265, 266, 267, 268, 269, 270, 271, 272, 273]
def zAll : List Nat := List.range 274
set_option maxRecDepth 100000 in
theorem zStc_0 : Cond.static (zY 0) ∈ tables_1 := List.mem_of_getElem? (i := 572) rfl
set_option maxRecDepth 100000 in
theorem zStc_1 : Cond.static (zY 1) ∈ tables_1 := List.mem_of_getElem? (i := 712) rfl
set_option maxRecDepth 100000 in
theorem zStc_2 : Cond.static (zY 2) ∈ tables_1 := List.mem_of_getElem? (i := 901) rfl
set_option maxRecDepth 100000 in
theorem zStc_3 : Cond.static (zY 3) ∈ tables_1 := List.mem_of_getElem? (i := 544) rfl
set_option maxRecDepth 100000 in
theorem zStc_4 : Cond.static (zY 4) ∈ tables_1 := List.mem_of_getElem? (i := 409) rfl
set_option maxRecDepth 100000 in
theorem zStc_5 : Cond.static (zY 5) ∈ tables_1 := List.mem_of_getElem? (i := 146) rfl
set_option maxRecDepth 100000 in
theorem zStc_6 : Cond.static (zY 44) ∈ tables_1 := List.mem_of_getElem? (i := 668) rfl
set_option maxRecDepth 100000 in
theorem zStc_7 : Cond.static (zY 54) ∈ tables_1 := List.mem_of_getElem? (i := 511) rfl
set_option maxRecDepth 100000 in
theorem zStc_8 : Cond.static (zY 131) ∈ tables_1 := List.mem_of_getElem? (i := 448) rfl
set_option maxRecDepth 100000 in
theorem zStc_9 : Cond.static (zY 132) ∈ tables_1 := List.mem_of_getElem? (i := 564) rfl
set_option maxRecDepth 100000 in
theorem zStc_10 : Cond.static (zY 133) ∈ tables_1 := List.mem_of_getElem? (i := 530) rfl
set_option maxRecDepth 100000 in
theorem zStc_11 : Cond.static (zY 144) ∈ tables_1 := List.mem_of_getElem? (i := 533) rfl
set_option maxRecDepth 100000 in
theorem zStc_12 : Cond.static (zY 145) ∈ tables_1 := List.mem_of_getElem? (i := 540) rfl
set_option maxRecDepth 100000 in
theorem zStc_13 : Cond.static (zY 151) ∈ tables_1 := List.mem_of_getElem? (i := 797) rfl
set_option maxRecDepth 100000 in
theorem zStc_14 : Cond.static (zY 152) ∈ tables_1 := List.mem_of_getElem? (i := 908) rfl
set_option maxRecDepth 100000 in
theorem zStc_15 : Cond.static (zY 160) ∈ tables_1 := List.mem_of_getElem? (i := 864) rfl
set_option maxRecDepth 100000 in
theorem zStc_16 : Cond.static (zY 171) ∈ tables_1 := List.mem_of_getElem? (i := 1289) rfl
set_option maxRecDepth 100000 in
theorem zStc_17 : Cond.static (zY 172) ∈ tables_1 := List.mem_of_getElem? (i := 1401) rfl
set_option maxRecDepth 100000 in
theorem zStc_18 : Cond.static (zY 178) ∈ tables_1 := List.mem_of_getElem? (i := 1531) rfl
set_option maxRecDepth 100000 in
theorem zStc_19 : Cond.static (zY 190) ∈ tables_1 := List.mem_of_getElem? (i := 1332) rfl
set_option maxRecDepth 100000 in
theorem zStc_20 : Cond.static (zY 208) ∈ tables_1 := List.mem_of_getElem? (i := 1417) rfl
set_option maxRecDepth 100000 in
theorem zStc_21 : Cond.static (zY 211) ∈ tables_1 := List.mem_of_getElem? (i := 1420) rfl
set_option maxRecDepth 100000 in
theorem zStc_22 : Cond.static (zY 246) ∈ tables_1 := List.mem_of_getElem? (i := 1588) rfl
set_option maxRecDepth 100000 in
theorem zStc_23 : Cond.static (zY 249) ∈ tables_1 := List.mem_of_getElem? (i := 1596) rfl
def zStc_l0 : List (Nat) := [0, 1, 2, 3, 4, 5, 44, 54, 131, 132, 133, 144, 145, 151, 152, 160]
theorem zStc_r0 : ∀ q ∈ zStc_l0, Cond.static (zY q) ∈ tables_1 := List.forall_mem_cons.mpr ⟨zStc_0, List.forall_mem_cons.mpr ⟨zStc_1, List.forall_mem_cons.mpr ⟨zStc_2, List.forall_mem_cons.mpr ⟨zStc_3, List.forall_mem_cons.mpr ⟨zStc_4, List.forall_mem_cons.mpr ⟨zStc_5, List.forall_mem_cons.mpr ⟨zStc_6, List.forall_mem_cons.mpr ⟨zStc_7, List.forall_mem_cons.mpr ⟨zStc_8, List.forall_mem_cons.mpr ⟨zStc_9, List.forall_mem_cons.mpr ⟨zStc_10, List.forall_mem_cons.mpr ⟨zStc_11, List.forall_mem_cons.mpr ⟨zStc_12, List.forall_mem_cons.mpr ⟨zStc_13, List.forall_mem_cons.mpr ⟨zStc_14, List.forall_mem_cons.mpr ⟨zStc_15, fun _ h => absurd h List.not_mem_nil⟩⟩⟩⟩⟩⟩⟩⟩⟩⟩⟩⟩⟩⟩⟩⟩
def zStc_l1 : List (Nat) := [171, 172, 178, 190, 208, 211, 246, 249]
theorem zStc_r1 : ∀ q ∈ zStc_l1, Cond.static (zY q) ∈ tables_1 := List.forall_mem_cons.mpr ⟨zStc_16, List.forall_mem_cons.mpr ⟨zStc_17, List.forall_mem_cons.mpr ⟨zStc_18, List.forall_mem_cons.mpr ⟨zStc_19, List.forall_mem_cons.mpr ⟨zStc_20, List.forall_mem_cons.mpr ⟨zStc_21, List.forall_mem_cons.mpr ⟨zStc_22, List.forall_mem_cons.mpr ⟨zStc_23, fun _ h => absurd h List.not_mem_nil⟩⟩⟩⟩⟩⟩⟩⟩
theorem zStc_sp : zSt = zStc_l0 ++ (zStc_l1) := by decide +kernel
theorem zStc_all : ∀ q ∈ zSt, Cond.static (zY q) ∈ tables_1 := by
  rw [zStc_sp]
  exact List.forall_mem_append.mpr ⟨zStc_r0, zStc_r1⟩
set_option maxRecDepth 100000 in
theorem zInc__0 : Cond.instanceMethod (zY 6) ∈ tables_1 := List.mem_of_getElem? (i := 106) rfl
set_option maxRecDepth 100000 in
theorem zInc__1 : Cond.instanceMethod (zY 11) ∈ tables_1 := List.mem_of_getElem? (i := 226) rfl
set_option maxRecDepth 100000 in
theorem zInc__2 : Cond.instanceMethod (zY 19) ∈ tables_1 := List.mem_of_getElem? (i := 300) rfl
set_option maxRecDepth 100000 in
theorem zInc__3 : Cond.instanceMethod (zY 22) ∈ tables_1 := List.mem_of_getElem? (i := 263) rfl
set_option maxRecDepth 100000 in
theorem zInc__4 : Cond.instanceMethod (zY 25) ∈ tables_1 := List.mem_of_getElem? (i := 138) rfl
set_option maxRecDepth 100000 in
theorem zInc__5 : Cond.instanceMethod (zY 34) ∈ tables_1 := List.mem_of_getElem? (i := 256) rfl
set_option maxRecDepth 100000 in
theorem zInc__6 : Cond.instanceMethod (zY 38) ∈ tables_1 := List.mem_of_getElem? (i := 58) rfl
set_option maxRecDepth 100000 in
theorem zInc__7 : Cond.instanceMethod (zY 45) ∈ tables_1 := List.mem_of_getElem? (i := 88) rfl
set_option maxRecDepth 100000 in
theorem zInc__8 : Cond.instanceMethod (zY 55) ∈ tables_1 := List.mem_of_getElem? (i := 321) rfl
set_option maxRecDepth 100000 in
theorem zInc__9 : Cond.instanceMethod (zY 58) ∈ tables_1 := List.mem_of_getElem? (i := 33) rfl
set_option maxRecDepth 100000 in
theorem zInc__10 : Cond.instanceMethod (zY 70) ∈ tables_1 := List.mem_of_getElem? (i := 132) rfl
set_option maxRecDepth 100000 in
theorem zInc__11 : Cond.instanceMethod (zY 81) ∈ tables_1 := List.mem_of_getElem? (i := 25) rfl
set_option maxRecDepth 100000 in
theorem zInc__12 : Cond.instanceMethod (zY 169) ∈ tables_1 := List.mem_of_getElem? (i := 1118) rfl
def zInc__l0 : List (Nat) := [6, 11, 19, 22, 25, 34, 38, 45, 55, 58, 70, 81, 169]
theorem zInc__r0 : ∀ q ∈ zInc__l0, Cond.instanceMethod (zY q) ∈ tables_1 := List.forall_mem_cons.mpr ⟨zInc__0, List.forall_mem_cons.mpr ⟨zInc__1, List.forall_mem_cons.mpr ⟨zInc__2, List.forall_mem_cons.mpr ⟨zInc__3, List.forall_mem_cons.mpr ⟨zInc__4, List.forall_mem_cons.mpr ⟨zInc__5, List.forall_mem_cons.mpr ⟨zInc__6, List.forall_mem_cons.mpr ⟨zInc__7, List.forall_mem_cons.mpr ⟨zInc__8, List.forall_mem_cons.mpr ⟨zInc__9, List.forall_mem_cons.mpr ⟨zInc__10, List.forall_mem_cons.mpr ⟨zInc__11, List.forall_mem_cons.mpr ⟨zInc__12, fun _ h => absurd h List.not_mem_nil⟩⟩⟩⟩⟩⟩⟩⟩⟩⟩⟩⟩⟩
theorem zInc__sp : zIn = zInc__l0 := by decide +kernel
theorem zInc__all : ∀ q ∈ zIn, Cond.instanceMethod (zY q) ∈ tables_1 := by
  rw [zInc__sp]
  exact zInc__r0
theorem zIn_ok2 : ∀ i ∈ zIn, (zY i).name = "<init>" := by decide +kernel
set_option maxRecDepth 100000 in
theorem zVic_0 : Cond.instanceMethod (zY 7) ∈ tables_1 := List.mem_of_getElem? (i := 731) rfl
set_option maxRecDepth 100000 in
theorem zVic_1 : Cond.instanceMethod (zY 8) ∈ tables_1 := List.mem_of_getElem? (i := 737) rfl
set_option maxRecDepth 100000 in
theorem zVic_2 : Cond.instanceMethod (zY 9) ∈ tables_1 := List.mem_of_getElem? (i := 743) rfl
set_option maxRecDepth 100000 in
theorem zVic_3 : Cond.instanceMethod (zY 10) ∈ tables_1 := List.mem_of_getElem? (i := 748) rfl
set_option maxRecDepth 100000 in
theorem zVic_4 : Cond.instanceMethod (zY 12) ∈ tables_1 := List.mem_of_getElem? (i := 612) rfl
set_option maxRecDepth 100000 in
theorem zVic_5 : Cond.instanceMethod (zY 13) ∈ tables_1 := List.mem_of_getElem? (i := 773) rfl
set_option maxRecDepth 100000 in
theorem zVic_6 : Cond.instanceMethod (zY 14) ∈ tables_1 := List.mem_of_getElem? (i := 708) rfl
set_option maxRecDepth 100000 in
theorem zVic_7 : Cond.instanceMethod (zY 15) ∈ tables_1 := List.mem_of_getElem? (i := 704) rfl
set_option maxRecDepth 100000 in
theorem zVic_8 : Cond.instanceMethod (zY 16) ∈ tables_1 := List.mem_of_getElem? (i := 777) rfl
set_option maxRecDepth 100000 in
theorem zVic_9 : Cond.instanceMethod (zY 17) ∈ tables_1 := List.mem_of_getElem? (i := 785) rfl
set_option maxRecDepth 100000 in
theorem zVic_10 : Cond.instanceMethod (zY 18) ∈ tables_1 := List.mem_of_getElem? (i := 781) rfl
set_option maxRecDepth 100000 in
theorem zVic_11 : Cond.instanceMethod (zY 20) ∈ tables_1 := List.mem_of_getElem? (i := 947) rfl
set_option maxRecDepth 100000 in
theorem zVic_12 : Cond.instanceMethod (zY 21) ∈ tables_1 := List.mem_of_getElem? (i := 959) rfl
set_option maxRecDepth 100000 in
theorem zVic_13 : Cond.instanceMethod (zY 23) ∈ tables_1 := List.mem_of_getElem? (i := 603) rfl
set_option maxRecDepth 100000 in
theorem zVic_14 : Cond.instanceMethod (zY 24) ∈ tables_1 := List.mem_of_getElem? (i := 765) rfl
set_option maxRecDepth 100000 in
theorem zVic_15 : Cond.instanceMethod (zY 26) ∈ tables_1 := List.mem_of_getElem? (i := 607) rfl
set_option maxRecDepth 100000 in
theorem zVic_16 : Cond.instanceMethod (zY 27) ∈ tables_1 := List.mem_of_getElem? (i := 622) rfl
set_option maxRecDepth 100000 in
theorem zVic_17 : Cond.instanceMethod (zY 28) ∈ tables_1 := List.mem_of_getElem? (i := 635) rfl
set_option maxRecDepth 100000 in
theorem zVic_18 : Cond.instanceMethod (zY 29) ∈ tables_1 := List.mem_of_getElem? (i := 142) rfl
set_option maxRecDepth 100000 in
theorem zVic_19 : Cond.instanceMethod (zY 30) ∈ tables_1 := List.mem_of_getElem? (i := 852) rfl
set_option maxRecDepth 100000 in
theorem zVic_20 : Cond.instanceMethod (zY 31) ∈ tables_1 := List.mem_of_getElem? (i := 631) rfl
set_option maxRecDepth 100000 in
theorem zVic_21 : Cond.instanceMethod (zY 32) ∈ tables_1 := List.mem_of_getElem? (i := 845) rfl
set_option maxRecDepth 100000 in
theorem zVic_22 : Cond.instanceMethod (zY 33) ∈ tables_1 := List.mem_of_getElem? (i := 697) rfl
set_option maxRecDepth 100000 in
theorem zVic_23 : Cond.instanceMethod (zY 35) ∈ tables_1 := List.mem_of_getElem? (i := 599) rfl
set_option maxRecDepth 100000 in
theorem zVic_24 : Cond.instanceMethod (zY 36) ∈ tables_1 := List.mem_of_getElem? (i := 617) rfl
set_option maxRecDepth 100000 in
theorem zVic_25 : Cond.instanceMethod (zY 37) ∈ tables_1 := List.mem_of_getElem? (i := 761) rfl
set_option maxRecDepth 100000 in
theorem zVic_26 : Cond.instanceMethod (zY 39) ∈ tables_1 := List.mem_of_getElem? (i := 62) rfl
set_option maxRecDepth 100000 in
theorem zVic_27 : Cond.instanceMethod (zY 40) ∈ tables_1 := List.mem_of_getElem? (i := 515) rfl
set_option maxRecDepth 100000 in
theorem zVic_28 : Cond.instanceMethod (zY 41) ∈ tables_1 := List.mem_of_getElem? (i := 463) rfl
set_option maxRecDepth 100000 in
theorem zVic_29 : Cond.instanceMethod (zY 42) ∈ tables_1 := List.mem_of_getElem? (i := 660) rfl
set_option maxRecDepth 100000 in
theorem zVic_30 : Cond.instanceMethod (zY 43) ∈ tables_1 := List.mem_of_getElem? (i := 664) rfl
set_option maxRecDepth 100000 in
theorem zVic_31 : Cond.instanceMethod (zY 46) ∈ tables_1 := List.mem_of_getElem? (i := 472) rfl
set_option maxRecDepth 100000 in
theorem zVic_32 : Cond.instanceMethod (zY 47) ∈ tables_1 := List.mem_of_getElem? (i := 508) rfl
set_option maxRecDepth 100000 in
theorem zVic_33 : Cond.instanceMethod (zY 48) ∈ tables_1 := List.mem_of_getElem? (i := 477) rfl
set_option maxRecDepth 100000 in
theorem zVic_34 : Cond.instanceMethod (zY 49) ∈ tables_1 := List.mem_of_getElem? (i := 481) rfl
set_option maxRecDepth 100000 in
theorem zVic_35 : Cond.instanceMethod (zY 50) ∈ tables_1 := List.mem_of_getElem? (i := 485) rfl
set_option maxRecDepth 100000 in
theorem zVic_36 : Cond.instanceMethod (zY 51) ∈ tables_1 := List.mem_of_getElem? (i := 489) rfl
set_option maxRecDepth 100000 in
theorem zVic_37 : Cond.instanceMethod (zY 52) ∈ tables_1 := List.mem_of_getElem? (i := 494) rfl
set_option maxRecDepth 100000 in
theorem zVic_38 : Cond.instanceMethod (zY 53) ∈ tables_1 := List.mem_of_getElem? (i := 504) rfl
set_option maxRecDepth 100000 in
theorem zVic_39 : Cond.instanceMethod (zY 56) ∈ tables_1 := List.mem_of_getElem? (i := 975) rfl
set_option maxRecDepth 100000 in
theorem zVic_40 : Cond.instanceMethod (zY 57) ∈ tables_1 := List.mem_of_getElem? (i := 991) rfl
set_option maxRecDepth 100000 in
theorem zVic_41 : Cond.instanceMethod (zY 59) ∈ tables_1 := List.mem_of_getElem? (i := 393) rfl
set_option maxRecDepth 100000 in
theorem zVic_42 : Cond.instanceMethod (zY 60) ∈ tables_1 := List.mem_of_getElem? (i := 405) rfl
set_option maxRecDepth 100000 in
theorem zVic_43 : Cond.instanceMethod (zY 61) ∈ tables_1 := List.mem_of_getElem? (i := 416) rfl
set_option maxRecDepth 100000 in
theorem zVic_44 : Cond.instanceMethod (zY 62) ∈ tables_1 := List.mem_of_getElem? (i := 451) rfl
set_option maxRecDepth 100000 in
theorem zVic_45 : Cond.instanceMethod (zY 63) ∈ tables_1 := List.mem_of_getElem? (i := 455) rfl
set_option maxRecDepth 100000 in
theorem zVic_46 : Cond.instanceMethod (zY 64) ∈ tables_1 := List.mem_of_getElem? (i := 432) rfl
set_option maxRecDepth 100000 in
theorem zVic_47 : Cond.instanceMethod (zY 65) ∈ tables_1 := List.mem_of_getElem? (i := 498) rfl
set_option maxRecDepth 100000 in
theorem zVic_48 : Cond.instanceMethod (zY 66) ∈ tables_1 := List.mem_of_getElem? (i := 436) rfl
set_option maxRecDepth 100000 in
theorem zVic_49 : Cond.instanceMethod (zY 67) ∈ tables_1 := List.mem_of_getElem? (i := 424) rfl
set_option maxRecDepth 100000 in
theorem zVic_50 : Cond.instanceMethod (zY 68) ∈ tables_1 := List.mem_of_getElem? (i := 444) rfl
set_option maxRecDepth 100000 in
theorem zVic_51 : Cond.instanceMethod (zY 69) ∈ tables_1 := List.mem_of_getElem? (i := 429) rfl
set_option maxRecDepth 100000 in
theorem zVic_52 : Cond.instanceMethod (zY 71) ∈ tables_1 := List.mem_of_getElem? (i := 644) rfl
set_option maxRecDepth 100000 in
theorem zVic_53 : Cond.instanceMethod (zY 72) ∈ tables_1 := List.mem_of_getElem? (i := 555) rfl
set_option maxRecDepth 100000 in
theorem zVic_54 : Cond.instanceMethod (zY 73) ∈ tables_1 := List.mem_of_getElem? (i := 590) rfl
set_option maxRecDepth 100000 in
theorem zVic_55 : Cond.instanceMethod (zY 74) ∈ tables_1 := List.mem_of_getElem? (i := 567) rfl
set_option maxRecDepth 100000 in
theorem zVic_56 : Cond.instanceMethod (zY 75) ∈ tables_1 := List.mem_of_getElem? (i := 560) rfl
set_option maxRecDepth 100000 in
theorem zVic_57 : Cond.instanceMethod (zY 76) ∈ tables_1 := List.mem_of_getElem? (i := 672) rfl
set_option maxRecDepth 100000 in
theorem zVic_58 : Cond.instanceMethod (zY 77) ∈ tables_1 := List.mem_of_getElem? (i := 688) rfl
set_option maxRecDepth 100000 in
theorem zVic_59 : Cond.instanceMethod (zY 78) ∈ tables_1 := List.mem_of_getElem? (i := 693) rfl
set_option maxRecDepth 100000 in
theorem zVic_60 : Cond.instanceMethod (zY 79) ∈ tables_1 := List.mem_of_getElem? (i := 650) rfl
set_option maxRecDepth 100000 in
theorem zVic_61 : Cond.instanceMethod (zY 80) ∈ tables_1 := List.mem_of_getElem? (i := 656) rfl
set_option maxRecDepth 100000 in
theorem zVic_62 : Cond.instanceMethod (zY 82) ∈ tables_1 := List.mem_of_getElem? (i := 389) rfl
set_option maxRecDepth 100000 in
theorem zVic_63 : Cond.instanceMethod (zY 83) ∈ tables_1 := List.mem_of_getElem? (i := 397) rfl
set_option maxRecDepth 100000 in
theorem zVic_64 : Cond.instanceMethod (zY 84) ∈ tables_1 := List.mem_of_getElem? (i := 401) rfl
set_option maxRecDepth 100000 in
theorem zVic_65 : Cond.instanceMethod (zY 85) ∈ tables_1 := List.mem_of_getElem? (i := 459) rfl
set_option maxRecDepth 100000 in
theorem zVic_66 : Cond.instanceMethod (zY 86) ∈ tables_1 := List.mem_of_getElem? (i := 468) rfl
set_option maxRecDepth 100000 in
theorem zVic_67 : Cond.instanceMethod (zY 87) ∈ tables_1 := List.mem_of_getElem? (i := 1029) rfl
set_option maxRecDepth 100000 in
theorem zVic_68 : Cond.instanceMethod (zY 88) ∈ tables_1 := List.mem_of_getElem? (i := 522) rfl
set_option maxRecDepth 100000 in
theorem zVic_69 : Cond.instanceMethod (zY 89) ∈ tables_1 := List.mem_of_getElem? (i := 536) rfl
set_option maxRecDepth 100000 in
theorem zVic_70 : Cond.instanceMethod (zY 90) ∈ tables_1 := List.mem_of_getElem? (i := 551) rfl
set_option maxRecDepth 100000 in
theorem zVic_71 : Cond.instanceMethod (zY 91) ∈ tables_1 := List.mem_of_getElem? (i := 578) rfl
set_option maxRecDepth 100000 in
theorem zVic_72 : Cond.instanceMethod (zY 92) ∈ tables_1 := List.mem_of_getElem? (i := 627) rfl
set_option maxRecDepth 100000 in
theorem zVic_73 : Cond.instanceMethod (zY 93) ∈ tables_1 := List.mem_of_getElem? (i := 640) rfl
set_option maxRecDepth 100000 in
theorem zVic_74 : Cond.instanceMethod (zY 94) ∈ tables_1 := List.mem_of_getElem? (i := 680) rfl
set_option maxRecDepth 100000 in
theorem zVic_75 : Cond.instanceMethod (zY 95) ∈ tables_1 := List.mem_of_getElem? (i := 723) rfl
set_option maxRecDepth 100000 in
theorem zVic_76 : Cond.instanceMethod (zY 96) ∈ tables_1 := List.mem_of_getElem? (i := 727) rfl
set_option maxRecDepth 100000 in
theorem zVic_77 : Cond.instanceMethod (zY 97) ∈ tables_1 := List.mem_of_getElem? (i := 757) rfl
set_option maxRecDepth 100000 in
theorem zVic_78 : Cond.instanceMethod (zY 98) ∈ tables_1 := List.mem_of_getElem? (i := 1102) rfl
set_option maxRecDepth 100000 in
theorem zVic_79 : Cond.instanceMethod (zY 99) ∈ tables_1 := List.mem_of_getElem? (i := 769) rfl
set_option maxRecDepth 100000 in
theorem zVic_80 : Cond.instanceMethod (zY 100) ∈ tables_1 := List.mem_of_getElem? (i := 789) rfl
set_option maxRecDepth 100000 in
theorem zVic_81 : Cond.instanceMethod (zY 101) ∈ tables_1 := List.mem_of_getElem? (i := 800) rfl
set_option maxRecDepth 100000 in
theorem zVic_82 : Cond.instanceMethod (zY 102) ∈ tables_1 := List.mem_of_getElem? (i := 809) rfl
set_option maxRecDepth 100000 in
theorem zVic_83 : Cond.instanceMethod (zY 103) ∈ tables_1 := List.mem_of_getElem? (i := 817) rfl
set_option maxRecDepth 100000 in
theorem zVic_84 : Cond.instanceMethod (zY 104) ∈ tables_1 := List.mem_of_getElem? (i := 825) rfl
set_option maxRecDepth 100000 in
theorem zVic_85 : Cond.instanceMethod (zY 105) ∈ tables_1 := List.mem_of_getElem? (i := 837) rfl
set_option maxRecDepth 100000 in
theorem zVic_86 : Cond.instanceMethod (zY 106) ∈ tables_1 := List.mem_of_getElem? (i := 856) rfl
set_option maxRecDepth 100000 in
theorem zVic_87 : Cond.instanceMethod (zY 107) ∈ tables_1 := List.mem_of_getElem? (i := 860) rfl
set_option maxRecDepth 100000 in
theorem zVic_88 : Cond.instanceMethod (zY 108) ∈ tables_1 := List.mem_of_getElem? (i := 867) rfl
set_option maxRecDepth 100000 in
theorem zVic_89 : Cond.instanceMethod (zY 109) ∈ tables_1 := List.mem_of_getElem? (i := 871) rfl
set_option maxRecDepth 100000 in
theorem zVic_90 : Cond.instanceMethod (zY 110) ∈ tables_1 := List.mem_of_getElem? (i := 888) rfl
set_option maxRecDepth 100000 in
theorem zVic_91 : Cond.instanceMethod (zY 111) ∈ tables_1 := List.mem_of_getElem? (i := 892) rfl
set_option maxRecDepth 100000 in
theorem zVic_92 : Cond.instanceMethod (zY 112) ∈ tables_1 := List.mem_of_getElem? (i := 904) rfl
set_option maxRecDepth 100000 in
theorem zVic_93 : Cond.instanceMethod (zY 113) ∈ tables_1 := List.mem_of_getElem? (i := 911) rfl
set_option maxRecDepth 100000 in
theorem zVic_94 : Cond.instanceMethod (zY 114) ∈ tables_1 := List.mem_of_getElem? (i := 915) rfl
set_option maxRecDepth 100000 in
theorem zVic_95 : Cond.instanceMethod (zY 115) ∈ tables_1 := List.mem_of_getElem? (i := 919) rfl
set_option maxRecDepth 100000 in
theorem zVic_96 : Cond.instanceMethod (zY 116) ∈ tables_1 := List.mem_of_getElem? (i := 927) rfl
set_option maxRecDepth 100000 in
theorem zVic_97 : Cond.instanceMethod (zY 117) ∈ tables_1 := List.mem_of_getElem? (i := 943) rfl
set_option maxRecDepth 100000 in
theorem zVic_98 : Cond.instanceMethod (zY 118) ∈ tables_1 := List.mem_of_getElem? (i := 951) rfl
set_option maxRecDepth 100000 in
theorem zVic_99 : Cond.instanceMethod (zY 119) ∈ tables_1 := List.mem_of_getElem? (i := 955) rfl
set_option maxRecDepth 100000 in
theorem zVic_100 : Cond.instanceMethod (zY 120) ∈ tables_1 := List.mem_of_getElem? (i := 963) rfl
set_option maxRecDepth 100000 in
theorem zVic_101 : Cond.instanceMethod (zY 121) ∈ tables_1 := List.mem_of_getElem? (i := 971) rfl
set_option maxRecDepth 100000 in
theorem zVic_102 : Cond.instanceMethod (zY 122) ∈ tables_1 := List.mem_of_getElem? (i := 979) rfl
set_option maxRecDepth 100000 in
theorem zVic_103 : Cond.instanceMethod (zY 123) ∈ tables_1 := List.mem_of_getElem? (i := 983) rfl
set_option maxRecDepth 100000 in
theorem zVic_104 : Cond.instanceMethod (zY 124) ∈ tables_1 := List.mem_of_getElem? (i := 998) rfl
set_option maxRecDepth 100000 in
theorem zVic_105 : Cond.instanceMethod (zY 125) ∈ tables_1 := List.mem_of_getElem? (i := 1002) rfl
set_option maxRecDepth 100000 in
theorem zVic_106 : Cond.instanceMethod (zY 126) ∈ tables_1 := List.mem_of_getElem? (i := 1006) rfl
set_option maxRecDepth 100000 in
theorem zVic_107 : Cond.instanceMethod (zY 127) ∈ tables_1 := List.mem_of_getElem? (i := 1011) rfl
set_option maxRecDepth 100000 in
theorem zVic_108 : Cond.instanceMethod (zY 128) ∈ tables_1 := List.mem_of_getElem? (i := 1016) rfl
set_option maxRecDepth 100000 in
theorem zVic_109 : Cond.instanceMethod (zY 129) ∈ tables_1 := List.mem_of_getElem? (i := 1021) rfl
set_option maxRecDepth 100000 in
theorem zVic_110 : Cond.instanceMethod (zY 130) ∈ tables_1 := List.mem_of_getElem? (i := 1111) rfl
set_option maxRecDepth 100000 in
theorem zVic_111 : Cond.instanceMethod (zY 134) ∈ tables_1 := List.mem_of_getElem? (i := 527) rfl
set_option maxRecDepth 100000 in
theorem zVic_112 : Cond.instanceMethod (zY 135) ∈ tables_1 := List.mem_of_getElem? (i := 587) rfl
set_option maxRecDepth 100000 in
theorem zVic_113 : Cond.instanceMethod (zY 136) ∈ tables_1 := List.mem_of_getElem? (i := 583) rfl
set_option maxRecDepth 100000 in
theorem zVic_114 : Cond.instanceMethod (zY 137) ∈ tables_1 := List.mem_of_getElem? (i := 596) rfl
set_option maxRecDepth 100000 in
theorem zVic_115 : Cond.instanceMethod (zY 138) ∈ tables_1 := List.mem_of_getElem? (i := 677) rfl
set_option maxRecDepth 100000 in
theorem zVic_116 : Cond.instanceMethod (zY 139) ∈ tables_1 := List.mem_of_getElem? (i := 720) rfl
set_option maxRecDepth 100000 in
theorem zVic_117 : Cond.instanceMethod (zY 140) ∈ tables_1 := List.mem_of_getElem? (i := 940) rfl
set_option maxRecDepth 100000 in
theorem zVic_118 : Cond.instanceMethod (zY 141) ∈ tables_1 := List.mem_of_getElem? (i := 413) rfl
set_option maxRecDepth 100000 in
theorem zVic_119 : Cond.instanceMethod (zY 142) ∈ tables_1 := List.mem_of_getElem? (i := 421) rfl
set_option maxRecDepth 100000 in
theorem zVic_120 : Cond.instanceMethod (zY 143) ∈ tables_1 := List.mem_of_getElem? (i := 441) rfl
set_option maxRecDepth 100000 in
theorem zVic_121 : Cond.instanceMethod (zY 146) ∈ tables_1 := List.mem_of_getElem? (i := 548) rfl
set_option maxRecDepth 100000 in
theorem zVic_122 : Cond.instanceMethod (zY 147) ∈ tables_1 := List.mem_of_getElem? (i := 716) rfl
set_option maxRecDepth 100000 in
theorem zVic_123 : Cond.instanceMethod (zY 148) ∈ tables_1 := List.mem_of_getElem? (i := 685) rfl
set_option maxRecDepth 100000 in
theorem zVic_124 : Cond.instanceMethod (zY 149) ∈ tables_1 := List.mem_of_getElem? (i := 754) rfl
set_option maxRecDepth 100000 in
theorem zVic_125 : Cond.instanceMethod (zY 150) ∈ tables_1 := List.mem_of_getElem? (i := 794) rfl
set_option maxRecDepth 100000 in
theorem zVic_126 : Cond.instanceMethod (zY 153) ∈ tables_1 := List.mem_of_getElem? (i := 897) rfl
set_option maxRecDepth 100000 in
theorem zVic_127 : Cond.instanceMethod (zY 154) ∈ tables_1 := List.mem_of_getElem? (i := 805) rfl
set_option maxRecDepth 100000 in
theorem zVic_128 : Cond.instanceMethod (zY 155) ∈ tables_1 := List.mem_of_getElem? (i := 814) rfl
set_option maxRecDepth 100000 in
theorem zVic_129 : Cond.instanceMethod (zY 156) ∈ tables_1 := List.mem_of_getElem? (i := 830) rfl
set_option maxRecDepth 100000 in
theorem zVic_130 : Cond.instanceMethod (zY 157) ∈ tables_1 := List.mem_of_getElem? (i := 834) rfl
set_option maxRecDepth 100000 in
theorem zVic_131 : Cond.instanceMethod (zY 158) ∈ tables_1 := List.mem_of_getElem? (i := 822) rfl
set_option maxRecDepth 100000 in
theorem zVic_132 : Cond.instanceMethod (zY 159) ∈ tables_1 := List.mem_of_getElem? (i := 842) rfl
set_option maxRecDepth 100000 in
theorem zVic_133 : Cond.instanceMethod (zY 161) ∈ tables_1 := List.mem_of_getElem? (i := 876) rfl
set_option maxRecDepth 100000 in
theorem zVic_134 : Cond.instanceMethod (zY 162) ∈ tables_1 := List.mem_of_getElem? (i := 880) rfl
set_option maxRecDepth 100000 in
theorem zVic_135 : Cond.instanceMethod (zY 163) ∈ tables_1 := List.mem_of_getElem? (i := 885) rfl
set_option maxRecDepth 100000 in
theorem zVic_136 : Cond.instanceMethod (zY 164) ∈ tables_1 := List.mem_of_getElem? (i := 924) rfl
set_option maxRecDepth 100000 in
theorem zVic_137 : Cond.instanceMethod (zY 165) ∈ tables_1 := List.mem_of_getElem? (i := 936) rfl
set_option maxRecDepth 100000 in
theorem zVic_138 : Cond.instanceMethod (zY 166) ∈ tables_1 := List.mem_of_getElem? (i := 932) rfl
set_option maxRecDepth 100000 in
theorem zVic_139 : Cond.instanceMethod (zY 167) ∈ tables_1 := List.mem_of_getElem? (i := 968) rfl
set_option maxRecDepth 100000 in
theorem zVic_140 : Cond.instanceMethod (zY 168) ∈ tables_1 := List.mem_of_getElem? (i := 988) rfl
set_option maxRecDepth 100000 in
theorem zVic_141 : Cond.instanceMethod (zY 170) ∈ tables_1 := List.mem_of_getElem? (i := 1277) rfl
set_option maxRecDepth 100000 in
theorem zVic_142 : Cond.instanceMethod (zY 173) ∈ tables_1 := List.mem_of_getElem? (i := 1372) rfl
set_option maxRecDepth 100000 in
theorem zVic_143 : Cond.instanceMethod (zY 174) ∈ tables_1 := List.mem_of_getElem? (i := 1440) rfl
set_option maxRecDepth 100000 in
theorem zVic_144 : Cond.instanceMethod (zY 175) ∈ tables_1 := List.mem_of_getElem? (i := 1368) rfl
set_option maxRecDepth 100000 in
theorem zVic_145 : Cond.instanceMethod (zY 176) ∈ tables_1 := List.mem_of_getElem? (i := 1380) rfl
set_option maxRecDepth 100000 in
theorem zVic_146 : Cond.instanceMethod (zY 177) ∈ tables_1 := List.mem_of_getElem? (i := 1376) rfl
set_option maxRecDepth 100000 in
theorem zVic_147 : Cond.instanceMethod (zY 179) ∈ tables_1 := List.mem_of_getElem? (i := 1281) rfl
set_option maxRecDepth 100000 in
theorem zVic_148 : Cond.instanceMethod (zY 180) ∈ tables_1 := List.mem_of_getElem? (i := 1285) rfl
set_option maxRecDepth 100000 in
theorem zVic_149 : Cond.instanceMethod (zY 181) ∈ tables_1 := List.mem_of_getElem? (i := 1297) rfl
set_option maxRecDepth 100000 in
theorem zVic_150 : Cond.instanceMethod (zY 182) ∈ tables_1 := List.mem_of_getElem? (i := 1317) rfl
set_option maxRecDepth 100000 in
theorem zVic_151 : Cond.instanceMethod (zY 183) ∈ tables_1 := List.mem_of_getElem? (i := 1301) rfl
set_option maxRecDepth 100000 in
theorem zVic_152 : Cond.instanceMethod (zY 184) ∈ tables_1 := List.mem_of_getElem? (i := 1305) rfl
set_option maxRecDepth 100000 in
theorem zVic_153 : Cond.instanceMethod (zY 185) ∈ tables_1 := List.mem_of_getElem? (i := 1325) rfl
set_option maxRecDepth 100000 in
theorem zVic_154 : Cond.instanceMethod (zY 186) ∈ tables_1 := List.mem_of_getElem? (i := 1321) rfl
set_option maxRecDepth 100000 in
theorem zVic_155 : Cond.instanceMethod (zY 187) ∈ tables_1 := List.mem_of_getElem? (i := 1313) rfl
set_option maxRecDepth 100000 in
theorem zVic_156 : Cond.instanceMethod (zY 188) ∈ tables_1 := List.mem_of_getElem? (i := 1329) rfl
set_option maxRecDepth 100000 in
theorem zVic_157 : Cond.instanceMethod (zY 189) ∈ tables_1 := List.mem_of_getElem? (i := 1292) rfl
set_option maxRecDepth 100000 in
theorem zVic_158 : Cond.instanceMethod (zY 191) ∈ tables_1 := List.mem_of_getElem? (i := 1309) rfl
set_option maxRecDepth 100000 in
theorem zVic_159 : Cond.instanceMethod (zY 192) ∈ tables_1 := List.mem_of_getElem? (i := 1335) rfl
set_option maxRecDepth 100000 in
theorem zVic_160 : Cond.instanceMethod (zY 193) ∈ tables_1 := List.mem_of_getElem? (i := 1344) rfl
set_option maxRecDepth 100000 in
theorem zVic_161 : Cond.instanceMethod (zY 194) ∈ tables_1 := List.mem_of_getElem? (i := 1348) rfl
set_option maxRecDepth 100000 in
theorem zVic_162 : Cond.instanceMethod (zY 195) ∈ tables_1 := List.mem_of_getElem? (i := 1352) rfl
set_option maxRecDepth 100000 in
theorem zVic_163 : Cond.instanceMethod (zY 196) ∈ tables_1 := List.mem_of_getElem? (i := 1356) rfl
set_option maxRecDepth 100000 in
theorem zVic_164 : Cond.instanceMethod (zY 197) ∈ tables_1 := List.mem_of_getElem? (i := 1360) rfl
set_option maxRecDepth 100000 in
theorem zVic_165 : Cond.instanceMethod (zY 198) ∈ tables_1 := List.mem_of_getElem? (i := 1339) rfl
set_option maxRecDepth 100000 in
theorem zVic_166 : Cond.instanceMethod (zY 199) ∈ tables_1 := List.mem_of_getElem? (i := 1436) rfl
set_option maxRecDepth 100000 in
theorem zVic_167 : Cond.instanceMethod (zY 200) ∈ tables_1 := List.mem_of_getElem? (i := 1363) rfl
set_option maxRecDepth 100000 in
theorem zVic_168 : Cond.instanceMethod (zY 201) ∈ tables_1 := List.mem_of_getElem? (i := 1383) rfl
set_option maxRecDepth 100000 in
theorem zVic_169 : Cond.instanceMethod (zY 202) ∈ tables_1 := List.mem_of_getElem? (i := 1387) rfl
set_option maxRecDepth 100000 in
theorem zVic_170 : Cond.instanceMethod (zY 203) ∈ tables_1 := List.mem_of_getElem? (i := 1398) rfl
set_option maxRecDepth 100000 in
theorem zVic_171 : Cond.instanceMethod (zY 204) ∈ tables_1 := List.mem_of_getElem? (i := 1393) rfl
set_option maxRecDepth 100000 in
theorem zVic_172 : Cond.instanceMethod (zY 205) ∈ tables_1 := List.mem_of_getElem? (i := 1448) rfl
set_option maxRecDepth 100000 in
theorem zVic_173 : Cond.instanceMethod (zY 206) ∈ tables_1 := List.mem_of_getElem? (i := 1452) rfl
set_option maxRecDepth 100000 in
theorem zVic_174 : Cond.instanceMethod (zY 207) ∈ tables_1 := List.mem_of_getElem? (i := 1456) rfl
set_option maxRecDepth 100000 in
theorem zVic_175 : Cond.instanceMethod (zY 209) ∈ tables_1 := List.mem_of_getElem? (i := 1414) rfl
set_option maxRecDepth 100000 in
theorem zVic_176 : Cond.instanceMethod (zY 210) ∈ tables_1 := List.mem_of_getElem? (i := 1410) rfl
set_option maxRecDepth 100000 in
theorem zVic_177 : Cond.instanceMethod (zY 212) ∈ tables_1 := List.mem_of_getElem? (i := 1405) rfl
set_option maxRecDepth 100000 in
theorem zVic_178 : Cond.instanceMethod (zY 213) ∈ tables_1 := List.mem_of_getElem? (i := 1428) rfl
set_option maxRecDepth 100000 in
theorem zVic_179 : Cond.instanceMethod (zY 214) ∈ tables_1 := List.mem_of_getElem? (i := 1423) rfl
set_option maxRecDepth 100000 in
theorem zVic_180 : Cond.instanceMethod (zY 215) ∈ tables_1 := List.mem_of_getElem? (i := 1431) rfl
set_option maxRecDepth 100000 in
theorem zVic_181 : Cond.instanceMethod (zY 216) ∈ tables_1 := List.mem_of_getElem? (i := 1460) rfl
set_option maxRecDepth 100000 in
theorem zVic_182 : Cond.instanceMethod (zY 217) ∈ tables_1 := List.mem_of_getElem? (i := 1443) rfl
set_option maxRecDepth 100000 in
theorem zVic_183 : Cond.instanceMethod (zY 218) ∈ tables_1 := List.mem_of_getElem? (i := 1463) rfl
set_option maxRecDepth 100000 in
theorem zVic_184 : Cond.instanceMethod (zY 219) ∈ tables_1 := List.mem_of_getElem? (i := 1467) rfl
set_option maxRecDepth 100000 in
theorem zVic_185 : Cond.instanceMethod (zY 220) ∈ tables_1 := List.mem_of_getElem? (i := 1472) rfl
set_option maxRecDepth 100000 in
theorem zVic_186 : Cond.instanceMethod (zY 221) ∈ tables_1 := List.mem_of_getElem? (i := 1476) rfl
set_option maxRecDepth 100000 in
theorem zVic_187 : Cond.instanceMethod (zY 222) ∈ tables_1 := List.mem_of_getElem? (i := 1479) rfl
set_option maxRecDepth 100000 in
theorem zVic_188 : Cond.instanceMethod (zY 223) ∈ tables_1 := List.mem_of_getElem? (i := 1488) rfl
set_option maxRecDepth 100000 in
theorem zVic_189 : Cond.instanceMethod (zY 224) ∈ tables_1 := List.mem_of_getElem? (i := 1492) rfl
set_option maxRecDepth 100000 in
theorem zVic_190 : Cond.instanceMethod (zY 225) ∈ tables_1 := List.mem_of_getElem? (i := 1483) rfl
set_option maxRecDepth 100000 in
theorem zVic_191 : Cond.instanceMethod (zY 226) ∈ tables_1 := List.mem_of_getElem? (i := 1495) rfl
set_option maxRecDepth 100000 in
theorem zVic_192 : Cond.instanceMethod (zY 227) ∈ tables_1 := List.mem_of_getElem? (i := 1504) rfl
set_option maxRecDepth 100000 in
theorem zVic_193 : Cond.instanceMethod (zY 228) ∈ tables_1 := List.mem_of_getElem? (i := 1508) rfl
set_option maxRecDepth 100000 in
theorem zVic_194 : Cond.instanceMethod (zY 229) ∈ tables_1 := List.mem_of_getElem? (i := 1499) rfl
set_option maxRecDepth 100000 in
theorem zVic_195 : Cond.instanceMethod (zY 230) ∈ tables_1 := List.mem_of_getElem? (i := 1516) rfl
set_option maxRecDepth 100000 in
theorem zVic_196 : Cond.instanceMethod (zY 231) ∈ tables_1 := List.mem_of_getElem? (i := 1511) rfl
set_option maxRecDepth 100000 in
theorem zVic_197 : Cond.instanceMethod (zY 232) ∈ tables_1 := List.mem_of_getElem? (i := 1519) rfl
set_option maxRecDepth 100000 in
theorem zVic_198 : Cond.instanceMethod (zY 233) ∈ tables_1 := List.mem_of_getElem? (i := 1523) rfl
set_option maxRecDepth 100000 in
theorem zVic_199 : Cond.instanceMethod (zY 234) ∈ tables_1 := List.mem_of_getElem? (i := 1535) rfl
set_option maxRecDepth 100000 in
theorem zVic_200 : Cond.instanceMethod (zY 235) ∈ tables_1 := List.mem_of_getElem? (i := 1527) rfl
set_option maxRecDepth 100000 in
theorem zVic_201 : Cond.instanceMethod (zY 236) ∈ tables_1 := List.mem_of_getElem? (i := 1547) rfl
set_option maxRecDepth 100000 in
theorem zVic_202 : Cond.instanceMethod (zY 237) ∈ tables_1 := List.mem_of_getElem? (i := 1543) rfl
set_option maxRecDepth 100000 in
theorem zVic_203 : Cond.instanceMethod (zY 238) ∈ tables_1 := List.mem_of_getElem? (i := 1538) rfl
set_option maxRecDepth 100000 in
theorem zVic_204 : Cond.instanceMethod (zY 239) ∈ tables_1 := List.mem_of_getElem? (i := 1550) rfl
set_option maxRecDepth 100000 in
theorem zVic_205 : Cond.instanceMethod (zY 240) ∈ tables_1 := List.mem_of_getElem? (i := 1554) rfl
set_option maxRecDepth 100000 in
theorem zVic_206 : Cond.instanceMethod (zY 241) ∈ tables_1 := List.mem_of_getElem? (i := 1563) rfl
set_option maxRecDepth 100000 in
theorem zVic_207 : Cond.instanceMethod (zY 242) ∈ tables_1 := List.mem_of_getElem? (i := 1558) rfl
set_option maxRecDepth 100000 in
theorem zVic_208 : Cond.instanceMethod (zY 243) ∈ tables_1 := List.mem_of_getElem? (i := 1567) rfl
set_option maxRecDepth 100000 in
theorem zVic_209 : Cond.instanceMethod (zY 244) ∈ tables_1 := List.mem_of_getElem? (i := 1572) rfl
set_option maxRecDepth 100000 in
theorem zVic_210 : Cond.instanceMethod (zY 245) ∈ tables_1 := List.mem_of_getElem? (i := 1575) rfl
set_option maxRecDepth 100000 in
theorem zVic_211 : Cond.instanceMethod (zY 247) ∈ tables_1 := List.mem_of_getElem? (i := 1585) rfl
set_option maxRecDepth 100000 in
theorem zVic_212 : Cond.instanceMethod (zY 248) ∈ tables_1 := List.mem_of_getElem? (i := 1579) rfl
set_option maxRecDepth 100000 in
theorem zVic_213 : Cond.instanceMethod (zY 250) ∈ tables_1 := List.mem_of_getElem? (i := 1592) rfl
set_option maxRecDepth 100000 in
theorem zVic_214 : Cond.instanceMethod (zY 251) ∈ tables_1 := List.mem_of_getElem? (i := 1599) rfl
set_option maxRecDepth 100000 in
theorem zVic_215 : Cond.instanceMethod (zY 252) ∈ tables_1 := List.mem_of_getElem? (i := 1603) rfl
set_option maxRecDepth 100000 in
theorem zVic_216 : Cond.instanceMethod (zY 253) ∈ tables_1 := List.mem_of_getElem? (i := 1612) rfl
set_option maxRecDepth 100000 in
theorem zVic_217 : Cond.instanceMethod (zY 254) ∈ tables_1 := List.mem_of_getElem? (i := 1607) rfl
set_option maxRecDepth 100000 in
theorem zVic_218 : Cond.instanceMethod (zY 255) ∈ tables_1 := List.mem_of_getElem? (i := 1620) rfl
set_option maxRecDepth 100000 in
theorem zVic_219 : Cond.instanceMethod (zY 256) ∈ tables_1 := List.mem_of_getElem? (i := 1615) rfl
set_option maxRecDepth 100000 in
theorem zVic_220 : Cond.instanceMethod (zY 257) ∈ tables_1 := List.mem_of_getElem? (i := 1623) rfl
set_option maxRecDepth 100000 in
theorem zVic_221 : Cond.instanceMethod (zY 258) ∈ tables_1 := List.mem_of_getElem? (i := 1627) rfl
set_option maxRecDepth 100000 in
theorem zVic_222 : Cond.instanceMethod (zY 259) ∈ tables_1 := List.mem_of_getElem? (i := 1636) rfl
set_option maxRecDepth 100000 in
theorem zVic_223 : Cond.instanceMethod (zY 260) ∈ tables_1 := List.mem_of_getElem? (i := 1631) rfl
set_option maxRecDepth 100000 in
theorem zVic_224 : Cond.instanceMethod (zY 261) ∈ tables_1 := List.mem_of_getElem? (i := 1639) rfl
set_option maxRecDepth 100000 in
theorem zVic_225 : Cond.instanceMethod (zY 262) ∈ tables_1 := List.mem_of_getElem? (i := 1644) rfl
set_option maxRecDepth 100000 in
theorem zVic_226 : Cond.instanceMethod (zY 263) ∈ tables_1 := List.mem_of_getElem? (i := 1648) rfl
set_option maxRecDepth 100000 in
theorem zVic_227 : Cond.instanceMethod (zY 264) ∈ tables_1 := List.mem_of_getElem? (i := 1661) rfl
set_option maxRecDepth 100000 in
theorem zVic_228 : Cond.instanceMethod (zY 265) ∈ tables_1 := List.mem_of_getElem? (i := 1657) rfl
set_option maxRecDepth 100000 in
theorem zVic_229 : Cond.instanceMethod (zY 266) ∈ tables_1 := List.mem_of_getElem? (i := 1652) rfl
set_option maxRecDepth 100000 in
theorem zVic_230 : Cond.instanceMethod (zY 267) ∈ tables_1 := List.mem_of_getElem? (i := 1664) rfl
set_option maxRecDepth 100000 in
theorem zVic_231 : Cond.instanceMethod (zY 268) ∈ tables_1 := List.mem_of_getElem? (i := 1668) rfl
set_option maxRecDepth 100000 in
theorem zVic_232 : Cond.instanceMethod (zY 269) ∈ tables_1 := List.mem_of_getElem? (i := 1672) rfl
set_option maxRecDepth 100000 in
theorem zVic_233 : Cond.instanceMethod (zY 270) ∈ tables_1 := List.mem_of_getElem? (i := 1677) rfl
set_option maxRecDepth 100000 in
theorem zVic_234 : Cond.instanceMethod (zY 271) ∈ tables_1 := List.mem_of_getElem? (i := 1681) rfl
set_option maxRecDepth 100000 in
theorem zVic_235 : Cond.instanceMethod (zY 272) ∈ tables_1 := List.mem_of_getElem? (i := 1685) rfl
set_option maxRecDepth 100000 in
theorem zVic_236 : Cond.instanceMethod (zY 273) ∈ tables_1 := List.mem_of_getElem? (i := 1689) rfl
def zVic_l0 : List (Nat) := [7, 8, 9, 10, 12, 13, 14, 15, 16, 17, 18, 20, 21, 23, 24, 26]
theorem zVic_r0 : ∀ q ∈ zVic_l0, Cond.instanceMethod (zY q) ∈ tables_1 := List.forall_mem_cons.mpr ⟨zVic_0, List.forall_mem_cons.mpr ⟨zVic_1, List.forall_mem_cons.mpr ⟨zVic_2, List.forall_mem_cons.mpr ⟨zVic_3, List.forall_mem_cons.mpr ⟨zVic_4, List.forall_mem_cons.mpr ⟨zVic_5, List.forall_mem_cons.mpr ⟨zVic_6, List.forall_mem_cons.mpr ⟨zVic_7, List.forall_mem_cons.mpr ⟨zVic_8, List.forall_mem_cons.mpr ⟨zVic_9, List.forall_mem_cons.mpr ⟨zVic_10, List.forall_mem_cons.mpr ⟨zVic_11, List.forall_mem_cons.mpr ⟨zVic_12, List.forall_mem_cons.mpr ⟨zVic_13, List.forall_mem_cons.mpr ⟨zVic_14, List.forall_mem_cons.mpr ⟨zVic_15, fun _ h => absurd h List.not_mem_nil⟩⟩⟩⟩⟩⟩⟩⟩⟩⟩⟩⟩⟩⟩⟩⟩
def zVic_l1 : List (Nat) := [27, 28, 29, 30, 31, 32, 33, 35, 36, 37, 39, 40, 41, 42, 43, 46]
theorem zVic_r1 : ∀ q ∈ zVic_l1, Cond.instanceMethod (zY q) ∈ tables_1 := List.forall_mem_cons.mpr ⟨zVic_16, List.forall_mem_cons.mpr ⟨zVic_17, List.forall_mem_cons.mpr ⟨zVic_18, List.forall_mem_cons.mpr ⟨zVic_19, List.forall_mem_cons.mpr ⟨zVic_20, List.forall_mem_cons.mpr ⟨zVic_21, List.forall_mem_cons.mpr ⟨zVic_22, List.forall_mem_cons.mpr ⟨zVic_23, List.forall_mem_cons.mpr ⟨zVic_24, List.forall_mem_cons.mpr ⟨zVic_25, List.forall_mem_cons.mpr ⟨zVic_26, List.forall_mem_cons.mpr ⟨zVic_27, List.forall_mem_cons.mpr ⟨zVic_28, List.forall_mem_cons.mpr ⟨zVic_29, List.forall_mem_cons.mpr ⟨zVic_30, List.forall_mem_cons.mpr ⟨zVic_31, fun _ h => absurd h List.not_mem_nil⟩⟩⟩⟩⟩⟩⟩⟩⟩⟩⟩⟩⟩⟩⟩⟩
def zVic_l2 : List (Nat) := [47, 48, 49, 50, 51, 52, 53, 56, 57, 59, 60, 61, 62, 63, 64, 65]
theorem zVic_r2 : ∀ q ∈ zVic_l2, Cond.instanceMethod (zY q) ∈ tables_1 := List.forall_mem_cons.mpr ⟨zVic_32, List.forall_mem_cons.mpr ⟨zVic_33, List.forall_mem_cons.mpr ⟨zVic_34, List.forall_mem_cons.mpr ⟨zVic_35, List.forall_mem_cons.mpr ⟨zVic_36, List.forall_mem_cons.mpr ⟨zVic_37, List.forall_mem_cons.mpr ⟨zVic_38, List.forall_mem_cons.mpr ⟨zVic_39, List.forall_mem_cons.mpr ⟨zVic_40, List.forall_mem_cons.mpr ⟨zVic_41, List.forall_mem_cons.mpr ⟨zVic_42, List.forall_mem_cons.mpr ⟨zVic_43, List.forall_mem_cons.mpr ⟨zVic_44, List.forall_mem_cons.mpr ⟨zVic_45, List.forall_mem_cons.mpr ⟨zVic_46, List.forall_mem_cons.mpr ⟨zVic_47, fun _ h => absurd h List.not_mem_nil⟩⟩⟩⟩⟩⟩⟩⟩⟩⟩⟩⟩⟩⟩⟩⟩
def zVic_l3 : List (Nat) := [66, 67, 68, 69, 71, 72, 73, 74, 75, 76, 77, 78, 79, 80, 82, 83]
theorem zVic_r3 : ∀ q ∈ zVic_l3, Cond.instanceMethod (zY q) ∈ tables_1 := List.forall_mem_cons.mpr ⟨zVic_48, List.forall_mem_cons.mpr ⟨zVic_49, List.forall_mem_cons.mpr ⟨zVic_50, List.forall_mem_cons.mpr ⟨zVic_51, List.forall_mem_cons.mpr ⟨zVic_52, List.forall_mem_cons.mpr ⟨zVic_53, List.forall_mem_cons.mpr ⟨zVic_54, List.forall_mem_cons.mpr ⟨zVic_55, List.forall_mem_cons.mpr ⟨zVic_56, List.forall_mem_cons.mpr ⟨zVic_57, List.forall_mem_cons.mpr ⟨zVic_58, List.forall_mem_cons.mpr ⟨zVic_59, List.forall_mem_cons.mpr ⟨zVic_60, List.forall_mem_cons.mpr ⟨zVic_61, List.forall_mem_cons.mpr ⟨zVic_62, List.forall_mem_cons.mpr ⟨zVic_63, fun _ h => absurd h List.not_mem_nil⟩⟩⟩⟩⟩⟩⟩⟩⟩⟩⟩⟩⟩⟩⟩⟩
def zVic_l4 : List (Nat) := [84, 85, 86, 87, 88, 89, 90, 91, 92, 93, 94, 95, 96, 97, 98, 99]
theorem zVic_r4 : ∀ q ∈ zVic_l4, Cond.instanceMethod (zY q) ∈ tables_1 := List.forall_mem_cons.mpr ⟨zVic_64, List.forall_mem_cons.mpr ⟨zVic_65, List.forall_mem_cons.mpr ⟨zVic_66, List.forall_mem_cons.mpr ⟨zVic_67, List.forall_mem_cons.mpr ⟨zVic_68, List.forall_mem_cons.mpr ⟨zVic_69, List.forall_mem_cons.mpr ⟨zVic_70, List.forall_mem_cons.mpr ⟨zVic_71, List.forall_mem_cons.mpr ⟨zVic_72, List.forall_mem_cons.mpr ⟨zVic_73, List.forall_mem_cons.mpr ⟨zVic_74, List.forall_mem_cons.mpr ⟨zVic_75, List.forall_mem_cons.mpr ⟨zVic_76, List.forall_mem_cons.mpr ⟨zVic_77, List.forall_mem_cons.mpr ⟨zVic_78, List.forall_mem_cons.mpr ⟨zVic_79, fun _ h => absurd h List.not_mem_nil⟩⟩⟩⟩⟩⟩⟩⟩⟩⟩⟩⟩⟩⟩⟩⟩
def zVic_l5 : List (Nat) := [100, 101, 102, 103, 104, 105, 106, 107, 108, 109, 110, 111, 112, 113, 114, 115]
theorem zVic_r5 : ∀ q ∈ zVic_l5, Cond.instanceMethod (zY q) ∈ tables_1 := List.forall_mem_cons.mpr ⟨zVic_80, List.forall_mem_cons.mpr ⟨zVic_81, List.forall_mem_cons.mpr ⟨zVic_82, List.forall_mem_cons.mpr ⟨zVic_83, List.forall_mem_cons.mpr ⟨zVic_84, List.forall_mem_cons.mpr ⟨zVic_85, List.forall_mem_cons.mpr ⟨zVic_86, List.forall_mem_cons.mpr ⟨zVic_87, List.forall_mem_cons.mpr ⟨zVic_88, List.forall_mem_cons.mpr ⟨zVic_89, List.forall_mem_cons.mpr ⟨zVic_90, List.forall_mem_cons.mpr ⟨zVic_91, List.forall_mem_cons.mpr ⟨zVic_92, List.forall_mem_cons.mpr ⟨zVic_93, List.forall_mem_cons.mpr ⟨zVic_94, List.forall_mem_cons.mpr ⟨zVic_95, fun _ h => absurd h List.not_mem_nil⟩⟩⟩⟩⟩⟩⟩⟩⟩⟩⟩⟩⟩⟩⟩⟩
def zVic_l6 : List (Nat) := [116, 117, 118, 119, 120, 121, 122, 123, 124, 125, 126, 127, 128, 129, 130, 134]
theorem zVic_r6 : ∀ q ∈ zVic_l6, Cond.instanceMethod (zY q) ∈ tables_1 := List.forall_mem_cons.mpr ⟨zVic_96, List.forall_mem_cons.mpr ⟨zVic_97, List.forall_mem_cons.mpr ⟨zVic_98, List.forall_mem_cons.mpr ⟨zVic_99, List.forall_mem_cons.mpr ⟨zVic_100, List.forall_mem_cons.mpr ⟨zVic_101, List.forall_mem_cons.mpr ⟨zVic_102, List.forall_mem_cons.mpr ⟨zVic_103, List.forall_mem_cons.mpr ⟨zVic_104, List.forall_mem_cons.mpr ⟨zVic_105, List.forall_mem_cons.mpr ⟨zVic_106, List.forall_mem_cons.mpr ⟨zVic_107, List.forall_mem_cons.mpr ⟨zVic_108, List.forall_mem_cons.mpr ⟨zVic_109, List.forall_mem_cons.mpr ⟨zVic_110, List.forall_mem_cons.mpr ⟨zVic_111, fun _ h => absurd h List.not_mem_nil⟩⟩⟩⟩⟩⟩⟩⟩⟩⟩⟩⟩⟩⟩⟩⟩
def zVic_l7 : List (Nat) := [135, 136, 137, 138, 139, 140, 141, 142, 143, 146, 147, 148, 149, 150, 153, 154]
theorem zVic_r7 : ∀ q ∈ zVic_l7, Cond.instanceMethod (zY q) ∈ tables_1 := List.forall_mem_cons.mpr ⟨zVic_112, List.forall_mem_cons.mpr ⟨zVic_113, List.forall_mem_cons.mpr ⟨zVic_114, List.forall_mem_cons.mpr ⟨zVic_115, List.forall_mem_cons.mpr ⟨zVic_116, List.forall_mem_cons.mpr ⟨zVic_117, List.forall_mem_cons.mpr ⟨zVic_118, List.forall_mem_cons.mpr ⟨zVic_119, List.forall_mem_cons.mpr ⟨zVic_120, List.forall_mem_cons.mpr ⟨zVic_121, List.forall_mem_cons.mpr ⟨zVic_122, List.forall_mem_cons.mpr ⟨zVic_123, List.forall_mem_cons.mpr ⟨zVic_124, List.forall_mem_cons.mpr ⟨zVic_125, List.forall_mem_cons.mpr ⟨zVic_126, List.forall_mem_cons.mpr ⟨zVic_127, fun _ h => absurd h List.not_mem_nil⟩⟩⟩⟩⟩⟩⟩⟩⟩⟩⟩⟩⟩⟩⟩⟩
def zVic_l8 : List (Nat) := [155, 156, 157, 158, 159, 161, 162, 163, 164, 165, 166, 167, 168, 170, 173, 174]
theorem zVic_r8 : ∀ q ∈ zVic_l8, Cond.instanceMethod (zY q) ∈ tables_1 := List.forall_mem_cons.mpr ⟨zVic_128, List.forall_mem_cons.mpr ⟨zVic_129, List.forall_mem_cons.mpr ⟨zVic_130, List.forall_mem_cons.mpr ⟨zVic_131, List.forall_mem_cons.mpr ⟨zVic_132, List.forall_mem_cons.mpr ⟨zVic_133, List.forall_mem_cons.mpr ⟨zVic_134, List.forall_mem_cons.mpr ⟨zVic_135, List.forall_mem_cons.mpr ⟨zVic_136, List.forall_mem_cons.mpr ⟨zVic_137, List.forall_mem_cons.mpr ⟨zVic_138, List.forall_mem_cons.mpr ⟨zVic_139, List.forall_mem_cons.mpr ⟨zVic_140, List.forall_mem_cons.mpr ⟨zVic_141, List.forall_mem_cons.mpr ⟨zVic_142, List.forall_mem_cons.mpr ⟨zVic_143, fun _ h => absurd h List.not_mem_nil⟩⟩⟩⟩⟩⟩⟩⟩⟩⟩⟩⟩⟩⟩⟩⟩
def zVic_l9 : List (Nat) := [175, 176, 177, 179, 180, 181, 182, 183, 184, 185, 186, 187, 188, 189, 191, 192]
theorem zVic_r9 : ∀ q ∈ zVic_l9, Cond.instanceMethod (zY q) ∈ tables_1 := List.forall_mem_cons.mpr ⟨zVic_144, List.forall_mem_cons.mpr ⟨zVic_145, List.forall_mem_cons.mpr ⟨zVic_146, List.forall_mem_cons.mpr ⟨zVic_147, List.forall_mem_cons.mpr ⟨zVic_148, List.forall_mem_cons.mpr ⟨zVic_149, List.forall_mem_cons.mpr ⟨zVic_150, List.forall_mem_cons.mpr ⟨zVic_151, List.forall_mem_cons.mpr ⟨zVic_152, List.forall_mem_cons.mpr ⟨zVic_153, List.forall_mem_cons.mpr ⟨zVic_154, List.forall_mem_cons.mpr ⟨zVic_155, List.forall_mem_cons.mpr ⟨zVic_156, List.forall_mem_cons.mpr ⟨zVic_157, List.forall_mem_cons.mpr ⟨zVic_158, List.forall_mem_cons.mpr ⟨zVic_159, fun _ h => absurd h List.not_mem_nil⟩⟩⟩⟩⟩⟩⟩⟩⟩⟩⟩⟩⟩⟩⟩⟩
def zVic_l10 : List (Nat) := [193, 194, 195, 196, 197, 198, 199, 200, 201, 202, 203, 204, 205, 206, 207, 209]
theorem zVic_r10 : ∀ q ∈ zVic_l10, Cond.instanceMethod (zY q) ∈ tables_1 := List.forall_mem_cons.mpr ⟨zVic_160, List.forall_mem_cons.mpr ⟨zVic_161, List.forall_mem_cons.mpr ⟨zVic_162, List.forall_mem_cons.mpr ⟨zVic_163, List.forall_mem_cons.mpr ⟨zVic_164, List.forall_mem_cons.mpr ⟨zVic_165, List.forall_mem_cons.mpr ⟨zVic_166, List.forall_mem_cons.mpr ⟨zVic_167, List.forall_mem_cons.mpr ⟨zVic_168, List.forall_mem_cons.mpr ⟨zVic_169, List.forall_mem_cons.mpr ⟨zVic_170, List.forall_mem_cons.mpr ⟨zVic_171, List.forall_mem_cons.mpr ⟨zVic_172, List.forall_mem_cons.mpr ⟨zVic_173, List.forall_mem_cons.mpr ⟨zVic_174, List.forall_mem_cons.mpr ⟨zVic_175, fun _ h => absurd h List.not_mem_nil⟩⟩⟩⟩⟩⟩⟩⟩⟩⟩⟩⟩⟩⟩⟩⟩
def zVic_l11 : List (Nat) := [210, 212, 213, 214, 215, 216, 217, 218, 219, 220, 221, 222, 223, 224, 225, 226]
theorem zVic_r11 : ∀ q ∈ zVic_l11, Cond.instanceMethod (zY q) ∈ tables_1 := List.forall_mem_cons.mpr ⟨zVic_176, List.forall_mem_cons.mpr ⟨zVic_177, List.forall_mem_cons.mpr ⟨zVic_178, List.forall_mem_cons.mpr ⟨zVic_179, List.forall_mem_cons.mpr ⟨zVic_180, List.forall_mem_cons.mpr ⟨zVic_181, List.forall_mem_cons.mpr ⟨zVic_182, List.forall_mem_cons.mpr ⟨zVic_183, List.forall_mem_cons.mpr ⟨zVic_184, List.forall_mem_cons.mpr ⟨zVic_185, List.forall_mem_cons.mpr ⟨zVic_186, List.forall_mem_cons.mpr ⟨zVic_187, List.forall_mem_cons.mpr ⟨zVic_188, List.forall_mem_cons.mpr ⟨zVic_189, List.forall_mem_cons.mpr ⟨zVic_190, List.forall_mem_cons.mpr ⟨zVic_191, fun _ h => absurd h List.not_mem_nil⟩⟩⟩⟩⟩⟩⟩⟩⟩⟩⟩⟩⟩⟩⟩⟩
def zVic_l12 : List (Nat) := [227, 228, 229, 230, 231, 232, 233, 234, 235, 236, 237, 238, 239, 240, 241, 242]
theorem zVic_r12 : ∀ q ∈ zVic_l12, Cond.instanceMethod (zY q) ∈ tables_1 := List.forall_mem_cons.mpr ⟨zVic_192, List.forall_mem_cons.mpr ⟨zVic_193, List.forall_mem_cons.mpr ⟨zVic_194, List.forall_mem_cons.mpr ⟨zVic_195, List.forall_mem_cons.mpr ⟨zVic_196, List.forall_mem_cons.mpr ⟨zVic_197, List.forall_mem_cons.mpr ⟨zVic_198, List.forall_mem_cons.mpr ⟨zVic_199, List.forall_mem_cons.mpr ⟨zVic_200, List.forall_mem_cons.mpr ⟨zVic_201, List.forall_mem_cons.mpr ⟨zVic_202, List.forall_mem_cons.mpr ⟨zVic_203, List.forall_mem_cons.mpr ⟨zVic_204, List.forall_mem_cons.mpr ⟨zVic_205, List.forall_mem_cons.mpr ⟨zVic_206, List.forall_mem_cons.mpr ⟨zVic_207, fun _ h => absurd h List.not_mem_nil⟩⟩⟩⟩⟩⟩⟩⟩⟩⟩⟩⟩⟩⟩⟩⟩
def zVic_l13 : List (Nat) := [243, 244, 245, 247, 248, 250, 251, 252, 253, 254, 255, 256, 257, 258, 259, 260]
theorem zVic_r13 : ∀ q ∈ zVic_l13, Cond.instanceMethod (zY q) ∈ tables_1 := List.forall_mem_cons.mpr ⟨zVic_208, List.forall_mem_cons.mpr ⟨zVic_209, List.forall_mem_cons.mpr ⟨zVic_210, List.forall_mem_cons.mpr ⟨zVic_211, List.forall_mem_cons.mpr ⟨zVic_212, List.forall_mem_cons.mpr ⟨zVic_213, List.forall_mem_cons.mpr ⟨zVic_214, List.forall_mem_cons.mpr ⟨zVic_215, List.forall_mem_cons.mpr ⟨zVic_216, List.forall_mem_cons.mpr ⟨zVic_217, List.forall_mem_cons.mpr ⟨zVic_218, List.forall_mem_cons.mpr ⟨zVic_219, List.forall_mem_cons.mpr ⟨zVic_220, List.forall_mem_cons.mpr ⟨zVic_221, List.forall_mem_cons.mpr ⟨zVic_222, List.forall_mem_cons.mpr ⟨zVic_223, fun _ h => absurd h List.not_mem_nil⟩⟩⟩⟩⟩⟩⟩⟩⟩⟩⟩⟩⟩⟩⟩⟩
def zVic_l14 : List (Nat) := [261, 262, 263, 264, 265, 266, 267, 268, 269, 270, 271, 272, 273]
theorem zVic_r14 : ∀ q ∈ zVic_l14, Cond.instanceMethod (zY q) ∈ tables_1 := List.forall_mem_cons.mpr ⟨zVic_224, List.forall_mem_cons.mpr ⟨zVic_225, List.forall_mem_cons.mpr ⟨zVic_226, List.forall_mem_cons.mpr ⟨zVic_227, List.forall_mem_cons.mpr ⟨zVic_228, List.forall_mem_cons.mpr ⟨zVic_229, List.forall_mem_cons.mpr ⟨zVic_230, List.forall_mem_cons.mpr ⟨zVic_231, List.forall_mem_cons.mpr ⟨zVic_232, List.forall_mem_cons.mpr ⟨zVic_233, List.forall_mem_cons.mpr ⟨zVic_234, List.forall_mem_cons.mpr ⟨zVic_235, List.forall_mem_cons.mpr ⟨zVic_236, fun _ h => absurd h List.not_mem_nil⟩⟩⟩⟩⟩⟩⟩⟩⟩⟩⟩⟩⟩
theorem zVic_sp : zVi = zVic_l0 ++ (zVic_l1 ++ (zVic_l2 ++ (zVic_l3 ++ (zVic_l4 ++ (zVic_l5 ++ (zVic_l6 ++ (zVic_l7 ++ (zVic_l8 ++ (zVic_l9 ++ (zVic_l10 ++ (zVic_l11 ++ (zVic_l12 ++ (zVic_l13 ++ (zVic_l14)))))))))))))) := by decide +kernel
theorem zVic_all : ∀ q ∈ zVi, Cond.instanceMethod (zY q) ∈ tables_1 := by
  rw [zVic_sp]
  exact List.forall_mem_append.mpr ⟨zVic_r0, List.forall_mem_append.mpr ⟨zVic_r1, List.forall_mem_append.mpr ⟨zVic_r2, List.forall_mem_append.mpr ⟨zVic_r3, List.forall_mem_append.mpr ⟨zVic_r4, List.forall_mem_append.mpr ⟨zVic_r5, List.forall_mem_append.mpr ⟨zVic_r6, List.forall_mem_append.mpr ⟨zVic_r7, List.forall_mem_append.mpr ⟨zVic_r8, List.forall_mem_append.mpr ⟨zVic_r9, List.forall_mem_append.mpr ⟨zVic_r10, List.forall_mem_append.mpr ⟨zVic_r11, List.forall_mem_append.mpr ⟨zVic_r12, List.forall_mem_append.mpr ⟨zVic_r13, zVic_r14⟩⟩⟩⟩⟩⟩⟩⟩⟩⟩⟩⟩⟩⟩
set_option maxRecDepth 100000 in
theorem zVis_0 : Cond.selects (zY 7).cls (zY 7) (zY 7) ∈ lw_tbl := List.mem_of_getElem? (i := 822) rfl
set_option maxRecDepth 100000 in
theorem zVis_1 : Cond.selects (zY 8).cls (zY 8) (zY 8) ∈ lw_tbl := List.mem_of_getElem? (i := 22) rfl
set_option maxRecDepth 100000 in
theorem zVis_2 : Cond.selects (zY 9).cls (zY 9) (zY 9) ∈ lw_tbl := List.mem_of_getElem? (i := 23) rfl
set_option maxRecDepth 100000 in
theorem zVis_3 : Cond.selects (zY 10).cls (zY 10) (zY 10) ∈ lw_tbl := List.mem_of_getElem? (i := 24) rfl
set_option maxRecDepth 100000 in
theorem zVis_4 : Cond.selects (zY 12).cls (zY 12) (zY 12) ∈ lw_tbl := List.mem_of_getElem? (i := 703) rfl
set_option maxRecDepth 100000 in
theorem zVis_5 : Cond.selects (zY 13).cls (zY 13) (zY 13) ∈ lw_tbl := List.mem_of_getElem? (i := 864) rfl
set_option maxRecDepth 100000 in
theorem zVis_6 : Cond.selects (zY 14).cls (zY 14) (zY 14) ∈ lw_tbl := List.mem_of_getElem? (i := 799) rfl
set_option maxRecDepth 100000 in
theorem zVis_7 : Cond.selects (zY 15).cls (zY 15) (zY 15) ∈ lw_tbl := List.mem_of_getElem? (i := 795) rfl
set_option maxRecDepth 100000 in
theorem zVis_8 : Cond.selects (zY 16).cls (zY 16) (zY 16) ∈ lw_tbl := List.mem_of_getElem? (i := 868) rfl
set_option maxRecDepth 100000 in
theorem zVis_9 : Cond.selects (zY 17).cls (zY 17) (zY 17) ∈ lw_tbl := List.mem_of_getElem? (i := 876) rfl
set_option maxRecDepth 100000 in
theorem zVis_10 : Cond.selects (zY 18).cls (zY 18) (zY 18) ∈ lw_tbl := List.mem_of_getElem? (i := 872) rfl
set_option maxRecDepth 100000 in
theorem zVis_11 : Cond.selects (zY 20).cls (zY 20) (zY 20) ∈ lw_tbl := List.mem_of_getElem? (i := 1038) rfl
set_option maxRecDepth 100000 in
theorem zVis_12 : Cond.selects (zY 21).cls (zY 21) (zY 21) ∈ lw_tbl := List.mem_of_getElem? (i := 1050) rfl
set_option maxRecDepth 100000 in
theorem zVis_13 : Cond.selects (zY 23).cls (zY 23) (zY 23) ∈ lw_tbl := List.mem_of_getElem? (i := 694) rfl
set_option maxRecDepth 100000 in
theorem zVis_14 : Cond.selects (zY 24).cls (zY 24) (zY 24) ∈ lw_tbl := List.mem_of_getElem? (i := 856) rfl
set_option maxRecDepth 100000 in
theorem zVis_15 : Cond.selects (zY 26).cls (zY 26) (zY 26) ∈ lw_tbl := List.mem_of_getElem? (i := 698) rfl
set_option maxRecDepth 100000 in
theorem zVis_16 : Cond.selects (zY 27).cls (zY 27) (zY 27) ∈ lw_tbl := List.mem_of_getElem? (i := 713) rfl
set_option maxRecDepth 100000 in
theorem zVis_17 : Cond.selects (zY 28).cls (zY 28) (zY 28) ∈ lw_tbl := List.mem_of_getElem? (i := 726) rfl
set_option maxRecDepth 100000 in
theorem zVis_18 : Cond.selects (zY 29).cls (zY 29) (zY 29) ∈ lw_tbl := List.mem_of_getElem? (i := 233) rfl
set_option maxRecDepth 100000 in
theorem zVis_19 : Cond.selects (zY 30).cls (zY 30) (zY 30) ∈ lw_tbl := List.mem_of_getElem? (i := 943) rfl
set_option maxRecDepth 100000 in
theorem zVis_20 : Cond.selects (zY 31).cls (zY 31) (zY 31) ∈ lw_tbl := List.mem_of_getElem? (i := 722) rfl
set_option maxRecDepth 100000 in
theorem zVis_21 : Cond.selects (zY 32).cls (zY 32) (zY 32) ∈ lw_tbl := List.mem_of_getElem? (i := 936) rfl
set_option maxRecDepth 100000 in
theorem zVis_22 : Cond.selects (zY 33).cls (zY 33) (zY 33) ∈ lw_tbl := List.mem_of_getElem? (i := 788) rfl
set_option maxRecDepth 100000 in
theorem zVis_23 : Cond.selects (zY 35).cls (zY 35) (zY 35) ∈ lw_tbl := List.mem_of_getElem? (i := 690) rfl
set_option maxRecDepth 100000 in
theorem zVis_24 : Cond.selects (zY 36).cls (zY 36) (zY 36) ∈ lw_tbl := List.mem_of_getElem? (i := 708) rfl
set_option maxRecDepth 100000 in
theorem zVis_25 : Cond.selects (zY 37).cls (zY 37) (zY 37) ∈ lw_tbl := List.mem_of_getElem? (i := 852) rfl
set_option maxRecDepth 100000 in
theorem zVis_26 : Cond.selects (zY 39).cls (zY 39) (zY 39) ∈ lw_tbl := List.mem_of_getElem? (i := 153) rfl
set_option maxRecDepth 100000 in
theorem zVis_27 : Cond.selects (zY 40).cls (zY 40) (zY 40) ∈ lw_tbl := List.mem_of_getElem? (i := 606) rfl
set_option maxRecDepth 100000 in
theorem zVis_28 : Cond.selects (zY 41).cls (zY 41) (zY 41) ∈ lw_tbl := List.mem_of_getElem? (i := 554) rfl
set_option maxRecDepth 100000 in
theorem zVis_29 : Cond.selects (zY 42).cls (zY 42) (zY 42) ∈ lw_tbl := List.mem_of_getElem? (i := 751) rfl
set_option maxRecDepth 100000 in
theorem zVis_30 : Cond.selects (zY 43).cls (zY 43) (zY 43) ∈ lw_tbl := List.mem_of_getElem? (i := 755) rfl
set_option maxRecDepth 100000 in
theorem zVis_31 : Cond.selects (zY 46).cls (zY 46) (zY 46) ∈ lw_tbl := List.mem_of_getElem? (i := 563) rfl
set_option maxRecDepth 100000 in
theorem zVis_32 : Cond.selects (zY 47).cls (zY 47) (zY 47) ∈ lw_tbl := List.mem_of_getElem? (i := 10) rfl
set_option maxRecDepth 100000 in
theorem zVis_33 : Cond.selects (zY 48).cls (zY 48) (zY 48) ∈ lw_tbl := List.mem_of_getElem? (i := 4) rfl
set_option maxRecDepth 100000 in
theorem zVis_34 : Cond.selects (zY 49).cls (zY 49) (zY 49) ∈ lw_tbl := List.mem_of_getElem? (i := 5) rfl
set_option maxRecDepth 100000 in
theorem zVis_35 : Cond.selects (zY 50).cls (zY 50) (zY 50) ∈ lw_tbl := List.mem_of_getElem? (i := 6) rfl
set_option maxRecDepth 100000 in
theorem zVis_36 : Cond.selects (zY 51).cls (zY 51) (zY 51) ∈ lw_tbl := List.mem_of_getElem? (i := 7) rfl
set_option maxRecDepth 100000 in
theorem zVis_37 : Cond.selects (zY 52).cls (zY 52) (zY 52) ∈ lw_tbl := List.mem_of_getElem? (i := 8) rfl
set_option maxRecDepth 100000 in
theorem zVis_38 : Cond.selects (zY 53).cls (zY 53) (zY 53) ∈ lw_tbl := List.mem_of_getElem? (i := 9) rfl
set_option maxRecDepth 100000 in
theorem zVis_39 : Cond.selects (zY 56).cls (zY 56) (zY 56) ∈ lw_tbl := List.mem_of_getElem? (i := 1066) rfl
set_option maxRecDepth 100000 in
theorem zVis_40 : Cond.selects (zY 57).cls (zY 57) (zY 57) ∈ lw_tbl := List.mem_of_getElem? (i := 1082) rfl
set_option maxRecDepth 100000 in
theorem zVis_41 : Cond.selects (zY 59).cls (zY 59) (zY 59) ∈ lw_tbl := List.mem_of_getElem? (i := 484) rfl
set_option maxRecDepth 100000 in
theorem zVis_42 : Cond.selects (zY 60).cls (zY 60) (zY 60) ∈ lw_tbl := List.mem_of_getElem? (i := 496) rfl
set_option maxRecDepth 100000 in
theorem zVis_43 : Cond.selects (zY 61).cls (zY 61) (zY 61) ∈ lw_tbl := List.mem_of_getElem? (i := 507) rfl
set_option maxRecDepth 100000 in
theorem zVis_44 : Cond.selects (zY 62).cls (zY 62) (zY 62) ∈ lw_tbl := List.mem_of_getElem? (i := 542) rfl
set_option maxRecDepth 100000 in
theorem zVis_45 : Cond.selects (zY 63).cls (zY 63) (zY 63) ∈ lw_tbl := List.mem_of_getElem? (i := 546) rfl
set_option maxRecDepth 100000 in
theorem zVis_46 : Cond.selects (zY 64).cls (zY 64) (zY 64) ∈ lw_tbl := List.mem_of_getElem? (i := 523) rfl
set_option maxRecDepth 100000 in
theorem zVis_47 : Cond.selects (zY 65).cls (zY 65) (zY 65) ∈ lw_tbl := List.mem_of_getElem? (i := 589) rfl
set_option maxRecDepth 100000 in
theorem zVis_48 : Cond.selects (zY 66).cls (zY 66) (zY 66) ∈ lw_tbl := List.mem_of_getElem? (i := 527) rfl
set_option maxRecDepth 100000 in
theorem zVis_49 : Cond.selects (zY 67).cls (zY 67) (zY 67) ∈ lw_tbl := List.mem_of_getElem? (i := 515) rfl
set_option maxRecDepth 100000 in
theorem zVis_50 : Cond.selects (zY 68).cls (zY 68) (zY 68) ∈ lw_tbl := List.mem_of_getElem? (i := 535) rfl
set_option maxRecDepth 100000 in
theorem zVis_51 : Cond.selects (zY 69).cls (zY 69) (zY 69) ∈ lw_tbl := List.mem_of_getElem? (i := 2) rfl
set_option maxRecDepth 100000 in
theorem zVis_52 : Cond.selects (zY 71).cls (zY 71) (zY 71) ∈ lw_tbl := List.mem_of_getElem? (i := 735) rfl
set_option maxRecDepth 100000 in
theorem zVis_53 : Cond.selects (zY 72).cls (zY 72) (zY 72) ∈ lw_tbl := List.mem_of_getElem? (i := 646) rfl
set_option maxRecDepth 100000 in
theorem zVis_54 : Cond.selects (zY 73).cls (zY 73) (zY 73) ∈ lw_tbl := List.mem_of_getElem? (i := 681) rfl
set_option maxRecDepth 100000 in
theorem zVis_55 : Cond.selects (zY 74).cls (zY 74) (zY 74) ∈ lw_tbl := List.mem_of_getElem? (i := 658) rfl
set_option maxRecDepth 100000 in
theorem zVis_56 : Cond.selects (zY 75).cls (zY 75) (zY 75) ∈ lw_tbl := List.mem_of_getElem? (i := 651) rfl
set_option maxRecDepth 100000 in
theorem zVis_57 : Cond.selects (zY 76).cls (zY 76) (zY 76) ∈ lw_tbl := List.mem_of_getElem? (i := 763) rfl
set_option maxRecDepth 100000 in
theorem zVis_58 : Cond.selects (zY 77).cls (zY 77) (zY 77) ∈ lw_tbl := List.mem_of_getElem? (i := 779) rfl
set_option maxRecDepth 100000 in
theorem zVis_59 : Cond.selects (zY 78).cls (zY 78) (zY 78) ∈ lw_tbl := List.mem_of_getElem? (i := 19) rfl
set_option maxRecDepth 100000 in
theorem zVis_60 : Cond.selects (zY 79).cls (zY 79) (zY 79) ∈ lw_tbl := List.mem_of_getElem? (i := 741) rfl
set_option maxRecDepth 100000 in
theorem zVis_61 : Cond.selects (zY 80).cls (zY 80) (zY 80) ∈ lw_tbl := List.mem_of_getElem? (i := 16) rfl
set_option maxRecDepth 100000 in
theorem zVis_62 : Cond.selects (zY 82).cls (zY 82) (zY 82) ∈ lw_tbl := List.mem_of_getElem? (i := 480) rfl
set_option maxRecDepth 100000 in
theorem zVis_63 : Cond.selects (zY 83).cls (zY 83) (zY 83) ∈ lw_tbl := List.mem_of_getElem? (i := 488) rfl
set_option maxRecDepth 100000 in
theorem zVis_64 : Cond.selects (zY 84).cls (zY 84) (zY 84) ∈ lw_tbl := List.mem_of_getElem? (i := 492) rfl
set_option maxRecDepth 100000 in
theorem zVis_65 : Cond.selects (zY 85).cls (zY 85) (zY 85) ∈ lw_tbl := List.mem_of_getElem? (i := 550) rfl
set_option maxRecDepth 100000 in
theorem zVis_66 : Cond.selects (zY 86).cls (zY 86) (zY 86) ∈ lw_tbl := List.mem_of_getElem? (i := 559) rfl
set_option maxRecDepth 100000 in
theorem zVis_67 : Cond.selects (zY 87).cls (zY 87) (zY 87) ∈ lw_tbl := List.mem_of_getElem? (i := 1120) rfl
set_option maxRecDepth 100000 in
theorem zVis_68 : Cond.selects (zY 88).cls (zY 88) (zY 88) ∈ lw_tbl := List.mem_of_getElem? (i := 613) rfl
set_option maxRecDepth 100000 in
theorem zVis_69 : Cond.selects (zY 89).cls (zY 89) (zY 89) ∈ lw_tbl := List.mem_of_getElem? (i := 627) rfl
set_option maxRecDepth 100000 in
theorem zVis_70 : Cond.selects (zY 90).cls (zY 90) (zY 90) ∈ lw_tbl := List.mem_of_getElem? (i := 642) rfl
set_option maxRecDepth 100000 in
theorem zVis_71 : Cond.selects (zY 91).cls (zY 91) (zY 91) ∈ lw_tbl := List.mem_of_getElem? (i := 669) rfl
set_option maxRecDepth 100000 in
theorem zVis_72 : Cond.selects (zY 92).cls (zY 92) (zY 92) ∈ lw_tbl := List.mem_of_getElem? (i := 718) rfl
set_option maxRecDepth 100000 in
theorem zVis_73 : Cond.selects (zY 93).cls (zY 93) (zY 93) ∈ lw_tbl := List.mem_of_getElem? (i := 731) rfl
set_option maxRecDepth 100000 in
theorem zVis_74 : Cond.selects (zY 94).cls (zY 94) (zY 94) ∈ lw_tbl := List.mem_of_getElem? (i := 771) rfl
set_option maxRecDepth 100000 in
theorem zVis_75 : Cond.selects (zY 95).cls (zY 95) (zY 95) ∈ lw_tbl := List.mem_of_getElem? (i := 814) rfl
set_option maxRecDepth 100000 in
theorem zVis_76 : Cond.selects (zY 96).cls (zY 96) (zY 96) ∈ lw_tbl := List.mem_of_getElem? (i := 818) rfl
set_option maxRecDepth 100000 in
theorem zVis_77 : Cond.selects (zY 97).cls (zY 97) (zY 97) ∈ lw_tbl := List.mem_of_getElem? (i := 848) rfl
set_option maxRecDepth 100000 in
theorem zVis_78 : Cond.selects (zY 98).cls (zY 98) (zY 98) ∈ lw_tbl := List.mem_of_getElem? (i := 1193) rfl
set_option maxRecDepth 100000 in
theorem zVis_79 : Cond.selects (zY 99).cls (zY 99) (zY 99) ∈ lw_tbl := List.mem_of_getElem? (i := 860) rfl
set_option maxRecDepth 100000 in
theorem zVis_80 : Cond.selects (zY 100).cls (zY 100) (zY 100) ∈ lw_tbl := List.mem_of_getElem? (i := 880) rfl
set_option maxRecDepth 100000 in
theorem zVis_81 : Cond.selects (zY 101).cls (zY 101) (zY 101) ∈ lw_tbl := List.mem_of_getElem? (i := 891) rfl
set_option maxRecDepth 100000 in
theorem zVis_82 : Cond.selects (zY 102).cls (zY 102) (zY 102) ∈ lw_tbl := List.mem_of_getElem? (i := 900) rfl
set_option maxRecDepth 100000 in
theorem zVis_83 : Cond.selects (zY 103).cls (zY 103) (zY 103) ∈ lw_tbl := List.mem_of_getElem? (i := 908) rfl
set_option maxRecDepth 100000 in
theorem zVis_84 : Cond.selects (zY 104).cls (zY 104) (zY 104) ∈ lw_tbl := List.mem_of_getElem? (i := 916) rfl
set_option maxRecDepth 100000 in
theorem zVis_85 : Cond.selects (zY 105).cls (zY 105) (zY 105) ∈ lw_tbl := List.mem_of_getElem? (i := 928) rfl
set_option maxRecDepth 100000 in
theorem zVis_86 : Cond.selects (zY 106).cls (zY 106) (zY 106) ∈ lw_tbl := List.mem_of_getElem? (i := 947) rfl
set_option maxRecDepth 100000 in
theorem zVis_87 : Cond.selects (zY 107).cls (zY 107) (zY 107) ∈ lw_tbl := List.mem_of_getElem? (i := 951) rfl
set_option maxRecDepth 100000 in
theorem zVis_88 : Cond.selects (zY 108).cls (zY 108) (zY 108) ∈ lw_tbl := List.mem_of_getElem? (i := 958) rfl
set_option maxRecDepth 100000 in
theorem zVis_89 : Cond.selects (zY 109).cls (zY 109) (zY 109) ∈ lw_tbl := List.mem_of_getElem? (i := 962) rfl
set_option maxRecDepth 100000 in
theorem zVis_90 : Cond.selects (zY 110).cls (zY 110) (zY 110) ∈ lw_tbl := List.mem_of_getElem? (i := 979) rfl
set_option maxRecDepth 100000 in
theorem zVis_91 : Cond.selects (zY 111).cls (zY 111) (zY 111) ∈ lw_tbl := List.mem_of_getElem? (i := 983) rfl
set_option maxRecDepth 100000 in
theorem zVis_92 : Cond.selects (zY 112).cls (zY 112) (zY 112) ∈ lw_tbl := List.mem_of_getElem? (i := 995) rfl
set_option maxRecDepth 100000 in
theorem zVis_93 : Cond.selects (zY 113).cls (zY 113) (zY 113) ∈ lw_tbl := List.mem_of_getElem? (i := 1002) rfl
set_option maxRecDepth 100000 in
theorem zVis_94 : Cond.selects (zY 114).cls (zY 114) (zY 114) ∈ lw_tbl := List.mem_of_getElem? (i := 1006) rfl
set_option maxRecDepth 100000 in
theorem zVis_95 : Cond.selects (zY 115).cls (zY 115) (zY 115) ∈ lw_tbl := List.mem_of_getElem? (i := 1010) rfl
set_option maxRecDepth 100000 in
theorem zVis_96 : Cond.selects (zY 116).cls (zY 116) (zY 116) ∈ lw_tbl := List.mem_of_getElem? (i := 1018) rfl
set_option maxRecDepth 100000 in
theorem zVis_97 : Cond.selects (zY 117).cls (zY 117) (zY 117) ∈ lw_tbl := List.mem_of_getElem? (i := 1034) rfl
set_option maxRecDepth 100000 in
theorem zVis_98 : Cond.selects (zY 118).cls (zY 118) (zY 118) ∈ lw_tbl := List.mem_of_getElem? (i := 1042) rfl
set_option maxRecDepth 100000 in
theorem zVis_99 : Cond.selects (zY 119).cls (zY 119) (zY 119) ∈ lw_tbl := List.mem_of_getElem? (i := 1046) rfl
set_option maxRecDepth 100000 in
theorem zVis_100 : Cond.selects (zY 120).cls (zY 120) (zY 120) ∈ lw_tbl := List.mem_of_getElem? (i := 1054) rfl
set_option maxRecDepth 100000 in
theorem zVis_101 : Cond.selects (zY 121).cls (zY 121) (zY 121) ∈ lw_tbl := List.mem_of_getElem? (i := 1062) rfl
set_option maxRecDepth 100000 in
theorem zVis_102 : Cond.selects (zY 122).cls (zY 122) (zY 122) ∈ lw_tbl := List.mem_of_getElem? (i := 1070) rfl
set_option maxRecDepth 100000 in
theorem zVis_103 : Cond.selects (zY 123).cls (zY 123) (zY 123) ∈ lw_tbl := List.mem_of_getElem? (i := 1074) rfl
set_option maxRecDepth 100000 in
theorem zVis_104 : Cond.selects (zY 124).cls (zY 124) (zY 124) ∈ lw_tbl := List.mem_of_getElem? (i := 1089) rfl
set_option maxRecDepth 100000 in
theorem zVis_105 : Cond.selects (zY 125).cls (zY 125) (zY 125) ∈ lw_tbl := List.mem_of_getElem? (i := 1093) rfl
set_option maxRecDepth 100000 in
theorem zVis_106 : Cond.selects (zY 126).cls (zY 126) (zY 126) ∈ lw_tbl := List.mem_of_getElem? (i := 1097) rfl
set_option maxRecDepth 100000 in
theorem zVis_107 : Cond.selects (zY 127).cls (zY 127) (zY 127) ∈ lw_tbl := List.mem_of_getElem? (i := 1102) rfl
set_option maxRecDepth 100000 in
theorem zVis_108 : Cond.selects (zY 128).cls (zY 128) (zY 128) ∈ lw_tbl := List.mem_of_getElem? (i := 1107) rfl
set_option maxRecDepth 100000 in
theorem zVis_109 : Cond.selects (zY 129).cls (zY 129) (zY 129) ∈ lw_tbl := List.mem_of_getElem? (i := 1112) rfl
set_option maxRecDepth 100000 in
theorem zVis_110 : Cond.selects (zY 130).cls (zY 130) (zY 130) ∈ lw_tbl := List.mem_of_getElem? (i := 1202) rfl
set_option maxRecDepth 100000 in
theorem zVis_111 : Cond.selects (zY 134).cls (zY 134) (zY 134) ∈ lw_tbl := List.mem_of_getElem? (i := 11) rfl
set_option maxRecDepth 100000 in
theorem zVis_112 : Cond.selects (zY 135).cls (zY 135) (zY 135) ∈ lw_tbl := List.mem_of_getElem? (i := 14) rfl
set_option maxRecDepth 100000 in
theorem zVis_113 : Cond.selects (zY 136).cls (zY 136) (zY 136) ∈ lw_tbl := List.mem_of_getElem? (i := 13) rfl
set_option maxRecDepth 100000 in
theorem zVis_114 : Cond.selects (zY 137).cls (zY 137) (zY 137) ∈ lw_tbl := List.mem_of_getElem? (i := 15) rfl
set_option maxRecDepth 100000 in
theorem zVis_115 : Cond.selects (zY 138).cls (zY 138) (zY 138) ∈ lw_tbl := List.mem_of_getElem? (i := 17) rfl
set_option maxRecDepth 100000 in
theorem zVis_116 : Cond.selects (zY 139).cls (zY 139) (zY 139) ∈ lw_tbl := List.mem_of_getElem? (i := 21) rfl
set_option maxRecDepth 100000 in
theorem zVis_117 : Cond.selects (zY 140).cls (zY 140) (zY 140) ∈ lw_tbl := List.mem_of_getElem? (i := 40) rfl
set_option maxRecDepth 100000 in
theorem zVis_118 : Cond.selects (zY 141).cls (zY 141) (zY 141) ∈ lw_tbl := List.mem_of_getElem? (i := 0) rfl
set_option maxRecDepth 100000 in
theorem zVis_119 : Cond.selects (zY 142).cls (zY 142) (zY 142) ∈ lw_tbl := List.mem_of_getElem? (i := 1) rfl
set_option maxRecDepth 100000 in
theorem zVis_120 : Cond.selects (zY 143).cls (zY 143) (zY 143) ∈ lw_tbl := List.mem_of_getElem? (i := 3) rfl
set_option maxRecDepth 100000 in
theorem zVis_121 : Cond.selects (zY 146).cls (zY 146) (zY 146) ∈ lw_tbl := List.mem_of_getElem? (i := 12) rfl
set_option maxRecDepth 100000 in
theorem zVis_122 : Cond.selects (zY 147).cls (zY 147) (zY 147) ∈ lw_tbl := List.mem_of_getElem? (i := 20) rfl
set_option maxRecDepth 100000 in
theorem zVis_123 : Cond.selects (zY 148).cls (zY 148) (zY 148) ∈ lw_tbl := List.mem_of_getElem? (i := 18) rfl
set_option maxRecDepth 100000 in
theorem zVis_124 : Cond.selects (zY 149).cls (zY 149) (zY 149) ∈ lw_tbl := List.mem_of_getElem? (i := 25) rfl
set_option maxRecDepth 100000 in
theorem zVis_125 : Cond.selects (zY 150).cls (zY 150) (zY 150) ∈ lw_tbl := List.mem_of_getElem? (i := 26) rfl
set_option maxRecDepth 100000 in
theorem zVis_126 : Cond.selects (zY 153).cls (zY 153) (zY 153) ∈ lw_tbl := List.mem_of_getElem? (i := 36) rfl
set_option maxRecDepth 100000 in
theorem zVis_127 : Cond.selects (zY 154).cls (zY 154) (zY 154) ∈ lw_tbl := List.mem_of_getElem? (i := 27) rfl
set_option maxRecDepth 100000 in
theorem zVis_128 : Cond.selects (zY 155).cls (zY 155) (zY 155) ∈ lw_tbl := List.mem_of_getElem? (i := 28) rfl
set_option maxRecDepth 100000 in
theorem zVis_129 : Cond.selects (zY 156).cls (zY 156) (zY 156) ∈ lw_tbl := List.mem_of_getElem? (i := 30) rfl
set_option maxRecDepth 100000 in
theorem zVis_130 : Cond.selects (zY 157).cls (zY 157) (zY 157) ∈ lw_tbl := List.mem_of_getElem? (i := 31) rfl
set_option maxRecDepth 100000 in
theorem zVis_131 : Cond.selects (zY 158).cls (zY 158) (zY 158) ∈ lw_tbl := List.mem_of_getElem? (i := 29) rfl
set_option maxRecDepth 100000 in
theorem zVis_132 : Cond.selects (zY 159).cls (zY 159) (zY 159) ∈ lw_tbl := List.mem_of_getElem? (i := 32) rfl
set_option maxRecDepth 100000 in
theorem zVis_133 : Cond.selects (zY 161).cls (zY 161) (zY 161) ∈ lw_tbl := List.mem_of_getElem? (i := 33) rfl
set_option maxRecDepth 100000 in
theorem zVis_134 : Cond.selects (zY 162).cls (zY 162) (zY 162) ∈ lw_tbl := List.mem_of_getElem? (i := 34) rfl
set_option maxRecDepth 100000 in
theorem zVis_135 : Cond.selects (zY 163).cls (zY 163) (zY 163) ∈ lw_tbl := List.mem_of_getElem? (i := 35) rfl
set_option maxRecDepth 100000 in
theorem zVis_136 : Cond.selects (zY 164).cls (zY 164) (zY 164) ∈ lw_tbl := List.mem_of_getElem? (i := 37) rfl
set_option maxRecDepth 100000 in
theorem zVis_137 : Cond.selects (zY 165).cls (zY 165) (zY 165) ∈ lw_tbl := List.mem_of_getElem? (i := 39) rfl
set_option maxRecDepth 100000 in
theorem zVis_138 : Cond.selects (zY 166).cls (zY 166) (zY 166) ∈ lw_tbl := List.mem_of_getElem? (i := 38) rfl
set_option maxRecDepth 100000 in
theorem zVis_139 : Cond.selects (zY 167).cls (zY 167) (zY 167) ∈ lw_tbl := List.mem_of_getElem? (i := 41) rfl
set_option maxRecDepth 100000 in
theorem zVis_140 : Cond.selects (zY 168).cls (zY 168) (zY 168) ∈ lw_tbl := List.mem_of_getElem? (i := 42) rfl
set_option maxRecDepth 100000 in
theorem zVis_141 : Cond.selects (zY 170).cls (zY 170) (zY 170) ∈ lw_tbl := List.mem_of_getElem? (i := 1368) rfl
set_option maxRecDepth 100000 in
theorem zVis_142 : Cond.selects (zY 173).cls (zY 173) (zY 173) ∈ lw_tbl := List.mem_of_getElem? (i := 59) rfl
set_option maxRecDepth 100000 in
theorem zVis_143 : Cond.selects (zY 174).cls (zY 174) (zY 174) ∈ lw_tbl := List.mem_of_getElem? (i := 67) rfl
set_option maxRecDepth 100000 in
theorem zVis_144 : Cond.selects (zY 175).cls (zY 175) (zY 175) ∈ lw_tbl := List.mem_of_getElem? (i := 58) rfl
set_option maxRecDepth 100000 in
theorem zVis_145 : Cond.selects (zY 176).cls (zY 176) (zY 176) ∈ lw_tbl := List.mem_of_getElem? (i := 61) rfl
set_option maxRecDepth 100000 in
theorem zVis_146 : Cond.selects (zY 177).cls (zY 177) (zY 177) ∈ lw_tbl := List.mem_of_getElem? (i := 60) rfl
set_option maxRecDepth 100000 in
theorem zVis_147 : Cond.selects (zY 179).cls (zY 179) (zY 179) ∈ lw_tbl := List.mem_of_getElem? (i := 1372) rfl
set_option maxRecDepth 100000 in
theorem zVis_148 : Cond.selects (zY 180).cls (zY 180) (zY 180) ∈ lw_tbl := List.mem_of_getElem? (i := 1376) rfl
set_option maxRecDepth 100000 in
theorem zVis_149 : Cond.selects (zY 181).cls (zY 181) (zY 181) ∈ lw_tbl := List.mem_of_getElem? (i := 44) rfl
set_option maxRecDepth 100000 in
theorem zVis_150 : Cond.selects (zY 182).cls (zY 182) (zY 182) ∈ lw_tbl := List.mem_of_getElem? (i := 49) rfl
set_option maxRecDepth 100000 in
theorem zVis_151 : Cond.selects (zY 183).cls (zY 183) (zY 183) ∈ lw_tbl := List.mem_of_getElem? (i := 45) rfl
set_option maxRecDepth 100000 in
theorem zVis_152 : Cond.selects (zY 184).cls (zY 184) (zY 184) ∈ lw_tbl := List.mem_of_getElem? (i := 46) rfl
set_option maxRecDepth 100000 in
theorem zVis_153 : Cond.selects (zY 185).cls (zY 185) (zY 185) ∈ lw_tbl := List.mem_of_getElem? (i := 51) rfl
set_option maxRecDepth 100000 in
theorem zVis_154 : Cond.selects (zY 186).cls (zY 186) (zY 186) ∈ lw_tbl := List.mem_of_getElem? (i := 50) rfl
set_option maxRecDepth 100000 in
theorem zVis_155 : Cond.selects (zY 187).cls (zY 187) (zY 187) ∈ lw_tbl := List.mem_of_getElem? (i := 48) rfl
set_option maxRecDepth 100000 in
theorem zVis_156 : Cond.selects (zY 188).cls (zY 188) (zY 188) ∈ lw_tbl := List.mem_of_getElem? (i := 52) rfl
set_option maxRecDepth 100000 in
theorem zVis_157 : Cond.selects (zY 189).cls (zY 189) (zY 189) ∈ lw_tbl := List.mem_of_getElem? (i := 1383) rfl
set_option maxRecDepth 100000 in
theorem zVis_158 : Cond.selects (zY 191).cls (zY 191) (zY 191) ∈ lw_tbl := List.mem_of_getElem? (i := 47) rfl
set_option maxRecDepth 100000 in
theorem zVis_159 : Cond.selects (zY 192).cls (zY 192) (zY 192) ∈ lw_tbl := List.mem_of_getElem? (i := 1426) rfl
set_option maxRecDepth 100000 in
theorem zVis_160 : Cond.selects (zY 193).cls (zY 193) (zY 193) ∈ lw_tbl := List.mem_of_getElem? (i := 53) rfl
set_option maxRecDepth 100000 in
theorem zVis_161 : Cond.selects (zY 194).cls (zY 194) (zY 194) ∈ lw_tbl := List.mem_of_getElem? (i := 54) rfl
set_option maxRecDepth 100000 in
theorem zVis_162 : Cond.selects (zY 195).cls (zY 195) (zY 195) ∈ lw_tbl := List.mem_of_getElem? (i := 55) rfl
set_option maxRecDepth 100000 in
theorem zVis_163 : Cond.selects (zY 196).cls (zY 196) (zY 196) ∈ lw_tbl := List.mem_of_getElem? (i := 56) rfl
set_option maxRecDepth 100000 in
theorem zVis_164 : Cond.selects (zY 197).cls (zY 197) (zY 197) ∈ lw_tbl := List.mem_of_getElem? (i := 57) rfl
set_option maxRecDepth 100000 in
theorem zVis_165 : Cond.selects (zY 198).cls (zY 198) (zY 198) ∈ lw_tbl := List.mem_of_getElem? (i := 1430) rfl
set_option maxRecDepth 100000 in
theorem zVis_166 : Cond.selects (zY 199).cls (zY 199) (zY 199) ∈ lw_tbl := List.mem_of_getElem? (i := 66) rfl
set_option maxRecDepth 100000 in
theorem zVis_167 : Cond.selects (zY 200).cls (zY 200) (zY 200) ∈ lw_tbl := List.mem_of_getElem? (i := 1454) rfl
set_option maxRecDepth 100000 in
theorem zVis_168 : Cond.selects (zY 201).cls (zY 201) (zY 201) ∈ lw_tbl := List.mem_of_getElem? (i := 1474) rfl
set_option maxRecDepth 100000 in
theorem zVis_169 : Cond.selects (zY 202).cls (zY 202) (zY 202) ∈ lw_tbl := List.mem_of_getElem? (i := 1478) rfl
set_option maxRecDepth 100000 in
theorem zVis_170 : Cond.selects (zY 203).cls (zY 203) (zY 203) ∈ lw_tbl := List.mem_of_getElem? (i := 62) rfl
set_option maxRecDepth 100000 in
theorem zVis_171 : Cond.selects (zY 204).cls (zY 204) (zY 204) ∈ lw_tbl := List.mem_of_getElem? (i := 1484) rfl
set_option maxRecDepth 100000 in
theorem zVis_172 : Cond.selects (zY 205).cls (zY 205) (zY 205) ∈ lw_tbl := List.mem_of_getElem? (i := 68) rfl
set_option maxRecDepth 100000 in
theorem zVis_173 : Cond.selects (zY 206).cls (zY 206) (zY 206) ∈ lw_tbl := List.mem_of_getElem? (i := 69) rfl
set_option maxRecDepth 100000 in
theorem zVis_174 : Cond.selects (zY 207).cls (zY 207) (zY 207) ∈ lw_tbl := List.mem_of_getElem? (i := 70) rfl
set_option maxRecDepth 100000 in
theorem zVis_175 : Cond.selects (zY 209).cls (zY 209) (zY 209) ∈ lw_tbl := List.mem_of_getElem? (i := 64) rfl
set_option maxRecDepth 100000 in
theorem zVis_176 : Cond.selects (zY 210).cls (zY 210) (zY 210) ∈ lw_tbl := List.mem_of_getElem? (i := 63) rfl
set_option maxRecDepth 100000 in
theorem zVis_177 : Cond.selects (zY 212).cls (zY 212) (zY 212) ∈ lw_tbl := List.mem_of_getElem? (i := 1496) rfl
set_option maxRecDepth 100000 in
theorem zVis_178 : Cond.selects (zY 213).cls (zY 213) (zY 213) ∈ lw_tbl := List.mem_of_getElem? (i := 65) rfl
set_option maxRecDepth 100000 in
theorem zVis_179 : Cond.selects (zY 214).cls (zY 214) (zY 214) ∈ lw_tbl := List.mem_of_getElem? (i := 1514) rfl
set_option maxRecDepth 100000 in
theorem zVis_180 : Cond.selects (zY 215).cls (zY 215) (zY 215) ∈ lw_tbl := List.mem_of_getElem? (i := 1522) rfl
set_option maxRecDepth 100000 in
theorem zVis_181 : Cond.selects (zY 216).cls (zY 216) (zY 216) ∈ lw_tbl := List.mem_of_getElem? (i := 71) rfl
set_option maxRecDepth 100000 in
theorem zVis_182 : Cond.selects (zY 217).cls (zY 217) (zY 217) ∈ lw_tbl := List.mem_of_getElem? (i := 1534) rfl
set_option maxRecDepth 100000 in
theorem zVis_183 : Cond.selects (zY 218).cls (zY 218) (zY 218) ∈ lw_tbl := List.mem_of_getElem? (i := 1554) rfl
set_option maxRecDepth 100000 in
theorem zVis_184 : Cond.selects (zY 219).cls (zY 219) (zY 219) ∈ lw_tbl := List.mem_of_getElem? (i := 1558) rfl
set_option maxRecDepth 100000 in
theorem zVis_185 : Cond.selects (zY 220).cls (zY 220) (zY 220) ∈ lw_tbl := List.mem_of_getElem? (i := 72) rfl
set_option maxRecDepth 100000 in
theorem zVis_186 : Cond.selects (zY 221).cls (zY 221) (zY 221) ∈ lw_tbl := List.mem_of_getElem? (i := 73) rfl
set_option maxRecDepth 100000 in
theorem zVis_187 : Cond.selects (zY 222).cls (zY 222) (zY 222) ∈ lw_tbl := List.mem_of_getElem? (i := 1570) rfl
set_option maxRecDepth 100000 in
theorem zVis_188 : Cond.selects (zY 223).cls (zY 223) (zY 223) ∈ lw_tbl := List.mem_of_getElem? (i := 74) rfl
set_option maxRecDepth 100000 in
theorem zVis_189 : Cond.selects (zY 224).cls (zY 224) (zY 224) ∈ lw_tbl := List.mem_of_getElem? (i := 75) rfl
set_option maxRecDepth 100000 in
theorem zVis_190 : Cond.selects (zY 225).cls (zY 225) (zY 225) ∈ lw_tbl := List.mem_of_getElem? (i := 1574) rfl
set_option maxRecDepth 100000 in
theorem zVis_191 : Cond.selects (zY 226).cls (zY 226) (zY 226) ∈ lw_tbl := List.mem_of_getElem? (i := 1586) rfl
set_option maxRecDepth 100000 in
theorem zVis_192 : Cond.selects (zY 227).cls (zY 227) (zY 227) ∈ lw_tbl := List.mem_of_getElem? (i := 76) rfl
set_option maxRecDepth 100000 in
theorem zVis_193 : Cond.selects (zY 228).cls (zY 228) (zY 228) ∈ lw_tbl := List.mem_of_getElem? (i := 77) rfl
set_option maxRecDepth 100000 in
theorem zVis_194 : Cond.selects (zY 229).cls (zY 229) (zY 229) ∈ lw_tbl := List.mem_of_getElem? (i := 1590) rfl
set_option maxRecDepth 100000 in
theorem zVis_195 : Cond.selects (zY 230).cls (zY 230) (zY 230) ∈ lw_tbl := List.mem_of_getElem? (i := 78) rfl
set_option maxRecDepth 100000 in
theorem zVis_196 : Cond.selects (zY 231).cls (zY 231) (zY 231) ∈ lw_tbl := List.mem_of_getElem? (i := 1602) rfl
set_option maxRecDepth 100000 in
theorem zVis_197 : Cond.selects (zY 232).cls (zY 232) (zY 232) ∈ lw_tbl := List.mem_of_getElem? (i := 1610) rfl
set_option maxRecDepth 100000 in
theorem zVis_198 : Cond.selects (zY 233).cls (zY 233) (zY 233) ∈ lw_tbl := List.mem_of_getElem? (i := 1614) rfl
set_option maxRecDepth 100000 in
theorem zVis_199 : Cond.selects (zY 234).cls (zY 234) (zY 234) ∈ lw_tbl := List.mem_of_getElem? (i := 79) rfl
set_option maxRecDepth 100000 in
theorem zVis_200 : Cond.selects (zY 235).cls (zY 235) (zY 235) ∈ lw_tbl := List.mem_of_getElem? (i := 1618) rfl
set_option maxRecDepth 100000 in
theorem zVis_201 : Cond.selects (zY 236).cls (zY 236) (zY 236) ∈ lw_tbl := List.mem_of_getElem? (i := 81) rfl
set_option maxRecDepth 100000 in
theorem zVis_202 : Cond.selects (zY 237).cls (zY 237) (zY 237) ∈ lw_tbl := List.mem_of_getElem? (i := 80) rfl
set_option maxRecDepth 100000 in
theorem zVis_203 : Cond.selects (zY 238).cls (zY 238) (zY 238) ∈ lw_tbl := List.mem_of_getElem? (i := 1629) rfl
set_option maxRecDepth 100000 in
theorem zVis_204 : Cond.selects (zY 239).cls (zY 239) (zY 239) ∈ lw_tbl := List.mem_of_getElem? (i := 1641) rfl
set_option maxRecDepth 100000 in
theorem zVis_205 : Cond.selects (zY 240).cls (zY 240) (zY 240) ∈ lw_tbl := List.mem_of_getElem? (i := 1645) rfl
set_option maxRecDepth 100000 in
theorem zVis_206 : Cond.selects (zY 241).cls (zY 241) (zY 241) ∈ lw_tbl := List.mem_of_getElem? (i := 82) rfl
set_option maxRecDepth 100000 in
theorem zVis_207 : Cond.selects (zY 242).cls (zY 242) (zY 242) ∈ lw_tbl := List.mem_of_getElem? (i := 1649) rfl
set_option maxRecDepth 100000 in
theorem zVis_208 : Cond.selects (zY 243).cls (zY 243) (zY 243) ∈ lw_tbl := List.mem_of_getElem? (i := 1658) rfl
set_option maxRecDepth 100000 in
theorem zVis_209 : Cond.selects (zY 244).cls (zY 244) (zY 244) ∈ lw_tbl := List.mem_of_getElem? (i := 83) rfl
set_option maxRecDepth 100000 in
theorem zVis_210 : Cond.selects (zY 245).cls (zY 245) (zY 245) ∈ lw_tbl := List.mem_of_getElem? (i := 1666) rfl
set_option maxRecDepth 100000 in
theorem zVis_211 : Cond.selects (zY 247).cls (zY 247) (zY 247) ∈ lw_tbl := List.mem_of_getElem? (i := 84) rfl
set_option maxRecDepth 100000 in
theorem zVis_212 : Cond.selects (zY 248).cls (zY 248) (zY 248) ∈ lw_tbl := List.mem_of_getElem? (i := 1670) rfl
set_option maxRecDepth 100000 in
theorem zVis_213 : Cond.selects (zY 250).cls (zY 250) (zY 250) ∈ lw_tbl := List.mem_of_getElem? (i := 1683) rfl
set_option maxRecDepth 100000 in
theorem zVis_214 : Cond.selects (zY 251).cls (zY 251) (zY 251) ∈ lw_tbl := List.mem_of_getElem? (i := 1690) rfl
set_option maxRecDepth 100000 in
theorem zVis_215 : Cond.selects (zY 252).cls (zY 252) (zY 252) ∈ lw_tbl := List.mem_of_getElem? (i := 1694) rfl
set_option maxRecDepth 100000 in
theorem zVis_216 : Cond.selects (zY 253).cls (zY 253) (zY 253) ∈ lw_tbl := List.mem_of_getElem? (i := 85) rfl
set_option maxRecDepth 100000 in
theorem zVis_217 : Cond.selects (zY 254).cls (zY 254) (zY 254) ∈ lw_tbl := List.mem_of_getElem? (i := 1698) rfl
set_option maxRecDepth 100000 in
theorem zVis_218 : Cond.selects (zY 255).cls (zY 255) (zY 255) ∈ lw_tbl := List.mem_of_getElem? (i := 86) rfl
set_option maxRecDepth 100000 in
theorem zVis_219 : Cond.selects (zY 256).cls (zY 256) (zY 256) ∈ lw_tbl := List.mem_of_getElem? (i := 1706) rfl
set_option maxRecDepth 100000 in
theorem zVis_220 : Cond.selects (zY 257).cls (zY 257) (zY 257) ∈ lw_tbl := List.mem_of_getElem? (i := 1714) rfl
set_option maxRecDepth 100000 in
theorem zVis_221 : Cond.selects (zY 258).cls (zY 258) (zY 258) ∈ lw_tbl := List.mem_of_getElem? (i := 1718) rfl
set_option maxRecDepth 100000 in
theorem zVis_222 : Cond.selects (zY 259).cls (zY 259) (zY 259) ∈ lw_tbl := List.mem_of_getElem? (i := 87) rfl
set_option maxRecDepth 100000 in
theorem zVis_223 : Cond.selects (zY 260).cls (zY 260) (zY 260) ∈ lw_tbl := List.mem_of_getElem? (i := 1722) rfl
set_option maxRecDepth 100000 in
theorem zVis_224 : Cond.selects (zY 261).cls (zY 261) (zY 261) ∈ lw_tbl := List.mem_of_getElem? (i := 1730) rfl
set_option maxRecDepth 100000 in
theorem zVis_225 : Cond.selects (zY 262).cls (zY 262) (zY 262) ∈ lw_tbl := List.mem_of_getElem? (i := 1735) rfl
set_option maxRecDepth 100000 in
theorem zVis_226 : Cond.selects (zY 263).cls (zY 263) (zY 263) ∈ lw_tbl := List.mem_of_getElem? (i := 1739) rfl
set_option maxRecDepth 100000 in
theorem zVis_227 : Cond.selects (zY 264).cls (zY 264) (zY 264) ∈ lw_tbl := List.mem_of_getElem? (i := 89) rfl
set_option maxRecDepth 100000 in
theorem zVis_228 : Cond.selects (zY 265).cls (zY 265) (zY 265) ∈ lw_tbl := List.mem_of_getElem? (i := 88) rfl
set_option maxRecDepth 100000 in
theorem zVis_229 : Cond.selects (zY 266).cls (zY 266) (zY 266) ∈ lw_tbl := List.mem_of_getElem? (i := 1743) rfl
set_option maxRecDepth 100000 in
theorem zVis_230 : Cond.selects (zY 267).cls (zY 267) (zY 267) ∈ lw_tbl := List.mem_of_getElem? (i := 1755) rfl
set_option maxRecDepth 100000 in
theorem zVis_231 : Cond.selects (zY 268).cls (zY 268) (zY 268) ∈ lw_tbl := List.mem_of_getElem? (i := 1759) rfl
set_option maxRecDepth 100000 in
theorem zVis_232 : Cond.selects (zY 269).cls (zY 269) (zY 269) ∈ lw_tbl := List.mem_of_getElem? (i := 1763) rfl
set_option maxRecDepth 100000 in
theorem zVis_233 : Cond.selects (zY 270).cls (zY 270) (zY 270) ∈ lw_tbl := List.mem_of_getElem? (i := 1768) rfl
set_option maxRecDepth 100000 in
theorem zVis_234 : Cond.selects (zY 271).cls (zY 271) (zY 271) ∈ lw_tbl := List.mem_of_getElem? (i := 1772) rfl
set_option maxRecDepth 100000 in
theorem zVis_235 : Cond.selects (zY 272).cls (zY 272) (zY 272) ∈ lw_tbl := List.mem_of_getElem? (i := 1776) rfl
set_option maxRecDepth 100000 in
theorem zVis_236 : Cond.selects (zY 273).cls (zY 273) (zY 273) ∈ lw_tbl := List.mem_of_getElem? (i := 1780) rfl
def zVis_l0 : List (Nat) := [7, 8, 9, 10, 12, 13, 14, 15, 16, 17, 18, 20, 21, 23, 24, 26]
theorem zVis_r0 : ∀ q ∈ zVis_l0, Cond.selects (zY q).cls (zY q) (zY q) ∈ lw_tbl := List.forall_mem_cons.mpr ⟨zVis_0, List.forall_mem_cons.mpr ⟨zVis_1, List.forall_mem_cons.mpr ⟨zVis_2, List.forall_mem_cons.mpr ⟨zVis_3, List.forall_mem_cons.mpr ⟨zVis_4, List.forall_mem_cons.mpr ⟨zVis_5, List.forall_mem_cons.mpr ⟨zVis_6, List.forall_mem_cons.mpr ⟨zVis_7, List.forall_mem_cons.mpr ⟨zVis_8, List.forall_mem_cons.mpr ⟨zVis_9, List.forall_mem_cons.mpr ⟨zVis_10, List.forall_mem_cons.mpr ⟨zVis_11, List.forall_mem_cons.mpr ⟨zVis_12, List.forall_mem_cons.mpr ⟨zVis_13, List.forall_mem_cons.mpr ⟨zVis_14, List.forall_mem_cons.mpr ⟨zVis_15, fun _ h => absurd h List.not_mem_nil⟩⟩⟩⟩⟩⟩⟩⟩⟩⟩⟩⟩⟩⟩⟩⟩
def zVis_l1 : List (Nat) := [27, 28, 29, 30, 31, 32, 33, 35, 36, 37, 39, 40, 41, 42, 43, 46]
theorem zVis_r1 : ∀ q ∈ zVis_l1, Cond.selects (zY q).cls (zY q) (zY q) ∈ lw_tbl := List.forall_mem_cons.mpr ⟨zVis_16, List.forall_mem_cons.mpr ⟨zVis_17, List.forall_mem_cons.mpr ⟨zVis_18, List.forall_mem_cons.mpr ⟨zVis_19, List.forall_mem_cons.mpr ⟨zVis_20, List.forall_mem_cons.mpr ⟨zVis_21, List.forall_mem_cons.mpr ⟨zVis_22, List.forall_mem_cons.mpr ⟨zVis_23, List.forall_mem_cons.mpr ⟨zVis_24, List.forall_mem_cons.mpr ⟨zVis_25, List.forall_mem_cons.mpr ⟨zVis_26, List.forall_mem_cons.mpr ⟨zVis_27, List.forall_mem_cons.mpr ⟨zVis_28, List.forall_mem_cons.mpr ⟨zVis_29, List.forall_mem_cons.mpr ⟨zVis_30, List.forall_mem_cons.mpr ⟨zVis_31, fun _ h => absurd h List.not_mem_nil⟩⟩⟩⟩⟩⟩⟩⟩⟩⟩⟩⟩⟩⟩⟩⟩
def zVis_l2 : List (Nat) := [47, 48, 49, 50, 51, 52, 53, 56, 57, 59, 60, 61, 62, 63, 64, 65]
theorem zVis_r2 : ∀ q ∈ zVis_l2, Cond.selects (zY q).cls (zY q) (zY q) ∈ lw_tbl := List.forall_mem_cons.mpr ⟨zVis_32, List.forall_mem_cons.mpr ⟨zVis_33, List.forall_mem_cons.mpr ⟨zVis_34, List.forall_mem_cons.mpr ⟨zVis_35, List.forall_mem_cons.mpr ⟨zVis_36, List.forall_mem_cons.mpr ⟨zVis_37, List.forall_mem_cons.mpr ⟨zVis_38, List.forall_mem_cons.mpr ⟨zVis_39, List.forall_mem_cons.mpr ⟨zVis_40, List.forall_mem_cons.mpr ⟨zVis_41, List.forall_mem_cons.mpr ⟨zVis_42, List.forall_mem_cons.mpr ⟨zVis_43, List.forall_mem_cons.mpr ⟨zVis_44, List.forall_mem_cons.mpr ⟨zVis_45, List.forall_mem_cons.mpr ⟨zVis_46, List.forall_mem_cons.mpr ⟨zVis_47, fun _ h => absurd h List.not_mem_nil⟩⟩⟩⟩⟩⟩⟩⟩⟩⟩⟩⟩⟩⟩⟩⟩
def zVis_l3 : List (Nat) := [66, 67, 68, 69, 71, 72, 73, 74, 75, 76, 77, 78, 79, 80, 82, 83]
theorem zVis_r3 : ∀ q ∈ zVis_l3, Cond.selects (zY q).cls (zY q) (zY q) ∈ lw_tbl := List.forall_mem_cons.mpr ⟨zVis_48, List.forall_mem_cons.mpr ⟨zVis_49, List.forall_mem_cons.mpr ⟨zVis_50, List.forall_mem_cons.mpr ⟨zVis_51, List.forall_mem_cons.mpr ⟨zVis_52, List.forall_mem_cons.mpr ⟨zVis_53, List.forall_mem_cons.mpr ⟨zVis_54, List.forall_mem_cons.mpr ⟨zVis_55, List.forall_mem_cons.mpr ⟨zVis_56, List.forall_mem_cons.mpr ⟨zVis_57, List.forall_mem_cons.mpr ⟨zVis_58, List.forall_mem_cons.mpr ⟨zVis_59, List.forall_mem_cons.mpr ⟨zVis_60, List.forall_mem_cons.mpr ⟨zVis_61, List.forall_mem_cons.mpr ⟨zVis_62, List.forall_mem_cons.mpr ⟨zVis_63, fun _ h => absurd h List.not_mem_nil⟩⟩⟩⟩⟩⟩⟩⟩⟩⟩⟩⟩⟩⟩⟩⟩
def zVis_l4 : List (Nat) := [84, 85, 86, 87, 88, 89, 90, 91, 92, 93, 94, 95, 96, 97, 98, 99]
theorem zVis_r4 : ∀ q ∈ zVis_l4, Cond.selects (zY q).cls (zY q) (zY q) ∈ lw_tbl := List.forall_mem_cons.mpr ⟨zVis_64, List.forall_mem_cons.mpr ⟨zVis_65, List.forall_mem_cons.mpr ⟨zVis_66, List.forall_mem_cons.mpr ⟨zVis_67, List.forall_mem_cons.mpr ⟨zVis_68, List.forall_mem_cons.mpr ⟨zVis_69, List.forall_mem_cons.mpr ⟨zVis_70, List.forall_mem_cons.mpr ⟨zVis_71, List.forall_mem_cons.mpr ⟨zVis_72, List.forall_mem_cons.mpr ⟨zVis_73, List.forall_mem_cons.mpr ⟨zVis_74, List.forall_mem_cons.mpr ⟨zVis_75, List.forall_mem_cons.mpr ⟨zVis_76, List.forall_mem_cons.mpr ⟨zVis_77, List.forall_mem_cons.mpr ⟨zVis_78, List.forall_mem_cons.mpr ⟨zVis_79, fun _ h => absurd h List.not_mem_nil⟩⟩⟩⟩⟩⟩⟩⟩⟩⟩⟩⟩⟩⟩⟩⟩
def zVis_l5 : List (Nat) := [100, 101, 102, 103, 104, 105, 106, 107, 108, 109, 110, 111, 112, 113, 114, 115]
theorem zVis_r5 : ∀ q ∈ zVis_l5, Cond.selects (zY q).cls (zY q) (zY q) ∈ lw_tbl := List.forall_mem_cons.mpr ⟨zVis_80, List.forall_mem_cons.mpr ⟨zVis_81, List.forall_mem_cons.mpr ⟨zVis_82, List.forall_mem_cons.mpr ⟨zVis_83, List.forall_mem_cons.mpr ⟨zVis_84, List.forall_mem_cons.mpr ⟨zVis_85, List.forall_mem_cons.mpr ⟨zVis_86, List.forall_mem_cons.mpr ⟨zVis_87, List.forall_mem_cons.mpr ⟨zVis_88, List.forall_mem_cons.mpr ⟨zVis_89, List.forall_mem_cons.mpr ⟨zVis_90, List.forall_mem_cons.mpr ⟨zVis_91, List.forall_mem_cons.mpr ⟨zVis_92, List.forall_mem_cons.mpr ⟨zVis_93, List.forall_mem_cons.mpr ⟨zVis_94, List.forall_mem_cons.mpr ⟨zVis_95, fun _ h => absurd h List.not_mem_nil⟩⟩⟩⟩⟩⟩⟩⟩⟩⟩⟩⟩⟩⟩⟩⟩
def zVis_l6 : List (Nat) := [116, 117, 118, 119, 120, 121, 122, 123, 124, 125, 126, 127, 128, 129, 130, 134]
theorem zVis_r6 : ∀ q ∈ zVis_l6, Cond.selects (zY q).cls (zY q) (zY q) ∈ lw_tbl := List.forall_mem_cons.mpr ⟨zVis_96, List.forall_mem_cons.mpr ⟨zVis_97, List.forall_mem_cons.mpr ⟨zVis_98, List.forall_mem_cons.mpr ⟨zVis_99, List.forall_mem_cons.mpr ⟨zVis_100, List.forall_mem_cons.mpr ⟨zVis_101, List.forall_mem_cons.mpr ⟨zVis_102, List.forall_mem_cons.mpr ⟨zVis_103, List.forall_mem_cons.mpr ⟨zVis_104, List.forall_mem_cons.mpr ⟨zVis_105, List.forall_mem_cons.mpr ⟨zVis_106, List.forall_mem_cons.mpr ⟨zVis_107, List.forall_mem_cons.mpr ⟨zVis_108, List.forall_mem_cons.mpr ⟨zVis_109, List.forall_mem_cons.mpr ⟨zVis_110, List.forall_mem_cons.mpr ⟨zVis_111, fun _ h => absurd h List.not_mem_nil⟩⟩⟩⟩⟩⟩⟩⟩⟩⟩⟩⟩⟩⟩⟩⟩
def zVis_l7 : List (Nat) := [135, 136, 137, 138, 139, 140, 141, 142, 143, 146, 147, 148, 149, 150, 153, 154]
theorem zVis_r7 : ∀ q ∈ zVis_l7, Cond.selects (zY q).cls (zY q) (zY q) ∈ lw_tbl := List.forall_mem_cons.mpr ⟨zVis_112, List.forall_mem_cons.mpr ⟨zVis_113, List.forall_mem_cons.mpr ⟨zVis_114, List.forall_mem_cons.mpr ⟨zVis_115, List.forall_mem_cons.mpr ⟨zVis_116, List.forall_mem_cons.mpr ⟨zVis_117, List.forall_mem_cons.mpr ⟨zVis_118, List.forall_mem_cons.mpr ⟨zVis_119, List.forall_mem_cons.mpr ⟨zVis_120, List.forall_mem_cons.mpr ⟨zVis_121, List.forall_mem_cons.mpr ⟨zVis_122, List.forall_mem_cons.mpr ⟨zVis_123, List.forall_mem_cons.mpr ⟨zVis_124, List.forall_mem_cons.mpr ⟨zVis_125, List.forall_mem_cons.mpr ⟨zVis_126, List.forall_mem_cons.mpr ⟨zVis_127, fun _ h => absurd h List.not_mem_nil⟩⟩⟩⟩⟩⟩⟩⟩⟩⟩⟩⟩⟩⟩⟩⟩
def zVis_l8 : List (Nat) := [155, 156, 157, 158, 159, 161, 162, 163, 164, 165, 166, 167, 168, 170, 173, 174]
theorem zVis_r8 : ∀ q ∈ zVis_l8, Cond.selects (zY q).cls (zY q) (zY q) ∈ lw_tbl := List.forall_mem_cons.mpr ⟨zVis_128, List.forall_mem_cons.mpr ⟨zVis_129, List.forall_mem_cons.mpr ⟨zVis_130, List.forall_mem_cons.mpr ⟨zVis_131, List.forall_mem_cons.mpr ⟨zVis_132, List.forall_mem_cons.mpr ⟨zVis_133, List.forall_mem_cons.mpr ⟨zVis_134, List.forall_mem_cons.mpr ⟨zVis_135, List.forall_mem_cons.mpr ⟨zVis_136, List.forall_mem_cons.mpr ⟨zVis_137, List.forall_mem_cons.mpr ⟨zVis_138, List.forall_mem_cons.mpr ⟨zVis_139, List.forall_mem_cons.mpr ⟨zVis_140, List.forall_mem_cons.mpr ⟨zVis_141, List.forall_mem_cons.mpr ⟨zVis_142, List.forall_mem_cons.mpr ⟨zVis_143, fun _ h => absurd h List.not_mem_nil⟩⟩⟩⟩⟩⟩⟩⟩⟩⟩⟩⟩⟩⟩⟩⟩
def zVis_l9 : List (Nat) := [175, 176, 177, 179, 180, 181, 182, 183, 184, 185, 186, 187, 188, 189, 191, 192]
theorem zVis_r9 : ∀ q ∈ zVis_l9, Cond.selects (zY q).cls (zY q) (zY q) ∈ lw_tbl := List.forall_mem_cons.mpr ⟨zVis_144, List.forall_mem_cons.mpr ⟨zVis_145, List.forall_mem_cons.mpr ⟨zVis_146, List.forall_mem_cons.mpr ⟨zVis_147, List.forall_mem_cons.mpr ⟨zVis_148, List.forall_mem_cons.mpr ⟨zVis_149, List.forall_mem_cons.mpr ⟨zVis_150, List.forall_mem_cons.mpr ⟨zVis_151, List.forall_mem_cons.mpr ⟨zVis_152, List.forall_mem_cons.mpr ⟨zVis_153, List.forall_mem_cons.mpr ⟨zVis_154, List.forall_mem_cons.mpr ⟨zVis_155, List.forall_mem_cons.mpr ⟨zVis_156, List.forall_mem_cons.mpr ⟨zVis_157, List.forall_mem_cons.mpr ⟨zVis_158, List.forall_mem_cons.mpr ⟨zVis_159, fun _ h => absurd h List.not_mem_nil⟩⟩⟩⟩⟩⟩⟩⟩⟩⟩⟩⟩⟩⟩⟩⟩
def zVis_l10 : List (Nat) := [193, 194, 195, 196, 197, 198, 199, 200, 201, 202, 203, 204, 205, 206, 207, 209]
theorem zVis_r10 : ∀ q ∈ zVis_l10, Cond.selects (zY q).cls (zY q) (zY q) ∈ lw_tbl := List.forall_mem_cons.mpr ⟨zVis_160, List.forall_mem_cons.mpr ⟨zVis_161, List.forall_mem_cons.mpr ⟨zVis_162, List.forall_mem_cons.mpr ⟨zVis_163, List.forall_mem_cons.mpr ⟨zVis_164, List.forall_mem_cons.mpr ⟨zVis_165, List.forall_mem_cons.mpr ⟨zVis_166, List.forall_mem_cons.mpr ⟨zVis_167, List.forall_mem_cons.mpr ⟨zVis_168, List.forall_mem_cons.mpr ⟨zVis_169, List.forall_mem_cons.mpr ⟨zVis_170, List.forall_mem_cons.mpr ⟨zVis_171, List.forall_mem_cons.mpr ⟨zVis_172, List.forall_mem_cons.mpr ⟨zVis_173, List.forall_mem_cons.mpr ⟨zVis_174, List.forall_mem_cons.mpr ⟨zVis_175, fun _ h => absurd h List.not_mem_nil⟩⟩⟩⟩⟩⟩⟩⟩⟩⟩⟩⟩⟩⟩⟩⟩
def zVis_l11 : List (Nat) := [210, 212, 213, 214, 215, 216, 217, 218, 219, 220, 221, 222, 223, 224, 225, 226]
theorem zVis_r11 : ∀ q ∈ zVis_l11, Cond.selects (zY q).cls (zY q) (zY q) ∈ lw_tbl := List.forall_mem_cons.mpr ⟨zVis_176, List.forall_mem_cons.mpr ⟨zVis_177, List.forall_mem_cons.mpr ⟨zVis_178, List.forall_mem_cons.mpr ⟨zVis_179, List.forall_mem_cons.mpr ⟨zVis_180, List.forall_mem_cons.mpr ⟨zVis_181, List.forall_mem_cons.mpr ⟨zVis_182, List.forall_mem_cons.mpr ⟨zVis_183, List.forall_mem_cons.mpr ⟨zVis_184, List.forall_mem_cons.mpr ⟨zVis_185, List.forall_mem_cons.mpr ⟨zVis_186, List.forall_mem_cons.mpr ⟨zVis_187, List.forall_mem_cons.mpr ⟨zVis_188, List.forall_mem_cons.mpr ⟨zVis_189, List.forall_mem_cons.mpr ⟨zVis_190, List.forall_mem_cons.mpr ⟨zVis_191, fun _ h => absurd h List.not_mem_nil⟩⟩⟩⟩⟩⟩⟩⟩⟩⟩⟩⟩⟩⟩⟩⟩
def zVis_l12 : List (Nat) := [227, 228, 229, 230, 231, 232, 233, 234, 235, 236, 237, 238, 239, 240, 241, 242]
theorem zVis_r12 : ∀ q ∈ zVis_l12, Cond.selects (zY q).cls (zY q) (zY q) ∈ lw_tbl := List.forall_mem_cons.mpr ⟨zVis_192, List.forall_mem_cons.mpr ⟨zVis_193, List.forall_mem_cons.mpr ⟨zVis_194, List.forall_mem_cons.mpr ⟨zVis_195, List.forall_mem_cons.mpr ⟨zVis_196, List.forall_mem_cons.mpr ⟨zVis_197, List.forall_mem_cons.mpr ⟨zVis_198, List.forall_mem_cons.mpr ⟨zVis_199, List.forall_mem_cons.mpr ⟨zVis_200, List.forall_mem_cons.mpr ⟨zVis_201, List.forall_mem_cons.mpr ⟨zVis_202, List.forall_mem_cons.mpr ⟨zVis_203, List.forall_mem_cons.mpr ⟨zVis_204, List.forall_mem_cons.mpr ⟨zVis_205, List.forall_mem_cons.mpr ⟨zVis_206, List.forall_mem_cons.mpr ⟨zVis_207, fun _ h => absurd h List.not_mem_nil⟩⟩⟩⟩⟩⟩⟩⟩⟩⟩⟩⟩⟩⟩⟩⟩
def zVis_l13 : List (Nat) := [243, 244, 245, 247, 248, 250, 251, 252, 253, 254, 255, 256, 257, 258, 259, 260]
theorem zVis_r13 : ∀ q ∈ zVis_l13, Cond.selects (zY q).cls (zY q) (zY q) ∈ lw_tbl := List.forall_mem_cons.mpr ⟨zVis_208, List.forall_mem_cons.mpr ⟨zVis_209, List.forall_mem_cons.mpr ⟨zVis_210, List.forall_mem_cons.mpr ⟨zVis_211, List.forall_mem_cons.mpr ⟨zVis_212, List.forall_mem_cons.mpr ⟨zVis_213, List.forall_mem_cons.mpr ⟨zVis_214, List.forall_mem_cons.mpr ⟨zVis_215, List.forall_mem_cons.mpr ⟨zVis_216, List.forall_mem_cons.mpr ⟨zVis_217, List.forall_mem_cons.mpr ⟨zVis_218, List.forall_mem_cons.mpr ⟨zVis_219, List.forall_mem_cons.mpr ⟨zVis_220, List.forall_mem_cons.mpr ⟨zVis_221, List.forall_mem_cons.mpr ⟨zVis_222, List.forall_mem_cons.mpr ⟨zVis_223, fun _ h => absurd h List.not_mem_nil⟩⟩⟩⟩⟩⟩⟩⟩⟩⟩⟩⟩⟩⟩⟩⟩
def zVis_l14 : List (Nat) := [261, 262, 263, 264, 265, 266, 267, 268, 269, 270, 271, 272, 273]
theorem zVis_r14 : ∀ q ∈ zVis_l14, Cond.selects (zY q).cls (zY q) (zY q) ∈ lw_tbl := List.forall_mem_cons.mpr ⟨zVis_224, List.forall_mem_cons.mpr ⟨zVis_225, List.forall_mem_cons.mpr ⟨zVis_226, List.forall_mem_cons.mpr ⟨zVis_227, List.forall_mem_cons.mpr ⟨zVis_228, List.forall_mem_cons.mpr ⟨zVis_229, List.forall_mem_cons.mpr ⟨zVis_230, List.forall_mem_cons.mpr ⟨zVis_231, List.forall_mem_cons.mpr ⟨zVis_232, List.forall_mem_cons.mpr ⟨zVis_233, List.forall_mem_cons.mpr ⟨zVis_234, List.forall_mem_cons.mpr ⟨zVis_235, List.forall_mem_cons.mpr ⟨zVis_236, fun _ h => absurd h List.not_mem_nil⟩⟩⟩⟩⟩⟩⟩⟩⟩⟩⟩⟩⟩
theorem zVis_sp : zVi = zVis_l0 ++ (zVis_l1 ++ (zVis_l2 ++ (zVis_l3 ++ (zVis_l4 ++ (zVis_l5 ++ (zVis_l6 ++ (zVis_l7 ++ (zVis_l8 ++ (zVis_l9 ++ (zVis_l10 ++ (zVis_l11 ++ (zVis_l12 ++ (zVis_l13 ++ (zVis_l14)))))))))))))) := by decide +kernel
theorem zVis_all : ∀ q ∈ zVi, Cond.selects (zY q).cls (zY q) (zY q) ∈ lw_tbl := by
  rw [zVis_sp]
  exact List.forall_mem_append.mpr ⟨zVis_r0, List.forall_mem_append.mpr ⟨zVis_r1, List.forall_mem_append.mpr ⟨zVis_r2, List.forall_mem_append.mpr ⟨zVis_r3, List.forall_mem_append.mpr ⟨zVis_r4, List.forall_mem_append.mpr ⟨zVis_r5, List.forall_mem_append.mpr ⟨zVis_r6, List.forall_mem_append.mpr ⟨zVis_r7, List.forall_mem_append.mpr ⟨zVis_r8, List.forall_mem_append.mpr ⟨zVis_r9, List.forall_mem_append.mpr ⟨zVis_r10, List.forall_mem_append.mpr ⟨zVis_r11, List.forall_mem_append.mpr ⟨zVis_r12, List.forall_mem_append.mpr ⟨zVis_r13, zVis_r14⟩⟩⟩⟩⟩⟩⟩⟩⟩⟩⟩⟩⟩⟩
set_option maxRecDepth 100000 in
theorem zMc_0 : Cond.code (zY 0) (zB 0) (zMi 0).2.1 (zMi 0).2.2 ∈ tables_1 := List.mem_of_getElem? (i := 573) rfl
set_option maxRecDepth 100000 in
theorem zMc_1 : Cond.code (zY 1) (zB 1) (zMi 1).2.1 (zMi 1).2.2 ∈ tables_1 := List.mem_of_getElem? (i := 713) rfl
set_option maxRecDepth 100000 in
theorem zMc_2 : Cond.code (zY 2) (zB 2) (zMi 2).2.1 (zMi 2).2.2 ∈ tables_1 := List.mem_of_getElem? (i := 902) rfl
set_option maxRecDepth 100000 in
theorem zMc_3 : Cond.code (zY 3) (zB 3) (zMi 3).2.1 (zMi 3).2.2 ∈ tables_1 := List.mem_of_getElem? (i := 545) rfl
set_option maxRecDepth 100000 in
theorem zMc_4 : Cond.code (zY 4) (zB 4) (zMi 4).2.1 (zMi 4).2.2 ∈ tables_1 := List.mem_of_getElem? (i := 410) rfl
set_option maxRecDepth 100000 in
theorem zMc_5 : Cond.code (zY 5) (zB 5) (zMi 5).2.1 (zMi 5).2.2 ∈ tables_1 := List.mem_of_getElem? (i := 147) rfl
set_option maxRecDepth 100000 in
theorem zMc_6 : Cond.code (zY 6) (zB 6) (zMi 6).2.1 (zMi 6).2.2 ∈ tables_1 := List.mem_of_getElem? (i := 107) rfl
set_option maxRecDepth 100000 in
theorem zMc_7 : Cond.code (zY 7) (zB 7) (zMi 7).2.1 (zMi 7).2.2 ∈ tables_1 := List.mem_of_getElem? (i := 733) rfl
set_option maxRecDepth 100000 in
theorem zMc_8 : Cond.code (zY 8) (zB 8) (zMi 8).2.1 (zMi 8).2.2 ∈ tables_1 := List.mem_of_getElem? (i := 738) rfl
set_option maxRecDepth 100000 in
theorem zMc_9 : Cond.code (zY 9) (zB 9) (zMi 9).2.1 (zMi 9).2.2 ∈ tables_1 := List.mem_of_getElem? (i := 744) rfl
set_option maxRecDepth 100000 in
theorem zMc_10 : Cond.code (zY 10) (zB 10) (zMi 10).2.1 (zMi 10).2.2 ∈ tables_1 := List.mem_of_getElem? (i := 749) rfl
set_option maxRecDepth 100000 in
theorem zMc_11 : Cond.code (zY 11) (zB 11) (zMi 11).2.1 (zMi 11).2.2 ∈ tables_1 := List.mem_of_getElem? (i := 227) rfl
set_option maxRecDepth 100000 in
theorem zMc_12 : Cond.code (zY 12) (zB 12) (zMi 12).2.1 (zMi 12).2.2 ∈ tables_1 := List.mem_of_getElem? (i := 614) rfl
set_option maxRecDepth 100000 in
theorem zMc_13 : Cond.code (zY 13) (zB 13) (zMi 13).2.1 (zMi 13).2.2 ∈ tables_1 := List.mem_of_getElem? (i := 775) rfl
set_option maxRecDepth 100000 in
theorem zMc_14 : Cond.code (zY 14) (zB 14) (zMi 14).2.1 (zMi 14).2.2 ∈ tables_1 := List.mem_of_getElem? (i := 710) rfl
set_option maxRecDepth 100000 in
theorem zMc_15 : Cond.code (zY 15) (zB 15) (zMi 15).2.1 (zMi 15).2.2 ∈ tables_1 := List.mem_of_getElem? (i := 706) rfl
set_option maxRecDepth 100000 in
theorem zMc_16 : Cond.code (zY 16) (zB 16) (zMi 16).2.1 (zMi 16).2.2 ∈ tables_1 := List.mem_of_getElem? (i := 779) rfl
set_option maxRecDepth 100000 in
theorem zMc_17 : Cond.code (zY 17) (zB 17) (zMi 17).2.1 (zMi 17).2.2 ∈ tables_1 := List.mem_of_getElem? (i := 787) rfl
set_option maxRecDepth 100000 in
theorem zMc_18 : Cond.code (zY 18) (zB 18) (zMi 18).2.1 (zMi 18).2.2 ∈ tables_1 := List.mem_of_getElem? (i := 783) rfl
set_option maxRecDepth 100000 in
theorem zMc_19 : Cond.code (zY 19) (zB 19) (zMi 19).2.1 (zMi 19).2.2 ∈ tables_1 := List.mem_of_getElem? (i := 301) rfl
set_option maxRecDepth 100000 in
theorem zMc_20 : Cond.code (zY 20) (zB 20) (zMi 20).2.1 (zMi 20).2.2 ∈ tables_1 := List.mem_of_getElem? (i := 949) rfl
set_option maxRecDepth 100000 in
theorem zMc_21 : Cond.code (zY 21) (zB 21) (zMi 21).2.1 (zMi 21).2.2 ∈ tables_1 := List.mem_of_getElem? (i := 961) rfl
set_option maxRecDepth 100000 in
theorem zMc_22 : Cond.code (zY 22) (zB 22) (zMi 22).2.1 (zMi 22).2.2 ∈ tables_1 := List.mem_of_getElem? (i := 264) rfl
set_option maxRecDepth 100000 in
theorem zMc_23 : Cond.code (zY 23) (zB 23) (zMi 23).2.1 (zMi 23).2.2 ∈ tables_1 := List.mem_of_getElem? (i := 605) rfl
set_option maxRecDepth 100000 in
theorem zMc_24 : Cond.code (zY 24) (zB 24) (zMi 24).2.1 (zMi 24).2.2 ∈ tables_1 := List.mem_of_getElem? (i := 767) rfl
set_option maxRecDepth 100000 in
theorem zMc_25 : Cond.code (zY 25) (zB 25) (zMi 25).2.1 (zMi 25).2.2 ∈ tables_1 := List.mem_of_getElem? (i := 139) rfl
set_option maxRecDepth 100000 in
theorem zMc_26 : Cond.code (zY 26) (zB 26) (zMi 26).2.1 (zMi 26).2.2 ∈ tables_1 := List.mem_of_getElem? (i := 609) rfl
set_option maxRecDepth 100000 in
theorem zMc_27 : Cond.code (zY 27) (zB 27) (zMi 27).2.1 (zMi 27).2.2 ∈ tables_1 := List.mem_of_getElem? (i := 624) rfl
set_option maxRecDepth 100000 in
theorem zMc_28 : Cond.code (zY 28) (zB 28) (zMi 28).2.1 (zMi 28).2.2 ∈ tables_1 := List.mem_of_getElem? (i := 637) rfl
set_option maxRecDepth 100000 in
theorem zMc_29 : Cond.code (zY 29) (zB 29) (zMi 29).2.1 (zMi 29).2.2 ∈ tables_1 := List.mem_of_getElem? (i := 144) rfl
set_option maxRecDepth 100000 in
theorem zMc_30 : Cond.code (zY 30) (zB 30) (zMi 30).2.1 (zMi 30).2.2 ∈ tables_1 := List.mem_of_getElem? (i := 854) rfl
set_option maxRecDepth 100000 in
theorem zMc_31 : Cond.code (zY 31) (zB 31) (zMi 31).2.1 (zMi 31).2.2 ∈ tables_1 := List.mem_of_getElem? (i := 633) rfl
set_option maxRecDepth 100000 in
theorem zMc_32 : Cond.code (zY 32) (zB 32) (zMi 32).2.1 (zMi 32).2.2 ∈ tables_1 := List.mem_of_getElem? (i := 847) rfl
set_option maxRecDepth 100000 in
theorem zMc_33 : Cond.code (zY 33) (zB 33) (zMi 33).2.1 (zMi 33).2.2 ∈ tables_1 := List.mem_of_getElem? (i := 699) rfl
set_option maxRecDepth 100000 in
theorem zMc_34 : Cond.code (zY 34) (zB 34) (zMi 34).2.1 (zMi 34).2.2 ∈ tables_1 := List.mem_of_getElem? (i := 257) rfl
set_option maxRecDepth 100000 in
theorem zMc_35 : Cond.code (zY 35) (zB 35) (zMi 35).2.1 (zMi 35).2.2 ∈ tables_1 := List.mem_of_getElem? (i := 601) rfl
set_option maxRecDepth 100000 in
theorem zMc_36 : Cond.code (zY 36) (zB 36) (zMi 36).2.1 (zMi 36).2.2 ∈ tables_1 := List.mem_of_getElem? (i := 619) rfl
set_option maxRecDepth 100000 in
theorem zMc_37 : Cond.code (zY 37) (zB 37) (zMi 37).2.1 (zMi 37).2.2 ∈ tables_1 := List.mem_of_getElem? (i := 763) rfl
set_option maxRecDepth 100000 in
theorem zMc_38 : Cond.code (zY 38) (zB 38) (zMi 38).2.1 (zMi 38).2.2 ∈ tables_1 := List.mem_of_getElem? (i := 59) rfl
set_option maxRecDepth 100000 in
theorem zMc_39 : Cond.code (zY 39) (zB 39) (zMi 39).2.1 (zMi 39).2.2 ∈ tables_1 := List.mem_of_getElem? (i := 64) rfl
set_option maxRecDepth 100000 in
theorem zMc_40 : Cond.code (zY 40) (zB 40) (zMi 40).2.1 (zMi 40).2.2 ∈ tables_1 := List.mem_of_getElem? (i := 517) rfl
set_option maxRecDepth 100000 in
theorem zMc_41 : Cond.code (zY 41) (zB 41) (zMi 41).2.1 (zMi 41).2.2 ∈ tables_1 := List.mem_of_getElem? (i := 465) rfl
set_option maxRecDepth 100000 in
theorem zMc_42 : Cond.code (zY 42) (zB 42) (zMi 42).2.1 (zMi 42).2.2 ∈ tables_1 := List.mem_of_getElem? (i := 662) rfl
set_option maxRecDepth 100000 in
theorem zMc_43 : Cond.code (zY 43) (zB 43) (zMi 43).2.1 (zMi 43).2.2 ∈ tables_1 := List.mem_of_getElem? (i := 666) rfl
set_option maxRecDepth 100000 in
theorem zMc_44 : Cond.code (zY 44) (zB 44) (zMi 44).2.1 (zMi 44).2.2 ∈ tables_1 := List.mem_of_getElem? (i := 669) rfl
set_option maxRecDepth 100000 in
theorem zMc_45 : Cond.code (zY 45) (zB 45) (zMi 45).2.1 (zMi 45).2.2 ∈ tables_1 := List.mem_of_getElem? (i := 89) rfl
set_option maxRecDepth 100000 in
theorem zMc_46 : Cond.code (zY 46) (zB 46) (zMi 46).2.1 (zMi 46).2.2 ∈ tables_1 := List.mem_of_getElem? (i := 474) rfl
set_option maxRecDepth 100000 in
theorem zMc_47 : Cond.code (zY 47) (zB 47) (zMi 47).2.1 (zMi 47).2.2 ∈ tables_1 := List.mem_of_getElem? (i := 509) rfl
set_option maxRecDepth 100000 in
theorem zMc_48 : Cond.code (zY 48) (zB 48) (zMi 48).2.1 (zMi 48).2.2 ∈ tables_1 := List.mem_of_getElem? (i := 478) rfl
set_option maxRecDepth 100000 in
theorem zMc_49 : Cond.code (zY 49) (zB 49) (zMi 49).2.1 (zMi 49).2.2 ∈ tables_1 := List.mem_of_getElem? (i := 482) rfl
set_option maxRecDepth 100000 in
theorem zMc_50 : Cond.code (zY 50) (zB 50) (zMi 50).2.1 (zMi 50).2.2 ∈ tables_1 := List.mem_of_getElem? (i := 486) rfl
set_option maxRecDepth 100000 in
theorem zMc_51 : Cond.code (zY 51) (zB 51) (zMi 51).2.1 (zMi 51).2.2 ∈ tables_1 := List.mem_of_getElem? (i := 490) rfl
set_option maxRecDepth 100000 in
theorem zMc_52 : Cond.code (zY 52) (zB 52) (zMi 52).2.1 (zMi 52).2.2 ∈ tables_1 := List.mem_of_getElem? (i := 495) rfl
set_option maxRecDepth 100000 in
theorem zMc_53 : Cond.code (zY 53) (zB 53) (zMi 53).2.1 (zMi 53).2.2 ∈ tables_1 := List.mem_of_getElem? (i := 505) rfl
set_option maxRecDepth 100000 in
theorem zMc_54 : Cond.code (zY 54) (zB 54) (zMi 54).2.1 (zMi 54).2.2 ∈ tables_1 := List.mem_of_getElem? (i := 512) rfl
set_option maxRecDepth 100000 in
theorem zMc_55 : Cond.code (zY 55) (zB 55) (zMi 55).2.1 (zMi 55).2.2 ∈ tables_1 := List.mem_of_getElem? (i := 322) rfl
set_option maxRecDepth 100000 in
theorem zMc_56 : Cond.code (zY 56) (zB 56) (zMi 56).2.1 (zMi 56).2.2 ∈ tables_1 := List.mem_of_getElem? (i := 977) rfl
set_option maxRecDepth 100000 in
theorem zMc_57 : Cond.code (zY 57) (zB 57) (zMi 57).2.1 (zMi 57).2.2 ∈ tables_1 := List.mem_of_getElem? (i := 993) rfl
set_option maxRecDepth 100000 in
theorem zMc_58 : Cond.code (zY 58) (zB 58) (zMi 58).2.1 (zMi 58).2.2 ∈ tables_1 := List.mem_of_getElem? (i := 34) rfl
set_option maxRecDepth 100000 in
theorem zMc_59 : Cond.code (zY 59) (zB 59) (zMi 59).2.1 (zMi 59).2.2 ∈ tables_1 := List.mem_of_getElem? (i := 395) rfl
set_option maxRecDepth 100000 in
theorem zMc_60 : Cond.code (zY 60) (zB 60) (zMi 60).2.1 (zMi 60).2.2 ∈ tables_1 := List.mem_of_getElem? (i := 407) rfl
set_option maxRecDepth 100000 in
theorem zMc_61 : Cond.code (zY 61) (zB 61) (zMi 61).2.1 (zMi 61).2.2 ∈ tables_1 := List.mem_of_getElem? (i := 418) rfl
set_option maxRecDepth 100000 in
theorem zMc_62 : Cond.code (zY 62) (zB 62) (zMi 62).2.1 (zMi 62).2.2 ∈ tables_1 := List.mem_of_getElem? (i := 453) rfl
set_option maxRecDepth 100000 in
theorem zMc_63 : Cond.code (zY 63) (zB 63) (zMi 63).2.1 (zMi 63).2.2 ∈ tables_1 := List.mem_of_getElem? (i := 457) rfl
set_option maxRecDepth 100000 in
theorem zMc_64 : Cond.code (zY 64) (zB 64) (zMi 64).2.1 (zMi 64).2.2 ∈ tables_1 := List.mem_of_getElem? (i := 434) rfl
set_option maxRecDepth 100000 in
theorem zMc_65 : Cond.code (zY 65) (zB 65) (zMi 65).2.1 (zMi 65).2.2 ∈ tables_1 := List.mem_of_getElem? (i := 500) rfl
set_option maxRecDepth 100000 in
theorem zMc_66 : Cond.code (zY 66) (zB 66) (zMi 66).2.1 (zMi 66).2.2 ∈ tables_1 := List.mem_of_getElem? (i := 438) rfl
set_option maxRecDepth 100000 in
theorem zMc_67 : Cond.code (zY 67) (zB 67) (zMi 67).2.1 (zMi 67).2.2 ∈ tables_1 := List.mem_of_getElem? (i := 426) rfl
set_option maxRecDepth 100000 in
theorem zMc_68 : Cond.code (zY 68) (zB 68) (zMi 68).2.1 (zMi 68).2.2 ∈ tables_1 := List.mem_of_getElem? (i := 446) rfl
set_option maxRecDepth 100000 in
theorem zMc_69 : Cond.code (zY 69) (zB 69) (zMi 69).2.1 (zMi 69).2.2 ∈ tables_1 := List.mem_of_getElem? (i := 430) rfl
set_option maxRecDepth 100000 in
theorem zMc_70 : Cond.code (zY 70) (zB 70) (zMi 70).2.1 (zMi 70).2.2 ∈ tables_1 := List.mem_of_getElem? (i := 133) rfl
set_option maxRecDepth 100000 in
theorem zMc_71 : Cond.code (zY 71) (zB 71) (zMi 71).2.1 (zMi 71).2.2 ∈ tables_1 := List.mem_of_getElem? (i := 646) rfl
set_option maxRecDepth 100000 in
theorem zMc_72 : Cond.code (zY 72) (zB 72) (zMi 72).2.1 (zMi 72).2.2 ∈ tables_1 := List.mem_of_getElem? (i := 557) rfl
set_option maxRecDepth 100000 in
theorem zMc_73 : Cond.code (zY 73) (zB 73) (zMi 73).2.1 (zMi 73).2.2 ∈ tables_1 := List.mem_of_getElem? (i := 592) rfl
set_option maxRecDepth 100000 in
theorem zMc_74 : Cond.code (zY 74) (zB 74) (zMi 74).2.1 (zMi 74).2.2 ∈ tables_1 := List.mem_of_getElem? (i := 569) rfl
set_option maxRecDepth 100000 in
theorem zMc_75 : Cond.code (zY 75) (zB 75) (zMi 75).2.1 (zMi 75).2.2 ∈ tables_1 := List.mem_of_getElem? (i := 562) rfl
set_option maxRecDepth 100000 in
theorem zMc_76 : Cond.code (zY 76) (zB 76) (zMi 76).2.1 (zMi 76).2.2 ∈ tables_1 := List.mem_of_getElem? (i := 674) rfl
set_option maxRecDepth 100000 in
theorem zMc_77 : Cond.code (zY 77) (zB 77) (zMi 77).2.1 (zMi 77).2.2 ∈ tables_1 := List.mem_of_getElem? (i := 690) rfl
set_option maxRecDepth 100000 in
theorem zMc_78 : Cond.code (zY 78) (zB 78) (zMi 78).2.1 (zMi 78).2.2 ∈ tables_1 := List.mem_of_getElem? (i := 694) rfl
set_option maxRecDepth 100000 in
theorem zMc_79 : Cond.code (zY 79) (zB 79) (zMi 79).2.1 (zMi 79).2.2 ∈ tables_1 := List.mem_of_getElem? (i := 652) rfl
set_option maxRecDepth 100000 in
theorem zMc_80 : Cond.code (zY 80) (zB 80) (zMi 80).2.1 (zMi 80).2.2 ∈ tables_1 := List.mem_of_getElem? (i := 657) rfl
set_option maxRecDepth 100000 in
theorem zMc_81 : Cond.code (zY 81) (zB 81) (zMi 81).2.1 (zMi 81).2.2 ∈ tables_1 := List.mem_of_getElem? (i := 26) rfl
set_option maxRecDepth 100000 in
theorem zMc_82 : Cond.code (zY 82) (zB 82) (zMi 82).2.1 (zMi 82).2.2 ∈ tables_1 := List.mem_of_getElem? (i := 391) rfl
set_option maxRecDepth 100000 in
theorem zMc_83 : Cond.code (zY 83) (zB 83) (zMi 83).2.1 (zMi 83).2.2 ∈ tables_1 := List.mem_of_getElem? (i := 399) rfl
set_option maxRecDepth 100000 in
theorem zMc_84 : Cond.code (zY 84) (zB 84) (zMi 84).2.1 (zMi 84).2.2 ∈ tables_1 := List.mem_of_getElem? (i := 403) rfl
set_option maxRecDepth 100000 in
theorem zMc_85 : Cond.code (zY 85) (zB 85) (zMi 85).2.1 (zMi 85).2.2 ∈ tables_1 := List.mem_of_getElem? (i := 461) rfl
set_option maxRecDepth 100000 in
theorem zMc_86 : Cond.code (zY 86) (zB 86) (zMi 86).2.1 (zMi 86).2.2 ∈ tables_1 := List.mem_of_getElem? (i := 470) rfl
set_option maxRecDepth 100000 in
theorem zMc_87 : Cond.code (zY 87) (zB 87) (zMi 87).2.1 (zMi 87).2.2 ∈ tables_1 := List.mem_of_getElem? (i := 1031) rfl
set_option maxRecDepth 100000 in
theorem zMc_88 : Cond.code (zY 88) (zB 88) (zMi 88).2.1 (zMi 88).2.2 ∈ tables_1 := List.mem_of_getElem? (i := 524) rfl
set_option maxRecDepth 100000 in
theorem zMc_89 : Cond.code (zY 89) (zB 89) (zMi 89).2.1 (zMi 89).2.2 ∈ tables_1 := List.mem_of_getElem? (i := 538) rfl
set_option maxRecDepth 100000 in
theorem zMc_90 : Cond.code (zY 90) (zB 90) (zMi 90).2.1 (zMi 90).2.2 ∈ tables_1 := List.mem_of_getElem? (i := 553) rfl
set_option maxRecDepth 100000 in
theorem zMc_91 : Cond.code (zY 91) (zB 91) (zMi 91).2.1 (zMi 91).2.2 ∈ tables_1 := List.mem_of_getElem? (i := 580) rfl
set_option maxRecDepth 100000 in
theorem zMc_92 : Cond.code (zY 92) (zB 92) (zMi 92).2.1 (zMi 92).2.2 ∈ tables_1 := List.mem_of_getElem? (i := 629) rfl
set_option maxRecDepth 100000 in
theorem zMc_93 : Cond.code (zY 93) (zB 93) (zMi 93).2.1 (zMi 93).2.2 ∈ tables_1 := List.mem_of_getElem? (i := 642) rfl
set_option maxRecDepth 100000 in
theorem zMc_94 : Cond.code (zY 94) (zB 94) (zMi 94).2.1 (zMi 94).2.2 ∈ tables_1 := List.mem_of_getElem? (i := 682) rfl
set_option maxRecDepth 100000 in
theorem zMc_95 : Cond.code (zY 95) (zB 95) (zMi 95).2.1 (zMi 95).2.2 ∈ tables_1 := List.mem_of_getElem? (i := 725) rfl
set_option maxRecDepth 100000 in
theorem zMc_96 : Cond.code (zY 96) (zB 96) (zMi 96).2.1 (zMi 96).2.2 ∈ tables_1 := List.mem_of_getElem? (i := 729) rfl
set_option maxRecDepth 100000 in
theorem zMc_97 : Cond.code (zY 97) (zB 97) (zMi 97).2.1 (zMi 97).2.2 ∈ tables_1 := List.mem_of_getElem? (i := 759) rfl
set_option maxRecDepth 100000 in
theorem zMc_98 : Cond.code (zY 98) (zB 98) (zMi 98).2.1 (zMi 98).2.2 ∈ tables_1 := List.mem_of_getElem? (i := 1104) rfl
set_option maxRecDepth 100000 in
theorem zMc_99 : Cond.code (zY 99) (zB 99) (zMi 99).2.1 (zMi 99).2.2 ∈ tables_1 := List.mem_of_getElem? (i := 771) rfl
set_option maxRecDepth 100000 in
theorem zMc_100 : Cond.code (zY 100) (zB 100) (zMi 100).2.1 (zMi 100).2.2 ∈ tables_1 := List.mem_of_getElem? (i := 791) rfl
set_option maxRecDepth 100000 in
theorem zMc_101 : Cond.code (zY 101) (zB 101) (zMi 101).2.1 (zMi 101).2.2 ∈ tables_1 := List.mem_of_getElem? (i := 802) rfl
set_option maxRecDepth 100000 in
theorem zMc_102 : Cond.code (zY 102) (zB 102) (zMi 102).2.1 (zMi 102).2.2 ∈ tables_1 := List.mem_of_getElem? (i := 811) rfl
set_option maxRecDepth 100000 in
theorem zMc_103 : Cond.code (zY 103) (zB 103) (zMi 103).2.1 (zMi 103).2.2 ∈ tables_1 := List.mem_of_getElem? (i := 819) rfl
set_option maxRecDepth 100000 in
theorem zMc_104 : Cond.code (zY 104) (zB 104) (zMi 104).2.1 (zMi 104).2.2 ∈ tables_1 := List.mem_of_getElem? (i := 827) rfl
set_option maxRecDepth 100000 in
theorem zMc_105 : Cond.code (zY 105) (zB 105) (zMi 105).2.1 (zMi 105).2.2 ∈ tables_1 := List.mem_of_getElem? (i := 839) rfl
set_option maxRecDepth 100000 in
theorem zMc_106 : Cond.code (zY 106) (zB 106) (zMi 106).2.1 (zMi 106).2.2 ∈ tables_1 := List.mem_of_getElem? (i := 858) rfl
set_option maxRecDepth 100000 in
theorem zMc_107 : Cond.code (zY 107) (zB 107) (zMi 107).2.1 (zMi 107).2.2 ∈ tables_1 := List.mem_of_getElem? (i := 862) rfl
set_option maxRecDepth 100000 in
theorem zMc_108 : Cond.code (zY 108) (zB 108) (zMi 108).2.1 (zMi 108).2.2 ∈ tables_1 := List.mem_of_getElem? (i := 869) rfl
set_option maxRecDepth 100000 in
theorem zMc_109 : Cond.code (zY 109) (zB 109) (zMi 109).2.1 (zMi 109).2.2 ∈ tables_1 := List.mem_of_getElem? (i := 873) rfl
set_option maxRecDepth 100000 in
theorem zMc_110 : Cond.code (zY 110) (zB 110) (zMi 110).2.1 (zMi 110).2.2 ∈ tables_1 := List.mem_of_getElem? (i := 890) rfl
set_option maxRecDepth 100000 in
theorem zMc_111 : Cond.code (zY 111) (zB 111) (zMi 111).2.1 (zMi 111).2.2 ∈ tables_1 := List.mem_of_getElem? (i := 894) rfl
set_option maxRecDepth 100000 in
theorem zMc_112 : Cond.code (zY 112) (zB 112) (zMi 112).2.1 (zMi 112).2.2 ∈ tables_1 := List.mem_of_getElem? (i := 906) rfl
set_option maxRecDepth 100000 in
theorem zMc_113 : Cond.code (zY 113) (zB 113) (zMi 113).2.1 (zMi 113).2.2 ∈ tables_1 := List.mem_of_getElem? (i := 913) rfl
set_option maxRecDepth 100000 in
theorem zMc_114 : Cond.code (zY 114) (zB 114) (zMi 114).2.1 (zMi 114).2.2 ∈ tables_1 := List.mem_of_getElem? (i := 917) rfl
set_option maxRecDepth 100000 in
theorem zMc_115 : Cond.code (zY 115) (zB 115) (zMi 115).2.1 (zMi 115).2.2 ∈ tables_1 := List.mem_of_getElem? (i := 921) rfl
set_option maxRecDepth 100000 in
theorem zMc_116 : Cond.code (zY 116) (zB 116) (zMi 116).2.1 (zMi 116).2.2 ∈ tables_1 := List.mem_of_getElem? (i := 929) rfl
set_option maxRecDepth 100000 in
theorem zMc_117 : Cond.code (zY 117) (zB 117) (zMi 117).2.1 (zMi 117).2.2 ∈ tables_1 := List.mem_of_getElem? (i := 945) rfl
set_option maxRecDepth 100000 in
theorem zMc_118 : Cond.code (zY 118) (zB 118) (zMi 118).2.1 (zMi 118).2.2 ∈ tables_1 := List.mem_of_getElem? (i := 953) rfl
set_option maxRecDepth 100000 in
theorem zMc_119 : Cond.code (zY 119) (zB 119) (zMi 119).2.1 (zMi 119).2.2 ∈ tables_1 := List.mem_of_getElem? (i := 957) rfl
set_option maxRecDepth 100000 in
theorem zMc_120 : Cond.code (zY 120) (zB 120) (zMi 120).2.1 (zMi 120).2.2 ∈ tables_1 := List.mem_of_getElem? (i := 965) rfl
set_option maxRecDepth 100000 in
theorem zMc_121 : Cond.code (zY 121) (zB 121) (zMi 121).2.1 (zMi 121).2.2 ∈ tables_1 := List.mem_of_getElem? (i := 973) rfl
set_option maxRecDepth 100000 in
theorem zMc_122 : Cond.code (zY 122) (zB 122) (zMi 122).2.1 (zMi 122).2.2 ∈ tables_1 := List.mem_of_getElem? (i := 981) rfl
set_option maxRecDepth 100000 in
theorem zMc_123 : Cond.code (zY 123) (zB 123) (zMi 123).2.1 (zMi 123).2.2 ∈ tables_1 := List.mem_of_getElem? (i := 985) rfl
set_option maxRecDepth 100000 in
theorem zMc_124 : Cond.code (zY 124) (zB 124) (zMi 124).2.1 (zMi 124).2.2 ∈ tables_1 := List.mem_of_getElem? (i := 1000) rfl
set_option maxRecDepth 100000 in
theorem zMc_125 : Cond.code (zY 125) (zB 125) (zMi 125).2.1 (zMi 125).2.2 ∈ tables_1 := List.mem_of_getElem? (i := 1004) rfl
set_option maxRecDepth 100000 in
theorem zMc_126 : Cond.code (zY 126) (zB 126) (zMi 126).2.1 (zMi 126).2.2 ∈ tables_1 := List.mem_of_getElem? (i := 1008) rfl
set_option maxRecDepth 100000 in
theorem zMc_127 : Cond.code (zY 127) (zB 127) (zMi 127).2.1 (zMi 127).2.2 ∈ tables_1 := List.mem_of_getElem? (i := 1013) rfl
set_option maxRecDepth 100000 in
theorem zMc_128 : Cond.code (zY 128) (zB 128) (zMi 128).2.1 (zMi 128).2.2 ∈ tables_1 := List.mem_of_getElem? (i := 1018) rfl
set_option maxRecDepth 100000 in
theorem zMc_129 : Cond.code (zY 129) (zB 129) (zMi 129).2.1 (zMi 129).2.2 ∈ tables_1 := List.mem_of_getElem? (i := 1023) rfl
set_option maxRecDepth 100000 in
theorem zMc_130 : Cond.code (zY 130) (zB 130) (zMi 130).2.1 (zMi 130).2.2 ∈ tables_1 := List.mem_of_getElem? (i := 1113) rfl
set_option maxRecDepth 100000 in
theorem zMc_131 : Cond.code (zY 131) (zB 131) (zMi 131).2.1 (zMi 131).2.2 ∈ tables_1 := List.mem_of_getElem? (i := 449) rfl
set_option maxRecDepth 100000 in
theorem zMc_132 : Cond.code (zY 132) (zB 132) (zMi 132).2.1 (zMi 132).2.2 ∈ tables_1 := List.mem_of_getElem? (i := 565) rfl
set_option maxRecDepth 100000 in
theorem zMc_133 : Cond.code (zY 133) (zB 133) (zMi 133).2.1 (zMi 133).2.2 ∈ tables_1 := List.mem_of_getElem? (i := 531) rfl
set_option maxRecDepth 100000 in
theorem zMc_134 : Cond.code (zY 134) (zB 134) (zMi 134).2.1 (zMi 134).2.2 ∈ tables_1 := List.mem_of_getElem? (i := 528) rfl
set_option maxRecDepth 100000 in
theorem zMc_135 : Cond.code (zY 135) (zB 135) (zMi 135).2.1 (zMi 135).2.2 ∈ tables_1 := List.mem_of_getElem? (i := 588) rfl
set_option maxRecDepth 100000 in
theorem zMc_136 : Cond.code (zY 136) (zB 136) (zMi 136).2.1 (zMi 136).2.2 ∈ tables_1 := List.mem_of_getElem? (i := 584) rfl
set_option maxRecDepth 100000 in
theorem zMc_137 : Cond.code (zY 137) (zB 137) (zMi 137).2.1 (zMi 137).2.2 ∈ tables_1 := List.mem_of_getElem? (i := 597) rfl
set_option maxRecDepth 100000 in
theorem zMc_138 : Cond.code (zY 138) (zB 138) (zMi 138).2.1 (zMi 138).2.2 ∈ tables_1 := List.mem_of_getElem? (i := 678) rfl
set_option maxRecDepth 100000 in
theorem zMc_139 : Cond.code (zY 139) (zB 139) (zMi 139).2.1 (zMi 139).2.2 ∈ tables_1 := List.mem_of_getElem? (i := 721) rfl
set_option maxRecDepth 100000 in
theorem zMc_140 : Cond.code (zY 140) (zB 140) (zMi 140).2.1 (zMi 140).2.2 ∈ tables_1 := List.mem_of_getElem? (i := 941) rfl
set_option maxRecDepth 100000 in
theorem zMc_141 : Cond.code (zY 141) (zB 141) (zMi 141).2.1 (zMi 141).2.2 ∈ tables_1 := List.mem_of_getElem? (i := 414) rfl
set_option maxRecDepth 100000 in
theorem zMc_142 : Cond.code (zY 142) (zB 142) (zMi 142).2.1 (zMi 142).2.2 ∈ tables_1 := List.mem_of_getElem? (i := 422) rfl
set_option maxRecDepth 100000 in
theorem zMc_143 : Cond.code (zY 143) (zB 143) (zMi 143).2.1 (zMi 143).2.2 ∈ tables_1 := List.mem_of_getElem? (i := 442) rfl
set_option maxRecDepth 100000 in
theorem zMc_144 : Cond.code (zY 144) (zB 144) (zMi 144).2.1 (zMi 144).2.2 ∈ tables_1 := List.mem_of_getElem? (i := 534) rfl
set_option maxRecDepth 100000 in
theorem zMc_145 : Cond.code (zY 145) (zB 145) (zMi 145).2.1 (zMi 145).2.2 ∈ tables_1 := List.mem_of_getElem? (i := 541) rfl
set_option maxRecDepth 100000 in
theorem zMc_146 : Cond.code (zY 146) (zB 146) (zMi 146).2.1 (zMi 146).2.2 ∈ tables_1 := List.mem_of_getElem? (i := 549) rfl
set_option maxRecDepth 100000 in
theorem zMc_147 : Cond.code (zY 147) (zB 147) (zMi 147).2.1 (zMi 147).2.2 ∈ tables_1 := List.mem_of_getElem? (i := 717) rfl
set_option maxRecDepth 100000 in
theorem zMc_148 : Cond.code (zY 148) (zB 148) (zMi 148).2.1 (zMi 148).2.2 ∈ tables_1 := List.mem_of_getElem? (i := 686) rfl
set_option maxRecDepth 100000 in
theorem zMc_149 : Cond.code (zY 149) (zB 149) (zMi 149).2.1 (zMi 149).2.2 ∈ tables_1 := List.mem_of_getElem? (i := 755) rfl
set_option maxRecDepth 100000 in
theorem zMc_150 : Cond.code (zY 150) (zB 150) (zMi 150).2.1 (zMi 150).2.2 ∈ tables_1 := List.mem_of_getElem? (i := 795) rfl
set_option maxRecDepth 100000 in
theorem zMc_151 : Cond.code (zY 151) (zB 151) (zMi 151).2.1 (zMi 151).2.2 ∈ tables_1 := List.mem_of_getElem? (i := 798) rfl
set_option maxRecDepth 100000 in
theorem zMc_152 : Cond.code (zY 152) (zB 152) (zMi 152).2.1 (zMi 152).2.2 ∈ tables_1 := List.mem_of_getElem? (i := 909) rfl
set_option maxRecDepth 100000 in
theorem zMc_153 : Cond.code (zY 153) (zB 153) (zMi 153).2.1 (zMi 153).2.2 ∈ tables_1 := List.mem_of_getElem? (i := 898) rfl
set_option maxRecDepth 100000 in
theorem zMc_154 : Cond.code (zY 154) (zB 154) (zMi 154).2.1 (zMi 154).2.2 ∈ tables_1 := List.mem_of_getElem? (i := 806) rfl
set_option maxRecDepth 100000 in
theorem zMc_155 : Cond.code (zY 155) (zB 155) (zMi 155).2.1 (zMi 155).2.2 ∈ tables_1 := List.mem_of_getElem? (i := 815) rfl
set_option maxRecDepth 100000 in
theorem zMc_156 : Cond.code (zY 156) (zB 156) (zMi 156).2.1 (zMi 156).2.2 ∈ tables_1 := List.mem_of_getElem? (i := 831) rfl
set_option maxRecDepth 100000 in
theorem zMc_157 : Cond.code (zY 157) (zB 157) (zMi 157).2.1 (zMi 157).2.2 ∈ tables_1 := List.mem_of_getElem? (i := 835) rfl
set_option maxRecDepth 100000 in
theorem zMc_158 : Cond.code (zY 158) (zB 158) (zMi 158).2.1 (zMi 158).2.2 ∈ tables_1 := List.mem_of_getElem? (i := 823) rfl
set_option maxRecDepth 100000 in
theorem zMc_159 : Cond.code (zY 159) (zB 159) (zMi 159).2.1 (zMi 159).2.2 ∈ tables_1 := List.mem_of_getElem? (i := 843) rfl
set_option maxRecDepth 100000 in
theorem zMc_160 : Cond.code (zY 160) (zB 160) (zMi 160).2.1 (zMi 160).2.2 ∈ tables_1 := List.mem_of_getElem? (i := 865) rfl
set_option maxRecDepth 100000 in
theorem zMc_161 : Cond.code (zY 161) (zB 161) (zMi 161).2.1 (zMi 161).2.2 ∈ tables_1 := List.mem_of_getElem? (i := 877) rfl
set_option maxRecDepth 100000 in
theorem zMc_162 : Cond.code (zY 162) (zB 162) (zMi 162).2.1 (zMi 162).2.2 ∈ tables_1 := List.mem_of_getElem? (i := 881) rfl
set_option maxRecDepth 100000 in
theorem zMc_163 : Cond.code (zY 163) (zB 163) (zMi 163).2.1 (zMi 163).2.2 ∈ tables_1 := List.mem_of_getElem? (i := 886) rfl
set_option maxRecDepth 100000 in
theorem zMc_164 : Cond.code (zY 164) (zB 164) (zMi 164).2.1 (zMi 164).2.2 ∈ tables_1 := List.mem_of_getElem? (i := 925) rfl
set_option maxRecDepth 100000 in
theorem zMc_165 : Cond.code (zY 165) (zB 165) (zMi 165).2.1 (zMi 165).2.2 ∈ tables_1 := List.mem_of_getElem? (i := 937) rfl
set_option maxRecDepth 100000 in
theorem zMc_166 : Cond.code (zY 166) (zB 166) (zMi 166).2.1 (zMi 166).2.2 ∈ tables_1 := List.mem_of_getElem? (i := 933) rfl
set_option maxRecDepth 100000 in
theorem zMc_167 : Cond.code (zY 167) (zB 167) (zMi 167).2.1 (zMi 167).2.2 ∈ tables_1 := List.mem_of_getElem? (i := 969) rfl
set_option maxRecDepth 100000 in
theorem zMc_168 : Cond.code (zY 168) (zB 168) (zMi 168).2.1 (zMi 168).2.2 ∈ tables_1 := List.mem_of_getElem? (i := 989) rfl
set_option maxRecDepth 100000 in
theorem zMc_169 : Cond.code (zY 169) (zB 169) (zMi 169).2.1 (zMi 169).2.2 ∈ tables_1 := List.mem_of_getElem? (i := 1119) rfl
set_option maxRecDepth 100000 in
theorem zMc_170 : Cond.code (zY 170) (zB 170) (zMi 170).2.1 (zMi 170).2.2 ∈ tables_1 := List.mem_of_getElem? (i := 1279) rfl
set_option maxRecDepth 100000 in
theorem zMc_171 : Cond.code (zY 171) (zB 171) (zMi 171).2.1 (zMi 171).2.2 ∈ tables_1 := List.mem_of_getElem? (i := 1290) rfl
set_option maxRecDepth 100000 in
theorem zMc_172 : Cond.code (zY 172) (zB 172) (zMi 172).2.1 (zMi 172).2.2 ∈ tables_1 := List.mem_of_getElem? (i := 1402) rfl
set_option maxRecDepth 100000 in
theorem zMc_173 : Cond.code (zY 173) (zB 173) (zMi 173).2.1 (zMi 173).2.2 ∈ tables_1 := List.mem_of_getElem? (i := 1373) rfl
set_option maxRecDepth 100000 in
theorem zMc_174 : Cond.code (zY 174) (zB 174) (zMi 174).2.1 (zMi 174).2.2 ∈ tables_1 := List.mem_of_getElem? (i := 1441) rfl
set_option maxRecDepth 100000 in
theorem zMc_175 : Cond.code (zY 175) (zB 175) (zMi 175).2.1 (zMi 175).2.2 ∈ tables_1 := List.mem_of_getElem? (i := 1369) rfl
set_option maxRecDepth 100000 in
theorem zMc_176 : Cond.code (zY 176) (zB 176) (zMi 176).2.1 (zMi 176).2.2 ∈ tables_1 := List.mem_of_getElem? (i := 1381) rfl
set_option maxRecDepth 100000 in
theorem zMc_177 : Cond.code (zY 177) (zB 177) (zMi 177).2.1 (zMi 177).2.2 ∈ tables_1 := List.mem_of_getElem? (i := 1377) rfl
set_option maxRecDepth 100000 in
theorem zMc_178 : Cond.code (zY 178) (zB 178) (zMi 178).2.1 (zMi 178).2.2 ∈ tables_1 := List.mem_of_getElem? (i := 1532) rfl
set_option maxRecDepth 100000 in
theorem zMc_179 : Cond.code (zY 179) (zB 179) (zMi 179).2.1 (zMi 179).2.2 ∈ tables_1 := List.mem_of_getElem? (i := 1283) rfl
set_option maxRecDepth 100000 in
theorem zMc_180 : Cond.code (zY 180) (zB 180) (zMi 180).2.1 (zMi 180).2.2 ∈ tables_1 := List.mem_of_getElem? (i := 1287) rfl
set_option maxRecDepth 100000 in
theorem zMc_181 : Cond.code (zY 181) (zB 181) (zMi 181).2.1 (zMi 181).2.2 ∈ tables_1 := List.mem_of_getElem? (i := 1298) rfl
set_option maxRecDepth 100000 in
theorem zMc_182 : Cond.code (zY 182) (zB 182) (zMi 182).2.1 (zMi 182).2.2 ∈ tables_1 := List.mem_of_getElem? (i := 1318) rfl
set_option maxRecDepth 100000 in
theorem zMc_183 : Cond.code (zY 183) (zB 183) (zMi 183).2.1 (zMi 183).2.2 ∈ tables_1 := List.mem_of_getElem? (i := 1302) rfl
set_option maxRecDepth 100000 in
theorem zMc_184 : Cond.code (zY 184) (zB 184) (zMi 184).2.1 (zMi 184).2.2 ∈ tables_1 := List.mem_of_getElem? (i := 1306) rfl
set_option maxRecDepth 100000 in
theorem zMc_185 : Cond.code (zY 185) (zB 185) (zMi 185).2.1 (zMi 185).2.2 ∈ tables_1 := List.mem_of_getElem? (i := 1326) rfl
set_option maxRecDepth 100000 in
theorem zMc_186 : Cond.code (zY 186) (zB 186) (zMi 186).2.1 (zMi 186).2.2 ∈ tables_1 := List.mem_of_getElem? (i := 1322) rfl
set_option maxRecDepth 100000 in
theorem zMc_187 : Cond.code (zY 187) (zB 187) (zMi 187).2.1 (zMi 187).2.2 ∈ tables_1 := List.mem_of_getElem? (i := 1314) rfl
set_option maxRecDepth 100000 in
theorem zMc_188 : Cond.code (zY 188) (zB 188) (zMi 188).2.1 (zMi 188).2.2 ∈ tables_1 := List.mem_of_getElem? (i := 1330) rfl
set_option maxRecDepth 100000 in
theorem zMc_189 : Cond.code (zY 189) (zB 189) (zMi 189).2.1 (zMi 189).2.2 ∈ tables_1 := List.mem_of_getElem? (i := 1294) rfl
set_option maxRecDepth 100000 in
theorem zMc_190 : Cond.code (zY 190) (zB 190) (zMi 190).2.1 (zMi 190).2.2 ∈ tables_1 := List.mem_of_getElem? (i := 1333) rfl
set_option maxRecDepth 100000 in
theorem zMc_191 : Cond.code (zY 191) (zB 191) (zMi 191).2.1 (zMi 191).2.2 ∈ tables_1 := List.mem_of_getElem? (i := 1310) rfl
set_option maxRecDepth 100000 in
theorem zMc_192 : Cond.code (zY 192) (zB 192) (zMi 192).2.1 (zMi 192).2.2 ∈ tables_1 := List.mem_of_getElem? (i := 1337) rfl
set_option maxRecDepth 100000 in
theorem zMc_193 : Cond.code (zY 193) (zB 193) (zMi 193).2.1 (zMi 193).2.2 ∈ tables_1 := List.mem_of_getElem? (i := 1345) rfl
set_option maxRecDepth 100000 in
theorem zMc_194 : Cond.code (zY 194) (zB 194) (zMi 194).2.1 (zMi 194).2.2 ∈ tables_1 := List.mem_of_getElem? (i := 1349) rfl
set_option maxRecDepth 100000 in
theorem zMc_195 : Cond.code (zY 195) (zB 195) (zMi 195).2.1 (zMi 195).2.2 ∈ tables_1 := List.mem_of_getElem? (i := 1353) rfl
set_option maxRecDepth 100000 in
theorem zMc_196 : Cond.code (zY 196) (zB 196) (zMi 196).2.1 (zMi 196).2.2 ∈ tables_1 := List.mem_of_getElem? (i := 1357) rfl
set_option maxRecDepth 100000 in
theorem zMc_197 : Cond.code (zY 197) (zB 197) (zMi 197).2.1 (zMi 197).2.2 ∈ tables_1 := List.mem_of_getElem? (i := 1361) rfl
set_option maxRecDepth 100000 in
theorem zMc_198 : Cond.code (zY 198) (zB 198) (zMi 198).2.1 (zMi 198).2.2 ∈ tables_1 := List.mem_of_getElem? (i := 1341) rfl
set_option maxRecDepth 100000 in
theorem zMc_199 : Cond.code (zY 199) (zB 199) (zMi 199).2.1 (zMi 199).2.2 ∈ tables_1 := List.mem_of_getElem? (i := 1437) rfl
set_option maxRecDepth 100000 in
theorem zMc_200 : Cond.code (zY 200) (zB 200) (zMi 200).2.1 (zMi 200).2.2 ∈ tables_1 := List.mem_of_getElem? (i := 1365) rfl
set_option maxRecDepth 100000 in
theorem zMc_201 : Cond.code (zY 201) (zB 201) (zMi 201).2.1 (zMi 201).2.2 ∈ tables_1 := List.mem_of_getElem? (i := 1385) rfl
set_option maxRecDepth 100000 in
theorem zMc_202 : Cond.code (zY 202) (zB 202) (zMi 202).2.1 (zMi 202).2.2 ∈ tables_1 := List.mem_of_getElem? (i := 1389) rfl
set_option maxRecDepth 100000 in
theorem zMc_203 : Cond.code (zY 203) (zB 203) (zMi 203).2.1 (zMi 203).2.2 ∈ tables_1 := List.mem_of_getElem? (i := 1399) rfl
set_option maxRecDepth 100000 in
theorem zMc_204 : Cond.code (zY 204) (zB 204) (zMi 204).2.1 (zMi 204).2.2 ∈ tables_1 := List.mem_of_getElem? (i := 1395) rfl
set_option maxRecDepth 100000 in
theorem zMc_205 : Cond.code (zY 205) (zB 205) (zMi 205).2.1 (zMi 205).2.2 ∈ tables_1 := List.mem_of_getElem? (i := 1449) rfl
set_option maxRecDepth 100000 in
theorem zMc_206 : Cond.code (zY 206) (zB 206) (zMi 206).2.1 (zMi 206).2.2 ∈ tables_1 := List.mem_of_getElem? (i := 1453) rfl
set_option maxRecDepth 100000 in
theorem zMc_207 : Cond.code (zY 207) (zB 207) (zMi 207).2.1 (zMi 207).2.2 ∈ tables_1 := List.mem_of_getElem? (i := 1457) rfl
set_option maxRecDepth 100000 in
theorem zMc_208 : Cond.code (zY 208) (zB 208) (zMi 208).2.1 (zMi 208).2.2 ∈ tables_1 := List.mem_of_getElem? (i := 1418) rfl
set_option maxRecDepth 100000 in
theorem zMc_209 : Cond.code (zY 209) (zB 209) (zMi 209).2.1 (zMi 209).2.2 ∈ tables_1 := List.mem_of_getElem? (i := 1415) rfl
set_option maxRecDepth 100000 in
theorem zMc_210 : Cond.code (zY 210) (zB 210) (zMi 210).2.1 (zMi 210).2.2 ∈ tables_1 := List.mem_of_getElem? (i := 1411) rfl
set_option maxRecDepth 100000 in
theorem zMc_211 : Cond.code (zY 211) (zB 211) (zMi 211).2.1 (zMi 211).2.2 ∈ tables_1 := List.mem_of_getElem? (i := 1421) rfl
set_option maxRecDepth 100000 in
theorem zMc_212 : Cond.code (zY 212) (zB 212) (zMi 212).2.1 (zMi 212).2.2 ∈ tables_1 := List.mem_of_getElem? (i := 1407) rfl
set_option maxRecDepth 100000 in
theorem zMc_213 : Cond.code (zY 213) (zB 213) (zMi 213).2.1 (zMi 213).2.2 ∈ tables_1 := List.mem_of_getElem? (i := 1429) rfl
set_option maxRecDepth 100000 in
theorem zMc_214 : Cond.code (zY 214) (zB 214) (zMi 214).2.1 (zMi 214).2.2 ∈ tables_1 := List.mem_of_getElem? (i := 1425) rfl
set_option maxRecDepth 100000 in
theorem zMc_215 : Cond.code (zY 215) (zB 215) (zMi 215).2.1 (zMi 215).2.2 ∈ tables_1 := List.mem_of_getElem? (i := 1433) rfl
set_option maxRecDepth 100000 in
theorem zMc_216 : Cond.code (zY 216) (zB 216) (zMi 216).2.1 (zMi 216).2.2 ∈ tables_1 := List.mem_of_getElem? (i := 1461) rfl
set_option maxRecDepth 100000 in
theorem zMc_217 : Cond.code (zY 217) (zB 217) (zMi 217).2.1 (zMi 217).2.2 ∈ tables_1 := List.mem_of_getElem? (i := 1445) rfl
set_option maxRecDepth 100000 in
theorem zMc_218 : Cond.code (zY 218) (zB 218) (zMi 218).2.1 (zMi 218).2.2 ∈ tables_1 := List.mem_of_getElem? (i := 1465) rfl
set_option maxRecDepth 100000 in
theorem zMc_219 : Cond.code (zY 219) (zB 219) (zMi 219).2.1 (zMi 219).2.2 ∈ tables_1 := List.mem_of_getElem? (i := 1469) rfl
set_option maxRecDepth 100000 in
theorem zMc_220 : Cond.code (zY 220) (zB 220) (zMi 220).2.1 (zMi 220).2.2 ∈ tables_1 := List.mem_of_getElem? (i := 1473) rfl
set_option maxRecDepth 100000 in
theorem zMc_221 : Cond.code (zY 221) (zB 221) (zMi 221).2.1 (zMi 221).2.2 ∈ tables_1 := List.mem_of_getElem? (i := 1477) rfl
set_option maxRecDepth 100000 in
theorem zMc_222 : Cond.code (zY 222) (zB 222) (zMi 222).2.1 (zMi 222).2.2 ∈ tables_1 := List.mem_of_getElem? (i := 1481) rfl
set_option maxRecDepth 100000 in
theorem zMc_223 : Cond.code (zY 223) (zB 223) (zMi 223).2.1 (zMi 223).2.2 ∈ tables_1 := List.mem_of_getElem? (i := 1489) rfl
set_option maxRecDepth 100000 in
theorem zMc_224 : Cond.code (zY 224) (zB 224) (zMi 224).2.1 (zMi 224).2.2 ∈ tables_1 := List.mem_of_getElem? (i := 1493) rfl
set_option maxRecDepth 100000 in
theorem zMc_225 : Cond.code (zY 225) (zB 225) (zMi 225).2.1 (zMi 225).2.2 ∈ tables_1 := List.mem_of_getElem? (i := 1485) rfl
set_option maxRecDepth 100000 in
theorem zMc_226 : Cond.code (zY 226) (zB 226) (zMi 226).2.1 (zMi 226).2.2 ∈ tables_1 := List.mem_of_getElem? (i := 1497) rfl
set_option maxRecDepth 100000 in
theorem zMc_227 : Cond.code (zY 227) (zB 227) (zMi 227).2.1 (zMi 227).2.2 ∈ tables_1 := List.mem_of_getElem? (i := 1505) rfl
set_option maxRecDepth 100000 in
theorem zMc_228 : Cond.code (zY 228) (zB 228) (zMi 228).2.1 (zMi 228).2.2 ∈ tables_1 := List.mem_of_getElem? (i := 1509) rfl
set_option maxRecDepth 100000 in
theorem zMc_229 : Cond.code (zY 229) (zB 229) (zMi 229).2.1 (zMi 229).2.2 ∈ tables_1 := List.mem_of_getElem? (i := 1501) rfl
set_option maxRecDepth 100000 in
theorem zMc_230 : Cond.code (zY 230) (zB 230) (zMi 230).2.1 (zMi 230).2.2 ∈ tables_1 := List.mem_of_getElem? (i := 1517) rfl
set_option maxRecDepth 100000 in
theorem zMc_231 : Cond.code (zY 231) (zB 231) (zMi 231).2.1 (zMi 231).2.2 ∈ tables_1 := List.mem_of_getElem? (i := 1513) rfl
set_option maxRecDepth 100000 in
theorem zMc_232 : Cond.code (zY 232) (zB 232) (zMi 232).2.1 (zMi 232).2.2 ∈ tables_1 := List.mem_of_getElem? (i := 1521) rfl
set_option maxRecDepth 100000 in
theorem zMc_233 : Cond.code (zY 233) (zB 233) (zMi 233).2.1 (zMi 233).2.2 ∈ tables_1 := List.mem_of_getElem? (i := 1525) rfl
set_option maxRecDepth 100000 in
theorem zMc_234 : Cond.code (zY 234) (zB 234) (zMi 234).2.1 (zMi 234).2.2 ∈ tables_1 := List.mem_of_getElem? (i := 1536) rfl
set_option maxRecDepth 100000 in
theorem zMc_235 : Cond.code (zY 235) (zB 235) (zMi 235).2.1 (zMi 235).2.2 ∈ tables_1 := List.mem_of_getElem? (i := 1529) rfl
set_option maxRecDepth 100000 in
theorem zMc_236 : Cond.code (zY 236) (zB 236) (zMi 236).2.1 (zMi 236).2.2 ∈ tables_1 := List.mem_of_getElem? (i := 1548) rfl
set_option maxRecDepth 100000 in
theorem zMc_237 : Cond.code (zY 237) (zB 237) (zMi 237).2.1 (zMi 237).2.2 ∈ tables_1 := List.mem_of_getElem? (i := 1544) rfl
set_option maxRecDepth 100000 in
theorem zMc_238 : Cond.code (zY 238) (zB 238) (zMi 238).2.1 (zMi 238).2.2 ∈ tables_1 := List.mem_of_getElem? (i := 1540) rfl
set_option maxRecDepth 100000 in
theorem zMc_239 : Cond.code (zY 239) (zB 239) (zMi 239).2.1 (zMi 239).2.2 ∈ tables_1 := List.mem_of_getElem? (i := 1552) rfl
set_option maxRecDepth 100000 in
theorem zMc_240 : Cond.code (zY 240) (zB 240) (zMi 240).2.1 (zMi 240).2.2 ∈ tables_1 := List.mem_of_getElem? (i := 1556) rfl
set_option maxRecDepth 100000 in
theorem zMc_241 : Cond.code (zY 241) (zB 241) (zMi 241).2.1 (zMi 241).2.2 ∈ tables_1 := List.mem_of_getElem? (i := 1564) rfl
set_option maxRecDepth 100000 in
theorem zMc_242 : Cond.code (zY 242) (zB 242) (zMi 242).2.1 (zMi 242).2.2 ∈ tables_1 := List.mem_of_getElem? (i := 1560) rfl
set_option maxRecDepth 100000 in
theorem zMc_243 : Cond.code (zY 243) (zB 243) (zMi 243).2.1 (zMi 243).2.2 ∈ tables_1 := List.mem_of_getElem? (i := 1569) rfl
set_option maxRecDepth 100000 in
theorem zMc_244 : Cond.code (zY 244) (zB 244) (zMi 244).2.1 (zMi 244).2.2 ∈ tables_1 := List.mem_of_getElem? (i := 1573) rfl
set_option maxRecDepth 100000 in
theorem zMc_245 : Cond.code (zY 245) (zB 245) (zMi 245).2.1 (zMi 245).2.2 ∈ tables_1 := List.mem_of_getElem? (i := 1577) rfl
set_option maxRecDepth 100000 in
theorem zMc_246 : Cond.code (zY 246) (zB 246) (zMi 246).2.1 (zMi 246).2.2 ∈ tables_1 := List.mem_of_getElem? (i := 1589) rfl
set_option maxRecDepth 100000 in
theorem zMc_247 : Cond.code (zY 247) (zB 247) (zMi 247).2.1 (zMi 247).2.2 ∈ tables_1 := List.mem_of_getElem? (i := 1586) rfl
set_option maxRecDepth 100000 in
theorem zMc_248 : Cond.code (zY 248) (zB 248) (zMi 248).2.1 (zMi 248).2.2 ∈ tables_1 := List.mem_of_getElem? (i := 1581) rfl
set_option maxRecDepth 100000 in
theorem zMc_249 : Cond.code (zY 249) (zB 249) (zMi 249).2.1 (zMi 249).2.2 ∈ tables_1 := List.mem_of_getElem? (i := 1597) rfl
set_option maxRecDepth 100000 in
theorem zMc_250 : Cond.code (zY 250) (zB 250) (zMi 250).2.1 (zMi 250).2.2 ∈ tables_1 := List.mem_of_getElem? (i := 1594) rfl
set_option maxRecDepth 100000 in
theorem zMc_251 : Cond.code (zY 251) (zB 251) (zMi 251).2.1 (zMi 251).2.2 ∈ tables_1 := List.mem_of_getElem? (i := 1601) rfl
set_option maxRecDepth 100000 in
theorem zMc_252 : Cond.code (zY 252) (zB 252) (zMi 252).2.1 (zMi 252).2.2 ∈ tables_1 := List.mem_of_getElem? (i := 1605) rfl
set_option maxRecDepth 100000 in
theorem zMc_253 : Cond.code (zY 253) (zB 253) (zMi 253).2.1 (zMi 253).2.2 ∈ tables_1 := List.mem_of_getElem? (i := 1613) rfl
set_option maxRecDepth 100000 in
theorem zMc_254 : Cond.code (zY 254) (zB 254) (zMi 254).2.1 (zMi 254).2.2 ∈ tables_1 := List.mem_of_getElem? (i := 1609) rfl
set_option maxRecDepth 100000 in
theorem zMc_255 : Cond.code (zY 255) (zB 255) (zMi 255).2.1 (zMi 255).2.2 ∈ tables_1 := List.mem_of_getElem? (i := 1621) rfl
set_option maxRecDepth 100000 in
theorem zMc_256 : Cond.code (zY 256) (zB 256) (zMi 256).2.1 (zMi 256).2.2 ∈ tables_1 := List.mem_of_getElem? (i := 1617) rfl
set_option maxRecDepth 100000 in
theorem zMc_257 : Cond.code (zY 257) (zB 257) (zMi 257).2.1 (zMi 257).2.2 ∈ tables_1 := List.mem_of_getElem? (i := 1625) rfl
set_option maxRecDepth 100000 in
theorem zMc_258 : Cond.code (zY 258) (zB 258) (zMi 258).2.1 (zMi 258).2.2 ∈ tables_1 := List.mem_of_getElem? (i := 1629) rfl
set_option maxRecDepth 100000 in
theorem zMc_259 : Cond.code (zY 259) (zB 259) (zMi 259).2.1 (zMi 259).2.2 ∈ tables_1 := List.mem_of_getElem? (i := 1637) rfl
set_option maxRecDepth 100000 in
theorem zMc_260 : Cond.code (zY 260) (zB 260) (zMi 260).2.1 (zMi 260).2.2 ∈ tables_1 := List.mem_of_getElem? (i := 1633) rfl
set_option maxRecDepth 100000 in
theorem zMc_261 : Cond.code (zY 261) (zB 261) (zMi 261).2.1 (zMi 261).2.2 ∈ tables_1 := List.mem_of_getElem? (i := 1641) rfl
set_option maxRecDepth 100000 in
theorem zMc_262 : Cond.code (zY 262) (zB 262) (zMi 262).2.1 (zMi 262).2.2 ∈ tables_1 := List.mem_of_getElem? (i := 1646) rfl
set_option maxRecDepth 100000 in
theorem zMc_263 : Cond.code (zY 263) (zB 263) (zMi 263).2.1 (zMi 263).2.2 ∈ tables_1 := List.mem_of_getElem? (i := 1650) rfl
set_option maxRecDepth 100000 in
theorem zMc_264 : Cond.code (zY 264) (zB 264) (zMi 264).2.1 (zMi 264).2.2 ∈ tables_1 := List.mem_of_getElem? (i := 1662) rfl
set_option maxRecDepth 100000 in
theorem zMc_265 : Cond.code (zY 265) (zB 265) (zMi 265).2.1 (zMi 265).2.2 ∈ tables_1 := List.mem_of_getElem? (i := 1658) rfl
set_option maxRecDepth 100000 in
theorem zMc_266 : Cond.code (zY 266) (zB 266) (zMi 266).2.1 (zMi 266).2.2 ∈ tables_1 := List.mem_of_getElem? (i := 1654) rfl
set_option maxRecDepth 100000 in
theorem zMc_267 : Cond.code (zY 267) (zB 267) (zMi 267).2.1 (zMi 267).2.2 ∈ tables_1 := List.mem_of_getElem? (i := 1666) rfl
set_option maxRecDepth 100000 in
theorem zMc_268 : Cond.code (zY 268) (zB 268) (zMi 268).2.1 (zMi 268).2.2 ∈ tables_1 := List.mem_of_getElem? (i := 1670) rfl
set_option maxRecDepth 100000 in
theorem zMc_269 : Cond.code (zY 269) (zB 269) (zMi 269).2.1 (zMi 269).2.2 ∈ tables_1 := List.mem_of_getElem? (i := 1674) rfl
set_option maxRecDepth 100000 in
theorem zMc_270 : Cond.code (zY 270) (zB 270) (zMi 270).2.1 (zMi 270).2.2 ∈ tables_1 := List.mem_of_getElem? (i := 1679) rfl
set_option maxRecDepth 100000 in
theorem zMc_271 : Cond.code (zY 271) (zB 271) (zMi 271).2.1 (zMi 271).2.2 ∈ tables_1 := List.mem_of_getElem? (i := 1683) rfl
set_option maxRecDepth 100000 in
theorem zMc_272 : Cond.code (zY 272) (zB 272) (zMi 272).2.1 (zMi 272).2.2 ∈ tables_1 := List.mem_of_getElem? (i := 1687) rfl
set_option maxRecDepth 100000 in
theorem zMc_273 : Cond.code (zY 273) (zB 273) (zMi 273).2.1 (zMi 273).2.2 ∈ tables_1 := List.mem_of_getElem? (i := 1691) rfl
def zMc_l0 : List (Nat) := [0, 1, 2, 3, 4, 5, 6, 7, 8, 9, 10, 11, 12, 13, 14, 15]
theorem zMc_r0 : ∀ q ∈ zMc_l0, Cond.code (zY q) (zB q) (zMi q).2.1 (zMi q).2.2 ∈ tables_1 := List.forall_mem_cons.mpr ⟨zMc_0, List.forall_mem_cons.mpr ⟨zMc_1, List.forall_mem_cons.mpr ⟨zMc_2, List.forall_mem_cons.mpr ⟨zMc_3, List.forall_mem_cons.mpr ⟨zMc_4, List.forall_mem_cons.mpr ⟨zMc_5, List.forall_mem_cons.mpr ⟨zMc_6, List.forall_mem_cons.mpr ⟨zMc_7, List.forall_mem_cons.mpr ⟨zMc_8, List.forall_mem_cons.mpr ⟨zMc_9, List.forall_mem_cons.mpr ⟨zMc_10, List.forall_mem_cons.mpr ⟨zMc_11, List.forall_mem_cons.mpr ⟨zMc_12, List.forall_mem_cons.mpr ⟨zMc_13, List.forall_mem_cons.mpr ⟨zMc_14, List.forall_mem_cons.mpr ⟨zMc_15, fun _ h => absurd h List.not_mem_nil⟩⟩⟩⟩⟩⟩⟩⟩⟩⟩⟩⟩⟩⟩⟩⟩
def zMc_l1 : List (Nat) := [16, 17, 18, 19, 20, 21, 22, 23, 24, 25, 26, 27, 28, 29, 30, 31]
theorem zMc_r1 : ∀ q ∈ zMc_l1, Cond.code (zY q) (zB q) (zMi q).2.1 (zMi q).2.2 ∈ tables_1 := List.forall_mem_cons.mpr ⟨zMc_16, List.forall_mem_cons.mpr ⟨zMc_17, List.forall_mem_cons.mpr ⟨zMc_18, List.forall_mem_cons.mpr ⟨zMc_19, List.forall_mem_cons.mpr ⟨zMc_20, List.forall_mem_cons.mpr ⟨zMc_21, List.forall_mem_cons.mpr ⟨zMc_22, List.forall_mem_cons.mpr ⟨zMc_23, List.forall_mem_cons.mpr ⟨zMc_24, List.forall_mem_cons.mpr ⟨zMc_25, List.forall_mem_cons.mpr ⟨zMc_26, List.forall_mem_cons.mpr ⟨zMc_27, List.forall_mem_cons.mpr ⟨zMc_28, List.forall_mem_cons.mpr ⟨zMc_29, List.forall_mem_cons.mpr ⟨zMc_30, List.forall_mem_cons.mpr ⟨zMc_31, fun _ h => absurd h List.not_mem_nil⟩⟩⟩⟩⟩⟩⟩⟩⟩⟩⟩⟩⟩⟩⟩⟩
def zMc_l2 : List (Nat) := [32, 33, 34, 35, 36, 37, 38, 39, 40, 41, 42, 43, 44, 45, 46, 47]
theorem zMc_r2 : ∀ q ∈ zMc_l2, Cond.code (zY q) (zB q) (zMi q).2.1 (zMi q).2.2 ∈ tables_1 := List.forall_mem_cons.mpr ⟨zMc_32, List.forall_mem_cons.mpr ⟨zMc_33, List.forall_mem_cons.mpr ⟨zMc_34, List.forall_mem_cons.mpr ⟨zMc_35, List.forall_mem_cons.mpr ⟨zMc_36, List.forall_mem_cons.mpr ⟨zMc_37, List.forall_mem_cons.mpr ⟨zMc_38, List.forall_mem_cons.mpr ⟨zMc_39, List.forall_mem_cons.mpr ⟨zMc_40, List.forall_mem_cons.mpr ⟨zMc_41, List.forall_mem_cons.mpr ⟨zMc_42, List.forall_mem_cons.mpr ⟨zMc_43, List.forall_mem_cons.mpr ⟨zMc_44, List.forall_mem_cons.mpr ⟨zMc_45, List.forall_mem_cons.mpr ⟨zMc_46, List.forall_mem_cons.mpr ⟨zMc_47, fun _ h => absurd h List.not_mem_nil⟩⟩⟩⟩⟩⟩⟩⟩⟩⟩⟩⟩⟩⟩⟩⟩
def zMc_l3 : List (Nat) := [48, 49, 50, 51, 52, 53, 54, 55, 56, 57, 58, 59, 60, 61, 62, 63]
theorem zMc_r3 : ∀ q ∈ zMc_l3, Cond.code (zY q) (zB q) (zMi q).2.1 (zMi q).2.2 ∈ tables_1 := List.forall_mem_cons.mpr ⟨zMc_48, List.forall_mem_cons.mpr ⟨zMc_49, List.forall_mem_cons.mpr ⟨zMc_50, List.forall_mem_cons.mpr ⟨zMc_51, List.forall_mem_cons.mpr ⟨zMc_52, List.forall_mem_cons.mpr ⟨zMc_53, List.forall_mem_cons.mpr ⟨zMc_54, List.forall_mem_cons.mpr ⟨zMc_55, List.forall_mem_cons.mpr ⟨zMc_56, List.forall_mem_cons.mpr ⟨zMc_57, List.forall_mem_cons.mpr ⟨zMc_58, List.forall_mem_cons.mpr ⟨zMc_59, List.forall_mem_cons.mpr ⟨zMc_60, List.forall_mem_cons.mpr ⟨zMc_61, List.forall_mem_cons.mpr ⟨zMc_62, List.forall_mem_cons.mpr ⟨zMc_63, fun _ h => absurd h List.not_mem_nil⟩⟩⟩⟩⟩⟩⟩⟩⟩⟩⟩⟩⟩⟩⟩⟩
def zMc_l4 : List (Nat) := [64, 65, 66, 67, 68, 69, 70, 71, 72, 73, 74, 75, 76, 77, 78, 79]
theorem zMc_r4 : ∀ q ∈ zMc_l4, Cond.code (zY q) (zB q) (zMi q).2.1 (zMi q).2.2 ∈ tables_1 := List.forall_mem_cons.mpr ⟨zMc_64, List.forall_mem_cons.mpr ⟨zMc_65, List.forall_mem_cons.mpr ⟨zMc_66, List.forall_mem_cons.mpr ⟨zMc_67, List.forall_mem_cons.mpr ⟨zMc_68, List.forall_mem_cons.mpr ⟨zMc_69, List.forall_mem_cons.mpr ⟨zMc_70, List.forall_mem_cons.mpr ⟨zMc_71, List.forall_mem_cons.mpr ⟨zMc_72, List.forall_mem_cons.mpr ⟨zMc_73, List.forall_mem_cons.mpr ⟨zMc_74, List.forall_mem_cons.mpr ⟨zMc_75, List.forall_mem_cons.mpr ⟨zMc_76, List.forall_mem_cons.mpr ⟨zMc_77, List.forall_mem_cons.mpr ⟨zMc_78, List.forall_mem_cons.mpr ⟨zMc_79, fun _ h => absurd h List.not_mem_nil⟩⟩⟩⟩⟩⟩⟩⟩⟩⟩⟩⟩⟩⟩⟩⟩
def zMc_l5 : List (Nat) := [80, 81, 82, 83, 84, 85, 86, 87, 88, 89, 90, 91, 92, 93, 94, 95]
theorem zMc_r5 : ∀ q ∈ zMc_l5, Cond.code (zY q) (zB q) (zMi q).2.1 (zMi q).2.2 ∈ tables_1 := List.forall_mem_cons.mpr ⟨zMc_80, List.forall_mem_cons.mpr ⟨zMc_81, List.forall_mem_cons.mpr ⟨zMc_82, List.forall_mem_cons.mpr ⟨zMc_83, List.forall_mem_cons.mpr ⟨zMc_84, List.forall_mem_cons.mpr ⟨zMc_85, List.forall_mem_cons.mpr ⟨zMc_86, List.forall_mem_cons.mpr ⟨zMc_87, List.forall_mem_cons.mpr ⟨zMc_88, List.forall_mem_cons.mpr ⟨zMc_89, List.forall_mem_cons.mpr ⟨zMc_90, List.forall_mem_cons.mpr ⟨zMc_91, List.forall_mem_cons.mpr ⟨zMc_92, List.forall_mem_cons.mpr ⟨zMc_93, List.forall_mem_cons.mpr ⟨zMc_94, List.forall_mem_cons.mpr ⟨zMc_95, fun _ h => absurd h List.not_mem_nil⟩⟩⟩⟩⟩⟩⟩⟩⟩⟩⟩⟩⟩⟩⟩⟩
def zMc_l6 : List (Nat) := [96, 97, 98, 99, 100, 101, 102, 103, 104, 105, 106, 107, 108, 109, 110, 111]
theorem zMc_r6 : ∀ q ∈ zMc_l6, Cond.code (zY q) (zB q) (zMi q).2.1 (zMi q).2.2 ∈ tables_1 := List.forall_mem_cons.mpr ⟨zMc_96, List.forall_mem_cons.mpr ⟨zMc_97, List.forall_mem_cons.mpr ⟨zMc_98, List.forall_mem_cons.mpr ⟨zMc_99, List.forall_mem_cons.mpr ⟨zMc_100, List.forall_mem_cons.mpr ⟨zMc_101, List.forall_mem_cons.mpr ⟨zMc_102, List.forall_mem_cons.mpr ⟨zMc_103, List.forall_mem_cons.mpr ⟨zMc_104, List.forall_mem_cons.mpr ⟨zMc_105, List.forall_mem_cons.mpr ⟨zMc_106, List.forall_mem_cons.mpr ⟨zMc_107, List.forall_mem_cons.mpr ⟨zMc_108, List.forall_mem_cons.mpr ⟨zMc_109, List.forall_mem_cons.mpr ⟨zMc_110, List.forall_mem_cons.mpr ⟨zMc_111, fun _ h => absurd h List.not_mem_nil⟩⟩⟩⟩⟩⟩⟩⟩⟩⟩⟩⟩⟩⟩⟩⟩
def zMc_l7 : List (Nat) := [112, 113, 114, 115, 116, 117, 118, 119, 120, 121, 122, 123, 124, 125, 126, 127]
theorem zMc_r7 : ∀ q ∈ zMc_l7, Cond.code (zY q) (zB q) (zMi q).2.1 (zMi q).2.2 ∈ tables_1 := List.forall_mem_cons.mpr ⟨zMc_112, List.forall_mem_cons.mpr ⟨zMc_113, List.forall_mem_cons.mpr ⟨zMc_114, List.forall_mem_cons.mpr ⟨zMc_115, List.forall_mem_cons.mpr ⟨zMc_116, List.forall_mem_cons.mpr ⟨zMc_117, List.forall_mem_cons.mpr ⟨zMc_118, List.forall_mem_cons.mpr ⟨zMc_119, List.forall_mem_cons.mpr ⟨zMc_120, List.forall_mem_cons.mpr ⟨zMc_121, List.forall_mem_cons.mpr ⟨zMc_122, List.forall_mem_cons.mpr ⟨zMc_123, List.forall_mem_cons.mpr ⟨zMc_124, List.forall_mem_cons.mpr ⟨zMc_125, List.forall_mem_cons.mpr ⟨zMc_126, List.forall_mem_cons.mpr ⟨zMc_127, fun _ h => absurd h List.not_mem_nil⟩⟩⟩⟩⟩⟩⟩⟩⟩⟩⟩⟩⟩⟩⟩⟩
def zMc_l8 : List (Nat) := [128, 129, 130, 131, 132, 133, 134, 135, 136, 137, 138, 139, 140, 141, 142, 143]
theorem zMc_r8 : ∀ q ∈ zMc_l8, Cond.code (zY q) (zB q) (zMi q).2.1 (zMi q).2.2 ∈ tables_1 := List.forall_mem_cons.mpr ⟨zMc_128, List.forall_mem_cons.mpr ⟨zMc_129, List.forall_mem_cons.mpr ⟨zMc_130, List.forall_mem_cons.mpr ⟨zMc_131, List.forall_mem_cons.mpr ⟨zMc_132, List.forall_mem_cons.mpr ⟨zMc_133, List.forall_mem_cons.mpr ⟨zMc_134, List.forall_mem_cons.mpr ⟨zMc_135, List.forall_mem_cons.mpr ⟨zMc_136, List.forall_mem_cons.mpr ⟨zMc_137, List.forall_mem_cons.mpr ⟨zMc_138, List.forall_mem_cons.mpr ⟨zMc_139, List.forall_mem_cons.mpr ⟨zMc_140, List.forall_mem_cons.mpr ⟨zMc_141, List.forall_mem_cons.mpr ⟨zMc_142, List.forall_mem_cons.mpr ⟨zMc_143, fun _ h => absurd h List.not_mem_nil⟩⟩⟩⟩⟩⟩⟩⟩⟩⟩⟩⟩⟩⟩⟩⟩
def zMc_l9 : List (Nat) := [144, 145, 146, 147, 148, 149, 150, 151, 152, 153, 154, 155, 156, 157, 158, 159]
theorem zMc_r9 : ∀ q ∈ zMc_l9, Cond.code (zY q) (zB q) (zMi q).2.1 (zMi q).2.2 ∈ tables_1 := List.forall_mem_cons.mpr ⟨zMc_144, List.forall_mem_cons.mpr ⟨zMc_145, List.forall_mem_cons.mpr ⟨zMc_146, List.forall_mem_cons.mpr ⟨zMc_147, List.forall_mem_cons.mpr ⟨zMc_148, List.forall_mem_cons.mpr ⟨zMc_149, List.forall_mem_cons.mpr ⟨zMc_150, List.forall_mem_cons.mpr ⟨zMc_151, List.forall_mem_cons.mpr ⟨zMc_152, List.forall_mem_cons.mpr ⟨zMc_153, List.forall_mem_cons.mpr ⟨zMc_154, List.forall_mem_cons.mpr ⟨zMc_155, List.forall_mem_cons.mpr ⟨zMc_156, List.forall_mem_cons.mpr ⟨zMc_157, List.forall_mem_cons.mpr ⟨zMc_158, List.forall_mem_cons.mpr ⟨zMc_159, fun _ h => absurd h List.not_mem_nil⟩⟩⟩⟩⟩⟩⟩⟩⟩⟩⟩⟩⟩⟩⟩⟩
def zMc_l10 : List (Nat) := [160, 161, 162, 163, 164, 165, 166, 167, 168, 169, 170, 171, 172, 173, 174, 175]
theorem zMc_r10 : ∀ q ∈ zMc_l10, Cond.code (zY q) (zB q) (zMi q).2.1 (zMi q).2.2 ∈ tables_1 := List.forall_mem_cons.mpr ⟨zMc_160, List.forall_mem_cons.mpr ⟨zMc_161, List.forall_mem_cons.mpr ⟨zMc_162, List.forall_mem_cons.mpr ⟨zMc_163, List.forall_mem_cons.mpr ⟨zMc_164, List.forall_mem_cons.mpr ⟨zMc_165, List.forall_mem_cons.mpr ⟨zMc_166, List.forall_mem_cons.mpr ⟨zMc_167, List.forall_mem_cons.mpr ⟨zMc_168, List.forall_mem_cons.mpr ⟨zMc_169, List.forall_mem_cons.mpr ⟨zMc_170, List.forall_mem_cons.mpr ⟨zMc_171, List.forall_mem_cons.mpr ⟨zMc_172, List.forall_mem_cons.mpr ⟨zMc_173, List.forall_mem_cons.mpr ⟨zMc_174, List.forall_mem_cons.mpr ⟨zMc_175, fun _ h => absurd h List.not_mem_nil⟩⟩⟩⟩⟩⟩⟩⟩⟩⟩⟩⟩⟩⟩⟩⟩
def zMc_l11 : List (Nat) := [176, 177, 178, 179, 180, 181, 182, 183, 184, 185, 186, 187, 188, 189, 190, 191]
theorem zMc_r11 : ∀ q ∈ zMc_l11, Cond.code (zY q) (zB q) (zMi q).2.1 (zMi q).2.2 ∈ tables_1 := List.forall_mem_cons.mpr ⟨zMc_176, List.forall_mem_cons.mpr ⟨zMc_177, List.forall_mem_cons.mpr ⟨zMc_178, List.forall_mem_cons.mpr ⟨zMc_179, List.forall_mem_cons.mpr ⟨zMc_180, List.forall_mem_cons.mpr ⟨zMc_181, List.forall_mem_cons.mpr ⟨zMc_182, List.forall_mem_cons.mpr ⟨zMc_183, List.forall_mem_cons.mpr ⟨zMc_184, List.forall_mem_cons.mpr ⟨zMc_185, List.forall_mem_cons.mpr ⟨zMc_186, List.forall_mem_cons.mpr ⟨zMc_187, List.forall_mem_cons.mpr ⟨zMc_188, List.forall_mem_cons.mpr ⟨zMc_189, List.forall_mem_cons.mpr ⟨zMc_190, List.forall_mem_cons.mpr ⟨zMc_191, fun _ h => absurd h List.not_mem_nil⟩⟩⟩⟩⟩⟩⟩⟩⟩⟩⟩⟩⟩⟩⟩⟩
def zMc_l12 : List (Nat) := [192, 193, 194, 195, 196, 197, 198, 199, 200, 201, 202, 203, 204, 205, 206, 207]
theorem zMc_r12 : ∀ q ∈ zMc_l12, Cond.code (zY q) (zB q) (zMi q).2.1 (zMi q).2.2 ∈ tables_1 := List.forall_mem_cons.mpr ⟨zMc_192, List.forall_mem_cons.mpr ⟨zMc_193, List.forall_mem_cons.mpr ⟨zMc_194, List.forall_mem_cons.mpr ⟨zMc_195, List.forall_mem_cons.mpr ⟨zMc_196, List.forall_mem_cons.mpr ⟨zMc_197, List.forall_mem_cons.mpr ⟨zMc_198, List.forall_mem_cons.mpr ⟨zMc_199, List.forall_mem_cons.mpr ⟨zMc_200, List.forall_mem_cons.mpr ⟨zMc_201, List.forall_mem_cons.mpr ⟨zMc_202, List.forall_mem_cons.mpr ⟨zMc_203, List.forall_mem_cons.mpr ⟨zMc_204, List.forall_mem_cons.mpr ⟨zMc_205, List.forall_mem_cons.mpr ⟨zMc_206, List.forall_mem_cons.mpr ⟨zMc_207, fun _ h => absurd h List.not_mem_nil⟩⟩⟩⟩⟩⟩⟩⟩⟩⟩⟩⟩⟩⟩⟩⟩
def zMc_l13 : List (Nat) := [208, 209, 210, 211, 212, 213, 214, 215, 216, 217, 218, 219, 220, 221, 222, 223]
theorem zMc_r13 : ∀ q ∈ zMc_l13, Cond.code (zY q) (zB q) (zMi q).2.1 (zMi q).2.2 ∈ tables_1 := List.forall_mem_cons.mpr ⟨zMc_208, List.forall_mem_cons.mpr ⟨zMc_209, List.forall_mem_cons.mpr ⟨zMc_210, List.forall_mem_cons.mpr ⟨zMc_211, List.forall_mem_cons.mpr ⟨zMc_212, List.forall_mem_cons.mpr ⟨zMc_213, List.forall_mem_cons.mpr ⟨zMc_214, List.forall_mem_cons.mpr ⟨zMc_215, List.forall_mem_cons.mpr ⟨zMc_216, List.forall_mem_cons.mpr ⟨zMc_217, List.forall_mem_cons.mpr ⟨zMc_218, List.forall_mem_cons.mpr ⟨zMc_219, List.forall_mem_cons.mpr ⟨zMc_220, List.forall_mem_cons.mpr ⟨zMc_221, List.forall_mem_cons.mpr ⟨zMc_222, List.forall_mem_cons.mpr ⟨zMc_223, fun _ h => absurd h List.not_mem_nil⟩⟩⟩⟩⟩⟩⟩⟩⟩⟩⟩⟩⟩⟩⟩⟩
def zMc_l14 : List (Nat) := [224, 225, 226, 227, 228, 229, 230, 231, 232, 233, 234, 235, 236, 237, 238, 239]
theorem zMc_r14 : ∀ q ∈ zMc_l14, Cond.code (zY q) (zB q) (zMi q).2.1 (zMi q).2.2 ∈ tables_1 := List.forall_mem_cons.mpr ⟨zMc_224, List.forall_mem_cons.mpr ⟨zMc_225, List.forall_mem_cons.mpr ⟨zMc_226, List.forall_mem_cons.mpr ⟨zMc_227, List.forall_mem_cons.mpr ⟨zMc_228, List.forall_mem_cons.mpr ⟨zMc_229, List.forall_mem_cons.mpr ⟨zMc_230, List.forall_mem_cons.mpr ⟨zMc_231, List.forall_mem_cons.mpr ⟨zMc_232, List.forall_mem_cons.mpr ⟨zMc_233, List.forall_mem_cons.mpr ⟨zMc_234, List.forall_mem_cons.mpr ⟨zMc_235, List.forall_mem_cons.mpr ⟨zMc_236, List.forall_mem_cons.mpr ⟨zMc_237, List.forall_mem_cons.mpr ⟨zMc_238, List.forall_mem_cons.mpr ⟨zMc_239, fun _ h => absurd h List.not_mem_nil⟩⟩⟩⟩⟩⟩⟩⟩⟩⟩⟩⟩⟩⟩⟩⟩
def zMc_l15 : List (Nat) := [240, 241, 242, 243, 244, 245, 246, 247, 248, 249, 250, 251, 252, 253, 254, 255]
theorem zMc_r15 : ∀ q ∈ zMc_l15, Cond.code (zY q) (zB q) (zMi q).2.1 (zMi q).2.2 ∈ tables_1 := List.forall_mem_cons.mpr ⟨zMc_240, List.forall_mem_cons.mpr ⟨zMc_241, List.forall_mem_cons.mpr ⟨zMc_242, List.forall_mem_cons.mpr ⟨zMc_243, List.forall_mem_cons.mpr ⟨zMc_244, List.forall_mem_cons.mpr ⟨zMc_245, List.forall_mem_cons.mpr ⟨zMc_246, List.forall_mem_cons.mpr ⟨zMc_247, List.forall_mem_cons.mpr ⟨zMc_248, List.forall_mem_cons.mpr ⟨zMc_249, List.forall_mem_cons.mpr ⟨zMc_250, List.forall_mem_cons.mpr ⟨zMc_251, List.forall_mem_cons.mpr ⟨zMc_252, List.forall_mem_cons.mpr ⟨zMc_253, List.forall_mem_cons.mpr ⟨zMc_254, List.forall_mem_cons.mpr ⟨zMc_255, fun _ h => absurd h List.not_mem_nil⟩⟩⟩⟩⟩⟩⟩⟩⟩⟩⟩⟩⟩⟩⟩⟩
def zMc_l16 : List (Nat) := [256, 257, 258, 259, 260, 261, 262, 263, 264, 265, 266, 267, 268, 269, 270, 271]
theorem zMc_r16 : ∀ q ∈ zMc_l16, Cond.code (zY q) (zB q) (zMi q).2.1 (zMi q).2.2 ∈ tables_1 := List.forall_mem_cons.mpr ⟨zMc_256, List.forall_mem_cons.mpr ⟨zMc_257, List.forall_mem_cons.mpr ⟨zMc_258, List.forall_mem_cons.mpr ⟨zMc_259, List.forall_mem_cons.mpr ⟨zMc_260, List.forall_mem_cons.mpr ⟨zMc_261, List.forall_mem_cons.mpr ⟨zMc_262, List.forall_mem_cons.mpr ⟨zMc_263, List.forall_mem_cons.mpr ⟨zMc_264, List.forall_mem_cons.mpr ⟨zMc_265, List.forall_mem_cons.mpr ⟨zMc_266, List.forall_mem_cons.mpr ⟨zMc_267, List.forall_mem_cons.mpr ⟨zMc_268, List.forall_mem_cons.mpr ⟨zMc_269, List.forall_mem_cons.mpr ⟨zMc_270, List.forall_mem_cons.mpr ⟨zMc_271, fun _ h => absurd h List.not_mem_nil⟩⟩⟩⟩⟩⟩⟩⟩⟩⟩⟩⟩⟩⟩⟩⟩
def zMc_l17 : List (Nat) := [272, 273]
theorem zMc_r17 : ∀ q ∈ zMc_l17, Cond.code (zY q) (zB q) (zMi q).2.1 (zMi q).2.2 ∈ tables_1 := List.forall_mem_cons.mpr ⟨zMc_272, List.forall_mem_cons.mpr ⟨zMc_273, fun _ h => absurd h List.not_mem_nil⟩⟩
theorem zMc_sp : zAll = zMc_l0 ++ (zMc_l1 ++ (zMc_l2 ++ (zMc_l3 ++ (zMc_l4 ++ (zMc_l5 ++ (zMc_l6 ++ (zMc_l7 ++ (zMc_l8 ++ (zMc_l9 ++ (zMc_l10 ++ (zMc_l11 ++ (zMc_l12 ++ (zMc_l13 ++ (zMc_l14 ++ (zMc_l15 ++ (zMc_l16 ++ (zMc_l17))))))))))))))))) := by decide +kernel
theorem zMc_all : ∀ q ∈ zAll, Cond.code (zY q) (zB q) (zMi q).2.1 (zMi q).2.2 ∈ tables_1 := by
  rw [zMc_sp]
  exact List.forall_mem_append.mpr ⟨zMc_r0, List.forall_mem_append.mpr ⟨zMc_r1, List.forall_mem_append.mpr ⟨zMc_r2, List.forall_mem_append.mpr ⟨zMc_r3, List.forall_mem_append.mpr ⟨zMc_r4, List.forall_mem_append.mpr ⟨zMc_r5, List.forall_mem_append.mpr ⟨zMc_r6, List.forall_mem_append.mpr ⟨zMc_r7, List.forall_mem_append.mpr ⟨zMc_r8, List.forall_mem_append.mpr ⟨zMc_r9, List.forall_mem_append.mpr ⟨zMc_r10, List.forall_mem_append.mpr ⟨zMc_r11, List.forall_mem_append.mpr ⟨zMc_r12, List.forall_mem_append.mpr ⟨zMc_r13, List.forall_mem_append.mpr ⟨zMc_r14, List.forall_mem_append.mpr ⟨zMc_r15, List.forall_mem_append.mpr ⟨zMc_r16, zMc_r17⟩⟩⟩⟩⟩⟩⟩⟩⟩⟩⟩⟩⟩⟩⟩⟩⟩
abbrev zMok (i : Nat) : Prop := plainFor (zY i) = true ∧ (zY i).cls = zCs (zMi i).1 ∧ (zY i).cls ≠ "java/lang/invoke/MethodHandle" ∧ (zY i).cls ≠ "java/lang/invoke/VarHandle" ∧ (zMi i).1 < 16
theorem zMok_all : ∀ i ∈ zAll, zMok i := by decide +kernel
theorem zInit_all : ∀ i, i < 16 → Cond.initialized (zCs i) ∈ tables_1 := by decide +kernel
/-- how many an invocation takes: the method's parameters, and the object -/
def zNa (i : Nat) : Nat := ((parseMethodDescriptor (zY i).desc).map (fun d => d.parameters.length)).getD 100
def zSwok (pc : Nat) (lo : Int) : List Int → List (Int32 × Nat) → Bool
  | [], [] => true
  | o :: os, (v, t) :: r => decide (v.toInt = lo) && decide ((pc : Int) + o = t) && zSwok pc (lo + 1) os r
  | _, _ => false
def zLkok (pc : Nat) : List (Int × Int) → List (Int32 × Nat) → Bool
  | [], [] => true
  | (k, o) :: os, (v, t) :: r => decide (v.toInt = k) && decide ((pc : Int) + o = t) && zLkok pc os r
  | _, _ => false
def zeok (own : Nat) (ini : Bool) (e : zE) : Bool := match e with
  | (pc, ins, nx, a, b, d, f, c, sw) => match ins with
    | .iconst k => Int32.ofInt k == c && nx == pc + 1
    | .bipush k => (Int8.ofInt k).toInt32 == c && nx == pc + 2
    | .sipush k => (Int16.ofInt k).toInt32 == c && nx == pc + 3
    | .ldc k => d != 0 || (nx == pc + 2 && decide ((own, k, c) ∈ zKN))
    | .ldc_w k => d != 0 || (nx == pc + 3 && decide ((own, k, c) ∈ zKN))
    | .iload_n k => k.val == a && nx == pc + 1
    | .istore_n k => k.val == a && nx == pc + 1
    | .aload_n k => k.val == a && nx == pc + 1
    | .astore_n k => k.val == a && nx == pc + 1
    | .iload k => k == a && nx == pc + 2
    | .istore k => k == a && nx == pc + 2
    | .aload k => k == a && nx == pc + 2
    | .astore k => k == a && nx == pc + 2
    | .iinc k v => k == a && Int32.ofInt v == c && nx == pc + 3
    | .ifCond _ o => decide ((pc : Int) + o = a) && nx == pc + 3
    | .if_icmp _ o => decide ((pc : Int) + o = a) && nx == pc + 3
    | .goto o => decide ((pc : Int) + o = a) && nx == pc + 3
    | .ifnull o => decide ((pc : Int) + o = a) && nx == pc + 3
    | .ifnonnull o => decide ((pc : Int) + o = a) && nx == pc + 3
    | .getfield k => decide ((own, k, a, b) ∈ zFL) && nx == pc + 3
    | .putfield k => decide ((own, k, a, b) ∈ zFL) && nx == pc + 3 && (((zTf a).2.1 b).2.2.2 == false || (ini && a == own && ((zTf a).2.1 b).1 == zCs own)) && (match d with
      | 0 => ((zTf a).2.1 b).2.2.1 == "I"
      | 1 => ((zTf a).2.1 b).2.2.1 == "Z"
      | _ => match parseFieldDescriptor ((zTf a).2.1 b).2.2.1 with
        | some (.array _) => true
        | some (.object _) => true
        | _ => false)
    | .tableswitch dflt lo hi os => decide ((pc : Int) + dflt = a) && zSwok pc lo os.toList sw && decide (hi = lo + os.size - 1)
    | .lookupswitch dflt ps => decide ((pc : Int) + dflt = a) && zLkok pc ps.toList sw && (ps.toList.zip (ps.toList.drop 1)).all (fun (a, next) => a.1 < next.1)
    | .invokestatic k => nx == pc + 3 && (if d = 5 then decide ((own, k) ∈ zCP) else decide ((own, k, a, d) ∈ zML) && (d == 0 || d == 3) && decide (a ∈ zSt) && zNa a == b && f == 2 * (zMi a).1 + (if (zMi a).2.2 = none then 1 else 0) && Nat.ble b (zMi a).2.1)
    | .invokevirtual k => nx == pc + 3 && decide ((own, k, a, d) ∈ zML) && d == 1 && decide (a ∈ zVi) && zNa a + 1 == b && f == 2 * (zMi a).1 + (if (zMi a).2.2 = none then 1 else 0) && Nat.ble b (zMi a).2.1
    | .invokespecial k => d == 9 || (nx == pc + 3 && (if d = 6 then decide ((own, k) ∈ zOB) else decide ((own, k, a, d) ∈ zML) && (d == 2 || d == 4) && decide (a ∈ zIn) && zNa a + 1 == b && f == 2 * (zMi a).1 + 1 && decide ((zMi a).2.2 = none) && Nat.ble b (zMi a).2.1))
    | .new k => d != 0 || (nx == pc + 3 && decide ((own, k, a) ∈ zNL))
    | .newarray t => nx == pc + 2 && (match t with
      | .int => a == 1
      | .byte => a == 2
      | .boolean => a == 3
      | .long => a == 4
      | _ => false)
    | .anewarray k => nx == pc + 3 && decide ((own, k) ∈ zAL)
    | .ireturn => nx == pc + 1
    | _ => nx == pc + 1
