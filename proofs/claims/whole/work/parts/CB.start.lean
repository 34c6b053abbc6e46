/-! the class is made -/
def kC0 : List (Nat × Nat) := [(56, 16 + 8), (64, 1), (63, 1), (62, 0), (61, 0), (60, 0), (59, 0), (58, 0), (57, 0), (56, 32 + 8), (52, 16 + 7), (53, 16 + 0), (55, 0), (54, 0), (53, 32 + 0), (52, 32 + 7), (42, 16 + 5), (51, 0), (50, 0), (49, 0), (48, 0), (47, 0), (46, 0), (45, 0), (44, 0), (43, 0), (42, 32 + 5), (41, 16 + 2), (41, 32 + 2), (39, 16 + 4), (40, 0), (39, 32 + 4), (35, 16 + 3), (36, 16 + 0), (38, 0), (37, 0), (36, 32 + 0), (35, 32 + 3), (25, 16 + 1), (34, 4), (33, 0), (32, 0), (31, 0), (30, 0), (29, 0), (28, 0), (27, 0), (26, 0), (25, 32 + 1), (24, 0), (23, 0), (21, 16 + 4), (22, 0), (21, 32 + 4), (12, 16 + 6), (14, 16 + 9), (20, 0), (19, 0), (18, 0), (17, 0), (16, 0), (15, 0), (14, 32 + 9), (13, 0), (12, 32 + 6), (11, 5), (1, 16 + 1), (10, 4), (9, 0), (8, 0), (7, 0), (6, 0), (5, 0), (4, 0), (3, 0), (2, 0), (1, 32 + 1), (0, 32 + 10)]
def lC0 : List (Nat × Nat) := [(64, 1024), (63, 1024), (62, 10), (61, 10), (60, 10), (59, 5120), (58, 1024), (57, 1024), (56, 0), (55, 64), (54, 25), (53, 0), (52, 0), (51, 2100), (50, 10), (49, 10), (48, 10), (47, 10), (46, 10), (45, 10), (44, 10), (43, 10), (42, 0), (41, 0), (40, 560), (39, 0), (38, 64), (37, 25), (36, 0), (35, 0), (34, 6), (33, 3), (32, 100), (31, 10), (30, 10), (29, 10), (28, 10), (27, 10), (26, 10), (25, 0), (24, 7), (23, 60), (22, 560), (21, 0), (20, 12), (19, 12), (18, 12), (17, 12), (16, 12), (15, 400), (14, 0), (13, 400), (12, 0), (11, 2), (10, 6), (9, 3), (8, 100), (7, 10), (6, 10), (5, 10), (4, 10), (3, 10), (2, 10), (1, 0), (0, 0)]
def rC0 : List (Nat × Nat × Nat) := [(0, 10, 56), (56, 1, 42), (56, 9, 64), (56, 8, 63), (56, 7, 62), (56, 6, 61), (56, 5, 60), (56, 4, 59), (56, 3, 58), (56, 2, 57), (0, 9, 42), (0, 8, 52), (52, 2, 41), (52, 1, 25), (52, 3, 53), (53, 2, 55), (53, 0, 54), (0, 7, 41), (0, 5, 39), (0, 4, 35), (0, 0, 25), (42, 3, 35), (42, 2, 25), (42, 12, 51), (42, 11, 50), (42, 10, 49), (42, 9, 48), (42, 8, 47), (42, 7, 46), (42, 6, 45), (42, 5, 44), (42, 4, 43), (41, 2, 39), (41, 1, 35), (41, 0, 25), (39, 2, 40), (35, 0, 25), (35, 1, 36), (36, 2, 38), (36, 0, 37), (25, 9, 34), (25, 8, 33), (25, 7, 32), (25, 6, 31), (25, 5, 30), (25, 4, 29), (25, 3, 28), (25, 2, 27), (25, 1, 26), (0, 15, 24), (0, 11, 23), (0, 6, 21), (21, 2, 22), (0, 3, 12), (12, 2, 14), (14, 5, 20), (14, 4, 19), (14, 3, 18), (14, 2, 17), (14, 1, 16), (14, 0, 15), (12, 0, 13), (0, 2, 11), (0, 1, 1), (1, 9, 10), (1, 8, 9), (1, 7, 8), (1, 6, 7), (1, 5, 6), (1, 4, 5), (1, 3, 4), (1, 2, 3), (1, 1, 2)]
def iC0 : List (Nat × Nat × Int) := [(52, 0, -1), (33, 1, 3), (25, 11, -1), (12, 3, -1), (9, 1, 3), (1, 11, -1)]
def kA0 : List (Nat × Nat) := [(25, 0), (24, 2), (23, 3), (22, 0), (21, 1), (20, 0), (19, 2), (18, 0), (17, 2), (16, 0), (15, 0), (14, 0), (13, 0), (12, 0), (11, 0), (10, 0), (9, 0), (8, 0), (7, 2), (6, 2), (5, 0), (4, 3), (3, 0), (2, 0), (1, 0), (0, 32 + 11)]
def lA0 : List (Nat × Nat) := [(25, 60), (24, 180224), (23, 11264), (22, 10), (21, 11264), (20, 11264), (19, 11264), (18, 10), (17, 330), (16, 100), (15, 10), (14, 560), (13, 560), (12, 10), (11, 401), (10, 401), (9, 401), (8, 5), (7, 400), (6, 153), (5, 34), (4, 2), (3, 11732), (2, 5866), (1, 7), (0, 0)]
def rA0 : List (Nat × Nat × Nat) := [(0, 49, 25), (0, 40, 24), (0, 39, 23), (0, 38, 22), (0, 37, 21), (0, 36, 20), (0, 33, 19), (0, 32, 18), (0, 31, 17), (0, 30, 16), (0, 29, 15), (0, 27, 14), (0, 26, 13), (0, 25, 12), (0, 17, 11), (0, 16, 10), (0, 15, 9), (0, 12, 8), (0, 11, 7), (0, 7, 6), (0, 5, 5), (0, 4, 4), (0, 3, 3), (0, 2, 2), (0, 1, 1)]
def iA2 : List (Nat × Nat × Int) := [(0, 41, -1), (0, 14, -1), (6, 152, 32), (6, 151, 115), (6, 150, 101), (6, 149, 109), (6, 148, 105), (6, 147, 116), (6, 146, 32), (6, 145, 107), (6, 144, 114), (6, 143, 97), (6, 142, 100), (6, 141, 32), (6, 140, 116), (6, 139, 104), (6, 138, 103), (6, 137, 105), (6, 136, 108), (6, 135, 32), (6, 134, 100), (6, 133, 110), (6, 132, 101), (6, 131, 115), (6, 130, 32), (6, 129, 101), (6, 128, 114), (6, 127, 101), (6, 126, 104), (6, 125, 32), (6, 124, 104), (6, 123, 116), (6, 122, 114), (6, 121, 111), (6, 120, 119), (6, 119, 32), (6, 118, 116), (6, 117, 110), (6, 116, 101), (6, 115, 112), (6, 114, 115), (6, 113, 32), (6, 112, 101), (6, 111, 110), (6, 110, 111), (6, 109, 100), (6, 108, 32), (6, 107, 115), (6, 106, 116), (6, 105, 104), (6, 104, 103), (6, 103, 105), (6, 102, 110), (6, 101, 32), (6, 100, 116), (6, 99, 105), (6, 98, 108), (6, 97, 32), (6, 96, 121), (6, 95, 97), (6, 94, 100), (6, 93, 32), (6, 92, 100), (6, 91, 111), (6, 90, 111), (6, 89, 109), (6, 88, 32), (6, 87, 103), (6, 86, 111), (6, 85, 102), (6, 84, 32), (6, 83, 114), (6, 82, 97), (6, 81, 102), (6, 80, 32), (6, 79, 115), (6, 78, 114), (6, 77, 105), (6, 76, 101), (6, 75, 104), (6, 74, 116), (6, 73, 32), (6, 72, 114), (6, 71, 101), (6, 70, 104), (6, 69, 116), (6, 68, 111), (6, 67, 32), (6, 66, 100), (6, 65, 114), (6, 64, 97), (6, 63, 101), (6, 62, 104), (6, 61, 32), (6, 60, 100), (6, 59, 110), (6, 58, 97), (6, 57, 108), (6, 56, 32), (6, 55, 100), (6, 54, 97), (6, 53, 111), (6, 52, 114), (6, 51, 32), (6, 50, 110), (6, 49, 111), (6, 48, 115), (6, 47, 114), (6, 46, 101), (6, 45, 112), (6, 44, 32), (6, 43, 116), (6, 42, 111), (6, 41, 110), (6, 40, 32), (6, 39, 100), (6, 38, 110), (6, 37, 97), (6, 36, 32), (6, 35, 114), (6, 34, 111), (6, 33, 32), (6, 32, 102), (6, 31, 105), (6, 30, 32), (6, 29, 115), (6, 28, 114), (6, 27, 97), (6, 26, 98), (6, 25, 32), (6, 24, 115), (6, 23, 108), (6, 22, 105), (6, 21, 111), (6, 20, 112), (6, 19, 115), (6, 18, 32), (6, 17, 115), (6, 16, 101), (6, 15, 103), (6, 14, 100), (6, 13, 111), (6, 12, 108), (6, 11, 32), (6, 10, 115), (6, 9, 116), (6, 8, 115), (6, 7, 111), (6, 6, 99), (6, 5, 32), (6, 4, 115), (6, 3, 101), (6, 2, 107), (6, 1, 97), (6, 0, 116)]
def iA0 : List (Nat × Nat × Int) := (2, 258, -1) :: (2, 254, 3) :: iA2
def shK (e : Nat × Nat) : Nat × Nat := (e.1 + 65, e.2)
def shR (e : Nat × Nat × Nat) : Nat × Nat × Nat := (e.1 + 65, e.2.1, e.2.2 + 65)
def shI (e : Nat × Nat × Int) : Nat × Nat × Int := (e.1 + 65, e.2.1, e.2.2)
set_option maxRecDepth 20000 in
set_option maxHeartbeats 4000000 in
theorem i_C {Q : st_S → Prop} (hQ : Q (tS 65 kC0 lC0 rC0 iC0)) : wp_X10_init 0 (tS 1 [(0, 32 + 10)] [(0, 0)] [] []) Q := by
  try delta wp_X10_init
  refine a_new (m := 2) rfl (by decide +kernel) ?_
  try delta wp_X1_init
  refine a_new (m := 3) rfl (by decide +kernel) ?_
  refine ⟨by decide +kernel, ?_⟩
  refine a_R ?_
  refine a_new (m := 4) rfl (by decide +kernel) ?_
  refine ⟨by decide +kernel, ?_⟩
  refine a_R ?_
  refine a_new (m := 5) rfl (by decide +kernel) ?_
  refine ⟨by decide +kernel, ?_⟩
  refine a_R ?_
  refine a_new (m := 6) rfl (by decide +kernel) ?_
  refine ⟨by decide +kernel, ?_⟩
  refine a_R ?_
  refine a_new (m := 7) rfl (by decide +kernel) ?_
  refine ⟨by decide +kernel, ?_⟩
  refine a_R ?_
  refine a_new (m := 8) rfl (by decide +kernel) ?_
  refine ⟨by decide +kernel, ?_⟩
  refine a_R ?_
  refine a_new (m := 9) rfl (by decide +kernel) ?_
  refine ⟨by decide +kernel, ?_⟩
  refine a_R ?_
  refine a_new (m := 10) rfl (by decide +kernel) ?_
  refine ⟨by decide +kernel, ?_⟩
  refine a_R ?_
  refine a_new (m := 11) rfl (by decide +kernel) ?_
  refine ⟨by decide +kernel, ?_⟩
  refine a_R ?_
  refine a_I (v' := -1) rfl ?_
  refine ⟨9, by decide +kernel, by decide +kernel, ⟨by decide, by decide +kernel⟩, ?_⟩
  refine a_I (v' := 3) rfl ?_
  refine ⟨ch_F (by decide +kernel), rfl, ?_⟩
  refine a_K ?_
  refine ⟨by decide +kernel, ?_⟩
  refine a_R ?_
  refine a_new (m := 12) rfl (by decide +kernel) ?_
  refine ⟨by decide +kernel, ?_⟩
  refine a_R ?_
  refine a_new (m := 13) rfl (by decide +kernel) ?_
  try delta wp_X6_init
  refine a_new (m := 14) rfl (by decide +kernel) ?_
  refine ⟨by decide +kernel, ?_⟩
  refine a_R ?_
  refine a_new (m := 15) rfl (by decide +kernel) ?_
  try delta wp_X9_init
  refine a_new (m := 16) rfl (by decide +kernel) ?_
  refine ⟨by decide +kernel, ?_⟩
  refine a_R ?_
  refine a_new (m := 17) rfl (by decide +kernel) ?_
  refine ⟨by decide +kernel, ?_⟩
  refine a_R ?_
  refine a_new (m := 18) rfl (by decide +kernel) ?_
  refine ⟨by decide +kernel, ?_⟩
  refine a_R ?_
  refine a_new (m := 19) rfl (by decide +kernel) ?_
  refine ⟨by decide +kernel, ?_⟩
  refine a_R ?_
  refine a_new (m := 20) rfl (by decide +kernel) ?_
  refine ⟨by decide +kernel, ?_⟩
  refine a_R ?_
  refine a_new (m := 21) rfl (by decide +kernel) ?_
  refine ⟨by decide +kernel, ?_⟩
  refine a_R ?_
  refine ⟨ch_F (by decide +kernel), rfl, ?_⟩
  refine a_K ?_
  refine ⟨by decide +kernel, ?_⟩
  refine a_R ?_
  refine a_I (v' := -1) rfl ?_
  refine ⟨ch_F (by decide +kernel), rfl, ?_⟩
  refine a_K ?_
  refine ⟨by decide +kernel, ?_⟩
  refine a_R ?_
  refine a_new (m := 22) rfl (by decide +kernel) ?_
  try delta wp_X4_init
  refine a_new (m := 23) rfl (by decide +kernel) ?_
  refine ⟨by decide +kernel, ?_⟩
  refine a_R ?_
  refine ⟨ch_F (by decide +kernel), rfl, ?_⟩
  refine a_K ?_
  refine ⟨by decide +kernel, ?_⟩
  refine a_R ?_
  refine a_new (m := 24) rfl (by decide +kernel) ?_
  refine ⟨by decide +kernel, ?_⟩
  refine a_R ?_
  refine a_new (m := 25) rfl (by decide +kernel) ?_
  refine ⟨by decide +kernel, ?_⟩
  refine a_R ?_
  refine a_new (m := 26) rfl (by decide +kernel) ?_
  try delta wp_X1_init
  refine a_new (m := 27) rfl (by decide +kernel) ?_
  refine ⟨by decide +kernel, ?_⟩
  refine a_R ?_
  refine a_new (m := 28) rfl (by decide +kernel) ?_
  refine ⟨by decide +kernel, ?_⟩
  refine a_R ?_
  refine a_new (m := 29) rfl (by decide +kernel) ?_
  refine ⟨by decide +kernel, ?_⟩
  refine a_R ?_
  refine a_new (m := 30) rfl (by decide +kernel) ?_
  refine ⟨by decide +kernel, ?_⟩
  refine a_R ?_
  refine a_new (m := 31) rfl (by decide +kernel) ?_
  refine ⟨by decide +kernel, ?_⟩
  refine a_R ?_
  refine a_new (m := 32) rfl (by decide +kernel) ?_
  refine ⟨by decide +kernel, ?_⟩
  refine a_R ?_
  refine a_new (m := 33) rfl (by decide +kernel) ?_
  refine ⟨by decide +kernel, ?_⟩
  refine a_R ?_
  refine a_new (m := 34) rfl (by decide +kernel) ?_
  refine ⟨by decide +kernel, ?_⟩
  refine a_R ?_
  refine a_new (m := 35) rfl (by decide +kernel) ?_
  refine ⟨by decide +kernel, ?_⟩
  refine a_R ?_
  refine a_I (v' := -1) rfl ?_
  refine ⟨33, by decide +kernel, by decide +kernel, ⟨by decide, by decide +kernel⟩, ?_⟩
  refine a_I (v' := 3) rfl ?_
  refine ⟨ch_F (by decide +kernel), rfl, ?_⟩
  refine a_K ?_
  refine a_new (m := 36) rfl (by decide +kernel) ?_
  try delta wp_X3_init
  refine a_new (m := 37) rfl (by decide +kernel) ?_
  try delta wp_X0_init
  refine a_new (m := 38) rfl (by decide +kernel) ?_
  refine ⟨by decide +kernel, ?_⟩
  refine a_R ?_
  refine a_new (m := 39) rfl (by decide +kernel) ?_
  refine ⟨by decide +kernel, ?_⟩
  refine a_R ?_
  refine ⟨ch_F (by decide +kernel), rfl, ?_⟩
  refine a_K ?_
  refine ⟨by decide +kernel, ?_⟩
  refine a_R ?_
  refine a_R ?_
  refine ⟨ch_F (by decide +kernel), rfl, ?_⟩
  refine a_K ?_
  refine a_new (m := 40) rfl (by decide +kernel) ?_
  try delta wp_X4_init
  refine a_new (m := 41) rfl (by decide +kernel) ?_
  refine ⟨by decide +kernel, ?_⟩
  refine a_R ?_
  refine ⟨ch_F (by decide +kernel), rfl, ?_⟩
  refine a_K ?_
  refine a_new (m := 42) rfl (by decide +kernel) ?_
  try delta wp_X2_init
  refine ⟨by decide +kernel, ?_⟩
  refine a_R ?_
  refine a_R ?_
  refine a_R ?_
  refine ⟨ch_F (by decide +kernel), rfl, ?_⟩
  refine a_K ?_
  refine a_new (m := 43) rfl (by decide +kernel) ?_
  try delta wp_X5_init
  refine a_new (m := 44) rfl (by decide +kernel) ?_
  refine ⟨by decide +kernel, ?_⟩
  refine a_R ?_
  refine a_new (m := 45) rfl (by decide +kernel) ?_
  refine ⟨by decide +kernel, ?_⟩
  refine a_R ?_
  refine a_new (m := 46) rfl (by decide +kernel) ?_
  refine ⟨by decide +kernel, ?_⟩
  refine a_R ?_
  refine a_new (m := 47) rfl (by decide +kernel) ?_
  refine ⟨by decide +kernel, ?_⟩
  refine a_R ?_
  refine a_new (m := 48) rfl (by decide +kernel) ?_
  refine ⟨by decide +kernel, ?_⟩
  refine a_R ?_
  refine a_new (m := 49) rfl (by decide +kernel) ?_
  refine ⟨by decide +kernel, ?_⟩
  refine a_R ?_
  refine a_new (m := 50) rfl (by decide +kernel) ?_
  refine ⟨by decide +kernel, ?_⟩
  refine a_R ?_
  refine a_new (m := 51) rfl (by decide +kernel) ?_
  refine ⟨by decide +kernel, ?_⟩
  refine a_R ?_
  refine a_new (m := 52) rfl (by decide +kernel) ?_
  refine ⟨by decide +kernel, ?_⟩
  refine a_R ?_
  refine a_R ?_
  refine a_R ?_
  refine ⟨ch_F (by decide +kernel), rfl, ?_⟩
  refine a_K ?_
  refine ⟨by decide +kernel, ?_⟩
  refine a_R ?_
  refine a_R ?_
  refine a_R ?_
  refine a_R ?_
  refine a_new (m := 53) rfl (by decide +kernel) ?_
  try delta wp_X7_init
  refine ⟨by decide +kernel, ?_⟩
  refine a_I (v' := -1) rfl ?_
  refine a_new (m := 54) rfl (by decide +kernel) ?_
  try delta wp_X0_init
  refine a_new (m := 55) rfl (by decide +kernel) ?_
  refine ⟨by decide +kernel, ?_⟩
  refine a_R ?_
  refine a_new (m := 56) rfl (by decide +kernel) ?_
  refine ⟨by decide +kernel, ?_⟩
  refine a_R ?_
  refine ⟨ch_F (by decide +kernel), rfl, ?_⟩
  refine a_K ?_
  refine ⟨by decide +kernel, ?_⟩
  refine a_R ?_
  refine a_R ?_
  refine a_R ?_
  refine ⟨ch_F (by decide +kernel), rfl, ?_⟩
  refine a_K ?_
  refine ⟨by decide +kernel, ?_⟩
  refine a_R ?_
  refine a_R ?_
  refine a_new (m := 57) rfl (by decide +kernel) ?_
  try delta wp_X8_init
  refine a_new (m := 58) rfl (by decide +kernel) ?_
  refine ⟨by decide +kernel, ?_⟩
  refine a_R ?_
  refine a_new (m := 59) rfl (by decide +kernel) ?_
  refine ⟨by decide +kernel, ?_⟩
  refine a_R ?_
  refine a_new (m := 60) rfl (by decide +kernel) ?_
  refine ⟨by decide +kernel, ?_⟩
  refine a_R ?_
  refine a_new (m := 61) rfl (by decide +kernel) ?_
  refine ⟨by decide +kernel, ?_⟩
  refine a_R ?_
  refine a_new (m := 62) rfl (by decide +kernel) ?_
  refine ⟨by decide +kernel, ?_⟩
  refine a_R ?_
  refine a_new (m := 63) rfl (by decide +kernel) ?_
  refine ⟨by decide +kernel, ?_⟩
  refine a_R ?_
  refine a_new (m := 64) rfl (by decide +kernel) ?_
  refine ⟨by decide +kernel, ?_⟩
  refine a_R ?_
  refine a_new (m := 65) rfl (by decide +kernel) ?_
  refine ⟨by decide +kernel, ?_⟩
  refine a_R ?_
  refine a_R ?_
  refine ⟨ch_F (by decide +kernel), rfl, ?_⟩
  refine a_K ?_
  refine ⟨by decide +kernel, ?_⟩
  refine a_R ?_
  exact hQ
