/-! the fields by index, class by class -/
section ZTb
def fX0 : List (Nat × Nat × Nat × Nat) := [(14, 0, 0, 0), (20, 0, 1, 0), (23, 0, 2, 0), (26, 0, 3, 0), (29, 0, 4, 0), (32, 0, 5, 1), (36, 0, 6, 1)]
set_option maxRecDepth 20000 in
theorem fX0_ok : fX0.all (fun q => zfokb RX0 q.1 q.2.1 q.2.2.1 q.2.2.2) = true := by decide +kernel
def fX1 : List (Nat × Nat × Nat × Nat) := [(12, 1, 0, 0), (21, 1, 1, 0), (28, 1, 2, 0), (35, 1, 3, 0), (39, 1, 4, 1), (43, 1, 5, 1), (46, 1, 6, 1), (49, 1, 7, 1), (52, 1, 8, 1), (55, 1, 9, 1), (58, 1, 10, 1), (68, 3, 4, 0), (72, 5, 9, 1), (81, 3, 5, 0), (97, 3, 9, 1), (124, 5, 0, 0), (131, 4, 0, 1), (137, 4, 2, 1), (150, 6, 2, 0), (156, 5, 3, 0), (159, 5, 2, 0), (162, 5, 1, 0), (202, 3, 8, 0), (208, 5, 6, 0), (211, 5, 7, 0)]
set_option maxRecDepth 20000 in
theorem fX1_ok : fX1.all (fun q => zfokb RX1 q.1 q.2.1 q.2.2.1 q.2.2.2) = true := by decide +kernel
def fX2 : List (Nat × Nat × Nat × Nat) := [(11, 2, 0, 0), (17, 2, 1, 1), (21, 2, 2, 1)]
set_option maxRecDepth 20000 in
theorem fX2_ok : fX2.all (fun q => zfokb RX2 q.1 q.2.1 q.2.2.1 q.2.2.2) = true := by decide +kernel
def fX3 : List (Nat × Nat × Nat × Nat) := [(14, 3, 0, 0), (20, 3, 1, 0), (23, 3, 2, 0), (26, 3, 3, 0), (29, 3, 4, 0), (32, 3, 5, 0), (35, 3, 6, 0), (38, 3, 7, 0), (41, 3, 8, 0), (44, 3, 9, 1)]
set_option maxRecDepth 20000 in
theorem fX3_ok : fX3.all (fun q => zfokb RX3 q.1 q.2.1 q.2.2.1 q.2.2.2) = true := by decide +kernel
def fX4 : List (Nat × Nat × Nat × Nat) := [(9, 4, 0, 1), (15, 4, 1, 1), (18, 4, 2, 1), (21, 4, 3, 1), (24, 3, 0, 0), (36, 3, 1, 0), (44, 3, 2, 0), (50, 3, 8, 0)]
set_option maxRecDepth 20000 in
theorem fX4_ok : fX4.all (fun q => zfokb RX4 q.1 q.2.1 q.2.2.1 q.2.2.2) = true := by decide +kernel
def fX5 : List (Nat × Nat × Nat × Nat) := [(14, 5, 0, 0), (20, 5, 1, 0), (23, 5, 2, 0), (26, 5, 3, 0), (29, 5, 4, 0), (32, 5, 5, 0), (35, 5, 6, 0), (38, 5, 7, 0), (41, 5, 8, 1), (45, 5, 9, 1)]
set_option maxRecDepth 20000 in
theorem fX5_ok : fX5.all (fun q => zfokb RX5 q.1 q.2.1 q.2.2.1 q.2.2.2) = true := by decide +kernel
def fX6 : List (Nat × Nat × Nat × Nat) := [(14, 6, 0, 0), (20, 6, 1, 0), (23, 6, 2, 0), (26, 6, 3, 1)]
set_option maxRecDepth 20000 in
theorem fX6_ok : fX6.all (fun q => zfokb RX6 q.1 q.2.1 q.2.2.1 q.2.2.2) = true := by decide +kernel
def fX7 : List (Nat × Nat × Nat × Nat) := [(7, 7, 0, 0)]
set_option maxRecDepth 20000 in
theorem fX7_ok : fX7.all (fun q => zfokb RX7 q.1 q.2.1 q.2.2.1 q.2.2.2) = true := by decide +kernel
def fX8 : List (Nat × Nat × Nat × Nat) := [(10, 8, 0, 0), (16, 8, 1, 0), (19, 8, 2, 0), (25, 8, 3, 0), (32, 8, 4, 0), (36, 8, 5, 2), (40, 8, 6, 1), (44, 8, 7, 1), (55, 1, 0, 0), (59, 6, 3, 1), (64, 1, 2, 0), (68, 3, 9, 1), (78, 1, 1, 0), (103, 6, 0, 0), (112, 6, 1, 0), (115, 6, 2, 0), (127, 5, 9, 1), (128, 5, 0, 0), (131, 5, 1, 0), (134, 5, 3, 0), (137, 5, 2, 0), (140, 5, 4, 0), (143, 5, 5, 0), (152, 5, 6, 0), (155, 5, 7, 0), (169, 0, 5, 1), (179, 0, 6, 1), (182, 0, 1, 0), (185, 0, 2, 0), (188, 0, 3, 0), (191, 0, 4, 0), (197, 3, 7, 0), (215, 3, 0, 0), (218, 3, 1, 0), (221, 3, 2, 0), (224, 3, 3, 0), (230, 3, 4, 0), (240, 3, 6, 0), (255, 1, 7, 1), (276, 1, 8, 1), (279, 1, 9, 1), (282, 5, 8, 1), (285, 1, 10, 1), (295, 2, 2, 1)]
set_option maxRecDepth 20000 in
theorem fX8_ok : fX8.all (fun q => zfokb RX8 q.1 q.2.1 q.2.2.1 q.2.2.2) = true := by decide +kernel
def fX9 : List (Nat × Nat × Nat × Nat) := [(9, 9, 1, 0), (13, 9, 2, 0), (16, 9, 4, 0), (19, 9, 6, 0), (22, 9, 7, 0), (25, 9, 10, 1), (29, 9, 12, 0), (32, 9, 13, 0), (35, 9, 15, 0), (38, 9, 17, 0), (42, 9, 0, 1), (45, 9, 11, 1), (52, 9, 3, 1), (100, 9, 14, 1), (117, 9, 8, 1), (120, 9, 9, 1), (159, 9, 16, 1), (178, 9, 18, 1), (199, 9, 5, 2)]
set_option maxRecDepth 20000 in
theorem fX9_ok : fX9.all (fun q => zfokb RX9 q.1 q.2.1 q.2.2.1 q.2.2.2) = true := by decide +kernel
end ZTb
