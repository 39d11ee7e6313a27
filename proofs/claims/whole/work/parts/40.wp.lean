-- ===== behind the constructors: shapes, references that stay, one rule an instruction (by program: wip/whole/gen_wp.py) =====
def SHR : SH := [(20, 11), (0, 10), (11, 10), (0, 100), (0, 100), (0, 100), (0, 100), (4, 20), (0, 5), (0, 5), (0, 5), (0, 5), (0, 5), (0, 5), (0, 5), (0, 5), (0, 5), (0, 5), (0, 5), (0, 5), (0, 5), (0, 5), (0, 5), (0, 5), (0, 5), (0, 5), (0, 5), (0, 5), (0, 20), (0, 20), (12, 5), (15, 7), (0, 20), (0, 20), (0, 20), (0, 20), (0, 20), (0, 20), (3, 2), (16, 9), (0, 50), (0, 8), (0, 8), (19, 5), (1, 9), (1, 9), (1, 5), (16, 9), (0, 50), (0, 8), (0, 8), (19, 5), (1, 9), (1, 9), (1, 5), (14, 3), (15, 7), (0, 20), (0, 20), (0, 20), (0, 20), (0, 20), (0, 20), (13, 7), (0, 8), (0, 8), (1, 4096), (1, 4096), (18, 3), (0, 20), (0, 20), (10, 3), (0, 12), (0, 12), (6, 4), (17, 3), (0, 60), (17, 3), (0, 60), (17, 3), (0, 60), (17, 3), (0, 60), (21, 41), (0, 4), (0, 4), (0, 240), (0, 60), (0, 100), (0, 100), (0, 100), (0, 10), (0, 100), (0, 20), (0, 20), (2, 20), (0, 20), (0, 100), (0, 2), (0, 8), (0, 8), (0, 8), (0, 8), (0, 20), (0, 20), (0, 8), (0, 8), (1, 6561), (1, 6561), (1, 10), (1, 20), (1, 20), (0, 12), (0, 12)]
def SHL (N : Nat) : SH := SH0 N ++ SHR
def RFi (a : Nat) : Nat := cond (Nat.ble a 61) (cond (Nat.ble a 44) (cond (Nat.ble a 8) (cond (Nat.ble a 6) (cond (Nat.beq a 6) (1) (0)) (cond (Nat.beq a 8) (2) (0))) (cond (Nat.ble a 13) (cond (Nat.beq a 13) (3) (0)) (cond (Nat.ble a 37) (cond (Nat.beq a 37) (4) (0)) (cond (Nat.beq a 44) (5) (0))))) (cond (Nat.ble a 49) (cond (Nat.ble a 45) (cond (Nat.beq a 45) (6) (0)) (cond (Nat.beq a 49) (7) (0))) (cond (Nat.ble a 53) (cond (Nat.beq a 53) (8) (0)) (cond (Nat.ble a 57) (cond (Nat.beq a 57) (9) (0)) (cond (Nat.beq a 61) (10) (0)))))) (cond (Nat.ble a 80) (cond (Nat.ble a 69) (cond (Nat.ble a 62) (cond (Nat.beq a 62) (11) (0)) (cond (Nat.beq a 69) (12) (0))) (cond (Nat.ble a 74) (cond (Nat.beq a 74) (13) (0)) (cond (Nat.ble a 77) (cond (Nat.beq a 77) (14) (0)) (cond (Nat.beq a 80) (15) (0))))) (cond (Nat.ble a 83) (cond (Nat.ble a 81) (cond (Nat.beq a 81) (16) (0)) (cond (Nat.beq a 83) (17) (0))) (cond (Nat.ble a 85) (cond (Nat.beq a 85) (18) (0)) (cond (Nat.ble a 87) (cond (Nat.beq a 87) (19) (0)) (cond (Nat.beq a 89) (20) (0))))))
def RF6 (j : Nat) : Nat := cond (Nat.ble j 5) (cond (Nat.ble j 2) (cond (Nat.ble j 0) (7) (cond (Nat.ble j 1) (8) (36))) (cond (Nat.ble j 3) (37) (cond (Nat.ble j 4) (44) (61)))) (cond (Nat.ble j 8) (cond (Nat.ble j 6) (69) (cond (Nat.ble j 7) (74) (77))) (cond (Nat.ble j 9) (80) (cond (Nat.ble j 10) (0) (0))))
def RF8 (j : Nat) : Nat := cond (Nat.ble j 3) (cond (Nat.ble j 1) (cond (Nat.ble j 0) (9) (10)) (cond (Nat.ble j 2) (11) (12))) (cond (Nat.ble j 5) (cond (Nat.ble j 4) (13) (34)) (cond (Nat.ble j 6) (35) (cond (Nat.ble j 9) (0) (0))))
def RF13 (j : Nat) : Nat := cond (Nat.ble j 9) (cond (Nat.ble j 4) (cond (Nat.ble j 1) (cond (Nat.ble j 0) (14) (15)) (cond (Nat.ble j 2) (16) (cond (Nat.ble j 3) (17) (18)))) (cond (Nat.ble j 6) (cond (Nat.ble j 5) (19) (20)) (cond (Nat.ble j 7) (21) (cond (Nat.ble j 8) (22) (23))))) (cond (Nat.ble j 14) (cond (Nat.ble j 11) (cond (Nat.ble j 10) (24) (25)) (cond (Nat.ble j 12) (26) (cond (Nat.ble j 13) (27) (28)))) (cond (Nat.ble j 17) (cond (Nat.ble j 15) (29) (cond (Nat.ble j 16) (30) (31))) (cond (Nat.ble j 18) (32) (cond (Nat.ble j 19) (33) (0)))))
def RF37 (j : Nat) : Nat := cond (Nat.ble j 3) (cond (Nat.ble j 1) (cond (Nat.ble j 0) (38) (39)) (cond (Nat.ble j 2) (40) (41))) (cond (Nat.ble j 5) (cond (Nat.ble j 4) (42) (43)) (cond (Nat.ble j 6) (0) (0)))
def RF44 (j : Nat) : Nat := cond (Nat.ble j 0) (45) (cond (Nat.ble j 1) (53) (0))
def RF45 (j : Nat) : Nat := cond (Nat.ble j 2) (cond (Nat.ble j 0) (46) (cond (Nat.ble j 1) (47) (48))) (cond (Nat.ble j 3) (49) (cond (Nat.ble j 8) (0) (0)))
def RF49 (j : Nat) : Nat := cond (Nat.ble j 1) (cond (Nat.ble j 0) (50) (51)) (cond (Nat.ble j 2) (52) (cond (Nat.ble j 4) (0) (0)))
def RF53 (j : Nat) : Nat := cond (Nat.ble j 2) (cond (Nat.ble j 0) (54) (cond (Nat.ble j 1) (55) (56))) (cond (Nat.ble j 3) (57) (cond (Nat.ble j 8) (0) (0)))
def RF57 (j : Nat) : Nat := cond (Nat.ble j 1) (cond (Nat.ble j 0) (58) (59)) (cond (Nat.ble j 2) (60) (cond (Nat.ble j 4) (0) (0)))
def RF61 (j : Nat) : Nat := cond (Nat.ble j 1) (cond (Nat.ble j 0) (62) (37)) (cond (Nat.ble j 2) (0) (0))
def RF62 (j : Nat) : Nat := cond (Nat.ble j 3) (cond (Nat.ble j 1) (cond (Nat.ble j 0) (63) (64)) (cond (Nat.ble j 2) (65) (66))) (cond (Nat.ble j 5) (cond (Nat.ble j 4) (67) (68)) (cond (Nat.ble j 6) (0) (0)))
def RF69 (j : Nat) : Nat := cond (Nat.ble j 1) (cond (Nat.ble j 0) (70) (71)) (cond (Nat.ble j 6) (0) (0))
def RF74 (j : Nat) : Nat := cond (Nat.ble j 1) (cond (Nat.ble j 0) (75) (76)) (cond (Nat.ble j 2) (0) (0))
def RF77 (j : Nat) : Nat := cond (Nat.ble j 1) (cond (Nat.ble j 0) (78) (79)) (cond (Nat.ble j 2) (0) (0))
def RF80 (j : Nat) : Nat := cond (Nat.ble j 1) (cond (Nat.ble j 0) (81) (83)) (cond (Nat.ble j 2) (85) (cond (Nat.ble j 3) (87) (0)))
def RF81 (j : Nat) : Nat := cond (Nat.ble j 0) (82) (cond (Nat.ble j 2) (0) (0))
def RF83 (j : Nat) : Nat := cond (Nat.ble j 0) (84) (cond (Nat.ble j 2) (0) (0))
def RF85 (j : Nat) : Nat := cond (Nat.ble j 0) (86) (cond (Nat.ble j 2) (0) (0))
def RF87 (j : Nat) : Nat := cond (Nat.ble j 0) (88) (cond (Nat.ble j 2) (0) (0))
def RF89 (j : Nat) : Nat := cond (Nat.ble j 22) (cond (Nat.ble j 9) (cond (Nat.ble j 3) (cond (Nat.ble j 1) (cond (Nat.ble j 0) (90) (91)) (cond (Nat.ble j 2) (92) (93))) (cond (Nat.ble j 7) (cond (Nat.ble j 6) (0) (94)) (cond (Nat.ble j 8) (95) (96)))) (cond (Nat.ble j 13) (cond (Nat.ble j 11) (cond (Nat.ble j 10) (97) (98)) (cond (Nat.ble j 12) (99) (100))) (cond (Nat.ble j 15) (cond (Nat.ble j 14) (101) (102)) (cond (Nat.ble j 20) (0) (cond (Nat.ble j 21) (103) (104)))))) (cond (Nat.ble j 32) (cond (Nat.ble j 27) (cond (Nat.ble j 25) (cond (Nat.ble j 24) (0) (105)) (cond (Nat.ble j 26) (106) (107))) (cond (Nat.ble j 29) (cond (Nat.ble j 28) (108) (109)) (cond (Nat.ble j 30) (110) (cond (Nat.ble j 31) (111) (112))))) (cond (Nat.ble j 36) (cond (Nat.ble j 34) (cond (Nat.ble j 33) (113) (114)) (cond (Nat.ble j 35) (115) (116))) (cond (Nat.ble j 38) (cond (Nat.ble j 37) (117) (0)) (cond (Nat.ble j 39) (118) (cond (Nat.ble j 40) (119) (0))))))
def RFn (a j : Nat) : Nat := match RFi a with
  | 0 => 0
  | 1 => RF6 j
  | 2 => RF8 j
  | 3 => RF13 j
  | 4 => RF37 j
  | 5 => RF44 j
  | 6 => RF45 j
  | 7 => RF49 j
  | 8 => RF53 j
  | 9 => RF57 j
  | 10 => RF61 j
  | 11 => RF62 j
  | 12 => RF69 j
  | 13 => RF74 j
  | 14 => RF77 j
  | 15 => RF80 j
  | 16 => RF81 j
  | 17 => RF83 j
  | 18 => RF85 j
  | 19 => RF87 j
  | 20 => RF89 j
  | _ => 0
theorem SHL_hi {N a : Nat} (h : 6 ≤ a) : kd (SHL N) a = kd SHR (a - 6) := by
  unfold kd SHL
  rw [List.getD_eq_getElem?_getD, List.getD_eq_getElem?_getD, List.getElem?_append_right (show (SH0 N).length ≤ a from h)]
  rfl
theorem kf_1 (N : Nat) : kd (SHL N) 1 = (5, 10) := rfl
theorem kf_2 (N : Nat) : kd (SHL N) 2 = (5, 10) := rfl
theorem kf_3 (N : Nat) : kd (SHL N) 3 = (5, 10) := rfl
theorem kf_4 (N : Nat) : kd (SHL N) 4 = (5, 8) := rfl
theorem kf_5 (N : Nat) : kd (SHL N) 5 = (5, N) := rfl
theorem kf_6 (N : Nat) : kd (SHL N) 6 = (20, 11) := rfl
theorem kf_7 (N : Nat) : kd (SHL N) 7 = (0, 10) := rfl
theorem kf_8 (N : Nat) : kd (SHL N) 8 = (11, 10) := rfl
theorem kf_9 (N : Nat) : kd (SHL N) 9 = (0, 100) := rfl
theorem kf_10 (N : Nat) : kd (SHL N) 10 = (0, 100) := rfl
theorem kf_11 (N : Nat) : kd (SHL N) 11 = (0, 100) := rfl
theorem kf_12 (N : Nat) : kd (SHL N) 12 = (0, 100) := rfl
theorem kf_13 (N : Nat) : kd (SHL N) 13 = (4, 20) := rfl
theorem kf_14 (N : Nat) : kd (SHL N) 14 = (0, 5) := rfl
theorem kf_15 (N : Nat) : kd (SHL N) 15 = (0, 5) := rfl
theorem kf_16 (N : Nat) : kd (SHL N) 16 = (0, 5) := rfl
theorem kf_17 (N : Nat) : kd (SHL N) 17 = (0, 5) := rfl
theorem kf_18 (N : Nat) : kd (SHL N) 18 = (0, 5) := rfl
theorem kf_19 (N : Nat) : kd (SHL N) 19 = (0, 5) := rfl
theorem kf_20 (N : Nat) : kd (SHL N) 20 = (0, 5) := rfl
theorem kf_21 (N : Nat) : kd (SHL N) 21 = (0, 5) := rfl
theorem kf_22 (N : Nat) : kd (SHL N) 22 = (0, 5) := rfl
theorem kf_23 (N : Nat) : kd (SHL N) 23 = (0, 5) := rfl
theorem kf_24 (N : Nat) : kd (SHL N) 24 = (0, 5) := rfl
theorem kf_25 (N : Nat) : kd (SHL N) 25 = (0, 5) := rfl
theorem kf_26 (N : Nat) : kd (SHL N) 26 = (0, 5) := rfl
theorem kf_27 (N : Nat) : kd (SHL N) 27 = (0, 5) := rfl
theorem kf_28 (N : Nat) : kd (SHL N) 28 = (0, 5) := rfl
theorem kf_29 (N : Nat) : kd (SHL N) 29 = (0, 5) := rfl
theorem kf_30 (N : Nat) : kd (SHL N) 30 = (0, 5) := rfl
theorem kf_31 (N : Nat) : kd (SHL N) 31 = (0, 5) := rfl
theorem kf_32 (N : Nat) : kd (SHL N) 32 = (0, 5) := rfl
theorem kf_33 (N : Nat) : kd (SHL N) 33 = (0, 5) := rfl
theorem kf_34 (N : Nat) : kd (SHL N) 34 = (0, 20) := rfl
theorem kf_35 (N : Nat) : kd (SHL N) 35 = (0, 20) := rfl
theorem kf_36 (N : Nat) : kd (SHL N) 36 = (12, 5) := rfl
theorem kf_37 (N : Nat) : kd (SHL N) 37 = (15, 7) := rfl
theorem kf_38 (N : Nat) : kd (SHL N) 38 = (0, 20) := rfl
theorem kf_39 (N : Nat) : kd (SHL N) 39 = (0, 20) := rfl
theorem kf_40 (N : Nat) : kd (SHL N) 40 = (0, 20) := rfl
theorem kf_41 (N : Nat) : kd (SHL N) 41 = (0, 20) := rfl
theorem kf_42 (N : Nat) : kd (SHL N) 42 = (0, 20) := rfl
theorem kf_43 (N : Nat) : kd (SHL N) 43 = (0, 20) := rfl
theorem kf_44 (N : Nat) : kd (SHL N) 44 = (3, 2) := rfl
theorem kf_45 (N : Nat) : kd (SHL N) 45 = (16, 9) := rfl
theorem kf_46 (N : Nat) : kd (SHL N) 46 = (0, 50) := rfl
theorem kf_47 (N : Nat) : kd (SHL N) 47 = (0, 8) := rfl
theorem kf_48 (N : Nat) : kd (SHL N) 48 = (0, 8) := rfl
theorem kf_49 (N : Nat) : kd (SHL N) 49 = (19, 5) := rfl
theorem kf_50 (N : Nat) : kd (SHL N) 50 = (1, 9) := rfl
theorem kf_51 (N : Nat) : kd (SHL N) 51 = (1, 9) := rfl
theorem kf_52 (N : Nat) : kd (SHL N) 52 = (1, 5) := rfl
theorem kf_53 (N : Nat) : kd (SHL N) 53 = (16, 9) := rfl
theorem kf_54 (N : Nat) : kd (SHL N) 54 = (0, 50) := rfl
theorem kf_55 (N : Nat) : kd (SHL N) 55 = (0, 8) := rfl
theorem kf_56 (N : Nat) : kd (SHL N) 56 = (0, 8) := rfl
theorem kf_57 (N : Nat) : kd (SHL N) 57 = (19, 5) := rfl
theorem kf_58 (N : Nat) : kd (SHL N) 58 = (1, 9) := rfl
theorem kf_59 (N : Nat) : kd (SHL N) 59 = (1, 9) := rfl
theorem kf_60 (N : Nat) : kd (SHL N) 60 = (1, 5) := rfl
theorem kf_61 (N : Nat) : kd (SHL N) 61 = (14, 3) := rfl
theorem kf_62 (N : Nat) : kd (SHL N) 62 = (15, 7) := rfl
theorem kf_63 (N : Nat) : kd (SHL N) 63 = (0, 20) := rfl
theorem kf_64 (N : Nat) : kd (SHL N) 64 = (0, 20) := rfl
theorem kf_65 (N : Nat) : kd (SHL N) 65 = (0, 20) := rfl
theorem kf_66 (N : Nat) : kd (SHL N) 66 = (0, 20) := rfl
theorem kf_67 (N : Nat) : kd (SHL N) 67 = (0, 20) := rfl
theorem kf_68 (N : Nat) : kd (SHL N) 68 = (0, 20) := rfl
theorem kf_69 (N : Nat) : kd (SHL N) 69 = (13, 7) := rfl
theorem kf_70 (N : Nat) : kd (SHL N) 70 = (0, 8) := rfl
theorem kf_71 (N : Nat) : kd (SHL N) 71 = (0, 8) := rfl
theorem kf_72 (N : Nat) : kd (SHL N) 72 = (1, 4096) := rfl
theorem kf_73 (N : Nat) : kd (SHL N) 73 = (1, 4096) := rfl
theorem kf_74 (N : Nat) : kd (SHL N) 74 = (18, 3) := rfl
theorem kf_75 (N : Nat) : kd (SHL N) 75 = (0, 20) := rfl
theorem kf_76 (N : Nat) : kd (SHL N) 76 = (0, 20) := rfl
theorem kf_77 (N : Nat) : kd (SHL N) 77 = (10, 3) := rfl
theorem kf_78 (N : Nat) : kd (SHL N) 78 = (0, 12) := rfl
theorem kf_79 (N : Nat) : kd (SHL N) 79 = (0, 12) := rfl
theorem kf_80 (N : Nat) : kd (SHL N) 80 = (6, 4) := rfl
theorem kf_81 (N : Nat) : kd (SHL N) 81 = (17, 3) := rfl
theorem kf_82 (N : Nat) : kd (SHL N) 82 = (0, 60) := rfl
theorem kf_83 (N : Nat) : kd (SHL N) 83 = (17, 3) := rfl
theorem kf_84 (N : Nat) : kd (SHL N) 84 = (0, 60) := rfl
theorem kf_85 (N : Nat) : kd (SHL N) 85 = (17, 3) := rfl
theorem kf_86 (N : Nat) : kd (SHL N) 86 = (0, 60) := rfl
theorem kf_87 (N : Nat) : kd (SHL N) 87 = (17, 3) := rfl
theorem kf_88 (N : Nat) : kd (SHL N) 88 = (0, 60) := rfl
theorem kf_89 (N : Nat) : kd (SHL N) 89 = (21, 41) := rfl
theorem kf_90 (N : Nat) : kd (SHL N) 90 = (0, 4) := rfl
theorem kf_91 (N : Nat) : kd (SHL N) 91 = (0, 4) := rfl
theorem kf_92 (N : Nat) : kd (SHL N) 92 = (0, 240) := rfl
theorem kf_93 (N : Nat) : kd (SHL N) 93 = (0, 60) := rfl
theorem kf_94 (N : Nat) : kd (SHL N) 94 = (0, 100) := rfl
theorem kf_95 (N : Nat) : kd (SHL N) 95 = (0, 100) := rfl
theorem kf_96 (N : Nat) : kd (SHL N) 96 = (0, 100) := rfl
theorem kf_97 (N : Nat) : kd (SHL N) 97 = (0, 10) := rfl
theorem kf_98 (N : Nat) : kd (SHL N) 98 = (0, 100) := rfl
theorem kf_99 (N : Nat) : kd (SHL N) 99 = (0, 20) := rfl
theorem kf_100 (N : Nat) : kd (SHL N) 100 = (0, 20) := rfl
theorem kf_101 (N : Nat) : kd (SHL N) 101 = (2, 20) := rfl
theorem kf_102 (N : Nat) : kd (SHL N) 102 = (0, 20) := rfl
theorem kf_103 (N : Nat) : kd (SHL N) 103 = (0, 100) := rfl
theorem kf_104 (N : Nat) : kd (SHL N) 104 = (0, 2) := rfl
theorem kf_105 (N : Nat) : kd (SHL N) 105 = (0, 8) := rfl
theorem kf_106 (N : Nat) : kd (SHL N) 106 = (0, 8) := rfl
theorem kf_107 (N : Nat) : kd (SHL N) 107 = (0, 8) := rfl
theorem kf_108 (N : Nat) : kd (SHL N) 108 = (0, 8) := rfl
theorem kf_109 (N : Nat) : kd (SHL N) 109 = (0, 20) := rfl
theorem kf_110 (N : Nat) : kd (SHL N) 110 = (0, 20) := rfl
theorem kf_111 (N : Nat) : kd (SHL N) 111 = (0, 8) := rfl
theorem kf_112 (N : Nat) : kd (SHL N) 112 = (0, 8) := rfl
theorem kf_113 (N : Nat) : kd (SHL N) 113 = (1, 6561) := rfl
theorem kf_114 (N : Nat) : kd (SHL N) 114 = (1, 6561) := rfl
theorem kf_115 (N : Nat) : kd (SHL N) 115 = (1, 10) := rfl
theorem kf_116 (N : Nat) : kd (SHL N) 116 = (1, 20) := rfl
theorem kf_117 (N : Nat) : kd (SHL N) 117 = (1, 20) := rfl
theorem kf_118 (N : Nat) : kd (SHL N) 118 = (0, 12) := rfl
theorem kf_119 (N : Nat) : kd (SHL N) 119 = (0, 12) := rfl
theorem kd_rowRF : ∀ a, a < 114 → (kd SHR a).1 ≤ 2 → RFi (a + 6) = 0 := by decide +kernel
theorem kd_objRF : ∀ a, a < 114 → 10 ≤ (kd SHR a).1 → ∀ j, j < 64 → fkd (64 * ((kd SHR a).1 - 10) + j) = 2 ∨ RFn (a + 6) j = 0 := by decide +kernel
/-- what stays: references of objects, the given rows, the script -/
def Fz (X : Nat × (Int → Int)) (h : HP) : Prop := (∀ a j : Nat, RFn a j ≠ 0 → h a j = RFn a j) ∧ (∀ a, 1 ≤ a → a < 5 → ∀ j, h a j = stV a j) ∧ ∀ j, h 5 j = X.2 j
theorem Fz.upd {X : Nat × (Int → Int)} {h : HP} (hF : Fz X h) {a : Nat} {i v : Int} (h6 : 6 ≤ a) (h0 : ∀ j : Nat, (j : Int) = i → RFn a j = 0) : Fz X (upd2 h a i v) := by
  refine ⟨fun b j hb => ?_, fun b h1 h2 j => ?_, fun j => ?_⟩
  · unfold upd2
    by_cases e : b = a ∧ (j : Int) = i
    · exact absurd (by rw [e.1]; exact h0 j e.2) hb
    · rw [if_neg e]; exact hF.1 b j hb
  · rw [show upd2 h a i v b = h b from upd2_ne (by omega)]; exact hF.2.1 b h1 h2 j
  · rw [show upd2 h a i v 5 = h 5 from upd2_ne (by omega)]; exact hF.2.2 j
theorem kd_lt {N a : Nat} (h : (kd (SHL N) a).1 ≠ 99) : a < 120 := by
  refine Nat.not_le.mp fun q => h ?_
  rw [kd_out (show (SHL N).length ≤ a from q)]
theorem kd_hi {N a : Nat} (h : (kd (SHL N) a).1 ≠ 99) (h5 : (kd (SHL N) a).1 ≠ 5) : 6 ≤ a := by
  refine Nat.not_lt.mp fun q => ?_
  have h9 : a = 0 ∨ a = 1 ∨ a = 2 ∨ a = 3 ∨ a = 4 ∨ a = 5 := by omega
  rcases h9 with rfl | rfl | rfl | rfl | rfl | rfl
  · exact h rfl
  all_goals exact h5 rfl
theorem RF_row {N a : Nat} (h : (kd (SHL N) a).1 ≤ 2) (j : Nat) : RFn a j = 0 := by
  have h6 := kd_hi (N := N) (a := a) (by omega) (by omega)
  have h7 := kd_lt (N := N) (a := a) (by omega)
  rw [SHL_hi h6] at h
  have e := kd_rowRF (a - 6) (by omega) h
  rw [show a - 6 + 6 = a by omega] at e
  unfold RFn
  rw [e]
  rfl
theorem RF_fld {N a k : Nat} (h : (kd (SHL N) a).1 = 10 + k / 64) (hc : k / 64 < 12) (hk : fkd k ≠ 2) : RFn a (k % 64) = 0 := by
  have h6 := kd_hi (N := N) (a := a) (by omega) (by omega)
  have h7 := kd_lt (N := N) (a := a) (by omega)
  rw [SHL_hi h6] at h
  have e := kd_objRF (a - 6) (by omega) (by omega) (k % 64) (Nat.mod_lt _ (by decide))
  rw [h, show a - 6 + 6 = a by omega, Nat.add_sub_cancel_left, Nat.div_add_mod] at e
  exact e.resolve_left hk
abbrev bQ : Type := Option aV → HP → Prop
/-- from here the method comes to its end, with Q there; what stays has stayed -/
def Wp (X : Nat × (Int → Int)) (ρ M pc : Nat) (L st : List aV) (h : HP) (Q : bQ) : Prop := Fz X h → WG ρ M pc L st (SHL X.1) h (fun r sh' h' => sh' = SHL X.1 ∧ Fz X h' ∧ Q r h')
section WPR
variable {X : Nat × (Int → Int)} {ρ M pc np : Nat} {L st : List aV} {h : HP} {Q : bQ}
theorem Wp.mono {Q' : bQ} (hW : Wp X ρ M pc L st h Q) (hq : ∀ r h', Fz X h' → Q r h' → Q' r h') : Wp X ρ M pc L st h Q' := fun hf => (hW hf).mono fun _ _ _ q => ⟨q.1, q.2.1, hq _ _ q.2.1 q.2.2⟩
theorem Wp.fz (k : Fz X h → Wp X ρ M pc L st h Q) : Wp X ρ M pc L st h Q := fun hf => k hf hf
theorem wp_iconst {n : Int} (hc : cod M pc = some (.iconst n, np)) (k : Wp X ρ M np L (vi n :: st) h Q) : Wp X ρ M pc L st h Q := fun hf => wg_step hc rfl (k hf)
theorem wp_sipush {n : Int} (hc : cod M pc = some (.sipush n, np)) (k : Wp X ρ M np L (vl n :: st) h Q) : Wp X ρ M pc L st h Q := fun hf => wg_step hc rfl (k hf)
theorem wp_iload {n : Nat} {x : Int} (hc : cod M pc = some (.iload n, np)) (hl : L[n]? = some (vi x)) (k : Wp X ρ M np L (vi x :: st) h Q) : Wp X ρ M pc L st h Q := fun hf => wg_step hc rfl (by show ldI L n _; unfold ldI; rw [hl]; exact k hf)
theorem wp_lload {n : Nat} {x : Int} (hc : cod M pc = some (.lload n, np)) (hl : L[n]? = some (vl x)) (k : Wp X ρ M np L (vl x :: st) h Q) : Wp X ρ M pc L st h Q := fun hf => wg_step hc rfl (by show ldJ L n _; unfold ldJ; rw [hl]; exact k hf)
theorem wp_aload {n : Nat} {x : Nat} (hc : cod M pc = some (.aload n, np)) (hl : L[n]? = some (vr x)) (k : Wp X ρ M np L (vr x :: st) h Q) : Wp X ρ M pc L st h Q := fun hf => wg_step hc rfl (by show ldR L n _; unfold ldR; rw [hl]; exact k hf)
theorem wp_istore {n : Nat} {x : Int} {L2 : List aV} (hc : cod M pc = some (.istore n, np)) (hn : n < L.length) (hl : sto1 L n (vi x) = L2) (k : Wp X ρ M np L2 st h Q) : Wp X ρ M pc L (vi x :: st) h Q := fun hf => wg_step hc rfl ⟨hn, by rw [hl]; exact k hf⟩
theorem wp_astore {n : Nat} {x : Nat} {L2 : List aV} (hc : cod M pc = some (.astore n, np)) (hn : n < L.length) (hl : sto1 L n (vr x) = L2) (k : Wp X ρ M np L2 st h Q) : Wp X ρ M pc L (vr x :: st) h Q := fun hf => wg_step hc rfl ⟨hn, by rw [hl]; exact k hf⟩
theorem wp_lstore {n : Nat} {x : Int} {L2 : List aV} (hc : cod M pc = some (.lstore n, np)) (hn : n + 1 < L.length) (hl : sto2 L n (vl x) = L2) (k : Wp X ρ M np L2 st h Q) : Wp X ρ M pc L (vl x :: st) h Q := fun hf => wg_step hc rfl ⟨hn, by rw [hl]; exact k hf⟩
theorem wp_iinc {n : Nat} {d x : Int} {L2 : List aV} (hc : cod M pc = some (.iinc n d, np)) (hx : L[n]? = some (vi x)) (hl : sto1 L n (vi (w32 (x + d))) = L2) (k : Wp X ρ M np L2 st h Q) : Wp X ρ M pc L st h Q := fun hf => wg_step hc rfl (by show ldI L n _; unfold ldI; rw [hx]; show WG _ _ _ (sto1 L n _) _ _ _ _; rw [hl]; exact k hf)
theorem wp_iadd {a b : Int} (hc : cod M pc = some (.iadd, np)) (k : Wp X ρ M np L (vi (w32 (a + b)) :: st) h Q) : Wp X ρ M pc L (vi b :: vi a :: st) h Q := fun hf => wg_step hc rfl (k hf)
theorem wp_isub {a b : Int} (hc : cod M pc = some (.isub, np)) (k : Wp X ρ M np L (vi (w32 (a - b)) :: st) h Q) : Wp X ρ M pc L (vi b :: vi a :: st) h Q := fun hf => wg_step hc rfl (k hf)
theorem wp_imul {a b : Int} (hc : cod M pc = some (.imul, np)) (k : Wp X ρ M np L (vi (w32 (a * b)) :: st) h Q) : Wp X ρ M pc L (vi b :: vi a :: st) h Q := fun hf => wg_step hc rfl (k hf)
theorem wp_iand {a b : Int} (hc : cod M pc = some (.iand, np)) (k : Wp X ρ M np L (vi ((i32 a &&& i32 b).toInt) :: st) h Q) : Wp X ρ M pc L (vi b :: vi a :: st) h Q := fun hf => wg_step hc rfl (k hf)
theorem wp_ior {a b : Int} (hc : cod M pc = some (.ior, np)) (k : Wp X ρ M np L (vi ((i32 a ||| i32 b).toInt) :: st) h Q) : Wp X ρ M pc L (vi b :: vi a :: st) h Q := fun hf => wg_step hc rfl (k hf)
theorem wp_ishl {a b : Int} (hc : cod M pc = some (.ishl, np)) (k : Wp X ρ M np L (vi ((i32 a <<< (i32 b &&& 31)).toInt) :: st) h Q) : Wp X ρ M pc L (vi b :: vi a :: st) h Q := fun hf => wg_step hc rfl (k hf)
theorem wp_ishr {a b : Int} (hc : cod M pc = some (.ishr, np)) (k : Wp X ρ M np L (vi ((i32 a >>> (i32 b &&& 31)).toInt) :: st) h Q) : Wp X ρ M pc L (vi b :: vi a :: st) h Q := fun hf => wg_step hc rfl (k hf)
theorem wp_iushr {a b : Int} (hc : cod M pc = some (.iushr, np)) (k : Wp X ρ M np L (vi (((i32 a).toUInt32 >>> ((i32 b).toUInt32 &&& Int32.toUInt32 31)).toInt32.toInt) :: st) h Q) : Wp X ρ M pc L (vi b :: vi a :: st) h Q := fun hf => wg_step hc rfl (k hf)
theorem wp_idiv {a b : Int} (hc : cod M pc = some (.idiv, np)) (hb : b ≠ 0) (k : Wp X ρ M np L (vi (w32 (a.tdiv b)) :: st) h Q) : Wp X ρ M pc L (vi b :: vi a :: st) h Q := fun hf => wg_step hc rfl ⟨hb, k hf⟩
theorem wp_irem {a b : Int} (hc : cod M pc = some (.irem, np)) (hb : b ≠ 0) (k : Wp X ρ M np L (vi (a.tmod b) :: st) h Q) : Wp X ρ M pc L (vi b :: vi a :: st) h Q := fun hf => wg_step hc rfl ⟨hb, k hf⟩
theorem wp_ladd {a b : Int} (hc : cod M pc = some (.ladd, np)) (k : Wp X ρ M np L (vl (w64 (a + b)) :: st) h Q) : Wp X ρ M pc L (vl b :: vl a :: st) h Q := fun hf => wg_step hc rfl (k hf)
theorem wp_lsub {a b : Int} (hc : cod M pc = some (.lsub, np)) (k : Wp X ρ M np L (vl (w64 (a - b)) :: st) h Q) : Wp X ρ M pc L (vl b :: vl a :: st) h Q := fun hf => wg_step hc rfl (k hf)
theorem wp_lmul {a b : Int} (hc : cod M pc = some (.lmul, np)) (k : Wp X ρ M np L (vl (w64 (a * b)) :: st) h Q) : Wp X ρ M pc L (vl b :: vl a :: st) h Q := fun hf => wg_step hc rfl (k hf)
theorem wp_land {a b : Int} (hc : cod M pc = some (.land, np)) (k : Wp X ρ M np L (vl ((i64 a &&& i64 b).toInt) :: st) h Q) : Wp X ρ M pc L (vl b :: vl a :: st) h Q := fun hf => wg_step hc rfl (k hf)
theorem wp_lor {a b : Int} (hc : cod M pc = some (.lor, np)) (k : Wp X ρ M np L (vl ((i64 a ||| i64 b).toInt) :: st) h Q) : Wp X ρ M pc L (vl b :: vl a :: st) h Q := fun hf => wg_step hc rfl (k hf)
theorem wp_lxor {a b : Int} (hc : cod M pc = some (.lxor, np)) (k : Wp X ρ M np L (vl ((i64 a ^^^ i64 b).toInt) :: st) h Q) : Wp X ρ M pc L (vl b :: vl a :: st) h Q := fun hf => wg_step hc rfl (k hf)
theorem wp_ldiv {a b : Int} (hc : cod M pc = some (.ldiv, np)) (hb : b ≠ 0) (k : Wp X ρ M np L (vl (w64 (a.tdiv b)) :: st) h Q) : Wp X ρ M pc L (vl b :: vl a :: st) h Q := fun hf => wg_step hc rfl ⟨hb, k hf⟩
theorem wp_lrem {a b : Int} (hc : cod M pc = some (.lrem, np)) (hb : b ≠ 0) (k : Wp X ρ M np L (vl (a.tmod b) :: st) h Q) : Wp X ρ M pc L (vl b :: vl a :: st) h Q := fun hf => wg_step hc rfl ⟨hb, k hf⟩
theorem wp_ineg {a : Int} (hc : cod M pc = some (.ineg, np)) (k : Wp X ρ M np L (vi (w32 (-a)) :: st) h Q) : Wp X ρ M pc L (vi a :: st) h Q := fun hf => wg_step hc rfl (k hf)
theorem wp_lneg {a : Int} (hc : cod M pc = some (.lneg, np)) (k : Wp X ρ M np L (vl (w64 (-a)) :: st) h Q) : Wp X ρ M pc L (vl a :: st) h Q := fun hf => wg_step hc rfl (k hf)
theorem wp_lshl {a b : Int} (hc : cod M pc = some (.lshl, np)) (k : Wp X ρ M np L (vl (i64 a <<< ((i32 b).toInt64 &&& 63)).toInt :: st) h Q) : Wp X ρ M pc L (vi b :: vl a :: st) h Q := fun hf => wg_step hc rfl (k hf)
theorem wp_lushr {a b : Int} (hc : cod M pc = some (.lushr, np)) (k : Wp X ρ M np L (vl ((i64 a).toUInt64 >>> ((i32 b).toInt64.toUInt64 &&& Int64.toUInt64 63)).toInt64.toInt :: st) h Q) : Wp X ρ M pc L (vi b :: vl a :: st) h Q := fun hf => wg_step hc rfl (k hf)
theorem wp_lcmp {a b : Int} (hc : cod M pc = some (.lcmp, np)) (k : Wp X ρ M np L (vi (lcp a b) :: st) h Q) : Wp X ρ M pc L (vl b :: vl a :: st) h Q := fun hf => wg_step hc rfl (k hf)
theorem wp_i2l {a : Int} (hc : cod M pc = some (.i2l, np)) (k : Wp X ρ M np L (vl a :: st) h Q) : Wp X ρ M pc L (vi a :: st) h Q := fun hf => wg_step hc rfl (k hf)
theorem wp_l2i {a : Int} (hc : cod M pc = some (.l2i, np)) (k : Wp X ρ M np L (vi (w32 a) :: st) h Q) : Wp X ρ M pc L (vl a :: st) h Q := fun hf => wg_step hc rfl (k hf)
theorem wp_i2b {a : Int} (hc : cod M pc = some (.i2b, np)) (k : Wp X ρ M np L (vi (a.bmod 256) :: st) h Q) : Wp X ρ M pc L (vi a :: st) h Q := fun hf => wg_step hc rfl (k hf)
theorem wp_i2s {a : Int} (hc : cod M pc = some (.i2s, np)) (k : Wp X ρ M np L (vi (a.bmod 65536) :: st) h Q) : Wp X ρ M pc L (vi a :: st) h Q := fun hf => wg_step hc rfl (k hf)
theorem wp_dup {a : Int} (hc : cod M pc = some (.dup, np)) (k : Wp X ρ M np L (vi a :: vi a :: st) h Q) : Wp X ρ M pc L (vi a :: st) h Q := fun hf => wg_step hc rfl (k hf)
theorem wp_dupR {a : Nat} (hc : cod M pc = some (.dup, np)) (k : Wp X ρ M np L (vr a :: vr a :: st) h Q) : Wp X ρ M pc L (vr a :: st) h Q := fun hf => wg_step hc rfl (k hf)
theorem wp_dup2 {b : Int} {a : Nat} (hc : cod M pc = some (.dup2, np)) (k : Wp X ρ M np L (vi b :: vr a :: vi b :: vr a :: st) h Q) : Wp X ρ M pc L (vi b :: vr a :: st) h Q := fun hf => wg_step hc rfl (k hf)
theorem wp_pop {a : Int} (hc : cod M pc = some (.pop, np)) (k : Wp X ρ M np L st h Q) : Wp X ρ M pc L (vi a :: st) h Q := fun hf => wg_step hc rfl (k hf)
theorem wp_ifeq {a : Int} {t : Int} {tn : Nat} (hc : cod M pc = some (.ifCond .eq t, np)) (ht : t.toNat = tn) (kt : a = 0 → Wp X ρ M tn L st h Q) (kf : a ≠ 0 → Wp X ρ M np L st h Q) : Wp X ρ M pc L (vi a :: st) h Q := fun hf => wg_step hc rfl ⟨fun q => by rw [ht]; exact kt q hf, fun q => kf (q) hf⟩
theorem wp_ifeqT {a : Int} {t : Int} {tn : Nat} (hc : cod M pc = some (.ifCond .eq t, np)) (ht : t.toNat = tn) (hq : a = 0) (k : Wp X ρ M tn L st h Q) : Wp X ρ M pc L (vi a :: st) h Q := fun hf => wg_step hc rfl ⟨fun q => by rw [ht]; exact k hf, fun q => absurd hq q⟩
theorem wp_ifeqF {a : Int} {t : Int} {tn : Nat} (hc : cod M pc = some (.ifCond .eq t, np)) (ht : t.toNat = tn) (hq : a ≠ 0) (k : Wp X ρ M np L st h Q) : Wp X ρ M pc L (vi a :: st) h Q := fun hf => wg_step hc rfl ⟨fun q => absurd q hq, fun _ => k hf⟩
theorem wp_iceq {a b : Int} {t : Int} {tn : Nat} (hc : cod M pc = some (.if_icmp .eq t, np)) (ht : t.toNat = tn) (kt : a = b → Wp X ρ M tn L st h Q) (kf : a ≠ b → Wp X ρ M np L st h Q) : Wp X ρ M pc L (vi b :: vi a :: st) h Q := fun hf => wg_step hc rfl ⟨fun q => by rw [ht]; exact kt q hf, fun q => kf (q) hf⟩
theorem wp_iceqT {a b : Int} {t : Int} {tn : Nat} (hc : cod M pc = some (.if_icmp .eq t, np)) (ht : t.toNat = tn) (hq : a = b) (k : Wp X ρ M tn L st h Q) : Wp X ρ M pc L (vi b :: vi a :: st) h Q := fun hf => wg_step hc rfl ⟨fun q => by rw [ht]; exact k hf, fun q => absurd hq q⟩
theorem wp_iceqF {a b : Int} {t : Int} {tn : Nat} (hc : cod M pc = some (.if_icmp .eq t, np)) (ht : t.toNat = tn) (hq : a ≠ b) (k : Wp X ρ M np L st h Q) : Wp X ρ M pc L (vi b :: vi a :: st) h Q := fun hf => wg_step hc rfl ⟨fun q => absurd q hq, fun _ => k hf⟩
theorem wp_ifne {a : Int} {t : Int} {tn : Nat} (hc : cod M pc = some (.ifCond .ne t, np)) (ht : t.toNat = tn) (kt : a ≠ 0 → Wp X ρ M tn L st h Q) (kf : a = 0 → Wp X ρ M np L st h Q) : Wp X ρ M pc L (vi a :: st) h Q := fun hf => wg_step hc rfl ⟨fun q => by rw [ht]; exact kt q hf, fun q => kf (Classical.not_not.mp q) hf⟩
theorem wp_ifneT {a : Int} {t : Int} {tn : Nat} (hc : cod M pc = some (.ifCond .ne t, np)) (ht : t.toNat = tn) (hq : a ≠ 0) (k : Wp X ρ M tn L st h Q) : Wp X ρ M pc L (vi a :: st) h Q := fun hf => wg_step hc rfl ⟨fun q => by rw [ht]; exact k hf, fun q => absurd hq q⟩
theorem wp_ifneF {a : Int} {t : Int} {tn : Nat} (hc : cod M pc = some (.ifCond .ne t, np)) (ht : t.toNat = tn) (hq : a = 0) (k : Wp X ρ M np L st h Q) : Wp X ρ M pc L (vi a :: st) h Q := fun hf => wg_step hc rfl ⟨fun q => absurd hq q, fun _ => k hf⟩
theorem wp_icne {a b : Int} {t : Int} {tn : Nat} (hc : cod M pc = some (.if_icmp .ne t, np)) (ht : t.toNat = tn) (kt : a ≠ b → Wp X ρ M tn L st h Q) (kf : a = b → Wp X ρ M np L st h Q) : Wp X ρ M pc L (vi b :: vi a :: st) h Q := fun hf => wg_step hc rfl ⟨fun q => by rw [ht]; exact kt q hf, fun q => kf (Classical.not_not.mp q) hf⟩
theorem wp_icneT {a b : Int} {t : Int} {tn : Nat} (hc : cod M pc = some (.if_icmp .ne t, np)) (ht : t.toNat = tn) (hq : a ≠ b) (k : Wp X ρ M tn L st h Q) : Wp X ρ M pc L (vi b :: vi a :: st) h Q := fun hf => wg_step hc rfl ⟨fun q => by rw [ht]; exact k hf, fun q => absurd hq q⟩
theorem wp_icneF {a b : Int} {t : Int} {tn : Nat} (hc : cod M pc = some (.if_icmp .ne t, np)) (ht : t.toNat = tn) (hq : a = b) (k : Wp X ρ M np L st h Q) : Wp X ρ M pc L (vi b :: vi a :: st) h Q := fun hf => wg_step hc rfl ⟨fun q => absurd hq q, fun _ => k hf⟩
theorem wp_iflt {a : Int} {t : Int} {tn : Nat} (hc : cod M pc = some (.ifCond .lt t, np)) (ht : t.toNat = tn) (kt : a < 0 → Wp X ρ M tn L st h Q) (kf : 0 ≤ a → Wp X ρ M np L st h Q) : Wp X ρ M pc L (vi a :: st) h Q := fun hf => wg_step hc rfl ⟨fun q => by rw [ht]; exact kt q hf, fun q => kf (Int.not_lt.mp q) hf⟩
theorem wp_ifltT {a : Int} {t : Int} {tn : Nat} (hc : cod M pc = some (.ifCond .lt t, np)) (ht : t.toNat = tn) (hq : a < 0) (k : Wp X ρ M tn L st h Q) : Wp X ρ M pc L (vi a :: st) h Q := fun hf => wg_step hc rfl ⟨fun q => by rw [ht]; exact k hf, fun q => absurd hq q⟩
theorem wp_ifltF {a : Int} {t : Int} {tn : Nat} (hc : cod M pc = some (.ifCond .lt t, np)) (ht : t.toNat = tn) (hq : 0 ≤ a) (k : Wp X ρ M np L st h Q) : Wp X ρ M pc L (vi a :: st) h Q := fun hf => wg_step hc rfl ⟨fun q => absurd q (Int.not_lt.mpr hq), fun _ => k hf⟩
theorem wp_iclt {a b : Int} {t : Int} {tn : Nat} (hc : cod M pc = some (.if_icmp .lt t, np)) (ht : t.toNat = tn) (kt : a < b → Wp X ρ M tn L st h Q) (kf : b ≤ a → Wp X ρ M np L st h Q) : Wp X ρ M pc L (vi b :: vi a :: st) h Q := fun hf => wg_step hc rfl ⟨fun q => by rw [ht]; exact kt q hf, fun q => kf (Int.not_lt.mp q) hf⟩
theorem wp_icltT {a b : Int} {t : Int} {tn : Nat} (hc : cod M pc = some (.if_icmp .lt t, np)) (ht : t.toNat = tn) (hq : a < b) (k : Wp X ρ M tn L st h Q) : Wp X ρ M pc L (vi b :: vi a :: st) h Q := fun hf => wg_step hc rfl ⟨fun q => by rw [ht]; exact k hf, fun q => absurd hq q⟩
theorem wp_icltF {a b : Int} {t : Int} {tn : Nat} (hc : cod M pc = some (.if_icmp .lt t, np)) (ht : t.toNat = tn) (hq : b ≤ a) (k : Wp X ρ M np L st h Q) : Wp X ρ M pc L (vi b :: vi a :: st) h Q := fun hf => wg_step hc rfl ⟨fun q => absurd q (Int.not_lt.mpr hq), fun _ => k hf⟩
theorem wp_ifge {a : Int} {t : Int} {tn : Nat} (hc : cod M pc = some (.ifCond .ge t, np)) (ht : t.toNat = tn) (kt : 0 ≤ a → Wp X ρ M tn L st h Q) (kf : a < 0 → Wp X ρ M np L st h Q) : Wp X ρ M pc L (vi a :: st) h Q := fun hf => wg_step hc rfl ⟨fun q => by rw [ht]; exact kt q hf, fun q => kf (Int.not_le.mp q) hf⟩
theorem wp_ifgeT {a : Int} {t : Int} {tn : Nat} (hc : cod M pc = some (.ifCond .ge t, np)) (ht : t.toNat = tn) (hq : 0 ≤ a) (k : Wp X ρ M tn L st h Q) : Wp X ρ M pc L (vi a :: st) h Q := fun hf => wg_step hc rfl ⟨fun q => by rw [ht]; exact k hf, fun q => absurd hq q⟩
theorem wp_ifgeF {a : Int} {t : Int} {tn : Nat} (hc : cod M pc = some (.ifCond .ge t, np)) (ht : t.toNat = tn) (hq : a < 0) (k : Wp X ρ M np L st h Q) : Wp X ρ M pc L (vi a :: st) h Q := fun hf => wg_step hc rfl ⟨fun q => absurd q (Int.not_le.mpr hq), fun _ => k hf⟩
theorem wp_icge {a b : Int} {t : Int} {tn : Nat} (hc : cod M pc = some (.if_icmp .ge t, np)) (ht : t.toNat = tn) (kt : b ≤ a → Wp X ρ M tn L st h Q) (kf : a < b → Wp X ρ M np L st h Q) : Wp X ρ M pc L (vi b :: vi a :: st) h Q := fun hf => wg_step hc rfl ⟨fun q => by rw [ht]; exact kt q hf, fun q => kf (Int.not_le.mp q) hf⟩
theorem wp_icgeT {a b : Int} {t : Int} {tn : Nat} (hc : cod M pc = some (.if_icmp .ge t, np)) (ht : t.toNat = tn) (hq : b ≤ a) (k : Wp X ρ M tn L st h Q) : Wp X ρ M pc L (vi b :: vi a :: st) h Q := fun hf => wg_step hc rfl ⟨fun q => by rw [ht]; exact k hf, fun q => absurd hq q⟩
theorem wp_icgeF {a b : Int} {t : Int} {tn : Nat} (hc : cod M pc = some (.if_icmp .ge t, np)) (ht : t.toNat = tn) (hq : a < b) (k : Wp X ρ M np L st h Q) : Wp X ρ M pc L (vi b :: vi a :: st) h Q := fun hf => wg_step hc rfl ⟨fun q => absurd q (Int.not_le.mpr hq), fun _ => k hf⟩
theorem wp_ifgt {a : Int} {t : Int} {tn : Nat} (hc : cod M pc = some (.ifCond .gt t, np)) (ht : t.toNat = tn) (kt : 0 < a → Wp X ρ M tn L st h Q) (kf : a ≤ 0 → Wp X ρ M np L st h Q) : Wp X ρ M pc L (vi a :: st) h Q := fun hf => wg_step hc rfl ⟨fun q => by rw [ht]; exact kt q hf, fun q => kf (Int.not_lt.mp q) hf⟩
theorem wp_ifgtT {a : Int} {t : Int} {tn : Nat} (hc : cod M pc = some (.ifCond .gt t, np)) (ht : t.toNat = tn) (hq : 0 < a) (k : Wp X ρ M tn L st h Q) : Wp X ρ M pc L (vi a :: st) h Q := fun hf => wg_step hc rfl ⟨fun q => by rw [ht]; exact k hf, fun q => absurd hq q⟩
theorem wp_ifgtF {a : Int} {t : Int} {tn : Nat} (hc : cod M pc = some (.ifCond .gt t, np)) (ht : t.toNat = tn) (hq : a ≤ 0) (k : Wp X ρ M np L st h Q) : Wp X ρ M pc L (vi a :: st) h Q := fun hf => wg_step hc rfl ⟨fun q => absurd q (Int.not_lt.mpr hq), fun _ => k hf⟩
theorem wp_icgt {a b : Int} {t : Int} {tn : Nat} (hc : cod M pc = some (.if_icmp .gt t, np)) (ht : t.toNat = tn) (kt : b < a → Wp X ρ M tn L st h Q) (kf : a ≤ b → Wp X ρ M np L st h Q) : Wp X ρ M pc L (vi b :: vi a :: st) h Q := fun hf => wg_step hc rfl ⟨fun q => by rw [ht]; exact kt q hf, fun q => kf (Int.not_lt.mp q) hf⟩
theorem wp_icgtT {a b : Int} {t : Int} {tn : Nat} (hc : cod M pc = some (.if_icmp .gt t, np)) (ht : t.toNat = tn) (hq : b < a) (k : Wp X ρ M tn L st h Q) : Wp X ρ M pc L (vi b :: vi a :: st) h Q := fun hf => wg_step hc rfl ⟨fun q => by rw [ht]; exact k hf, fun q => absurd hq q⟩
theorem wp_icgtF {a b : Int} {t : Int} {tn : Nat} (hc : cod M pc = some (.if_icmp .gt t, np)) (ht : t.toNat = tn) (hq : a ≤ b) (k : Wp X ρ M np L st h Q) : Wp X ρ M pc L (vi b :: vi a :: st) h Q := fun hf => wg_step hc rfl ⟨fun q => absurd q (Int.not_lt.mpr hq), fun _ => k hf⟩
theorem wp_ifle {a : Int} {t : Int} {tn : Nat} (hc : cod M pc = some (.ifCond .le t, np)) (ht : t.toNat = tn) (kt : a ≤ 0 → Wp X ρ M tn L st h Q) (kf : 0 < a → Wp X ρ M np L st h Q) : Wp X ρ M pc L (vi a :: st) h Q := fun hf => wg_step hc rfl ⟨fun q => by rw [ht]; exact kt q hf, fun q => kf (Int.not_le.mp q) hf⟩
theorem wp_ifleT {a : Int} {t : Int} {tn : Nat} (hc : cod M pc = some (.ifCond .le t, np)) (ht : t.toNat = tn) (hq : a ≤ 0) (k : Wp X ρ M tn L st h Q) : Wp X ρ M pc L (vi a :: st) h Q := fun hf => wg_step hc rfl ⟨fun q => by rw [ht]; exact k hf, fun q => absurd hq q⟩
theorem wp_ifleF {a : Int} {t : Int} {tn : Nat} (hc : cod M pc = some (.ifCond .le t, np)) (ht : t.toNat = tn) (hq : 0 < a) (k : Wp X ρ M np L st h Q) : Wp X ρ M pc L (vi a :: st) h Q := fun hf => wg_step hc rfl ⟨fun q => absurd q (Int.not_le.mpr hq), fun _ => k hf⟩
theorem wp_icle {a b : Int} {t : Int} {tn : Nat} (hc : cod M pc = some (.if_icmp .le t, np)) (ht : t.toNat = tn) (kt : a ≤ b → Wp X ρ M tn L st h Q) (kf : b < a → Wp X ρ M np L st h Q) : Wp X ρ M pc L (vi b :: vi a :: st) h Q := fun hf => wg_step hc rfl ⟨fun q => by rw [ht]; exact kt q hf, fun q => kf (Int.not_le.mp q) hf⟩
theorem wp_icleT {a b : Int} {t : Int} {tn : Nat} (hc : cod M pc = some (.if_icmp .le t, np)) (ht : t.toNat = tn) (hq : a ≤ b) (k : Wp X ρ M tn L st h Q) : Wp X ρ M pc L (vi b :: vi a :: st) h Q := fun hf => wg_step hc rfl ⟨fun q => by rw [ht]; exact k hf, fun q => absurd hq q⟩
theorem wp_icleF {a b : Int} {t : Int} {tn : Nat} (hc : cod M pc = some (.if_icmp .le t, np)) (ht : t.toNat = tn) (hq : b < a) (k : Wp X ρ M np L st h Q) : Wp X ρ M pc L (vi b :: vi a :: st) h Q := fun hf => wg_step hc rfl ⟨fun q => absurd q (Int.not_le.mpr hq), fun _ => k hf⟩
theorem wp_goto {t : Int} {tn : Nat} (hc : cod M pc = some (.goto t, np)) (ht : t.toNat = tn) (k : Wp X ρ M tn L st h Q) : Wp X ρ M pc L st h Q := fun hf => wg_step hc rfl (by show WG _ _ t.toNat _ _ _ _ _; rw [ht]; exact k hf)
theorem wp_tabOut {a d lo hi : Int} {os : Array Int} {tn : Nat} (hc : cod M pc = some (.tableswitch d lo hi os, np)) (hq : a < lo ∨ hi < a) (ht : d.toNat = tn) (k : Wp X ρ M tn L st h Q) : Wp X ρ M pc L (vi a :: st) h Q := fun hf => wg_step hc rfl ⟨fun q => by rw [ht]; exact k hf, fun q => absurd hq q⟩
theorem wp_tabIn {a d lo hi : Int} {os : Array Int} {tn : Nat} (hc : cod M pc = some (.tableswitch d lo hi os, np)) (hq : ¬ (a < lo ∨ hi < a)) (ht : (os.toList.getD (a - lo).toNat d).toNat = tn) (k : Wp X ρ M tn L st h Q) : Wp X ρ M pc L (vi a :: st) h Q := fun hf => wg_step hc rfl ⟨fun q => absurd q hq, fun q => by rw [ht]; exact k hf⟩
theorem wp_look {a d : Int} {ps : Array (Int × Int)} {tn : Nat} (hc : cod M pc = some (.lookupswitch d ps, np)) (ht : (lsw ps.toList d a).toNat = tn) (k : Wp X ρ M tn L st h Q) : Wp X ρ M pc L (vi a :: st) h Q := fun hf => wg_step hc rfl (by show WG _ _ (lsw ps.toList d a).toNat _ _ _ _ _; rw [ht]; exact k hf)
theorem wp_getI {k a : Nat} {j : Int} (hc : cod M pc = some (.getfield k, np)) (hk : (kd (SHL X.1) a).1 = 10 + k / 64) (hj : ((k % 64 : Nat) : Int) = j) (kk : Wp X ρ M np L (vi (h a j) :: st) h Q) : Wp X ρ M pc L (vr a :: st) h Q := by subst hj; exact fun hf => wg_step hc rfl ⟨hk, kk hf⟩
theorem wp_getL {k a : Nat} {j : Int} (hc : cod M pc = some (.instanceof k, np)) (hk : (kd (SHL X.1) a).1 = 10 + k / 64) (hj : ((k % 64 : Nat) : Int) = j) (kk : Wp X ρ M np L (vl (h a j) :: st) h Q) : Wp X ρ M pc L (vr a :: st) h Q := by subst hj; exact fun hf => wg_step hc rfl ⟨hk, kk hf⟩
theorem wp_getR {k a r : Nat} (hc : cod M pc = some (.checkcast k, np)) (hk : (kd (SHL X.1) a).1 = 10 + k / 64) (hr : RFn a (k % 64) = r + 1) (kk : Wp X ρ M np L (vr (r + 1) :: st) h Q) : Wp X ρ M pc L (vr a :: st) h Q := fun hf => wg_step hc rfl ⟨hk, by have e := hf.1 a (k % 64) (by rw [hr]; exact Nat.succ_ne_zero r); rw [hr] at e; rw [e, Int.toNat_natCast]; exact kk hf⟩
theorem wp_getM {k a r : Nat} {j : Int} (hc : cod M pc = some (.ret k, np)) (hk : (kd (SHL X.1) a).1 = 10 + k / 64) (hj : ((k % 64 : Nat) : Int) = j) (hr : h a j = (r : Int)) (kk : Wp X ρ M np L (vr r :: st) h Q) : Wp X ρ M pc L (vr a :: st) h Q := by subst hj; exact fun hf => wg_step hc rfl ⟨hk, by rw [hr, Int.toNat_natCast]; exact kk hf⟩
theorem wp_putI {k a : Nat} {j : Int} {v : Int} (hc : cod M pc = some (.putfield k, np)) (hk : (kd (SHL X.1) a).1 = 10 + k / 64) (hj : ((k % 64 : Nat) : Int) = j) (hf0 : Nat.beq (fkd k) 0 = true) (hcl : Nat.blt (k / 64) 12 = true) (kk : Wp X ρ M np L st (upd2 h a j v) Q) : Wp X ρ M pc L (vi v :: vr a :: st) h Q := by subst hj; exact fun hf => wg_step hc rfl ⟨hk, kk (hf.upd (kd_hi (N := X.1) (by have := Nat.blt_eq.mp hcl; omega) (by omega)) (fun j hj => by rw [Int.ofNat_inj.mp hj]; exact RF_fld hk (Nat.blt_eq.mp hcl) (by rw [Nat.eq_of_beq_eq_true hf0]; decide)))⟩
theorem wp_putL {k a : Nat} {j : Int} {v : Int} (hc : cod M pc = some (.putstatic k, np)) (hk : (kd (SHL X.1) a).1 = 10 + k / 64) (hj : ((k % 64 : Nat) : Int) = j) (hf0 : Nat.beq (fkd k) 1 = true) (hcl : Nat.blt (k / 64) 12 = true) (kk : Wp X ρ M np L st (upd2 h a j v) Q) : Wp X ρ M pc L (vl v :: vr a :: st) h Q := by subst hj; exact fun hf => wg_step hc rfl ⟨hk, kk (hf.upd (kd_hi (N := X.1) (by have := Nat.blt_eq.mp hcl; omega) (by omega)) (fun j hj => by rw [Int.ofNat_inj.mp hj]; exact RF_fld hk (Nat.blt_eq.mp hcl) (by rw [Nat.eq_of_beq_eq_true hf0]; decide)))⟩
theorem wp_putM {k a v : Nat} {j : Int} (hc : cod M pc = some (.invokedynamic k, np)) (hk : (kd (SHL X.1) a).1 = 10 + k / 64) (hj : ((k % 64 : Nat) : Int) = j) (hf0 : Nat.beq (fkd k) 3 = true) (hcl : Nat.blt (k / 64) 12 = true) (kk : Wp X ρ M np L st (upd2 h a j (v : Int)) Q) : Wp X ρ M pc L (vr v :: vr a :: st) h Q := by subst hj; exact fun hf => wg_step hc rfl ⟨hk, kk (hf.upd (kd_hi (N := X.1) (by have := Nat.blt_eq.mp hcl; omega) (by omega)) (fun j hj => by rw [Int.ofNat_inj.mp hj]; exact RF_fld hk (Nat.blt_eq.mp hcl) (by rw [Nat.eq_of_beq_eq_true hf0]; decide)))⟩
theorem wp_getstatic {j : Nat} (hc : cod M pc = some (.getstatic j, np)) (k : Wp X ρ M np L (vr j :: st) h Q) : Wp X ρ M pc L st h Q := fun hf => wg_step hc rfl (k hf)
theorem wp_iaload {a n : Nat} {i : Int} (hc : cod M pc = some (.iaload, np)) (hk : kd (SHL X.1) a = (0, n)) (hb : 0 ≤ i ∧ i < (n : Int)) (kk : Wp X ρ M np L (vi (h a i) :: st) h Q) : Wp X ρ M pc L (vi i :: vr a :: st) h Q := fun hf => wg_step hc rfl ⟨by rw [hk]; exact ⟨Or.inl rfl, hb⟩, kk hf⟩
theorem wp_laload {a n : Nat} {i : Int} (hc : cod M pc = some (.laload, np)) (hk : kd (SHL X.1) a = (1, n)) (hb : 0 ≤ i ∧ i < (n : Int)) (kk : Wp X ρ M np L (vl (h a i) :: st) h Q) : Wp X ρ M pc L (vi i :: vr a :: st) h Q := fun hf => wg_step hc rfl ⟨by rw [hk]; exact ⟨rfl, hb⟩, kk hf⟩
theorem wp_baload {a n : Nat} {i : Int} (hc : cod M pc = some (.baload, np)) (hk : kd (SHL X.1) a = (2, n)) (hb : 0 ≤ i ∧ i < (n : Int)) (kk : Wp X ρ M np L (vi (h a i) :: st) h Q) : Wp X ρ M pc L (vi i :: vr a :: st) h Q := fun hf => wg_step hc rfl ⟨by rw [hk]; exact ⟨rfl, hb⟩, kk hf⟩
theorem wp_ialoadS {a n : Nat} {i : Int} (hc : cod M pc = some (.iaload, np)) (hk : kd (SHL X.1) a = (5, n)) (hb : 0 ≤ i ∧ i < (n : Int)) (h5 : 1 ≤ a ∧ a < 5) (kk : Wp X ρ M np L (vi (stV a i) :: st) h Q) : Wp X ρ M pc L (vi i :: vr a :: st) h Q := fun hf => wg_step hc rfl ⟨by rw [hk]; exact ⟨Or.inr rfl, hb⟩, by rw [hf.2.1 a h5.1 h5.2]; exact kk hf⟩
theorem wp_script {i : Int} (hc : cod M pc = some (.iaload, np)) (hb : 0 ≤ i ∧ i < (X.1 : Int)) (kk : Wp X ρ M np L (vi (X.2 i) :: st) h Q) : Wp X ρ M pc L (vi i :: vr 5 :: st) h Q := fun hf => wg_step hc rfl ⟨⟨Or.inr rfl, hb⟩, by rw [hf.2.2]; exact kk hf⟩
theorem wp_alen (hc : cod M pc = some (.arraylength, np)) (kk : Wp X ρ M np L (vi (X.1 : Int) :: st) h Q) : Wp X ρ M pc L (vr 5 :: st) h Q := fun hf => wg_step hc rfl ⟨rfl, kk hf⟩
theorem wp_aaload {a n m r : Nat} {i : Int} (hc : cod M pc = some (.aaload, np)) (hk : kd (SHL X.1) a = (m, n)) (hm : m = 3 ∨ m = 4 ∨ m = 6) (hb : 0 ≤ i ∧ i < (n : Int)) (hr : RFn a i.toNat = r + 1) (kk : Wp X ρ M np L (vr (r + 1) :: st) h Q) : Wp X ρ M pc L (vi i :: vr a :: st) h Q := fun hf => wg_step hc rfl ⟨by rw [hk]; exact ⟨hm, hb⟩, by have e := hf.1 a i.toNat (by rw [hr]; exact Nat.succ_ne_zero r); rw [hr, Int.toNat_of_nonneg hb.1] at e; rw [e, Int.toNat_natCast]; exact kk hf⟩
theorem wp_iastore {a n : Nat} {i : Int} {v : Int} (hc : cod M pc = some (.iastore, np)) (hk : kd (SHL X.1) a = (0, n)) (hb : 0 ≤ i ∧ i < (n : Int)) (kk : Wp X ρ M np L st (upd2 h a i v) Q) : Wp X ρ M pc L (vi v :: vi i :: vr a :: st) h Q := fun hf => wg_step hc rfl ⟨by rw [hk]; exact ⟨rfl, hb.1, hb.2⟩, kk (hf.upd (kd_hi (N := X.1) (by rw [hk]; exact (by decide : (0 : Nat) ≠ 99)) (by rw [hk]; exact (by decide : (0 : Nat) ≠ 5))) (fun j _ => RF_row (N := X.1) (by rw [hk]; exact (by decide : (0 : Nat) ≤ 2)) j))⟩
theorem wp_lastore {a n : Nat} {i : Int} {v : Int} (hc : cod M pc = some (.lastore, np)) (hk : kd (SHL X.1) a = (1, n)) (hb : 0 ≤ i ∧ i < (n : Int)) (kk : Wp X ρ M np L st (upd2 h a i v) Q) : Wp X ρ M pc L (vl v :: vi i :: vr a :: st) h Q := fun hf => wg_step hc rfl ⟨by rw [hk]; exact ⟨rfl, hb.1, hb.2⟩, kk (hf.upd (kd_hi (N := X.1) (by rw [hk]; exact (by decide : (1 : Nat) ≠ 99)) (by rw [hk]; exact (by decide : (1 : Nat) ≠ 5))) (fun j _ => RF_row (N := X.1) (by rw [hk]; exact (by decide : (1 : Nat) ≤ 2)) j))⟩
theorem wp_bastore {a n : Nat} {i : Int} {v : Int} (hc : cod M pc = some (.bastore, np)) (hk : kd (SHL X.1) a = (2, n)) (hb : 0 ≤ i ∧ i < (n : Int)) (hv : v = 0 ∨ v = 1) (kk : Wp X ρ M np L st (upd2 h a i v) Q) : Wp X ρ M pc L (vi v :: vi i :: vr a :: st) h Q := fun hf => wg_step hc rfl ⟨by rw [hk]; exact ⟨rfl, hb.1, hb.2, hv⟩, kk (hf.upd (kd_hi (N := X.1) (by rw [hk]; exact (by decide : (2 : Nat) ≠ 99)) (by rw [hk]; exact (by decide : (2 : Nat) ≠ 5))) (fun j _ => RF_row (N := X.1) (by rw [hk]; exact (by decide : (2 : Nat) ≤ 2)) j))⟩
theorem Fz.cpy (hF : Fz X h) {a b : Nat} {i j n : Int} (h6 : 6 ≤ b) (h0 : ∀ j : Nat, RFn b j = 0) : Fz X (cpyH h b j a i n) := by
  refine ⟨fun x y hy => ?_, fun x h1 h2 y => ?_, fun y => ?_⟩
  · by_cases e : x = b
    · exact absurd (by rw [e]; exact h0 y) hy
    · rw [show cpyH h b j a i n x = h x from cpyH_o e]; exact hF.1 x y hy
  · rw [show cpyH h b j a i n x = h x from cpyH_o (by omega)]; exact hF.2.1 x h1 h2 y
  · rw [show cpyH h b j a i n 5 = h 5 from cpyH_o (by omega)]; exact hF.2.2 y
theorem wp_copy {a b na nb : Nat} {i j n : Int} (hc : cod M pc = some (.nop, np)) (ha : kd (SHL X.1) a = (0, na)) (hb : kd (SHL X.1) b = (0, nb)) (hq : 0 ≤ n ∧ 0 ≤ i ∧ 0 ≤ j ∧ i + n ≤ (na : Int) ∧ j + n ≤ (nb : Int)) (hs : csum st ≤ 8) (kk : Wp X ρ M np L st (cpyH h b j a i n) Q) : Wp X ρ M pc L (vi n :: vi j :: vr b :: vi i :: vr a :: st) h Q := fun hf => wg_step hc rfl ⟨by rw [ha, hb]; exact ⟨rfl, rfl, hq.1, hq.2.1, hq.2.2.1, hq.2.2.2.1, hq.2.2.2.2, hs⟩, kk (hf.cpy (kd_hi (N := X.1) (by rw [hb]; exact (by decide : (0 : Nat) ≠ 99)) (by rw [hb]; exact (by decide : (0 : Nat) ≠ 5))) (fun j => RF_row (N := X.1) (by rw [hb]; exact (by decide : (0 : Nat) ≤ 2)) j))⟩
theorem wp_call {k ρ2 : Nat} {as r L2 : List aV} (hc : cod M pc = some (.invokestatic k, np)) (ht : tak (nar k) st [] = some (as, r)) (hr : rk k as = ρ2) (hlt : ρ2 < ρ) (hs : csum r ≤ 8) (he : (ent0 as).length ≤ mxl k) (hv : rcv k (SHL X.1) as) (hL : ent k as = L2) (kk : Wp X ρ2 k 0 L2 [] h (fun v h' => Wp X ρ M np L (psh v r) h' Q)) : Wp X ρ M pc L st h Q := by
  subst hr
  subst hL
  exact fun hf => wg_call hc ht hlt hs he hv ((kk hf).mono fun v sh' h' q => by obtain ⟨rfl, q2, q3⟩ := q; exact q3 q2)
theorem rcv_S {k : Nat} {sh : SH} {as : List aV} (hs : isS k = true) : rcv k sh as := by
  unfold rcv
  rw [hs]
  exact trivial
theorem rcv_V {k a : Nat} {sh : SH} {as : List aV} (hs : isS k = false) (hk : (kd sh a).1 = 10 + ocl k) : rcv k sh (vr a :: as) := by
  unfold rcv
  rw [hs]
  exact hk
theorem wp_iret {a : Int} (hc : cod M pc = some (.ireturn, np)) (hk : kin M = 1) (k : Q (some (vi a)) h) : Wp X ρ M pc L [vi a] h Q := fun hf => wg_iret hc hk ⟨rfl, hf, k⟩
theorem wp_lret {a : Int} (hc : cod M pc = some (.lreturn, np)) (hk : kin M = 3) (k : Q (some (vl a)) h) : Wp X ρ M pc L [vl a] h Q := fun hf => wg_lret hc hk ⟨rfl, hf, k⟩
theorem wp_aret {a : Nat} (hc : cod M pc = some (.areturn, np)) (hk : kin M = 4) (k : Q (some (vr a)) h) : Wp X ρ M pc L [vr a] h Q := fun hf => wg_aret hc hk ⟨rfl, hf, k⟩
theorem wp_zret {a : Int} (hc : cod M pc = some (.ireturn, np)) (hk : kin M = 2) (ha : a = 0 ∨ a = 1) (k : Q (some (vi a)) h) : Wp X ρ M pc L [vi a] h Q := fun hf => wg_zret hc hk ha ⟨rfl, hf, k⟩
theorem wp_vret (hc : cod M pc = some (.return_, np)) (hk : kin M = 0) (k : Q none h) : Wp X ρ M pc L [] h Q := fun hf => wg_vret hc hk ⟨rfl, hf, k⟩
end WPR
