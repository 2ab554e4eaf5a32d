def KC : List (Nat × Nat) := [(4, 6), (4, 4), (0, 12), (0, 12), (0, 12), (0, 12), (0, 36), (0, 40), (0, 40), (0, 4), (4, 0), (0, 492), (0, 7), (4, 2), (1, 164), (1, 4), (0, 40), (4, 1), (0, 164), (0, 164), (0, 164), (0, 40), (4, 3), (3, 6), (4, 4), (0, 12), (0, 12), (0, 12), (0, 12), (0, 36), (0, 40), (0, 40), (0, 4), (4, 4), (0, 12), (0, 12), (0, 12), (0, 12), (0, 36), (0, 40), (0, 40), (0, 4), (4, 4), (0, 12), (0, 12), (0, 12), (0, 12), (0, 36), (0, 40), (0, 40), (0, 4), (4, 4), (0, 12), (0, 12), (0, 12), (0, 12), (0, 36), (0, 40), (0, 40), (0, 4), (4, 4), (0, 12), (0, 12), (0, 12), (0, 12), (0, 36), (0, 40), (0, 40), (0, 4), (4, 4), (0, 12), (0, 12), (0, 12), (0, 12), (0, 36), (0, 40), (0, 40), (0, 4), (4, 5), (2, 150), (0, 2), (0, 40), (0, 4)]
def KM : List (Nat × Nat) := [(4, 7), (0, 148), (0, 148), (0, 740), (0, 4), (0, 150), (1, 164), (0, 40), (0, 164), (0, 164), (0, 164), (0, 76), (0, 152)]
def flC (a : Nat) : List (Nat × Nat) := if a = 0 then [(0, 1), (0, 10), (0, 13), (0, 17), (0, 22), (0, 78), (0, 82)] else if a = 10 then [(0, 1), (0, 11), (0, 12), (1, 0)] else if a = 13 then [(0, 1), (0, 10), (0, 14), (0, 15), (0, 16), (1, 0), (1, 0), (2, 0)] else if a = 17 then [(0, 1), (0, 10), (0, 18), (0, 19), (0, 20), (0, 21), (1, 0), (1, 0)] else if a = 22 then [(0, 23), (1, 0), (1, 0)] else if a = 78 then [(0, 79), (1, 0), (1, 0), (1, 0), (0, 80), (0, 81), (1, 0)] else [(0, a + 1), (0, a + 2), (0, a + 3), (0, a + 4), (0, a + 5), (0, a + 6), (0, a + 7), (0, a + 8), (1, 0), (1, 0), (1, 0), (1, 0), (1, 0)]
def ΛC : Ly := (83, fun a => KC.getD a (9, 0), flC, fun _ i => 24 + 9 * i)
def ΛM : Ly := (13, fun a => KM.getD a (9, 0), fun _ => [(0, 1), (0, 2), (0, 3), (1, 0), (0, 4), (0, 5), (1, 0), (1, 0), (0, 6), (1, 0), (0, 7), (1, 0), (0, 8), (0, 9), (0, 10), (1, 0), (1, 0), (1, 0), (1, 0), (1, 0), (0, 11), (0, 12), (2, 0)], fun _ i => i)
theorem ltC_0 : 0 < ΛC.1 := by decide
theorem kdC_0 : ΛC.2.1 0 = (4, 6) := by decide +kernel
theorem ltC_1 : 1 < ΛC.1 := by decide
theorem kdC_1 : ΛC.2.1 1 = (4, 4) := by decide +kernel
theorem ltC_2 : 2 < ΛC.1 := by decide
theorem kdC_2 : ΛC.2.1 2 = (0, 12) := by decide +kernel
theorem ltC_3 : 3 < ΛC.1 := by decide
theorem kdC_3 : ΛC.2.1 3 = (0, 12) := by decide +kernel
theorem ltC_4 : 4 < ΛC.1 := by decide
theorem kdC_4 : ΛC.2.1 4 = (0, 12) := by decide +kernel
theorem ltC_5 : 5 < ΛC.1 := by decide
theorem kdC_5 : ΛC.2.1 5 = (0, 12) := by decide +kernel
theorem ltC_6 : 6 < ΛC.1 := by decide
theorem kdC_6 : ΛC.2.1 6 = (0, 36) := by decide +kernel
theorem ltC_7 : 7 < ΛC.1 := by decide
theorem kdC_7 : ΛC.2.1 7 = (0, 40) := by decide +kernel
theorem ltC_8 : 8 < ΛC.1 := by decide
theorem kdC_8 : ΛC.2.1 8 = (0, 40) := by decide +kernel
theorem ltC_9 : 9 < ΛC.1 := by decide
theorem kdC_9 : ΛC.2.1 9 = (0, 4) := by decide +kernel
theorem ltC_10 : 10 < ΛC.1 := by decide
theorem kdC_10 : ΛC.2.1 10 = (4, 0) := by decide +kernel
theorem ltC_11 : 11 < ΛC.1 := by decide
theorem kdC_11 : ΛC.2.1 11 = (0, 492) := by decide +kernel
theorem ltC_12 : 12 < ΛC.1 := by decide
theorem kdC_12 : ΛC.2.1 12 = (0, 7) := by decide +kernel
theorem ltC_13 : 13 < ΛC.1 := by decide
theorem kdC_13 : ΛC.2.1 13 = (4, 2) := by decide +kernel
theorem ltC_14 : 14 < ΛC.1 := by decide
theorem kdC_14 : ΛC.2.1 14 = (1, 164) := by decide +kernel
theorem ltC_15 : 15 < ΛC.1 := by decide
theorem kdC_15 : ΛC.2.1 15 = (1, 4) := by decide +kernel
theorem ltC_16 : 16 < ΛC.1 := by decide
theorem kdC_16 : ΛC.2.1 16 = (0, 40) := by decide +kernel
theorem ltC_17 : 17 < ΛC.1 := by decide
theorem kdC_17 : ΛC.2.1 17 = (4, 1) := by decide +kernel
theorem ltC_18 : 18 < ΛC.1 := by decide
theorem kdC_18 : ΛC.2.1 18 = (0, 164) := by decide +kernel
theorem ltC_19 : 19 < ΛC.1 := by decide
theorem kdC_19 : ΛC.2.1 19 = (0, 164) := by decide +kernel
theorem ltC_20 : 20 < ΛC.1 := by decide
theorem kdC_20 : ΛC.2.1 20 = (0, 164) := by decide +kernel
theorem ltC_21 : 21 < ΛC.1 := by decide
theorem kdC_21 : ΛC.2.1 21 = (0, 40) := by decide +kernel
theorem ltC_22 : 22 < ΛC.1 := by decide
theorem kdC_22 : ΛC.2.1 22 = (4, 3) := by decide +kernel
theorem ltC_23 : 23 < ΛC.1 := by decide
theorem kdC_23 : ΛC.2.1 23 = (3, 6) := by decide +kernel
theorem ltC_24 : 24 < ΛC.1 := by decide
theorem kdC_24 : ΛC.2.1 24 = (4, 4) := by decide +kernel
theorem ltC_25 : 25 < ΛC.1 := by decide
theorem kdC_25 : ΛC.2.1 25 = (0, 12) := by decide +kernel
theorem ltC_26 : 26 < ΛC.1 := by decide
theorem kdC_26 : ΛC.2.1 26 = (0, 12) := by decide +kernel
theorem ltC_27 : 27 < ΛC.1 := by decide
theorem kdC_27 : ΛC.2.1 27 = (0, 12) := by decide +kernel
theorem ltC_28 : 28 < ΛC.1 := by decide
theorem kdC_28 : ΛC.2.1 28 = (0, 12) := by decide +kernel
theorem ltC_29 : 29 < ΛC.1 := by decide
theorem kdC_29 : ΛC.2.1 29 = (0, 36) := by decide +kernel
theorem ltC_30 : 30 < ΛC.1 := by decide
theorem kdC_30 : ΛC.2.1 30 = (0, 40) := by decide +kernel
theorem ltC_31 : 31 < ΛC.1 := by decide
theorem kdC_31 : ΛC.2.1 31 = (0, 40) := by decide +kernel
theorem ltC_32 : 32 < ΛC.1 := by decide
theorem kdC_32 : ΛC.2.1 32 = (0, 4) := by decide +kernel
theorem ltC_33 : 33 < ΛC.1 := by decide
theorem kdC_33 : ΛC.2.1 33 = (4, 4) := by decide +kernel
theorem ltC_34 : 34 < ΛC.1 := by decide
theorem kdC_34 : ΛC.2.1 34 = (0, 12) := by decide +kernel
theorem ltC_35 : 35 < ΛC.1 := by decide
theorem kdC_35 : ΛC.2.1 35 = (0, 12) := by decide +kernel
theorem ltC_36 : 36 < ΛC.1 := by decide
theorem kdC_36 : ΛC.2.1 36 = (0, 12) := by decide +kernel
theorem ltC_37 : 37 < ΛC.1 := by decide
theorem kdC_37 : ΛC.2.1 37 = (0, 12) := by decide +kernel
theorem ltC_38 : 38 < ΛC.1 := by decide
theorem kdC_38 : ΛC.2.1 38 = (0, 36) := by decide +kernel
theorem ltC_39 : 39 < ΛC.1 := by decide
theorem kdC_39 : ΛC.2.1 39 = (0, 40) := by decide +kernel
theorem ltC_40 : 40 < ΛC.1 := by decide
theorem kdC_40 : ΛC.2.1 40 = (0, 40) := by decide +kernel
theorem ltC_41 : 41 < ΛC.1 := by decide
theorem kdC_41 : ΛC.2.1 41 = (0, 4) := by decide +kernel
theorem ltC_42 : 42 < ΛC.1 := by decide
theorem kdC_42 : ΛC.2.1 42 = (4, 4) := by decide +kernel
theorem ltC_43 : 43 < ΛC.1 := by decide
theorem kdC_43 : ΛC.2.1 43 = (0, 12) := by decide +kernel
theorem ltC_44 : 44 < ΛC.1 := by decide
theorem kdC_44 : ΛC.2.1 44 = (0, 12) := by decide +kernel
theorem ltC_45 : 45 < ΛC.1 := by decide
theorem kdC_45 : ΛC.2.1 45 = (0, 12) := by decide +kernel
theorem ltC_46 : 46 < ΛC.1 := by decide
theorem kdC_46 : ΛC.2.1 46 = (0, 12) := by decide +kernel
theorem ltC_47 : 47 < ΛC.1 := by decide
theorem kdC_47 : ΛC.2.1 47 = (0, 36) := by decide +kernel
theorem ltC_48 : 48 < ΛC.1 := by decide
theorem kdC_48 : ΛC.2.1 48 = (0, 40) := by decide +kernel
theorem ltC_49 : 49 < ΛC.1 := by decide
theorem kdC_49 : ΛC.2.1 49 = (0, 40) := by decide +kernel
theorem ltC_50 : 50 < ΛC.1 := by decide
theorem kdC_50 : ΛC.2.1 50 = (0, 4) := by decide +kernel
theorem ltC_51 : 51 < ΛC.1 := by decide
theorem kdC_51 : ΛC.2.1 51 = (4, 4) := by decide +kernel
theorem ltC_52 : 52 < ΛC.1 := by decide
theorem kdC_52 : ΛC.2.1 52 = (0, 12) := by decide +kernel
theorem ltC_53 : 53 < ΛC.1 := by decide
theorem kdC_53 : ΛC.2.1 53 = (0, 12) := by decide +kernel
theorem ltC_54 : 54 < ΛC.1 := by decide
theorem kdC_54 : ΛC.2.1 54 = (0, 12) := by decide +kernel
theorem ltC_55 : 55 < ΛC.1 := by decide
theorem kdC_55 : ΛC.2.1 55 = (0, 12) := by decide +kernel
theorem ltC_56 : 56 < ΛC.1 := by decide
theorem kdC_56 : ΛC.2.1 56 = (0, 36) := by decide +kernel
theorem ltC_57 : 57 < ΛC.1 := by decide
theorem kdC_57 : ΛC.2.1 57 = (0, 40) := by decide +kernel
theorem ltC_58 : 58 < ΛC.1 := by decide
theorem kdC_58 : ΛC.2.1 58 = (0, 40) := by decide +kernel
theorem ltC_59 : 59 < ΛC.1 := by decide
theorem kdC_59 : ΛC.2.1 59 = (0, 4) := by decide +kernel
theorem ltC_60 : 60 < ΛC.1 := by decide
theorem kdC_60 : ΛC.2.1 60 = (4, 4) := by decide +kernel
theorem ltC_61 : 61 < ΛC.1 := by decide
theorem kdC_61 : ΛC.2.1 61 = (0, 12) := by decide +kernel
theorem ltC_62 : 62 < ΛC.1 := by decide
theorem kdC_62 : ΛC.2.1 62 = (0, 12) := by decide +kernel
theorem ltC_63 : 63 < ΛC.1 := by decide
theorem kdC_63 : ΛC.2.1 63 = (0, 12) := by decide +kernel
theorem ltC_64 : 64 < ΛC.1 := by decide
theorem kdC_64 : ΛC.2.1 64 = (0, 12) := by decide +kernel
theorem ltC_65 : 65 < ΛC.1 := by decide
theorem kdC_65 : ΛC.2.1 65 = (0, 36) := by decide +kernel
theorem ltC_66 : 66 < ΛC.1 := by decide
theorem kdC_66 : ΛC.2.1 66 = (0, 40) := by decide +kernel
theorem ltC_67 : 67 < ΛC.1 := by decide
theorem kdC_67 : ΛC.2.1 67 = (0, 40) := by decide +kernel
theorem ltC_68 : 68 < ΛC.1 := by decide
theorem kdC_68 : ΛC.2.1 68 = (0, 4) := by decide +kernel
theorem ltC_69 : 69 < ΛC.1 := by decide
theorem kdC_69 : ΛC.2.1 69 = (4, 4) := by decide +kernel
theorem ltC_70 : 70 < ΛC.1 := by decide
theorem kdC_70 : ΛC.2.1 70 = (0, 12) := by decide +kernel
theorem ltC_71 : 71 < ΛC.1 := by decide
theorem kdC_71 : ΛC.2.1 71 = (0, 12) := by decide +kernel
theorem ltC_72 : 72 < ΛC.1 := by decide
theorem kdC_72 : ΛC.2.1 72 = (0, 12) := by decide +kernel
theorem ltC_73 : 73 < ΛC.1 := by decide
theorem kdC_73 : ΛC.2.1 73 = (0, 12) := by decide +kernel
theorem ltC_74 : 74 < ΛC.1 := by decide
theorem kdC_74 : ΛC.2.1 74 = (0, 36) := by decide +kernel
theorem ltC_75 : 75 < ΛC.1 := by decide
theorem kdC_75 : ΛC.2.1 75 = (0, 40) := by decide +kernel
theorem ltC_76 : 76 < ΛC.1 := by decide
theorem kdC_76 : ΛC.2.1 76 = (0, 40) := by decide +kernel
theorem ltC_77 : 77 < ΛC.1 := by decide
theorem kdC_77 : ΛC.2.1 77 = (0, 4) := by decide +kernel
theorem ltC_78 : 78 < ΛC.1 := by decide
theorem kdC_78 : ΛC.2.1 78 = (4, 5) := by decide +kernel
theorem ltC_79 : 79 < ΛC.1 := by decide
theorem kdC_79 : ΛC.2.1 79 = (2, 150) := by decide +kernel
theorem ltC_80 : 80 < ΛC.1 := by decide
theorem kdC_80 : ΛC.2.1 80 = (0, 2) := by decide +kernel
theorem ltC_81 : 81 < ΛC.1 := by decide
theorem kdC_81 : ΛC.2.1 81 = (0, 40) := by decide +kernel
theorem ltC_82 : 82 < ΛC.1 := by decide
theorem kdC_82 : ΛC.2.1 82 = (0, 4) := by decide +kernel
theorem foC_0_0 : (ΛC.2.2.1 0)[0]? = some (0, 1) := by decide +kernel
theorem foC_0_1 : (ΛC.2.2.1 0)[1]? = some (0, 10) := by decide +kernel
theorem foC_0_2 : (ΛC.2.2.1 0)[2]? = some (0, 13) := by decide +kernel
theorem foC_0_3 : (ΛC.2.2.1 0)[3]? = some (0, 17) := by decide +kernel
theorem foC_0_4 : (ΛC.2.2.1 0)[4]? = some (0, 22) := by decide +kernel
theorem foC_0_5 : (ΛC.2.2.1 0)[5]? = some (0, 78) := by decide +kernel
theorem foC_0_6 : (ΛC.2.2.1 0)[6]? = some (0, 82) := by decide +kernel
theorem foC_1_0 : (ΛC.2.2.1 1)[0]? = some (0, 2) := by decide +kernel
theorem foC_1_1 : (ΛC.2.2.1 1)[1]? = some (0, 3) := by decide +kernel
theorem foC_1_2 : (ΛC.2.2.1 1)[2]? = some (0, 4) := by decide +kernel
theorem foC_1_3 : (ΛC.2.2.1 1)[3]? = some (0, 5) := by decide +kernel
theorem foC_1_4 : (ΛC.2.2.1 1)[4]? = some (0, 6) := by decide +kernel
theorem foC_1_5 : (ΛC.2.2.1 1)[5]? = some (0, 7) := by decide +kernel
theorem foC_1_6 : (ΛC.2.2.1 1)[6]? = some (0, 8) := by decide +kernel
theorem foC_1_7 : (ΛC.2.2.1 1)[7]? = some (0, 9) := by decide +kernel
theorem foC_1_8 : (ΛC.2.2.1 1)[8]? = some (1, 0) := by decide +kernel
theorem foC_1_9 : (ΛC.2.2.1 1)[9]? = some (1, 0) := by decide +kernel
theorem foC_1_10 : (ΛC.2.2.1 1)[10]? = some (1, 0) := by decide +kernel
theorem foC_1_11 : (ΛC.2.2.1 1)[11]? = some (1, 0) := by decide +kernel
theorem foC_1_12 : (ΛC.2.2.1 1)[12]? = some (1, 0) := by decide +kernel
theorem foC_10_0 : (ΛC.2.2.1 10)[0]? = some (0, 1) := by decide +kernel
theorem foC_10_1 : (ΛC.2.2.1 10)[1]? = some (0, 11) := by decide +kernel
theorem foC_10_2 : (ΛC.2.2.1 10)[2]? = some (0, 12) := by decide +kernel
theorem foC_10_3 : (ΛC.2.2.1 10)[3]? = some (1, 0) := by decide +kernel
theorem foC_13_0 : (ΛC.2.2.1 13)[0]? = some (0, 1) := by decide +kernel
theorem foC_13_1 : (ΛC.2.2.1 13)[1]? = some (0, 10) := by decide +kernel
theorem foC_13_2 : (ΛC.2.2.1 13)[2]? = some (0, 14) := by decide +kernel
theorem foC_13_3 : (ΛC.2.2.1 13)[3]? = some (0, 15) := by decide +kernel
theorem foC_13_4 : (ΛC.2.2.1 13)[4]? = some (0, 16) := by decide +kernel
theorem foC_13_5 : (ΛC.2.2.1 13)[5]? = some (1, 0) := by decide +kernel
theorem foC_13_6 : (ΛC.2.2.1 13)[6]? = some (1, 0) := by decide +kernel
theorem foC_13_7 : (ΛC.2.2.1 13)[7]? = some (2, 0) := by decide +kernel
theorem foC_17_0 : (ΛC.2.2.1 17)[0]? = some (0, 1) := by decide +kernel
theorem foC_17_1 : (ΛC.2.2.1 17)[1]? = some (0, 10) := by decide +kernel
theorem foC_17_2 : (ΛC.2.2.1 17)[2]? = some (0, 18) := by decide +kernel
theorem foC_17_3 : (ΛC.2.2.1 17)[3]? = some (0, 19) := by decide +kernel
theorem foC_17_4 : (ΛC.2.2.1 17)[4]? = some (0, 20) := by decide +kernel
theorem foC_17_5 : (ΛC.2.2.1 17)[5]? = some (0, 21) := by decide +kernel
theorem foC_17_6 : (ΛC.2.2.1 17)[6]? = some (1, 0) := by decide +kernel
theorem foC_17_7 : (ΛC.2.2.1 17)[7]? = some (1, 0) := by decide +kernel
theorem foC_22_0 : (ΛC.2.2.1 22)[0]? = some (0, 23) := by decide +kernel
theorem foC_22_1 : (ΛC.2.2.1 22)[1]? = some (1, 0) := by decide +kernel
theorem foC_22_2 : (ΛC.2.2.1 22)[2]? = some (1, 0) := by decide +kernel
theorem foC_78_0 : (ΛC.2.2.1 78)[0]? = some (0, 79) := by decide +kernel
theorem foC_78_1 : (ΛC.2.2.1 78)[1]? = some (1, 0) := by decide +kernel
theorem foC_78_2 : (ΛC.2.2.1 78)[2]? = some (1, 0) := by decide +kernel
theorem foC_78_3 : (ΛC.2.2.1 78)[3]? = some (1, 0) := by decide +kernel
theorem foC_78_4 : (ΛC.2.2.1 78)[4]? = some (0, 80) := by decide +kernel
theorem foC_78_5 : (ΛC.2.2.1 78)[5]? = some (0, 81) := by decide +kernel
theorem foC_78_6 : (ΛC.2.2.1 78)[6]? = some (1, 0) := by decide +kernel
theorem ltM_0 : 0 < ΛM.1 := by decide
theorem kdM_0 : ΛM.2.1 0 = (4, 7) := by decide +kernel
theorem ltM_1 : 1 < ΛM.1 := by decide
theorem kdM_1 : ΛM.2.1 1 = (0, 148) := by decide +kernel
theorem ltM_2 : 2 < ΛM.1 := by decide
theorem kdM_2 : ΛM.2.1 2 = (0, 148) := by decide +kernel
theorem ltM_3 : 3 < ΛM.1 := by decide
theorem kdM_3 : ΛM.2.1 3 = (0, 740) := by decide +kernel
theorem ltM_4 : 4 < ΛM.1 := by decide
theorem kdM_4 : ΛM.2.1 4 = (0, 4) := by decide +kernel
theorem ltM_5 : 5 < ΛM.1 := by decide
theorem kdM_5 : ΛM.2.1 5 = (0, 150) := by decide +kernel
theorem ltM_6 : 6 < ΛM.1 := by decide
theorem kdM_6 : ΛM.2.1 6 = (1, 164) := by decide +kernel
theorem ltM_7 : 7 < ΛM.1 := by decide
theorem kdM_7 : ΛM.2.1 7 = (0, 40) := by decide +kernel
theorem ltM_8 : 8 < ΛM.1 := by decide
theorem kdM_8 : ΛM.2.1 8 = (0, 164) := by decide +kernel
theorem ltM_9 : 9 < ΛM.1 := by decide
theorem kdM_9 : ΛM.2.1 9 = (0, 164) := by decide +kernel
theorem ltM_10 : 10 < ΛM.1 := by decide
theorem kdM_10 : ΛM.2.1 10 = (0, 164) := by decide +kernel
theorem ltM_11 : 11 < ΛM.1 := by decide
theorem kdM_11 : ΛM.2.1 11 = (0, 76) := by decide +kernel
theorem ltM_12 : 12 < ΛM.1 := by decide
theorem kdM_12 : ΛM.2.1 12 = (0, 152) := by decide +kernel
theorem foM_0_0 : (ΛM.2.2.1 0)[0]? = some (0, 1) := by decide +kernel
theorem foM_0_1 : (ΛM.2.2.1 0)[1]? = some (0, 2) := by decide +kernel
theorem foM_0_2 : (ΛM.2.2.1 0)[2]? = some (0, 3) := by decide +kernel
theorem foM_0_3 : (ΛM.2.2.1 0)[3]? = some (1, 0) := by decide +kernel
theorem foM_0_4 : (ΛM.2.2.1 0)[4]? = some (0, 4) := by decide +kernel
theorem foM_0_5 : (ΛM.2.2.1 0)[5]? = some (0, 5) := by decide +kernel
theorem foM_0_6 : (ΛM.2.2.1 0)[6]? = some (1, 0) := by decide +kernel
theorem foM_0_7 : (ΛM.2.2.1 0)[7]? = some (1, 0) := by decide +kernel
theorem foM_0_8 : (ΛM.2.2.1 0)[8]? = some (0, 6) := by decide +kernel
theorem foM_0_9 : (ΛM.2.2.1 0)[9]? = some (1, 0) := by decide +kernel
theorem foM_0_10 : (ΛM.2.2.1 0)[10]? = some (0, 7) := by decide +kernel
theorem foM_0_11 : (ΛM.2.2.1 0)[11]? = some (1, 0) := by decide +kernel
theorem foM_0_12 : (ΛM.2.2.1 0)[12]? = some (0, 8) := by decide +kernel
theorem foM_0_13 : (ΛM.2.2.1 0)[13]? = some (0, 9) := by decide +kernel
theorem foM_0_14 : (ΛM.2.2.1 0)[14]? = some (0, 10) := by decide +kernel
theorem foM_0_15 : (ΛM.2.2.1 0)[15]? = some (1, 0) := by decide +kernel
theorem foM_0_16 : (ΛM.2.2.1 0)[16]? = some (1, 0) := by decide +kernel
theorem foM_0_17 : (ΛM.2.2.1 0)[17]? = some (1, 0) := by decide +kernel
theorem foM_0_18 : (ΛM.2.2.1 0)[18]? = some (1, 0) := by decide +kernel
theorem foM_0_19 : (ΛM.2.2.1 0)[19]? = some (1, 0) := by decide +kernel
theorem foM_0_20 : (ΛM.2.2.1 0)[20]? = some (0, 11) := by decide +kernel
theorem foM_0_21 : (ΛM.2.2.1 0)[21]? = some (0, 12) := by decide +kernel
theorem foM_0_22 : (ΛM.2.2.1 0)[22]? = some (2, 0) := by decide +kernel
theorem jnX0 : ∀ w ∈ u_ws RX0 TX0 4, w ∈ zt := zt_in inX0 (by decide +kernel)
theorem jnX1 : ∀ w ∈ u_ws RX1 TX1 8, w ∈ zt := zt_in inX1 (by decide +kernel)
theorem jnX2 : ∀ w ∈ u_ws RX2 TX2 8, w ∈ zt := zt_in inX2 (by decide +kernel)
theorem jnX3 : ∀ w ∈ u_ws RX3 TX3 3, w ∈ zt := zt_in inX3 (by decide +kernel)
theorem jnX4 : ∀ w ∈ u_ws RX4 TX4 13, w ∈ zt := zt_in inX4 (by decide +kernel)
theorem jnX5 : ∀ w ∈ u_ws RX5 TX5 7, w ∈ zt := zt_in inX5 (by decide +kernel)
theorem jnX6 : ∀ w ∈ u_ws RX6 TX6 7, w ∈ zt := zt_in inX6 (by decide +kernel)
theorem jnX7 : ∀ w ∈ u_ws RX7 TX7 23, w ∈ zt := zt_in inX7 (by decide +kernel)
def rX0_init : Room := { frames := 1, cells := 0, slots := 0, locals := 20 }
def rX0_landingOf : Room := { frames := 0, cells := 0, slots := 0, locals := 0 }
def rX0_layLine : Room := { frames := 1, cells := 0, slots := 0, locals := 24 }
def rX0_cutPieces : Room := { frames := 0, cells := 0, slots := 0, locals := 0 }
def rX0_layMetre : Room := { frames := 0, cells := 0, slots := 0, locals := 0 }
def rX1_init : Room := { frames := 1, cells := 0, slots := 0, locals := 20 }
def rX1_findBest : Room := { frames := 3, cells := 0, slots := 0, locals := 74 }
def rX1_bestSum : Room := { frames := 0, cells := 0, slots := 0, locals := 0 }
def rX1_fillPlace : Room := { frames := 2, cells := 0, slots := 0, locals := 51 }
def rX1_offerPhrase : Room := { frames := 1, cells := 0, slots := 0, locals := 23 }
def rX1_traceChosen : Room := { frames := 1, cells := 0, slots := 0, locals := 23 }
def rX2_init : Room := { frames := 1, cells := 0, slots := 0, locals := 20 }
def rX2_countAll : Room := { frames := 4, cells := 0, slots := 0, locals := 95 }
def rX2_fillPlace : Room := { frames := 3, cells := 0, slots := 0, locals := 69 }
def rX2_gatherBySlot : Room := { frames := 2, cells := 0, slots := 0, locals := 45 }
def rX2_plus : Room := { frames := 0, cells := 0, slots := 0, locals := 0 }
def rX2_times : Room := { frames := 0, cells := 0, slots := 0, locals := 0 }
def rX2_shareOf : Room := { frames := 2, cells := 0, slots := 0, locals := 45 }
def rX2_findRow : Room := { frames := 4, cells := 0, slots := 0, locals := 94 }
def rX2_nextPhrase : Room := { frames := 3, cells := 0, slots := 0, locals := 69 }
def rX3_init : Room := { frames := 2, cells := 0, slots := 0, locals := 43 }
def rX3_stage : Room := { frames := 3, cells := 0, slots := 0, locals := 82 }
def rX3_keepStaged : Room := { frames := 1, cells := 0, slots := 0, locals := 23 }
def rX3_restoreStaged : Room := { frames := 3, cells := 0, slots := 0, locals := 82 }
def rX3_restoreLast : Room := { frames := 4, cells := 0, slots := 0, locals := 103 }
def rX4_init : Room := { frames := 1, cells := 0, slots := 0, locals := 23 }
def rX4_copyFrom : Room := { frames := 2, cells := 0, slots := 0, locals := 61 }
def rX4_copyRow : Room := { frames := 1, cells := 0, slots := 0, locals := 40 }
def rX4_hasPhrase : Room := { frames := 1, cells := 0, slots := 0, locals := 22 }
def rX4_addPhrase : Room := { frames := 2, cells := 0, slots := 0, locals := 44 }
def rX4_dropPhrase : Room := { frames := 2, cells := 0, slots := 0, locals := 43 }
def rX4_movePhrase : Room := { frames := 0, cells := 0, slots := 0, locals := 0 }
def rX4_setBegins : Room := { frames := 2, cells := 0, slots := 0, locals := 42 }
def rX4_setEnds : Room := { frames := 2, cells := 0, slots := 0, locals := 42 }
def rX4_setFollows : Room := { frames := 2, cells := 0, slots := 0, locals := 42 }
def rX4_addLetter : Room := { frames := 1, cells := 0, slots := 0, locals := 22 }
def rX4_wipeLine : Room := { frames := 0, cells := 0, slots := 0, locals := 0 }
def rX4_setLine : Room := { frames := 1, cells := 0, slots := 0, locals := 40 }
def rX4_setMetre : Room := { frames := 1, cells := 0, slots := 0, locals := 22 }
def rX4_setMark : Room := { frames := 1, cells := 0, slots := 0, locals := 22 }
def rX4_habitOf : Room := { frames := 0, cells := 0, slots := 0, locals := 0 }
def rX4_raiseHabit : Room := { frames := 0, cells := 0, slots := 0, locals := 0 }
def rX4_factorOf : Room := { frames := 1, cells := 0, slots := 0, locals := 23 }
def rX4_setAfter : Room := { frames := 0, cells := 0, slots := 0, locals := 0 }
def rX4_factOf : Room := { frames := 1, cells := 0, slots := 0, locals := 23 }
def rX4_fixedPhrase : Room := { frames := 1, cells := 0, slots := 0, locals := 23 }
def rX4_digestOn : Room := { frames := 2, cells := 0, slots := 0, locals := 45 }
def rX5_init : Room := { frames := 1, cells := 0, slots := 0, locals := 20 }
def rX5_addByte : Room := { frames := 1, cells := 0, slots := 0, locals := 22 }
def rX5_wipeBytes : Room := { frames := 0, cells := 0, slots := 0, locals := 0 }
def rX5_rewind : Room := { frames := 1, cells := 0, slots := 0, locals := 20 }
def rX5_findFault : Room := { frames := 4, cells := 0, slots := 0, locals := 86 }
def rX5_readOrder : Room := { frames := 3, cells := 0, slots := 0, locals := 64 }
def rX5_numbersOf : Room := { frames := 0, cells := 0, slots := 0, locals := 0 }
def rX5_readNumber : Room := { frames := 2, cells := 0, slots := 0, locals := 42 }
def rX5_readLetters : Room := { frames := 1, cells := 0, slots := 0, locals := 22 }
def rX5_lettersAsCode : Room := { frames := 0, cells := 0, slots := 0, locals := 0 }
def rX5_byteHere : Room := { frames := 0, cells := 0, slots := 0, locals := 0 }
def rX5_skipBlanks : Room := { frames := 0, cells := 0, slots := 0, locals := 0 }
def rX5_isFigure : Room := { frames := 1, cells := 0, slots := 0, locals := 22 }
def rX6_init : Room := { frames := 3, cells := 0, slots := 0, locals := 64 }
def rX6_phrase : Room := { frames := 4, cells := 0, slots := 0, locals := 103 }
def rX6_drops : Room := { frames := 4, cells := 0, slots := 0, locals := 103 }
def rX6_begins : Room := { frames := 4, cells := 0, slots := 0, locals := 103 }
def rX6_ends : Room := { frames := 4, cells := 0, slots := 0, locals := 103 }
def rX6_follows : Room := { frames := 4, cells := 0, slots := 0, locals := 103 }
def rX6_of : Room := { frames := 2, cells := 0, slots := 0, locals := 45 }
def rX6_letter : Room := { frames := 4, cells := 0, slots := 0, locals := 103 }
def rX6_wipes : Room := { frames := 4, cells := 0, slots := 0, locals := 103 }
def rX6_cuts : Room := { frames := 6, cells := 0, slots := 0, locals := 137 }
def rX6_best : Room := { frames := 4, cells := 0, slots := 0, locals := 96 }
def rX6_sings : Room := { frames := 5, cells := 0, slots := 0, locals := 118 }
def rX6_fixes : Room := { frames := 2, cells := 0, slots := 0, locals := 47 }
def rX6_metre : Room := { frames := 4, cells := 0, slots := 0, locals := 103 }
def rX6_marks : Room := { frames := 4, cells := 0, slots := 0, locals := 103 }
def rX6_made : Room := { frames := 6, cells := 0, slots := 0, locals := 138 }
def rX6_row : Room := { frames := 6, cells := 0, slots := 0, locals := 138 }
def rX6_weight : Room := { frames := 6, cells := 0, slots := 0, locals := 138 }
def rX6_picks : Room := { frames := 6, cells := 0, slots := 0, locals := 138 }
def rX6_type : Room := { frames := 2, cells := 0, slots := 0, locals := 43 }
def rX6_clear : Room := { frames := 1, cells := 0, slots := 0, locals := 21 }
def rX6_reads : Room := { frames := 6, cells := 0, slots := 0, locals := 140 }
def rX6_back : Room := { frames := 5, cells := 0, slots := 0, locals := 124 }
def rX6_told : Room := { frames := 2, cells := 0, slots := 0, locals := 43 }
def rX6_digest : Room := { frames := 6, cells := 0, slots := 0, locals := 138 }
def rX6_within : Room := { frames := 0, cells := 0, slots := 0, locals := 0 }
def rX6_isMaker : Room := { frames := 1, cells := 0, slots := 0, locals := 22 }
def rX6_isSlot : Room := { frames := 1, cells := 0, slots := 0, locals := 22 }
def rX6_isSet : Room := { frames := 1, cells := 0, slots := 0, locals := 22 }
def rX6_holds : Room := { frames := 0, cells := 0, slots := 0, locals := 0 }
def rX6_lettersIn : Room := { frames := 1, cells := 0, slots := 0, locals := 22 }
def rX6_moraeIn : Room := { frames := 0, cells := 0, slots := 0, locals := 0 }
def rX6_partOf : Room := { frames := 1, cells := 0, slots := 0, locals := 22 }
def rX6_refusal : Room := { frames := 0, cells := 0, slots := 0, locals := 0 }
def rX6_settled : Room := { frames := 2, cells := 0, slots := 0, locals := 43 }
def rX6_countCuts : Room := { frames := 5, cells := 0, slots := 0, locals := 117 }
def rX6_countMade : Room := { frames := 5, cells := 0, slots := 0, locals := 117 }
def rX6_singBest : Room := { frames := 4, cells := 0, slots := 0, locals := 96 }
def rX6_doOrder : Room := { frames := 5, cells := 0, slots := 0, locals := 118 }
def rX6_factTold : Room := { frames := 1, cells := 0, slots := 0, locals := 22 }
def rX7_init : Room := { frames := 1, cells := 0, slots := 0, locals := 20 }
def rX7_bad : Room := { frames := 0, cells := 0, slots := 0, locals := 0 }
def rX7_no : Room := { frames := 0, cells := 0, slots := 0, locals := 0 }
def rX7_full : Room := { frames := 0, cells := 0, slots := 0, locals := 0 }
def rX7_much : Room := { frames := 0, cells := 0, slots := 0, locals := 0 }
def rX7_within : Room := { frames := 0, cells := 0, slots := 0, locals := 0 }
def rX7_has : Room := { frames := 0, cells := 0, slots := 0, locals := 0 }
def rX7_isPhrase : Room := { frames := 1, cells := 0, slots := 0, locals := 25 }
def rX7_laysAside : Room := { frames := 0, cells := 0, slots := 0, locals := 0 }
def rX7_leaves : Room := { frames := 0, cells := 0, slots := 0, locals := 0 }
def rX7_back : Room := { frames := 1, cells := 0, slots := 0, locals := 20 }
def rX7_answers : Room := { frames := 1, cells := 0, slots := 0, locals := 21 }
def rX7_sizeOf : Room := { frames := 0, cells := 0, slots := 0, locals := 0 }
def rX7_moraeOf : Room := { frames := 0, cells := 0, slots := 0, locals := 0 }
def rX7_isCode : Room := { frames := 1, cells := 0, slots := 0, locals := 25 }
def rX7_addsPhrase : Room := { frames := 2, cells := 0, slots := 0, locals := 47 }
def rX7_dropsPhrase : Room := { frames := 2, cells := 0, slots := 0, locals := 46 }
def rX7_sets : Room := { frames := 1, cells := 0, slots := 0, locals := 25 }
def rX7_setsFollows : Room := { frames := 2, cells := 0, slots := 0, locals := 50 }
def rX7_setsMark : Room := { frames := 2, cells := 0, slots := 0, locals := 50 }
def rX7_phrase : Room := { frames := 3, cells := 0, slots := 0, locals := 71 }
def rX7_drops : Room := { frames := 3, cells := 0, slots := 0, locals := 69 }
def rX7_begins : Room := { frames := 2, cells := 0, slots := 0, locals := 50 }
def rX7_ends : Room := { frames := 2, cells := 0, slots := 0, locals := 50 }
def rX7_follows : Room := { frames := 3, cells := 0, slots := 0, locals := 72 }
def rX7_metre : Room := { frames := 2, cells := 0, slots := 0, locals := 50 }
def rX7_marks : Room := { frames := 3, cells := 0, slots := 0, locals := 72 }
def rX7_habitOf : Room := { frames := 0, cells := 0, slots := 0, locals := 0 }
def rX7_tellPhrase : Room := { frames := 1, cells := 0, slots := 0, locals := 22 }
def rX7_of : Room := { frames := 2, cells := 0, slots := 0, locals := 46 }
def rX7_letter : Room := { frames := 1, cells := 0, slots := 0, locals := 25 }
def rX7_wipes : Room := { frames := 1, cells := 0, slots := 0, locals := 21 }
def rX7_lastPlace : Room := { frames := 0, cells := 0, slots := 0, locals := 0 }
def rX7_standsAhead : Room := { frames := 0, cells := 0, slots := 0, locals := 0 }
def rX7_isMark : Room := { frames := 0, cells := 0, slots := 0, locals := 0 }
def rX7_leads : Room := { frames := 1, cells := 0, slots := 0, locals := 25 }
def rX7_weightOf : Room := { frames := 1, cells := 0, slots := 0, locals := 22 }
def rX7_more : Room := { frames := 0, cells := 0, slots := 0, locals := 0 }
def rX7_sumFrom : Room := { frames := 2, cells := 0, slots := 0, locals := 50 }
def rX7_laysWays : Room := { frames := 3, cells := 0, slots := 0, locals := 77 }
def rX7_waysOr : Room := { frames := 4, cells := 0, slots := 0, locals := 103 }
def rX7_cuts : Room := { frames := 5, cells := 0, slots := 0, locals := 127 }
def rX7_made : Room := { frames := 5, cells := 0, slots := 0, locals := 127 }
def rX7_goes : Room := { frames := 2, cells := 0, slots := 0, locals := 50 }
def rX7_tellRow : Room := { frames := 0, cells := 0, slots := 0, locals := 0 }
def rX7_row : Room := { frames := 5, cells := 0, slots := 0, locals := 127 }
def rX7_isMaker : Room := { frames := 1, cells := 0, slots := 0, locals := 25 }
def rX7_weightFrom : Room := { frames := 2, cells := 0, slots := 0, locals := 50 }
def rX7_weight : Room := { frames := 5, cells := 0, slots := 0, locals := 127 }
def rX7_picks : Room := { frames := 5, cells := 0, slots := 0, locals := 127 }
def rX7_dearest : Room := { frames := 2, cells := 0, slots := 0, locals := 50 }
def rX7_laysBest : Room := { frames := 3, cells := 0, slots := 0, locals := 80 }
def rX7_findsBest : Room := { frames := 4, cells := 0, slots := 0, locals := 106 }
def rX7_best : Room := { frames := 5, cells := 0, slots := 0, locals := 130 }
def rX7_singsOne : Room := { frames := 5, cells := 0, slots := 0, locals := 130 }
def rX7_sings : Room := { frames := 6, cells := 0, slots := 0, locals := 152 }
def rX7_fixesTo : Room := { frames := 1, cells := 0, slots := 0, locals := 22 }
def rX7_fixes : Room := { frames := 2, cells := 0, slots := 0, locals := 48 }
def rX7_type : Room := { frames := 1, cells := 0, slots := 0, locals := 25 }
def rX7_clear : Room := { frames := 0, cells := 0, slots := 0, locals := 0 }
def rX7_isAt : Room := { frames := 1, cells := 0, slots := 0, locals := 25 }
def rX7_blanks : Room := { frames := 2, cells := 0, slots := 0, locals := 47 }
def rX7_number : Room := { frames := 3, cells := 0, slots := 0, locals := 67 }
def rX7_passesLetters : Room := { frames := 3, cells := 0, slots := 0, locals := 67 }
def rX7_manyOf : Room := { frames := 0, cells := 0, slots := 0, locals := 0 }
def rX7_readsParts : Room := { frames := 4, cells := 0, slots := 0, locals := 90 }
def rX7_readsOrder : Room := { frames := 5, cells := 0, slots := 0, locals := 113 }
def rX7_isRead : Room := { frames := 6, cells := 0, slots := 0, locals := 135 }
def rX7_isLetter : Room := { frames := 1, cells := 0, slots := 0, locals := 25 }
def rX7_codeFrom : Room := { frames := 2, cells := 0, slots := 0, locals := 46 }
def rX7_setsLine : Room := { frames := 2, cells := 0, slots := 0, locals := 46 }
def rX7_doesOrder : Room := { frames := 6, cells := 0, slots := 0, locals := 152 }
def rX7_reads : Room := { frames := 7, cells := 0, slots := 0, locals := 175 }
def rX7_toldOf : Room := { frames := 0, cells := 0, slots := 0, locals := 0 }
def rX7_told : Room := { frames := 1, cells := 0, slots := 0, locals := 25 }
def rX7_mix : Room := { frames := 0, cells := 0, slots := 0, locals := 0 }
def rX7_digest : Room := { frames := 5, cells := 0, slots := 0, locals := 127 }
def rJ9_max_f86c9 : Room := { frames := 0, cells := 0, slots := 0, locals := 0 }
def rJ9_min_7cf53 : Room := { frames := 0, cells := 0, slots := 0, locals := 0 }
def rJ7_fill_d0a16 : Room := { frames := 0, cells := 0, slots := 0, locals := 0 }
def rJ7_fill_53178 : Room := { frames := 0, cells := 0, slots := 0, locals := 0 }
theorem flX6_15 : Cond.fieldLink RX6 15 "SungLines" "song" "LSungLines$Song;" ∈ zt := zt_of 295 (by decide +kernel) rfl
theorem flX6_21 : Cond.fieldLink RX6 21 "SungLines" "board" "LSungLines$Board;" ∈ zt := zt_of 296 (by decide +kernel) rfl
theorem flX6_30 : Cond.fieldLink RX6 30 "SungLines" "counter" "LSungLines$Counter;" ∈ zt := zt_of 297 (by decide +kernel) rfl
theorem flX6_37 : Cond.fieldLink RX6 37 "SungLines" "chooser" "LSungLines$Chooser;" ∈ zt := zt_of 298 (by decide +kernel) rfl
theorem flX6_44 : Cond.fieldLink RX6 44 "SungLines" "history" "LSungLines$History;" ∈ zt := zt_of 299 (by decide +kernel) rfl
theorem flX6_51 : Cond.fieldLink RX6 51 "SungLines" "text" "LSungLines$Text;" ∈ zt := zt_of 300 (by decide +kernel) rfl
theorem flX6_55 : Cond.fieldLink RX6 55 "SungLines" "refused" "[I" ∈ zt := zt_of 301 (by decide +kernel) rfl
theorem flX6_116 : Cond.fieldLink RX6 116 "SungLines$Chooser" "chosen" "[I" ∈ zt := zt_of 220 (by decide +kernel) rfl
theorem flX6_119 : Cond.fieldLink RX6 119 "SungLines$Chooser" "chosenSize" "I" ∈ zt := zt_of 222 (by decide +kernel) rfl
theorem flX6_150 : Cond.fieldLink RX6 150 "SungLines$Counter" "found" "[I" ∈ zt := zt_of 185 (by decide +kernel) rfl
theorem flX6_153 : Cond.fieldLink RX6 153 "SungLines$Counter" "foundSize" "I" ∈ zt := zt_of 187 (by decide +kernel) rfl
theorem flX6_192 : Cond.fieldLink RX6 192 "SungLines$History" "size" "I" ∈ zt := zt_of 253 (by decide +kernel) rfl
theorem flX6_222 : Cond.fieldLink RX6 222 "SungLines$Text" "number" "[I" ∈ zt := zt_of 274 (by decide +kernel) rfl
theorem flX6_225 : Cond.fieldLink RX6 225 "SungLines$Text" "kind" "I" ∈ zt := zt_of 272 (by decide +kernel) rfl
theorem flX6_231 : Cond.fieldLink RX6 231 "SungLines$Text" "letters" "[I" ∈ zt := zt_of 276 (by decide +kernel) rfl
theorem flX6_234 : Cond.fieldLink RX6 234 "SungLines$Text" "letterCount" "I" ∈ zt := zt_of 278 (by decide +kernel) rfl
theorem flX6_241 : Cond.fieldLink RX6 241 "SungLines$Text" "length" "I" ∈ zt := zt_of 269 (by decide +kernel) rfl
theorem flX6_244 : Cond.fieldLink RX6 244 "SungLines$Song" "phraseCount" "I" ∈ zt := zt_of 112 (by decide +kernel) rfl
theorem flX6_247 : Cond.fieldLink RX6 247 "SungLines$Song" "lineSize" "I" ∈ zt := zt_of 115 (by decide +kernel) rfl
theorem flX6_250 : Cond.fieldLink RX6 250 "SungLines$Song" "metreSize" "I" ∈ zt := zt_of 118 (by decide +kernel) rfl
theorem flX6_253 : Cond.fieldLink RX6 253 "SungLines$Song" "beginSet" "I" ∈ zt := zt_of 120 (by decide +kernel) rfl
theorem flX6_256 : Cond.fieldLink RX6 256 "SungLines$Song" "endSet" "I" ∈ zt := zt_of 124 (by decide +kernel) rfl
theorem flX0_9 : Cond.fieldLink RX0 9 "SungLines$Board" "landing" "[I" ∈ zt := zt_of 160 (by decide +kernel) rfl
theorem flX0_15 : Cond.fieldLink RX0 15 "SungLines$Board" "piece" "[I" ∈ zt := zt_of 161 (by decide +kernel) rfl
theorem flX0_18 : Cond.fieldLink RX0 18 "SungLines$Board" "song" "LSungLines$Song;" ∈ zt := zt_of 159 (by decide +kernel) rfl
theorem flX0_22 : Cond.fieldLink RX0 22 "SungLines$Song" "lineSize" "I" ∈ zt := zt_of 114 (by decide +kernel) rfl
theorem flX0_28 : Cond.fieldLink RX0 28 "SungLines$Board" "end" "I" ∈ zt := zt_of 164 (by decide +kernel) rfl
theorem flX0_35 : Cond.fieldLink RX0 35 "SungLines$Song" "phraseCount" "I" ∈ zt := zt_of 109 (by decide +kernel) rfl
theorem flX0_38 : Cond.fieldLink RX0 38 "SungLines$Song" "size" "[I" ∈ zt := zt_of 99 (by decide +kernel) rfl
theorem flX0_41 : Cond.fieldLink RX0 41 "SungLines$Song" "code" "[I" ∈ zt := zt_of 97 (by decide +kernel) rfl
theorem flX0_44 : Cond.fieldLink RX0 44 "SungLines$Song" "line" "[I" ∈ zt := zt_of 104 (by decide +kernel) rfl
theorem flX0_47 : Cond.fieldLink RX0 47 "SungLines$Song" "metreSize" "I" ∈ zt := zt_of 117 (by decide +kernel) rfl
theorem flX0_50 : Cond.fieldLink RX0 50 "SungLines$Song" "mark" "[I" ∈ zt := zt_of 106 (by decide +kernel) rfl
theorem flX0_53 : Cond.fieldLink RX0 53 "SungLines$Song" "morae" "[I" ∈ zt := zt_of 101 (by decide +kernel) rfl
theorem flX1_9 : Cond.fieldLink RX1 9 "SungLines$Chooser" "sum" "[I" ∈ zt := zt_of 216 (by decide +kernel) rfl
theorem flX1_15 : Cond.fieldLink RX1 15 "SungLines$Chooser" "steps" "[I" ∈ zt := zt_of 217 (by decide +kernel) rfl
theorem flX1_18 : Cond.fieldLink RX1 18 "SungLines$Chooser" "first" "[I" ∈ zt := zt_of 218 (by decide +kernel) rfl
theorem flX1_21 : Cond.fieldLink RX1 21 "SungLines$Chooser" "chosen" "[I" ∈ zt := zt_of 219 (by decide +kernel) rfl
theorem flX1_24 : Cond.fieldLink RX1 24 "SungLines$Chooser" "song" "LSungLines$Song;" ∈ zt := zt_of 214 (by decide +kernel) rfl
theorem flX1_28 : Cond.fieldLink RX1 28 "SungLines$Chooser" "board" "LSungLines$Board;" ∈ zt := zt_of 215 (by decide +kernel) rfl
theorem flX1_32 : Cond.fieldLink RX1 32 "SungLines$Chooser" "maker" "I" ∈ zt := zt_of 223 (by decide +kernel) rfl
theorem flX1_36 : Cond.fieldLink RX1 36 "SungLines$Chooser" "chosenSize" "I" ∈ zt := zt_of 221 (by decide +kernel) rfl
theorem flX1_44 : Cond.fieldLink RX1 44 "SungLines$Board" "end" "I" ∈ zt := zt_of 163 (by decide +kernel) rfl
theorem flX1_47 : Cond.fieldLink RX1 47 "SungLines$Song" "endSet" "I" ∈ zt := zt_of 123 (by decide +kernel) rfl
theorem flX1_63 : Cond.fieldLink RX1 63 "SungLines$Song" "phraseCount" "I" ∈ zt := zt_of 111 (by decide +kernel) rfl
theorem flX1_70 : Cond.fieldLink RX1 70 "SungLines$Song" "slot" "[I" ∈ zt := zt_of 95 (by decide +kernel) rfl
theorem flX2_9 : Cond.fieldLink RX2 9 "SungLines$Counter" "on" "[J" ∈ zt := zt_of 182 (by decide +kernel) rfl
theorem flX2_15 : Cond.fieldLink RX2 15 "SungLines$Counter" "bySlot" "[J" ∈ zt := zt_of 183 (by decide +kernel) rfl
theorem flX2_18 : Cond.fieldLink RX2 18 "SungLines$Counter" "found" "[I" ∈ zt := zt_of 184 (by decide +kernel) rfl
theorem flX2_22 : Cond.fieldLink RX2 22 "SungLines$Counter" "song" "LSungLines$Song;" ∈ zt := zt_of 180 (by decide +kernel) rfl
theorem flX2_26 : Cond.fieldLink RX2 26 "SungLines$Counter" "board" "LSungLines$Board;" ∈ zt := zt_of 181 (by decide +kernel) rfl
theorem flX2_30 : Cond.fieldLink RX2 30 "SungLines$Counter" "maker" "I" ∈ zt := zt_of 188 (by decide +kernel) rfl
theorem flX2_34 : Cond.fieldLink RX2 34 "SungLines$Board" "end" "I" ∈ zt := zt_of 162 (by decide +kernel) rfl
theorem flX2_39 : Cond.fieldLink RX2 39 "SungLines$Song" "endSet" "I" ∈ zt := zt_of 122 (by decide +kernel) rfl
theorem flX2_72 : Cond.fieldLink RX2 72 "SungLines$Song" "phraseCount" "I" ∈ zt := zt_of 110 (by decide +kernel) rfl
theorem flX2_78 : Cond.fieldLink RX2 78 "SungLines$Song" "slot" "[I" ∈ zt := zt_of 94 (by decide +kernel) rfl
theorem flX2_90 : Cond.fieldLink RX2 90 "SungLines$Counter" "left" "J" ∈ zt := zt_of 189 (by decide +kernel) rfl
theorem flX2_94 : Cond.fieldLink RX2 94 "SungLines$Counter" "foundSize" "I" ∈ zt := zt_of 186 (by decide +kernel) rfl
theorem flX3_11 : Cond.fieldLink RX3 11 "SungLines$History" "ring" "[LSungLines$Song;" ∈ zt := zt_of 250 (by decide +kernel) rfl
theorem flX3_18 : Cond.fieldLink RX3 18 "SungLines$History" "staged" "I" ∈ zt := zt_of 251 (by decide +kernel) rfl
theorem flX3_26 : Cond.fieldLink RX3 26 "SungLines$History" "size" "I" ∈ zt := zt_of 252 (by decide +kernel) rfl
theorem flX4_9 : Cond.fieldLink RX4 9 "SungLines$Song" "slot" "[I" ∈ zt := zt_of 93 (by decide +kernel) rfl
theorem flX4_15 : Cond.fieldLink RX4 15 "SungLines$Song" "code" "[I" ∈ zt := zt_of 96 (by decide +kernel) rfl
theorem flX4_18 : Cond.fieldLink RX4 18 "SungLines$Song" "size" "[I" ∈ zt := zt_of 98 (by decide +kernel) rfl
theorem flX4_21 : Cond.fieldLink RX4 21 "SungLines$Song" "morae" "[I" ∈ zt := zt_of 100 (by decide +kernel) rfl
theorem flX4_24 : Cond.fieldLink RX4 24 "SungLines$Song" "habit" "[I" ∈ zt := zt_of 102 (by decide +kernel) rfl
theorem flX4_27 : Cond.fieldLink RX4 27 "SungLines$Song" "line" "[I" ∈ zt := zt_of 103 (by decide +kernel) rfl
theorem flX4_30 : Cond.fieldLink RX4 30 "SungLines$Song" "mark" "[I" ∈ zt := zt_of 105 (by decide +kernel) rfl
theorem flX4_33 : Cond.fieldLink RX4 33 "SungLines$Song" "followSet" "[I" ∈ zt := zt_of 107 (by decide +kernel) rfl
theorem flX4_36 : Cond.fieldLink RX4 36 "SungLines$Song" "metreSize" "I" ∈ zt := zt_of 116 (by decide +kernel) rfl
theorem flX4_40 : Cond.fieldLink RX4 40 "SungLines$Song" "beginSet" "I" ∈ zt := zt_of 119 (by decide +kernel) rfl
theorem flX4_43 : Cond.fieldLink RX4 43 "SungLines$Song" "endSet" "I" ∈ zt := zt_of 121 (by decide +kernel) rfl
theorem flX4_56 : Cond.fieldLink RX4 56 "SungLines$Song" "phraseCount" "I" ∈ zt := zt_of 108 (by decide +kernel) rfl
theorem flX4_59 : Cond.fieldLink RX4 59 "SungLines$Song" "lineSize" "I" ∈ zt := zt_of 113 (by decide +kernel) rfl
theorem flX5_9 : Cond.fieldLink RX5 9 "SungLines$Text" "bytes" "[B" ∈ zt := zt_of 267 (by decide +kernel) rfl
theorem flX5_15 : Cond.fieldLink RX5 15 "SungLines$Text" "number" "[I" ∈ zt := zt_of 273 (by decide +kernel) rfl
theorem flX5_19 : Cond.fieldLink RX5 19 "SungLines$Text" "letters" "[I" ∈ zt := zt_of 275 (by decide +kernel) rfl
theorem flX5_26 : Cond.fieldLink RX5 26 "SungLines$Text" "length" "I" ∈ zt := zt_of 268 (by decide +kernel) rfl
theorem flX5_30 : Cond.fieldLink RX5 30 "SungLines$Text" "at" "I" ∈ zt := zt_of 270 (by decide +kernel) rfl
theorem flX5_47 : Cond.fieldLink RX5 47 "SungLines$Text" "kind" "I" ∈ zt := zt_of 271 (by decide +kernel) rfl
theorem flX5_64 : Cond.fieldLink RX5 64 "SungLines$Text" "letterCount" "I" ∈ zt := zt_of 277 (by decide +kernel) rfl
theorem flX7_7 : Cond.fieldLink RX7 7 "SungLinesModel" "now" "[I" ∈ zt := zt_of 719 (by decide +kernel) rfl
theorem flX7_13 : Cond.fieldLink RX7 13 "SungLinesModel" "aside" "[I" ∈ zt := zt_of 720 (by decide +kernel) rfl
theorem flX7_16 : Cond.fieldLink RX7 16 "SungLinesModel" "past" "[I" ∈ zt := zt_of 721 (by decide +kernel) rfl
theorem flX7_19 : Cond.fieldLink RX7 19 "SungLinesModel" "refused" "[I" ∈ zt := zt_of 723 (by decide +kernel) rfl
theorem flX7_22 : Cond.fieldLink RX7 22 "SungLinesModel" "text" "[I" ∈ zt := zt_of 724 (by decide +kernel) rfl
theorem flX7_25 : Cond.fieldLink RX7 25 "SungLinesModel" "on" "[J" ∈ zt := zt_of 727 (by decide +kernel) rfl
theorem flX7_29 : Cond.fieldLink RX7 29 "SungLinesModel" "path" "[I" ∈ zt := zt_of 729 (by decide +kernel) rfl
theorem flX7_32 : Cond.fieldLink RX7 32 "SungLinesModel" "sums" "[I" ∈ zt := zt_of 731 (by decide +kernel) rfl
theorem flX7_35 : Cond.fieldLink RX7 35 "SungLinesModel" "counts" "[I" ∈ zt := zt_of 732 (by decide +kernel) rfl
theorem flX7_38 : Cond.fieldLink RX7 38 "SungLinesModel" "firsts" "[I" ∈ zt := zt_of 733 (by decide +kernel) rfl
theorem flX7_41 : Cond.fieldLink RX7 41 "SungLinesModel" "letters" "[I" ∈ zt := zt_of 739 (by decide +kernel) rfl
theorem flX7_44 : Cond.fieldLink RX7 44 "SungLinesModel" "numbers" "[I" ∈ zt := zt_of 740 (by decide +kernel) rfl
theorem flX7_51 : Cond.fieldLink RX7 51 "SungLinesModel" "states" "I" ∈ zt := zt_of 722 (by decide +kernel) rfl
theorem flX7_121 : Cond.fieldLink RX7 121 "SungLinesModel" "areCuts" "Z" ∈ zt := zt_of 726 (by decide +kernel) rfl
theorem flX7_137 : Cond.fieldLink RX7 137 "SungLinesModel" "isMuch" "Z" ∈ zt := zt_of 728 (by decide +kernel) rfl
theorem flX7_169 : Cond.fieldLink RX7 169 "SungLinesModel" "rowMany" "I" ∈ zt := zt_of 730 (by decide +kernel) rfl
theorem flX7_198 : Cond.fieldLink RX7 198 "SungLinesModel" "dear" "I" ∈ zt := zt_of 734 (by decide +kernel) rfl
theorem flX7_201 : Cond.fieldLink RX7 201 "SungLinesModel" "few" "I" ∈ zt := zt_of 735 (by decide +kernel) rfl
theorem flX7_223 : Cond.fieldLink RX7 223 "SungLinesModel" "length" "I" ∈ zt := zt_of 725 (by decide +kernel) rfl
theorem flX7_226 : Cond.fieldLink RX7 226 "SungLinesModel" "at" "I" ∈ zt := zt_of 736 (by decide +kernel) rfl
theorem flX7_235 : Cond.fieldLink RX7 235 "SungLinesModel" "isFaulty" "Z" ∈ zt := zt_of 737 (by decide +kernel) rfl
theorem flX7_238 : Cond.fieldLink RX7 238 "SungLinesModel" "orders" "I" ∈ zt := zt_of 738 (by decide +kernel) rfl
theorem flX7_284 : Cond.fieldLink RX7 284 "SungLinesModel" "hash" "J" ∈ zt := zt_of 741 (by decide +kernel) rfl
theorem klX6_161 : Cond.constantLong RX6 161 (1103515245) ∈ zt := zt_of 607 (by decide +kernel) rfl
theorem klX6_163 : Cond.constantLong RX6 163 (12345) ∈ zt := zt_of 608 (by decide +kernel) rfl
theorem klX6_165 : Cond.constantLong RX6 165 (2147483648) ∈ zt := zt_of 609 (by decide +kernel) rfl
theorem klX6_201 : Cond.constantLong RX6 201 (2399) ∈ zt := zt_of 705 (by decide +kernel) rfl
theorem klX6_203 : Cond.constantLong RX6 203 (31) ∈ zt := zt_of 706 (by decide +kernel) rfl
theorem klX2_52 : Cond.constantLong RX2 52 (-5) ∈ zt := zt_of 486 (by decide +kernel) rfl
theorem klX2_88 : Cond.constantLong RX2 88 (9223372036854775807) ∈ zt := zt_of 485 (by decide +kernel) rfl
theorem klX4_102 : Cond.constantLong RX4 102 (31) ∈ zt := zt_of 711 (by decide +kernel) rfl
theorem klX7_68 : Cond.constantLong RX7 68 (888888) ∈ zt := zt_of 816 (by decide +kernel) rfl
theorem klX7_70 : Cond.constantLong RX7 70 (8) ∈ zt := zt_of 817 (by decide +kernel) rfl
theorem klX7_72 : Cond.constantLong RX7 72 (3) ∈ zt := zt_of 809 (by decide +kernel) rfl
theorem klX7_85 : Cond.constantLong RX7 85 (39) ∈ zt := zt_of 878 (by decide +kernel) rfl
theorem klX7_116 : Cond.constantLong RX7 116 (6) ∈ zt := zt_of 883 (by decide +kernel) rfl
theorem klX7_135 : Cond.constantLong RX7 135 (9223372036854775807) ∈ zt := zt_of 949 (by decide +kernel) rfl
theorem klX7_161 : Cond.constantLong RX7 161 (-5) ∈ zt := zt_of 950 (by decide +kernel) rfl
theorem klX7_179 : Cond.constantLong RX7 179 (2) ∈ zt := zt_of 978 (by decide +kernel) rfl
theorem klX7_184 : Cond.constantLong RX7 184 (-1) ∈ zt := zt_of 979 (by decide +kernel) rfl
theorem klX7_190 : Cond.constantLong RX7 190 (999999) ∈ zt := zt_of 988 (by decide +kernel) rfl
theorem klX7_192 : Cond.constantLong RX7 192 (1103515245) ∈ zt := zt_of 989 (by decide +kernel) rfl
theorem klX7_194 : Cond.constantLong RX7 194 (12345) ∈ zt := zt_of 990 (by decide +kernel) rfl
theorem klX7_196 : Cond.constantLong RX7 196 (2147483648) ∈ zt := zt_of 991 (by decide +kernel) rfl
theorem klX7_221 : Cond.constantLong RX7 221 (127) ∈ zt := zt_of 1028 (by decide +kernel) rfl
theorem klX7_257 : Cond.constantLong RX7 257 (97) ∈ zt := zt_of 1080 (by decide +kernel) rfl
theorem klX7_259 : Cond.constantLong RX7 259 (104) ∈ zt := zt_of 1081 (by decide +kernel) rfl
theorem klX7_277 : Cond.constantLong RX7 277 (14) ∈ zt := zt_of 1090 (by decide +kernel) rfl
theorem klX7_282 : Cond.constantLong RX7 282 (31) ∈ zt := zt_of 1104 (by decide +kernel) rfl
theorem klX7_288 : Cond.constantLong RX7 288 (2399) ∈ zt := zt_of 1099 (by decide +kernel) rfl
theorem kcX6_160 : Cond.constant RX6 160 (999999) ∈ zt := zt_of 606 (by decide +kernel) rfl
theorem iniX0 : Cond.initialized RX0 ∈ zt := zt_of 68 (by decide +kernel) rfl
theorem iniX1 : Cond.initialized RX1 ∈ zt := zt_of 70 (by decide +kernel) rfl
theorem iniX2 : Cond.initialized RX2 ∈ zt := zt_of 69 (by decide +kernel) rfl
theorem iniX3 : Cond.initialized RX3 ∈ zt := zt_of 71 (by decide +kernel) rfl
theorem iniX4 : Cond.initialized RX4 ∈ zt := zt_of 66 (by decide +kernel) rfl
theorem iniX5 : Cond.initialized RX5 ∈ zt := zt_of 72 (by decide +kernel) rfl
theorem iniX6 : Cond.initialized RX6 ∈ zt := zt_of 65 (by decide +kernel) rfl
theorem iniX7 : Cond.initialized RX7 ∈ zt := zt_of 73 (by decide +kernel) rfl
theorem iniJ9 : Cond.initialized RJ9 ∈ zt := zt_of 74 (by decide +kernel) rfl
theorem iniJ10 : Cond.initialized RJ10 ∈ zt := zt_of 75 (by decide +kernel) rfl
theorem iniJ7 : Cond.initialized RJ7 ∈ zt := zt_of 67 (by decide +kernel) rfl
theorem coX0_init : Cond.code yX0_init cX0_init 2 none ∈ zt := zt_of 157 (by decide +kernel) rfl
theorem imX0_init : Cond.instanceMethod yX0_init ∈ zt := zt_of 156 (by decide +kernel) rfl
theorem coX0_landingOf : Cond.code yX0_landingOf cX0_landingOf 4 (some .int) ∈ zt := zt_of 477 (by decide +kernel) rfl
theorem imX0_landingOf : Cond.instanceMethod yX0_landingOf ∈ zt := zt_of 475 (by decide +kernel) rfl
theorem seX0_landingOf : Cond.selects yX0_landingOf.cls yX0_landingOf yX0_landingOf ∈ zt := zt_of 476 (by decide +kernel) rfl
theorem coX0_layLine : Cond.code yX0_layLine cX0_layLine 5 none ∈ zt := zt_of 451 (by decide +kernel) rfl
theorem imX0_layLine : Cond.instanceMethod yX0_layLine ∈ zt := zt_of 449 (by decide +kernel) rfl
theorem seX0_layLine : Cond.selects yX0_layLine.cls yX0_layLine yX0_layLine ∈ zt := zt_of 450 (by decide +kernel) rfl
theorem coX0_cutPieces : Cond.code yX0_cutPieces cX0_cutPieces 5 none ∈ zt := zt_of 455 (by decide +kernel) rfl
theorem imX0_cutPieces : Cond.instanceMethod yX0_cutPieces ∈ zt := zt_of 454 (by decide +kernel) rfl
theorem seX0_cutPieces : Cond.selects yX0_cutPieces.cls yX0_cutPieces yX0_cutPieces ∈ zt := zt_of 4 (by decide +kernel) rfl
theorem coX0_layMetre : Cond.code yX0_layMetre cX0_layMetre 6 none ∈ zt := zt_of 577 (by decide +kernel) rfl
theorem imX0_layMetre : Cond.instanceMethod yX0_layMetre ∈ zt := zt_of 575 (by decide +kernel) rfl
theorem seX0_layMetre : Cond.selects yX0_layMetre.cls yX0_layMetre yX0_layMetre ∈ zt := zt_of 576 (by decide +kernel) rfl
theorem coX1_init : Cond.code yX1_init cX1_init 3 none ∈ zt := zt_of 212 (by decide +kernel) rfl
theorem imX1_init : Cond.instanceMethod yX1_init ∈ zt := zt_of 211 (by decide +kernel) rfl
theorem coX1_findBest : Cond.code yX1_findBest cX1_findBest 3 (some .boolean) ∈ zt := zt_of 504 (by decide +kernel) rfl
theorem imX1_findBest : Cond.instanceMethod yX1_findBest ∈ zt := zt_of 502 (by decide +kernel) rfl
theorem seX1_findBest : Cond.selects yX1_findBest.cls yX1_findBest yX1_findBest ∈ zt := zt_of 503 (by decide +kernel) rfl
theorem coX1_bestSum : Cond.code yX1_bestSum cX1_bestSum 1 (some .int) ∈ zt := zt_of 525 (by decide +kernel) rfl
theorem imX1_bestSum : Cond.instanceMethod yX1_bestSum ∈ zt := zt_of 523 (by decide +kernel) rfl
theorem seX1_bestSum : Cond.selects yX1_bestSum.cls yX1_bestSum yX1_bestSum ∈ zt := zt_of 524 (by decide +kernel) rfl
theorem coX1_fillPlace : Cond.code yX1_fillPlace cX1_fillPlace 4 none ∈ zt := zt_of 510 (by decide +kernel) rfl
theorem imX1_fillPlace : Cond.instanceMethod yX1_fillPlace ∈ zt := zt_of 509 (by decide +kernel) rfl
theorem seX1_fillPlace : Cond.selects yX1_fillPlace.cls yX1_fillPlace yX1_fillPlace ∈ zt := zt_of 7 (by decide +kernel) rfl
theorem coX1_offerPhrase : Cond.code yX1_offerPhrase cX1_offerPhrase 9 none ∈ zt := zt_of 515 (by decide +kernel) rfl
theorem imX1_offerPhrase : Cond.instanceMethod yX1_offerPhrase ∈ zt := zt_of 514 (by decide +kernel) rfl
theorem seX1_offerPhrase : Cond.selects yX1_offerPhrase.cls yX1_offerPhrase yX1_offerPhrase ∈ zt := zt_of 8 (by decide +kernel) rfl
theorem coX1_traceChosen : Cond.code yX1_traceChosen cX1_traceChosen 4 none ∈ zt := zt_of 521 (by decide +kernel) rfl
theorem imX1_traceChosen : Cond.instanceMethod yX1_traceChosen ∈ zt := zt_of 520 (by decide +kernel) rfl
theorem seX1_traceChosen : Cond.selects yX1_traceChosen.cls yX1_traceChosen yX1_traceChosen ∈ zt := zt_of 9 (by decide +kernel) rfl
theorem coX2_init : Cond.code yX2_init cX2_init 3 none ∈ zt := zt_of 178 (by decide +kernel) rfl
theorem imX2_init : Cond.instanceMethod yX2_init ∈ zt := zt_of 177 (by decide +kernel) rfl
theorem coX2_countAll : Cond.code yX2_countAll cX2_countAll 3 (some .long) ∈ zt := zt_of 459 (by decide +kernel) rfl
theorem imX2_countAll : Cond.instanceMethod yX2_countAll ∈ zt := zt_of 457 (by decide +kernel) rfl
theorem seX2_countAll : Cond.selects yX2_countAll.cls yX2_countAll yX2_countAll ∈ zt := zt_of 458 (by decide +kernel) rfl
theorem coX2_fillPlace : Cond.code yX2_fillPlace cX2_fillPlace 7 (some .boolean) ∈ zt := zt_of 466 (by decide +kernel) rfl
theorem imX2_fillPlace : Cond.instanceMethod yX2_fillPlace ∈ zt := zt_of 465 (by decide +kernel) rfl
theorem seX2_fillPlace : Cond.selects yX2_fillPlace.cls yX2_fillPlace yX2_fillPlace ∈ zt := zt_of 5 (by decide +kernel) rfl
theorem coX2_gatherBySlot : Cond.code yX2_gatherBySlot cX2_gatherBySlot 5 none ∈ zt := zt_of 470 (by decide +kernel) rfl
theorem imX2_gatherBySlot : Cond.instanceMethod yX2_gatherBySlot ∈ zt := zt_of 469 (by decide +kernel) rfl
theorem seX2_gatherBySlot : Cond.selects yX2_gatherBySlot.cls yX2_gatherBySlot yX2_gatherBySlot ∈ zt := zt_of 6 (by decide +kernel) rfl
theorem coX2_plus : Cond.code yX2_plus cX2_plus 4 (some .long) ∈ zt := zt_of 489 (by decide +kernel) rfl
theorem stX2_plus : Cond.static yX2_plus ∈ zt := zt_of 488 (by decide +kernel) rfl
theorem coX2_times : Cond.code yX2_times cX2_times 4 (some .long) ∈ zt := zt_of 484 (by decide +kernel) rfl
theorem stX2_times : Cond.static yX2_times ∈ zt := zt_of 483 (by decide +kernel) rfl
theorem coX2_shareOf : Cond.code yX2_shareOf cX2_shareOf 5 (some .long) ∈ zt := zt_of 593 (by decide +kernel) rfl
theorem imX2_shareOf : Cond.instanceMethod yX2_shareOf ∈ zt := zt_of 591 (by decide +kernel) rfl
theorem seX2_shareOf : Cond.selects yX2_shareOf.cls yX2_shareOf yX2_shareOf ∈ zt := zt_of 592 (by decide +kernel) rfl
theorem coX2_findRow : Cond.code yX2_findRow cX2_findRow 6 none ∈ zt := zt_of 585 (by decide +kernel) rfl
theorem imX2_findRow : Cond.instanceMethod yX2_findRow ∈ zt := zt_of 583 (by decide +kernel) rfl
theorem seX2_findRow : Cond.selects yX2_findRow.cls yX2_findRow yX2_findRow ∈ zt := zt_of 584 (by decide +kernel) rfl
theorem coX2_nextPhrase : Cond.code yX2_nextPhrase cX2_nextPhrase 6 (some .int) ∈ zt := zt_of 589 (by decide +kernel) rfl
theorem imX2_nextPhrase : Cond.instanceMethod yX2_nextPhrase ∈ zt := zt_of 588 (by decide +kernel) rfl
theorem seX2_nextPhrase : Cond.selects yX2_nextPhrase.cls yX2_nextPhrase yX2_nextPhrase ∈ zt := zt_of 12 (by decide +kernel) rfl
theorem coX3_init : Cond.code yX3_init cX3_init 2 none ∈ zt := zt_of 245 (by decide +kernel) rfl
theorem imX3_init : Cond.instanceMethod yX3_init ∈ zt := zt_of 244 (by decide +kernel) rfl
theorem coX3_stage : Cond.code yX3_stage cX3_stage 2 none ∈ zt := zt_of 324 (by decide +kernel) rfl
theorem imX3_stage : Cond.instanceMethod yX3_stage ∈ zt := zt_of 322 (by decide +kernel) rfl
theorem seX3_stage : Cond.selects yX3_stage.cls yX3_stage yX3_stage ∈ zt := zt_of 323 (by decide +kernel) rfl
theorem coX3_keepStaged : Cond.code yX3_keepStaged cX3_keepStaged 1 none ∈ zt := zt_of 365 (by decide +kernel) rfl
theorem imX3_keepStaged : Cond.instanceMethod yX3_keepStaged ∈ zt := zt_of 363 (by decide +kernel) rfl
theorem seX3_keepStaged : Cond.selects yX3_keepStaged.cls yX3_keepStaged yX3_keepStaged ∈ zt := zt_of 364 (by decide +kernel) rfl
theorem coX3_restoreStaged : Cond.code yX3_restoreStaged cX3_restoreStaged 2 none ∈ zt := zt_of 682 (by decide +kernel) rfl
theorem imX3_restoreStaged : Cond.instanceMethod yX3_restoreStaged ∈ zt := zt_of 680 (by decide +kernel) rfl
theorem seX3_restoreStaged : Cond.selects yX3_restoreStaged.cls yX3_restoreStaged yX3_restoreStaged ∈ zt := zt_of 681 (by decide +kernel) rfl
theorem coX3_restoreLast : Cond.code yX3_restoreLast cX3_restoreLast 2 none ∈ zt := zt_of 690 (by decide +kernel) rfl
theorem imX3_restoreLast : Cond.instanceMethod yX3_restoreLast ∈ zt := zt_of 688 (by decide +kernel) rfl
theorem seX3_restoreLast : Cond.selects yX3_restoreLast.cls yX3_restoreLast yX3_restoreLast ∈ zt := zt_of 689 (by decide +kernel) rfl
theorem coX4_init : Cond.code yX4_init cX4_init 1 none ∈ zt := zt_of 88 (by decide +kernel) rfl
theorem imX4_init : Cond.instanceMethod yX4_init ∈ zt := zt_of 87 (by decide +kernel) rfl
theorem coX4_copyFrom : Cond.code yX4_copyFrom cX4_copyFrom 2 none ∈ zt := zt_of 328 (by decide +kernel) rfl
theorem imX4_copyFrom : Cond.instanceMethod yX4_copyFrom ∈ zt := zt_of 326 (by decide +kernel) rfl
theorem seX4_copyFrom : Cond.selects yX4_copyFrom.cls yX4_copyFrom yX4_copyFrom ∈ zt := zt_of 327 (by decide +kernel) rfl
theorem coX4_copyRow : Cond.code yX4_copyRow cX4_copyRow 2 none ∈ zt := zt_of 331 (by decide +kernel) rfl
theorem stX4_copyRow : Cond.static yX4_copyRow ∈ zt := zt_of 330 (by decide +kernel) rfl
theorem coX4_hasPhrase : Cond.code yX4_hasPhrase cX4_hasPhrase 2 (some .boolean) ∈ zt := zt_of 378 (by decide +kernel) rfl
theorem imX4_hasPhrase : Cond.instanceMethod yX4_hasPhrase ∈ zt := zt_of 376 (by decide +kernel) rfl
theorem seX4_hasPhrase : Cond.selects yX4_hasPhrase.cls yX4_hasPhrase yX4_hasPhrase ∈ zt := zt_of 377 (by decide +kernel) rfl
theorem coX4_addPhrase : Cond.code yX4_addPhrase cX4_addPhrase 6 (some .int) ∈ zt := zt_of 341 (by decide +kernel) rfl
theorem imX4_addPhrase : Cond.instanceMethod yX4_addPhrase ∈ zt := zt_of 339 (by decide +kernel) rfl
theorem seX4_addPhrase : Cond.selects yX4_addPhrase.cls yX4_addPhrase yX4_addPhrase ∈ zt := zt_of 340 (by decide +kernel) rfl
theorem coX4_dropPhrase : Cond.code yX4_dropPhrase cX4_dropPhrase 3 (some .int) ∈ zt := zt_of 374 (by decide +kernel) rfl
theorem imX4_dropPhrase : Cond.instanceMethod yX4_dropPhrase ∈ zt := zt_of 372 (by decide +kernel) rfl
theorem seX4_dropPhrase : Cond.selects yX4_dropPhrase.cls yX4_dropPhrase yX4_dropPhrase ∈ zt := zt_of 373 (by decide +kernel) rfl
theorem coX4_movePhrase : Cond.code yX4_movePhrase cX4_movePhrase 4 none ∈ zt := zt_of 383 (by decide +kernel) rfl
theorem imX4_movePhrase : Cond.instanceMethod yX4_movePhrase ∈ zt := zt_of 382 (by decide +kernel) rfl
theorem seX4_movePhrase : Cond.selects yX4_movePhrase.cls yX4_movePhrase yX4_movePhrase ∈ zt := zt_of 2 (by decide +kernel) rfl
theorem coX4_setBegins : Cond.code yX4_setBegins cX4_setBegins 3 (some .int) ∈ zt := zt_of 391 (by decide +kernel) rfl
theorem imX4_setBegins : Cond.instanceMethod yX4_setBegins ∈ zt := zt_of 389 (by decide +kernel) rfl
theorem seX4_setBegins : Cond.selects yX4_setBegins.cls yX4_setBegins yX4_setBegins ∈ zt := zt_of 390 (by decide +kernel) rfl
theorem coX4_setEnds : Cond.code yX4_setEnds cX4_setEnds 3 (some .int) ∈ zt := zt_of 402 (by decide +kernel) rfl
theorem imX4_setEnds : Cond.instanceMethod yX4_setEnds ∈ zt := zt_of 400 (by decide +kernel) rfl
theorem seX4_setEnds : Cond.selects yX4_setEnds.cls yX4_setEnds yX4_setEnds ∈ zt := zt_of 401 (by decide +kernel) rfl
theorem coX4_setFollows : Cond.code yX4_setFollows cX4_setFollows 4 (some .int) ∈ zt := zt_of 410 (by decide +kernel) rfl
theorem imX4_setFollows : Cond.instanceMethod yX4_setFollows ∈ zt := zt_of 408 (by decide +kernel) rfl
theorem seX4_setFollows : Cond.selects yX4_setFollows.cls yX4_setFollows yX4_setFollows ∈ zt := zt_of 409 (by decide +kernel) rfl
theorem coX4_addLetter : Cond.code yX4_addLetter cX4_addLetter 2 (some .int) ∈ zt := zt_of 431 (by decide +kernel) rfl
theorem imX4_addLetter : Cond.instanceMethod yX4_addLetter ∈ zt := zt_of 429 (by decide +kernel) rfl
theorem seX4_addLetter : Cond.selects yX4_addLetter.cls yX4_addLetter yX4_addLetter ∈ zt := zt_of 430 (by decide +kernel) rfl
theorem coX4_wipeLine : Cond.code yX4_wipeLine cX4_wipeLine 2 (some .int) ∈ zt := zt_of 439 (by decide +kernel) rfl
theorem imX4_wipeLine : Cond.instanceMethod yX4_wipeLine ∈ zt := zt_of 437 (by decide +kernel) rfl
theorem seX4_wipeLine : Cond.selects yX4_wipeLine.cls yX4_wipeLine yX4_wipeLine ∈ zt := zt_of 438 (by decide +kernel) rfl
theorem coX4_setLine : Cond.code yX4_setLine cX4_setLine 3 (some .int) ∈ zt := zt_of 678 (by decide +kernel) rfl
theorem imX4_setLine : Cond.instanceMethod yX4_setLine ∈ zt := zt_of 676 (by decide +kernel) rfl
theorem seX4_setLine : Cond.selects yX4_setLine.cls yX4_setLine yX4_setLine ∈ zt := zt_of 677 (by decide +kernel) rfl
theorem coX4_setMetre : Cond.code yX4_setMetre cX4_setMetre 3 (some .int) ∈ zt := zt_of 557 (by decide +kernel) rfl
theorem imX4_setMetre : Cond.instanceMethod yX4_setMetre ∈ zt := zt_of 555 (by decide +kernel) rfl
theorem seX4_setMetre : Cond.selects yX4_setMetre.cls yX4_setMetre yX4_setMetre ∈ zt := zt_of 556 (by decide +kernel) rfl
theorem coX4_setMark : Cond.code yX4_setMark cX4_setMark 4 (some .int) ∈ zt := zt_of 565 (by decide +kernel) rfl
theorem imX4_setMark : Cond.instanceMethod yX4_setMark ∈ zt := zt_of 563 (by decide +kernel) rfl
theorem seX4_setMark : Cond.selects yX4_setMark.cls yX4_setMark yX4_setMark ∈ zt := zt_of 564 (by decide +kernel) rfl
theorem coX4_habitOf : Cond.code yX4_habitOf cX4_habitOf 4 (some .int) ∈ zt := zt_of 423 (by decide +kernel) rfl
theorem imX4_habitOf : Cond.instanceMethod yX4_habitOf ∈ zt := zt_of 421 (by decide +kernel) rfl
theorem seX4_habitOf : Cond.selects yX4_habitOf.cls yX4_habitOf yX4_habitOf ∈ zt := zt_of 422 (by decide +kernel) rfl
theorem coX4_raiseHabit : Cond.code yX4_raiseHabit cX4_raiseHabit 4 none ∈ zt := zt_of 540 (by decide +kernel) rfl
theorem imX4_raiseHabit : Cond.instanceMethod yX4_raiseHabit ∈ zt := zt_of 538 (by decide +kernel) rfl
theorem seX4_raiseHabit : Cond.selects yX4_raiseHabit.cls yX4_raiseHabit yX4_raiseHabit ∈ zt := zt_of 539 (by decide +kernel) rfl
theorem coX4_factorOf : Cond.code yX4_factorOf cX4_factorOf 3 (some .long) ∈ zt := zt_of 481 (by decide +kernel) rfl
theorem imX4_factorOf : Cond.instanceMethod yX4_factorOf ∈ zt := zt_of 479 (by decide +kernel) rfl
theorem seX4_factorOf : Cond.selects yX4_factorOf.cls yX4_factorOf yX4_factorOf ∈ zt := zt_of 480 (by decide +kernel) rfl
theorem coX4_setAfter : Cond.code yX4_setAfter cX4_setAfter 3 (some .int) ∈ zt := zt_of 493 (by decide +kernel) rfl
theorem imX4_setAfter : Cond.instanceMethod yX4_setAfter ∈ zt := zt_of 491 (by decide +kernel) rfl
theorem seX4_setAfter : Cond.selects yX4_setAfter.cls yX4_setAfter yX4_setAfter ∈ zt := zt_of 492 (by decide +kernel) rfl
theorem coX4_factOf : Cond.code yX4_factOf cX4_factOf 3 (some .int) ∈ zt := zt_of 419 (by decide +kernel) rfl
theorem imX4_factOf : Cond.instanceMethod yX4_factOf ∈ zt := zt_of 417 (by decide +kernel) rfl
theorem seX4_factOf : Cond.selects yX4_factOf.cls yX4_factOf yX4_factOf ∈ zt := zt_of 418 (by decide +kernel) rfl
theorem coX4_fixedPhrase : Cond.code yX4_fixedPhrase cX4_fixedPhrase 5 (some .int) ∈ zt := zt_of 549 (by decide +kernel) rfl
theorem imX4_fixedPhrase : Cond.instanceMethod yX4_fixedPhrase ∈ zt := zt_of 547 (by decide +kernel) rfl
theorem seX4_fixedPhrase : Cond.selects yX4_fixedPhrase.cls yX4_fixedPhrase yX4_fixedPhrase ∈ zt := zt_of 548 (by decide +kernel) rfl
theorem coX4_digestOn : Cond.code yX4_digestOn cX4_digestOn 7 (some .long) ∈ zt := zt_of 710 (by decide +kernel) rfl
theorem imX4_digestOn : Cond.instanceMethod yX4_digestOn ∈ zt := zt_of 708 (by decide +kernel) rfl
theorem seX4_digestOn : Cond.selects yX4_digestOn.cls yX4_digestOn yX4_digestOn ∈ zt := zt_of 709 (by decide +kernel) rfl
theorem coX5_init : Cond.code yX5_init cX5_init 1 none ∈ zt := zt_of 265 (by decide +kernel) rfl
theorem imX5_init : Cond.instanceMethod yX5_init ∈ zt := zt_of 264 (by decide +kernel) rfl
theorem coX5_addByte : Cond.code yX5_addByte cX5_addByte 2 (some .int) ∈ zt := zt_of 617 (by decide +kernel) rfl
theorem imX5_addByte : Cond.instanceMethod yX5_addByte ∈ zt := zt_of 615 (by decide +kernel) rfl
theorem seX5_addByte : Cond.selects yX5_addByte.cls yX5_addByte yX5_addByte ∈ zt := zt_of 616 (by decide +kernel) rfl
theorem coX5_wipeBytes : Cond.code yX5_wipeBytes cX5_wipeBytes 2 (some .int) ∈ zt := zt_of 626 (by decide +kernel) rfl
theorem imX5_wipeBytes : Cond.instanceMethod yX5_wipeBytes ∈ zt := zt_of 624 (by decide +kernel) rfl
theorem seX5_wipeBytes : Cond.selects yX5_wipeBytes.cls yX5_wipeBytes yX5_wipeBytes ∈ zt := zt_of 625 (by decide +kernel) rfl
theorem coX5_rewind : Cond.code yX5_rewind cX5_rewind 1 none ∈ zt := zt_of 638 (by decide +kernel) rfl
theorem imX5_rewind : Cond.instanceMethod yX5_rewind ∈ zt := zt_of 636 (by decide +kernel) rfl
theorem seX5_rewind : Cond.selects yX5_rewind.cls yX5_rewind yX5_rewind ∈ zt := zt_of 637 (by decide +kernel) rfl
theorem coX5_findFault : Cond.code yX5_findFault cX5_findFault 3 (some .int) ∈ zt := zt_of 634 (by decide +kernel) rfl
theorem imX5_findFault : Cond.instanceMethod yX5_findFault ∈ zt := zt_of 632 (by decide +kernel) rfl
theorem seX5_findFault : Cond.selects yX5_findFault.cls yX5_findFault yX5_findFault ∈ zt := zt_of 633 (by decide +kernel) rfl
theorem coX5_readOrder : Cond.code yX5_readOrder cX5_readOrder 3 (some .boolean) ∈ zt := zt_of 646 (by decide +kernel) rfl
theorem imX5_readOrder : Cond.instanceMethod yX5_readOrder ∈ zt := zt_of 644 (by decide +kernel) rfl
theorem seX5_readOrder : Cond.selects yX5_readOrder.cls yX5_readOrder yX5_readOrder ∈ zt := zt_of 645 (by decide +kernel) rfl
theorem coX5_numbersOf : Cond.code yX5_numbersOf cX5_numbersOf 1 (some .int) ∈ zt := zt_of 653 (by decide +kernel) rfl
theorem stX5_numbersOf : Cond.static yX5_numbersOf ∈ zt := zt_of 652 (by decide +kernel) rfl
theorem coX5_readNumber : Cond.code yX5_readNumber cX5_readNumber 3 (some .boolean) ∈ zt := zt_of 657 (by decide +kernel) rfl
theorem imX5_readNumber : Cond.instanceMethod yX5_readNumber ∈ zt := zt_of 656 (by decide +kernel) rfl
theorem seX5_readNumber : Cond.selects yX5_readNumber.cls yX5_readNumber yX5_readNumber ∈ zt := zt_of 15 (by decide +kernel) rfl
theorem coX5_readLetters : Cond.code yX5_readLetters cX5_readLetters 3 (some .boolean) ∈ zt := zt_of 664 (by decide +kernel) rfl
theorem imX5_readLetters : Cond.instanceMethod yX5_readLetters ∈ zt := zt_of 663 (by decide +kernel) rfl
theorem seX5_readLetters : Cond.selects yX5_readLetters.cls yX5_readLetters yX5_readLetters ∈ zt := zt_of 16 (by decide +kernel) rfl
theorem coX5_lettersAsCode : Cond.code yX5_lettersAsCode cX5_lettersAsCode 3 (some .int) ∈ zt := zt_of 674 (by decide +kernel) rfl
theorem imX5_lettersAsCode : Cond.instanceMethod yX5_lettersAsCode ∈ zt := zt_of 672 (by decide +kernel) rfl
theorem seX5_lettersAsCode : Cond.selects yX5_lettersAsCode.cls yX5_lettersAsCode yX5_lettersAsCode ∈ zt := zt_of 673 (by decide +kernel) rfl
theorem coX5_byteHere : Cond.code yX5_byteHere cX5_byteHere 1 (some .int) ∈ zt := zt_of 650 (by decide +kernel) rfl
theorem imX5_byteHere : Cond.instanceMethod yX5_byteHere ∈ zt := zt_of 649 (by decide +kernel) rfl
theorem seX5_byteHere : Cond.selects yX5_byteHere.cls yX5_byteHere yX5_byteHere ∈ zt := zt_of 14 (by decide +kernel) rfl
theorem coX5_skipBlanks : Cond.code yX5_skipBlanks cX5_skipBlanks 1 none ∈ zt := zt_of 642 (by decide +kernel) rfl
theorem imX5_skipBlanks : Cond.instanceMethod yX5_skipBlanks ∈ zt := zt_of 641 (by decide +kernel) rfl
theorem seX5_skipBlanks : Cond.selects yX5_skipBlanks.cls yX5_skipBlanks yX5_skipBlanks ∈ zt := zt_of 13 (by decide +kernel) rfl
theorem coX5_isFigure : Cond.code yX5_isFigure cX5_isFigure 1 (some .boolean) ∈ zt := zt_of 660 (by decide +kernel) rfl
theorem stX5_isFigure : Cond.static yX5_isFigure ∈ zt := zt_of 659 (by decide +kernel) rfl
theorem coX6_init : Cond.code yX6_init cX6_init 3 none ∈ zt := zt_of 80 (by decide +kernel) rfl
theorem imX6_init : Cond.instanceMethod yX6_init ∈ zt := zt_of 79 (by decide +kernel) rfl
theorem coX6_phrase : Cond.code yX6_phrase cX6_phrase 3 (some .int) ∈ zt := zt_of 320 (by decide +kernel) rfl
theorem imX6_phrase : Cond.instanceMethod yX6_phrase ∈ zt := zt_of 318 (by decide +kernel) rfl
theorem seX6_phrase : Cond.selects yX6_phrase.cls yX6_phrase yX6_phrase ∈ zt := zt_of 319 (by decide +kernel) rfl
theorem coX6_drops : Cond.code yX6_drops cX6_drops 2 (some .int) ∈ zt := zt_of 370 (by decide +kernel) rfl
theorem imX6_drops : Cond.instanceMethod yX6_drops ∈ zt := zt_of 368 (by decide +kernel) rfl
theorem seX6_drops : Cond.selects yX6_drops.cls yX6_drops yX6_drops ∈ zt := zt_of 369 (by decide +kernel) rfl
theorem coX6_begins : Cond.code yX6_begins cX6_begins 2 (some .int) ∈ zt := zt_of 387 (by decide +kernel) rfl
theorem imX6_begins : Cond.instanceMethod yX6_begins ∈ zt := zt_of 385 (by decide +kernel) rfl
theorem seX6_begins : Cond.selects yX6_begins.cls yX6_begins yX6_begins ∈ zt := zt_of 386 (by decide +kernel) rfl
theorem coX6_ends : Cond.code yX6_ends cX6_ends 2 (some .int) ∈ zt := zt_of 398 (by decide +kernel) rfl
theorem imX6_ends : Cond.instanceMethod yX6_ends ∈ zt := zt_of 396 (by decide +kernel) rfl
theorem seX6_ends : Cond.selects yX6_ends.cls yX6_ends yX6_ends ∈ zt := zt_of 397 (by decide +kernel) rfl
theorem coX6_follows : Cond.code yX6_follows cX6_follows 3 (some .int) ∈ zt := zt_of 406 (by decide +kernel) rfl
theorem imX6_follows : Cond.instanceMethod yX6_follows ∈ zt := zt_of 404 (by decide +kernel) rfl
theorem seX6_follows : Cond.selects yX6_follows.cls yX6_follows yX6_follows ∈ zt := zt_of 405 (by decide +kernel) rfl
theorem coX6_of : Cond.code yX6_of cX6_of 3 (some .int) ∈ zt := zt_of 414 (by decide +kernel) rfl
theorem imX6_of : Cond.instanceMethod yX6_of ∈ zt := zt_of 412 (by decide +kernel) rfl
theorem seX6_of : Cond.selects yX6_of.cls yX6_of yX6_of ∈ zt := zt_of 413 (by decide +kernel) rfl
theorem coX6_letter : Cond.code yX6_letter cX6_letter 2 (some .int) ∈ zt := zt_of 427 (by decide +kernel) rfl
theorem imX6_letter : Cond.instanceMethod yX6_letter ∈ zt := zt_of 425 (by decide +kernel) rfl
theorem seX6_letter : Cond.selects yX6_letter.cls yX6_letter yX6_letter ∈ zt := zt_of 426 (by decide +kernel) rfl
theorem coX6_wipes : Cond.code yX6_wipes cX6_wipes 1 (some .int) ∈ zt := zt_of 435 (by decide +kernel) rfl
theorem imX6_wipes : Cond.instanceMethod yX6_wipes ∈ zt := zt_of 433 (by decide +kernel) rfl
theorem seX6_wipes : Cond.selects yX6_wipes.cls yX6_wipes yX6_wipes ∈ zt := zt_of 434 (by decide +kernel) rfl
theorem coX6_cuts : Cond.code yX6_cuts cX6_cuts 3 (some .long) ∈ zt := zt_of 443 (by decide +kernel) rfl
theorem imX6_cuts : Cond.instanceMethod yX6_cuts ∈ zt := zt_of 441 (by decide +kernel) rfl
theorem seX6_cuts : Cond.selects yX6_cuts.cls yX6_cuts yX6_cuts ∈ zt := zt_of 442 (by decide +kernel) rfl
theorem coX6_best : Cond.code yX6_best cX6_best 3 (some .int) ∈ zt := zt_of 497 (by decide +kernel) rfl
theorem imX6_best : Cond.instanceMethod yX6_best ∈ zt := zt_of 495 (by decide +kernel) rfl
theorem seX6_best : Cond.selects yX6_best.cls yX6_best yX6_best ∈ zt := zt_of 496 (by decide +kernel) rfl
theorem coX6_sings : Cond.code yX6_sings cX6_sings 2 (some .int) ∈ zt := zt_of 532 (by decide +kernel) rfl
theorem imX6_sings : Cond.instanceMethod yX6_sings ∈ zt := zt_of 530 (by decide +kernel) rfl
theorem seX6_sings : Cond.selects yX6_sings.cls yX6_sings yX6_sings ∈ zt := zt_of 531 (by decide +kernel) rfl
theorem coX6_fixes : Cond.code yX6_fixes cX6_fixes 3 (some .int) ∈ zt := zt_of 544 (by decide +kernel) rfl
theorem imX6_fixes : Cond.instanceMethod yX6_fixes ∈ zt := zt_of 542 (by decide +kernel) rfl
theorem seX6_fixes : Cond.selects yX6_fixes.cls yX6_fixes yX6_fixes ∈ zt := zt_of 543 (by decide +kernel) rfl
theorem coX6_metre : Cond.code yX6_metre cX6_metre 2 (some .int) ∈ zt := zt_of 553 (by decide +kernel) rfl
theorem imX6_metre : Cond.instanceMethod yX6_metre ∈ zt := zt_of 551 (by decide +kernel) rfl
theorem seX6_metre : Cond.selects yX6_metre.cls yX6_metre yX6_metre ∈ zt := zt_of 552 (by decide +kernel) rfl
theorem coX6_marks : Cond.code yX6_marks cX6_marks 3 (some .int) ∈ zt := zt_of 561 (by decide +kernel) rfl
theorem imX6_marks : Cond.instanceMethod yX6_marks ∈ zt := zt_of 559 (by decide +kernel) rfl
theorem seX6_marks : Cond.selects yX6_marks.cls yX6_marks yX6_marks ∈ zt := zt_of 560 (by decide +kernel) rfl
theorem coX6_made : Cond.code yX6_made cX6_made 3 (some .long) ∈ zt := zt_of 569 (by decide +kernel) rfl
theorem imX6_made : Cond.instanceMethod yX6_made ∈ zt := zt_of 567 (by decide +kernel) rfl
theorem seX6_made : Cond.selects yX6_made.cls yX6_made yX6_made ∈ zt := zt_of 568 (by decide +kernel) rfl
theorem coX6_row : Cond.code yX6_row cX6_row 6 (some .int) ∈ zt := zt_of 581 (by decide +kernel) rfl
theorem imX6_row : Cond.instanceMethod yX6_row ∈ zt := zt_of 579 (by decide +kernel) rfl
theorem seX6_row : Cond.selects yX6_row.cls yX6_row yX6_row ∈ zt := zt_of 580 (by decide +kernel) rfl
theorem coX6_weight : Cond.code yX6_weight cX6_weight 5 (some .long) ∈ zt := zt_of 600 (by decide +kernel) rfl
theorem imX6_weight : Cond.instanceMethod yX6_weight ∈ zt := zt_of 598 (by decide +kernel) rfl
theorem seX6_weight : Cond.selects yX6_weight.cls yX6_weight yX6_weight ∈ zt := zt_of 599 (by decide +kernel) rfl
theorem coX6_picks : Cond.code yX6_picks cX6_picks 8 (some .int) ∈ zt := zt_of 605 (by decide +kernel) rfl
theorem imX6_picks : Cond.instanceMethod yX6_picks ∈ zt := zt_of 603 (by decide +kernel) rfl
theorem seX6_picks : Cond.selects yX6_picks.cls yX6_picks yX6_picks ∈ zt := zt_of 604 (by decide +kernel) rfl
theorem coX6_type : Cond.code yX6_type cX6_type 3 (some .int) ∈ zt := zt_of 613 (by decide +kernel) rfl
theorem imX6_type : Cond.instanceMethod yX6_type ∈ zt := zt_of 611 (by decide +kernel) rfl
theorem seX6_type : Cond.selects yX6_type.cls yX6_type yX6_type ∈ zt := zt_of 612 (by decide +kernel) rfl
theorem coX6_clear : Cond.code yX6_clear cX6_clear 1 (some .int) ∈ zt := zt_of 622 (by decide +kernel) rfl
theorem imX6_clear : Cond.instanceMethod yX6_clear ∈ zt := zt_of 620 (by decide +kernel) rfl
theorem seX6_clear : Cond.selects yX6_clear.cls yX6_clear yX6_clear ∈ zt := zt_of 621 (by decide +kernel) rfl
theorem coX6_reads : Cond.code yX6_reads cX6_reads 3 (some .int) ∈ zt := zt_of 630 (by decide +kernel) rfl
theorem imX6_reads : Cond.instanceMethod yX6_reads ∈ zt := zt_of 628 (by decide +kernel) rfl
theorem seX6_reads : Cond.selects yX6_reads.cls yX6_reads yX6_reads ∈ zt := zt_of 629 (by decide +kernel) rfl
theorem coX6_back : Cond.code yX6_back cX6_back 1 (some .int) ∈ zt := zt_of 686 (by decide +kernel) rfl
theorem imX6_back : Cond.instanceMethod yX6_back ∈ zt := zt_of 684 (by decide +kernel) rfl
theorem seX6_back : Cond.selects yX6_back.cls yX6_back yX6_back ∈ zt := zt_of 685 (by decide +kernel) rfl
theorem coX6_told : Cond.code yX6_told cX6_told 2 (some .int) ∈ zt := zt_of 695 (by decide +kernel) rfl
theorem imX6_told : Cond.instanceMethod yX6_told ∈ zt := zt_of 693 (by decide +kernel) rfl
theorem seX6_told : Cond.selects yX6_told.cls yX6_told yX6_told ∈ zt := zt_of 694 (by decide +kernel) rfl
theorem coX6_digest : Cond.code yX6_digest cX6_digest 5 (some .long) ∈ zt := zt_of 704 (by decide +kernel) rfl
theorem imX6_digest : Cond.instanceMethod yX6_digest ∈ zt := zt_of 702 (by decide +kernel) rfl
theorem seX6_digest : Cond.selects yX6_digest.cls yX6_digest yX6_digest ∈ zt := zt_of 703 (by decide +kernel) rfl
theorem coX6_within : Cond.code yX6_within cX6_within 3 (some .boolean) ∈ zt := zt_of 347 (by decide +kernel) rfl
theorem stX6_within : Cond.static yX6_within ∈ zt := zt_of 346 (by decide +kernel) rfl
theorem coX6_isMaker : Cond.code yX6_isMaker cX6_isMaker 1 (some .boolean) ∈ zt := zt_of 500 (by decide +kernel) rfl
theorem stX6_isMaker : Cond.static yX6_isMaker ∈ zt := zt_of 499 (by decide +kernel) rfl
theorem coX6_isSlot : Cond.code yX6_isSlot cX6_isSlot 1 (some .boolean) ∈ zt := zt_of 350 (by decide +kernel) rfl
theorem stX6_isSlot : Cond.static yX6_isSlot ∈ zt := zt_of 349 (by decide +kernel) rfl
theorem coX6_isSet : Cond.code yX6_isSet cX6_isSet 1 (some .boolean) ∈ zt := zt_of 394 (by decide +kernel) rfl
theorem stX6_isSet : Cond.static yX6_isSet ∈ zt := zt_of 393 (by decide +kernel) rfl
theorem coX6_holds : Cond.code yX6_holds cX6_holds 2 (some .boolean) ∈ zt := zt_of 462 (by decide +kernel) rfl
theorem stX6_holds : Cond.static yX6_holds ∈ zt := zt_of 461 (by decide +kernel) rfl
theorem coX6_lettersIn : Cond.code yX6_lettersIn cX6_lettersIn 3 (some .int) ∈ zt := zt_of 344 (by decide +kernel) rfl
theorem stX6_lettersIn : Cond.static yX6_lettersIn ∈ zt := zt_of 343 (by decide +kernel) rfl
theorem coX6_moraeIn : Cond.code yX6_moraeIn cX6_moraeIn 5 (some .int) ∈ zt := zt_of 353 (by decide +kernel) rfl
theorem stX6_moraeIn : Cond.static yX6_moraeIn ∈ zt := zt_of 352 (by decide +kernel) rfl
theorem coX6_partOf : Cond.code yX6_partOf cX6_partOf 3 (some .int) ∈ zt := zt_of 528 (by decide +kernel) rfl
theorem stX6_partOf : Cond.static yX6_partOf ∈ zt := zt_of 527 (by decide +kernel) rfl
theorem coX6_refusal : Cond.code yX6_refusal cX6_refusal 3 (some .int) ∈ zt := zt_of 361 (by decide +kernel) rfl
theorem imX6_refusal : Cond.instanceMethod yX6_refusal ∈ zt := zt_of 360 (by decide +kernel) rfl
theorem seX6_refusal : Cond.selects yX6_refusal.cls yX6_refusal yX6_refusal ∈ zt := zt_of 1 (by decide +kernel) rfl
theorem coX6_settled : Cond.code yX6_settled cX6_settled 2 (some .int) ∈ zt := zt_of 357 (by decide +kernel) rfl
theorem imX6_settled : Cond.instanceMethod yX6_settled ∈ zt := zt_of 356 (by decide +kernel) rfl
theorem seX6_settled : Cond.selects yX6_settled.cls yX6_settled yX6_settled ∈ zt := zt_of 0 (by decide +kernel) rfl
theorem coX6_countCuts : Cond.code yX6_countCuts cX6_countCuts 1 (some .long) ∈ zt := zt_of 447 (by decide +kernel) rfl
theorem imX6_countCuts : Cond.instanceMethod yX6_countCuts ∈ zt := zt_of 446 (by decide +kernel) rfl
theorem seX6_countCuts : Cond.selects yX6_countCuts.cls yX6_countCuts yX6_countCuts ∈ zt := zt_of 3 (by decide +kernel) rfl
theorem coX6_countMade : Cond.code yX6_countMade cX6_countMade 2 (some .long) ∈ zt := zt_of 573 (by decide +kernel) rfl
theorem imX6_countMade : Cond.instanceMethod yX6_countMade ∈ zt := zt_of 572 (by decide +kernel) rfl
theorem seX6_countMade : Cond.selects yX6_countMade.cls yX6_countMade yX6_countMade ∈ zt := zt_of 11 (by decide +kernel) rfl
theorem coX6_singBest : Cond.code yX6_singBest cX6_singBest 3 (some .int) ∈ zt := zt_of 536 (by decide +kernel) rfl
theorem imX6_singBest : Cond.instanceMethod yX6_singBest ∈ zt := zt_of 535 (by decide +kernel) rfl
theorem seX6_singBest : Cond.selects yX6_singBest.cls yX6_singBest yX6_singBest ∈ zt := zt_of 10 (by decide +kernel) rfl
theorem coX6_doOrder : Cond.code yX6_doOrder cX6_doOrder 3 (some .int) ∈ zt := zt_of 670 (by decide +kernel) rfl
theorem imX6_doOrder : Cond.instanceMethod yX6_doOrder ∈ zt := zt_of 669 (by decide +kernel) rfl
theorem seX6_doOrder : Cond.selects yX6_doOrder.cls yX6_doOrder yX6_doOrder ∈ zt := zt_of 17 (by decide +kernel) rfl
theorem coX6_factTold : Cond.code yX6_factTold cX6_factTold 2 (some .int) ∈ zt := zt_of 699 (by decide +kernel) rfl
theorem imX6_factTold : Cond.instanceMethod yX6_factTold ∈ zt := zt_of 698 (by decide +kernel) rfl
theorem seX6_factTold : Cond.selects yX6_factTold.cls yX6_factTold yX6_factTold ∈ zt := zt_of 18 (by decide +kernel) rfl
theorem coX7_init : Cond.code yX7_init cX7_init 2 none ∈ zt := zt_of 717 (by decide +kernel) rfl
theorem imX7_init : Cond.instanceMethod yX7_init ∈ zt := zt_of 716 (by decide +kernel) rfl
theorem coX7_bad : Cond.code yX7_bad cX7_bad 1 (some .int) ∈ zt := zt_of 833 (by decide +kernel) rfl
theorem imX7_bad : Cond.instanceMethod yX7_bad ∈ zt := zt_of 832 (by decide +kernel) rfl
theorem seX7_bad : Cond.selects yX7_bad.cls yX7_bad yX7_bad ∈ zt := zt_of 25 (by decide +kernel) rfl
theorem coX7_no : Cond.code yX7_no cX7_no 1 (some .int) ∈ zt := zt_of 796 (by decide +kernel) rfl
theorem imX7_no : Cond.instanceMethod yX7_no ∈ zt := zt_of 795 (by decide +kernel) rfl
theorem seX7_no : Cond.selects yX7_no.cls yX7_no yX7_no ∈ zt := zt_of 19 (by decide +kernel) rfl
theorem coX7_full : Cond.code yX7_full cX7_full 1 (some .int) ∈ zt := zt_of 829 (by decide +kernel) rfl
theorem imX7_full : Cond.instanceMethod yX7_full ∈ zt := zt_of 828 (by decide +kernel) rfl
theorem seX7_full : Cond.selects yX7_full.cls yX7_full yX7_full ∈ zt := zt_of 24 (by decide +kernel) rfl
theorem coX7_much : Cond.code yX7_much cX7_much 1 (some .int) ∈ zt := zt_of 954 (by decide +kernel) rfl
theorem imX7_much : Cond.instanceMethod yX7_much ∈ zt := zt_of 953 (by decide +kernel) rfl
theorem seX7_much : Cond.selects yX7_much.cls yX7_much yX7_much ∈ zt := zt_of 42 (by decide +kernel) rfl
theorem coX7_within : Cond.code yX7_within cX7_within 6 (some .boolean) ∈ zt := zt_of 812 (by decide +kernel) rfl
theorem stX7_within : Cond.static yX7_within ∈ zt := zt_of 811 (by decide +kernel) rfl
theorem coX7_has : Cond.code yX7_has cX7_has 2 (some .boolean) ∈ zt := zt_of 932 (by decide +kernel) rfl
theorem stX7_has : Cond.static yX7_has ∈ zt := zt_of 931 (by decide +kernel) rfl
theorem coX7_isPhrase : Cond.code yX7_isPhrase cX7_isPhrase 2 (some .boolean) ∈ zt := zt_of 845 (by decide +kernel) rfl
theorem imX7_isPhrase : Cond.instanceMethod yX7_isPhrase ∈ zt := zt_of 844 (by decide +kernel) rfl
theorem seX7_isPhrase : Cond.selects yX7_isPhrase.cls yX7_isPhrase yX7_isPhrase ∈ zt := zt_of 27 (by decide +kernel) rfl
theorem coX7_laysAside : Cond.code yX7_laysAside cX7_laysAside 2 none ∈ zt := zt_of 804 (by decide +kernel) rfl
theorem imX7_laysAside : Cond.instanceMethod yX7_laysAside ∈ zt := zt_of 803 (by decide +kernel) rfl
theorem seX7_laysAside : Cond.selects yX7_laysAside.cls yX7_laysAside yX7_laysAside ∈ zt := zt_of 20 (by decide +kernel) rfl
theorem coX7_leaves : Cond.code yX7_leaves cX7_leaves 2 none ∈ zt := zt_of 825 (by decide +kernel) rfl
theorem imX7_leaves : Cond.instanceMethod yX7_leaves ∈ zt := zt_of 824 (by decide +kernel) rfl
theorem seX7_leaves : Cond.selects yX7_leaves.cls yX7_leaves yX7_leaves ∈ zt := zt_of 23 (by decide +kernel) rfl
theorem coX7_back : Cond.code yX7_back cX7_back 2 (some .int) ∈ zt := zt_of 792 (by decide +kernel) rfl
theorem imX7_back : Cond.instanceMethod yX7_back ∈ zt := zt_of 790 (by decide +kernel) rfl
theorem seX7_back : Cond.selects yX7_back.cls yX7_back yX7_back ∈ zt := zt_of 791 (by decide +kernel) rfl
theorem coX7_answers : Cond.code yX7_answers cX7_answers 2 (some .int) ∈ zt := zt_of 821 (by decide +kernel) rfl
theorem imX7_answers : Cond.instanceMethod yX7_answers ∈ zt := zt_of 820 (by decide +kernel) rfl
theorem seX7_answers : Cond.selects yX7_answers.cls yX7_answers yX7_answers ∈ zt := zt_of 22 (by decide +kernel) rfl
theorem coX7_sizeOf : Cond.code yX7_sizeOf cX7_sizeOf 3 (some .int) ∈ zt := zt_of 890 (by decide +kernel) rfl
theorem stX7_sizeOf : Cond.static yX7_sizeOf ∈ zt := zt_of 889 (by decide +kernel) rfl
theorem coX7_moraeOf : Cond.code yX7_moraeOf cX7_moraeOf 3 (some .int) ∈ zt := zt_of 893 (by decide +kernel) rfl
theorem stX7_moraeOf : Cond.static yX7_moraeOf ∈ zt := zt_of 892 (by decide +kernel) rfl
theorem coX7_isCode : Cond.code yX7_isCode cX7_isCode 3 (some .boolean) ∈ zt := zt_of 815 (by decide +kernel) rfl
theorem stX7_isCode : Cond.static yX7_isCode ∈ zt := zt_of 814 (by decide +kernel) rfl
theorem coX7_addsPhrase : Cond.code yX7_addsPhrase cX7_addsPhrase 5 (some .int) ∈ zt := zt_of 808 (by decide +kernel) rfl
theorem imX7_addsPhrase : Cond.instanceMethod yX7_addsPhrase ∈ zt := zt_of 807 (by decide +kernel) rfl
theorem seX7_addsPhrase : Cond.selects yX7_addsPhrase.cls yX7_addsPhrase yX7_addsPhrase ∈ zt := zt_of 21 (by decide +kernel) rfl
theorem coX7_dropsPhrase : Cond.code yX7_dropsPhrase cX7_dropsPhrase 4 (some .int) ∈ zt := zt_of 841 (by decide +kernel) rfl
theorem imX7_dropsPhrase : Cond.instanceMethod yX7_dropsPhrase ∈ zt := zt_of 840 (by decide +kernel) rfl
theorem seX7_dropsPhrase : Cond.selects yX7_dropsPhrase.cls yX7_dropsPhrase yX7_dropsPhrase ∈ zt := zt_of 26 (by decide +kernel) rfl
theorem coX7_sets : Cond.code yX7_sets cX7_sets 6 (some .int) ∈ zt := zt_of 853 (by decide +kernel) rfl
theorem imX7_sets : Cond.instanceMethod yX7_sets ∈ zt := zt_of 852 (by decide +kernel) rfl
theorem seX7_sets : Cond.selects yX7_sets.cls yX7_sets yX7_sets ∈ zt := zt_of 28 (by decide +kernel) rfl
theorem coX7_setsFollows : Cond.code yX7_setsFollows cX7_setsFollows 3 (some .int) ∈ zt := zt_of 865 (by decide +kernel) rfl
theorem imX7_setsFollows : Cond.instanceMethod yX7_setsFollows ∈ zt := zt_of 864 (by decide +kernel) rfl
theorem seX7_setsFollows : Cond.selects yX7_setsFollows.cls yX7_setsFollows yX7_setsFollows ∈ zt := zt_of 29 (by decide +kernel) rfl
theorem coX7_setsMark : Cond.code yX7_setsMark cX7_setsMark 3 (some .int) ∈ zt := zt_of 877 (by decide +kernel) rfl
theorem imX7_setsMark : Cond.instanceMethod yX7_setsMark ∈ zt := zt_of 876 (by decide +kernel) rfl
theorem seX7_setsMark : Cond.selects yX7_setsMark.cls yX7_setsMark yX7_setsMark ∈ zt := zt_of 30 (by decide +kernel) rfl
theorem coX7_phrase : Cond.code yX7_phrase cX7_phrase 3 (some .int) ∈ zt := zt_of 800 (by decide +kernel) rfl
theorem imX7_phrase : Cond.instanceMethod yX7_phrase ∈ zt := zt_of 798 (by decide +kernel) rfl
theorem seX7_phrase : Cond.selects yX7_phrase.cls yX7_phrase yX7_phrase ∈ zt := zt_of 799 (by decide +kernel) rfl
theorem coX7_drops : Cond.code yX7_drops cX7_drops 2 (some .int) ∈ zt := zt_of 837 (by decide +kernel) rfl
theorem imX7_drops : Cond.instanceMethod yX7_drops ∈ zt := zt_of 835 (by decide +kernel) rfl
theorem seX7_drops : Cond.selects yX7_drops.cls yX7_drops yX7_drops ∈ zt := zt_of 836 (by decide +kernel) rfl
theorem coX7_begins : Cond.code yX7_begins cX7_begins 2 (some .int) ∈ zt := zt_of 849 (by decide +kernel) rfl
theorem imX7_begins : Cond.instanceMethod yX7_begins ∈ zt := zt_of 847 (by decide +kernel) rfl
theorem seX7_begins : Cond.selects yX7_begins.cls yX7_begins yX7_begins ∈ zt := zt_of 848 (by decide +kernel) rfl
theorem coX7_ends : Cond.code yX7_ends cX7_ends 2 (some .int) ∈ zt := zt_of 857 (by decide +kernel) rfl
theorem imX7_ends : Cond.instanceMethod yX7_ends ∈ zt := zt_of 855 (by decide +kernel) rfl
theorem seX7_ends : Cond.selects yX7_ends.cls yX7_ends yX7_ends ∈ zt := zt_of 856 (by decide +kernel) rfl
theorem coX7_follows : Cond.code yX7_follows cX7_follows 3 (some .int) ∈ zt := zt_of 861 (by decide +kernel) rfl
theorem imX7_follows : Cond.instanceMethod yX7_follows ∈ zt := zt_of 859 (by decide +kernel) rfl
theorem seX7_follows : Cond.selects yX7_follows.cls yX7_follows yX7_follows ∈ zt := zt_of 860 (by decide +kernel) rfl
theorem coX7_metre : Cond.code yX7_metre cX7_metre 2 (some .int) ∈ zt := zt_of 869 (by decide +kernel) rfl
theorem imX7_metre : Cond.instanceMethod yX7_metre ∈ zt := zt_of 867 (by decide +kernel) rfl
theorem seX7_metre : Cond.selects yX7_metre.cls yX7_metre yX7_metre ∈ zt := zt_of 868 (by decide +kernel) rfl
theorem coX7_marks : Cond.code yX7_marks cX7_marks 3 (some .int) ∈ zt := zt_of 873 (by decide +kernel) rfl
theorem imX7_marks : Cond.instanceMethod yX7_marks ∈ zt := zt_of 871 (by decide +kernel) rfl
theorem seX7_marks : Cond.selects yX7_marks.cls yX7_marks yX7_marks ∈ zt := zt_of 872 (by decide +kernel) rfl
theorem coX7_habitOf : Cond.code yX7_habitOf cX7_habitOf 3 (some .int) ∈ zt := zt_of 897 (by decide +kernel) rfl
theorem imX7_habitOf : Cond.instanceMethod yX7_habitOf ∈ zt := zt_of 896 (by decide +kernel) rfl
theorem seX7_habitOf : Cond.selects yX7_habitOf.cls yX7_habitOf yX7_habitOf ∈ zt := zt_of 32 (by decide +kernel) rfl
theorem coX7_tellPhrase : Cond.code yX7_tellPhrase cX7_tellPhrase 3 (some .int) ∈ zt := zt_of 887 (by decide +kernel) rfl
theorem imX7_tellPhrase : Cond.instanceMethod yX7_tellPhrase ∈ zt := zt_of 886 (by decide +kernel) rfl
theorem seX7_tellPhrase : Cond.selects yX7_tellPhrase.cls yX7_tellPhrase yX7_tellPhrase ∈ zt := zt_of 31 (by decide +kernel) rfl
theorem coX7_of : Cond.code yX7_of cX7_of 3 (some .int) ∈ zt := zt_of 882 (by decide +kernel) rfl
theorem imX7_of : Cond.instanceMethod yX7_of ∈ zt := zt_of 880 (by decide +kernel) rfl
theorem seX7_of : Cond.selects yX7_of.cls yX7_of yX7_of ∈ zt := zt_of 881 (by decide +kernel) rfl
theorem coX7_letter : Cond.code yX7_letter cX7_letter 2 (some .int) ∈ zt := zt_of 901 (by decide +kernel) rfl
theorem imX7_letter : Cond.instanceMethod yX7_letter ∈ zt := zt_of 899 (by decide +kernel) rfl
theorem seX7_letter : Cond.selects yX7_letter.cls yX7_letter yX7_letter ∈ zt := zt_of 900 (by decide +kernel) rfl
theorem coX7_wipes : Cond.code yX7_wipes cX7_wipes 2 (some .int) ∈ zt := zt_of 905 (by decide +kernel) rfl
theorem imX7_wipes : Cond.instanceMethod yX7_wipes ∈ zt := zt_of 903 (by decide +kernel) rfl
theorem seX7_wipes : Cond.selects yX7_wipes.cls yX7_wipes yX7_wipes ∈ zt := zt_of 904 (by decide +kernel) rfl
theorem coX7_lastPlace : Cond.code yX7_lastPlace cX7_lastPlace 1 (some .int) ∈ zt := zt_of 921 (by decide +kernel) rfl
theorem imX7_lastPlace : Cond.instanceMethod yX7_lastPlace ∈ zt := zt_of 920 (by decide +kernel) rfl
theorem seX7_lastPlace : Cond.selects yX7_lastPlace.cls yX7_lastPlace yX7_lastPlace ∈ zt := zt_of 35 (by decide +kernel) rfl
theorem coX7_standsAhead : Cond.code yX7_standsAhead cX7_standsAhead 6 (some .boolean) ∈ zt := zt_of 940 (by decide +kernel) rfl
theorem imX7_standsAhead : Cond.instanceMethod yX7_standsAhead ∈ zt := zt_of 939 (by decide +kernel) rfl
theorem seX7_standsAhead : Cond.selects yX7_standsAhead.cls yX7_standsAhead yX7_standsAhead ∈ zt := zt_of 39 (by decide +kernel) rfl
theorem coX7_isMark : Cond.code yX7_isMark cX7_isMark 3 (some .boolean) ∈ zt := zt_of 925 (by decide +kernel) rfl
theorem imX7_isMark : Cond.instanceMethod yX7_isMark ∈ zt := zt_of 924 (by decide +kernel) rfl
theorem seX7_isMark : Cond.selects yX7_isMark.cls yX7_isMark yX7_isMark ∈ zt := zt_of 36 (by decide +kernel) rfl
theorem coX7_leads : Cond.code yX7_leads cX7_leads 6 (some .int) ∈ zt := zt_of 936 (by decide +kernel) rfl
theorem imX7_leads : Cond.instanceMethod yX7_leads ∈ zt := zt_of 935 (by decide +kernel) rfl
theorem seX7_leads : Cond.selects yX7_leads.cls yX7_leads yX7_leads ∈ zt := zt_of 38 (by decide +kernel) rfl
theorem coX7_weightOf : Cond.code yX7_weightOf cX7_weightOf 3 (some .int) ∈ zt := zt_of 944 (by decide +kernel) rfl
theorem imX7_weightOf : Cond.instanceMethod yX7_weightOf ∈ zt := zt_of 943 (by decide +kernel) rfl
theorem seX7_weightOf : Cond.selects yX7_weightOf.cls yX7_weightOf yX7_weightOf ∈ zt := zt_of 40 (by decide +kernel) rfl
theorem coX7_more : Cond.code yX7_more cX7_more 7 (some .long) ∈ zt := zt_of 948 (by decide +kernel) rfl
theorem imX7_more : Cond.instanceMethod yX7_more ∈ zt := zt_of 947 (by decide +kernel) rfl
theorem seX7_more : Cond.selects yX7_more.cls yX7_more yX7_more ∈ zt := zt_of 41 (by decide +kernel) rfl
theorem coX7_sumFrom : Cond.code yX7_sumFrom cX7_sumFrom 8 (some .long) ∈ zt := zt_of 929 (by decide +kernel) rfl
theorem imX7_sumFrom : Cond.instanceMethod yX7_sumFrom ∈ zt := zt_of 928 (by decide +kernel) rfl
theorem seX7_sumFrom : Cond.selects yX7_sumFrom.cls yX7_sumFrom yX7_sumFrom ∈ zt := zt_of 37 (by decide +kernel) rfl
theorem coX7_laysWays : Cond.code yX7_laysWays cX7_laysWays 7 (some .long) ∈ zt := zt_of 917 (by decide +kernel) rfl
theorem imX7_laysWays : Cond.instanceMethod yX7_laysWays ∈ zt := zt_of 916 (by decide +kernel) rfl
theorem seX7_laysWays : Cond.selects yX7_laysWays.cls yX7_laysWays yX7_laysWays ∈ zt := zt_of 34 (by decide +kernel) rfl
theorem coX7_waysOr : Cond.code yX7_waysOr cX7_waysOr 5 (some .long) ∈ zt := zt_of 913 (by decide +kernel) rfl
theorem imX7_waysOr : Cond.instanceMethod yX7_waysOr ∈ zt := zt_of 912 (by decide +kernel) rfl
theorem seX7_waysOr : Cond.selects yX7_waysOr.cls yX7_waysOr yX7_waysOr ∈ zt := zt_of 33 (by decide +kernel) rfl
theorem coX7_cuts : Cond.code yX7_cuts cX7_cuts 3 (some .long) ∈ zt := zt_of 909 (by decide +kernel) rfl
theorem imX7_cuts : Cond.instanceMethod yX7_cuts ∈ zt := zt_of 907 (by decide +kernel) rfl
theorem seX7_cuts : Cond.selects yX7_cuts.cls yX7_cuts yX7_cuts ∈ zt := zt_of 908 (by decide +kernel) rfl
theorem coX7_made : Cond.code yX7_made cX7_made 3 (some .long) ∈ zt := zt_of 958 (by decide +kernel) rfl
theorem imX7_made : Cond.instanceMethod yX7_made ∈ zt := zt_of 956 (by decide +kernel) rfl
theorem seX7_made : Cond.selects yX7_made.cls yX7_made yX7_made ∈ zt := zt_of 957 (by decide +kernel) rfl
theorem coX7_goes : Cond.code yX7_goes cX7_goes 13 none ∈ zt := zt_of 966 (by decide +kernel) rfl
theorem imX7_goes : Cond.instanceMethod yX7_goes ∈ zt := zt_of 965 (by decide +kernel) rfl
theorem seX7_goes : Cond.selects yX7_goes.cls yX7_goes yX7_goes ∈ zt := zt_of 43 (by decide +kernel) rfl
theorem coX7_tellRow : Cond.code yX7_tellRow cX7_tellRow 2 (some .int) ∈ zt := zt_of 970 (by decide +kernel) rfl
theorem imX7_tellRow : Cond.instanceMethod yX7_tellRow ∈ zt := zt_of 969 (by decide +kernel) rfl
theorem seX7_tellRow : Cond.selects yX7_tellRow.cls yX7_tellRow yX7_tellRow ∈ zt := zt_of 44 (by decide +kernel) rfl
theorem coX7_row : Cond.code yX7_row cX7_row 6 (some .int) ∈ zt := zt_of 962 (by decide +kernel) rfl
theorem imX7_row : Cond.instanceMethod yX7_row ∈ zt := zt_of 960 (by decide +kernel) rfl
theorem seX7_row : Cond.selects yX7_row.cls yX7_row yX7_row ∈ zt := zt_of 961 (by decide +kernel) rfl
theorem coX7_isMaker : Cond.code yX7_isMaker cX7_isMaker 1 (some .boolean) ∈ zt := zt_of 977 (by decide +kernel) rfl
theorem stX7_isMaker : Cond.static yX7_isMaker ∈ zt := zt_of 976 (by decide +kernel) rfl
theorem coX7_weightFrom : Cond.code yX7_weightFrom cX7_weightFrom 4 (some .long) ∈ zt := zt_of 983 (by decide +kernel) rfl
theorem imX7_weightFrom : Cond.instanceMethod yX7_weightFrom ∈ zt := zt_of 982 (by decide +kernel) rfl
theorem seX7_weightFrom : Cond.selects yX7_weightFrom.cls yX7_weightFrom yX7_weightFrom ∈ zt := zt_of 45 (by decide +kernel) rfl
theorem coX7_weight : Cond.code yX7_weight cX7_weight 5 (some .long) ∈ zt := zt_of 974 (by decide +kernel) rfl
theorem imX7_weight : Cond.instanceMethod yX7_weight ∈ zt := zt_of 972 (by decide +kernel) rfl
theorem seX7_weight : Cond.selects yX7_weight.cls yX7_weight yX7_weight ∈ zt := zt_of 973 (by decide +kernel) rfl
theorem coX7_picks : Cond.code yX7_picks cX7_picks 8 (some .int) ∈ zt := zt_of 987 (by decide +kernel) rfl
theorem imX7_picks : Cond.instanceMethod yX7_picks ∈ zt := zt_of 985 (by decide +kernel) rfl
theorem seX7_picks : Cond.selects yX7_picks.cls yX7_picks yX7_picks ∈ zt := zt_of 986 (by decide +kernel) rfl
theorem coX7_dearest : Cond.code yX7_dearest cX7_dearest 11 (some .int) ∈ zt := zt_of 1007 (by decide +kernel) rfl
theorem imX7_dearest : Cond.instanceMethod yX7_dearest ∈ zt := zt_of 1006 (by decide +kernel) rfl
theorem seX7_dearest : Cond.selects yX7_dearest.cls yX7_dearest yX7_dearest ∈ zt := zt_of 48 (by decide +kernel) rfl
theorem coX7_laysBest : Cond.code yX7_laysBest cX7_laysBest 7 none ∈ zt := zt_of 1003 (by decide +kernel) rfl
theorem imX7_laysBest : Cond.instanceMethod yX7_laysBest ∈ zt := zt_of 1002 (by decide +kernel) rfl
theorem seX7_laysBest : Cond.selects yX7_laysBest.cls yX7_laysBest yX7_laysBest ∈ zt := zt_of 47 (by decide +kernel) rfl
theorem coX7_findsBest : Cond.code yX7_findsBest cX7_findsBest 5 (some .int) ∈ zt := zt_of 999 (by decide +kernel) rfl
theorem imX7_findsBest : Cond.instanceMethod yX7_findsBest ∈ zt := zt_of 998 (by decide +kernel) rfl
theorem seX7_findsBest : Cond.selects yX7_findsBest.cls yX7_findsBest yX7_findsBest ∈ zt := zt_of 46 (by decide +kernel) rfl
theorem coX7_best : Cond.code yX7_best cX7_best 4 (some .int) ∈ zt := zt_of 995 (by decide +kernel) rfl
theorem imX7_best : Cond.instanceMethod yX7_best ∈ zt := zt_of 993 (by decide +kernel) rfl
theorem seX7_best : Cond.selects yX7_best.cls yX7_best yX7_best ∈ zt := zt_of 994 (by decide +kernel) rfl
theorem coX7_singsOne : Cond.code yX7_singsOne cX7_singsOne 3 (some .int) ∈ zt := zt_of 1015 (by decide +kernel) rfl
theorem imX7_singsOne : Cond.instanceMethod yX7_singsOne ∈ zt := zt_of 1014 (by decide +kernel) rfl
theorem seX7_singsOne : Cond.selects yX7_singsOne.cls yX7_singsOne yX7_singsOne ∈ zt := zt_of 49 (by decide +kernel) rfl
theorem coX7_sings : Cond.code yX7_sings cX7_sings 2 (some .int) ∈ zt := zt_of 1011 (by decide +kernel) rfl
theorem imX7_sings : Cond.instanceMethod yX7_sings ∈ zt := zt_of 1009 (by decide +kernel) rfl
theorem seX7_sings : Cond.selects yX7_sings.cls yX7_sings yX7_sings ∈ zt := zt_of 1010 (by decide +kernel) rfl
theorem coX7_fixesTo : Cond.code yX7_fixesTo cX7_fixesTo 7 (some .int) ∈ zt := zt_of 1023 (by decide +kernel) rfl
theorem imX7_fixesTo : Cond.instanceMethod yX7_fixesTo ∈ zt := zt_of 1022 (by decide +kernel) rfl
theorem seX7_fixesTo : Cond.selects yX7_fixesTo.cls yX7_fixesTo yX7_fixesTo ∈ zt := zt_of 50 (by decide +kernel) rfl
theorem coX7_fixes : Cond.code yX7_fixes cX7_fixes 3 (some .int) ∈ zt := zt_of 1019 (by decide +kernel) rfl
theorem imX7_fixes : Cond.instanceMethod yX7_fixes ∈ zt := zt_of 1017 (by decide +kernel) rfl
theorem seX7_fixes : Cond.selects yX7_fixes.cls yX7_fixes yX7_fixes ∈ zt := zt_of 1018 (by decide +kernel) rfl
theorem coX7_type : Cond.code yX7_type cX7_type 2 (some .int) ∈ zt := zt_of 1027 (by decide +kernel) rfl
theorem imX7_type : Cond.instanceMethod yX7_type ∈ zt := zt_of 1025 (by decide +kernel) rfl
theorem seX7_type : Cond.selects yX7_type.cls yX7_type yX7_type ∈ zt := zt_of 1026 (by decide +kernel) rfl
theorem coX7_clear : Cond.code yX7_clear cX7_clear 2 (some .int) ∈ zt := zt_of 1032 (by decide +kernel) rfl
theorem imX7_clear : Cond.instanceMethod yX7_clear ∈ zt := zt_of 1030 (by decide +kernel) rfl
theorem seX7_clear : Cond.selects yX7_clear.cls yX7_clear yX7_clear ∈ zt := zt_of 1031 (by decide +kernel) rfl
theorem coX7_isAt : Cond.code yX7_isAt cX7_isAt 3 (some .boolean) ∈ zt := zt_of 1048 (by decide +kernel) rfl
theorem imX7_isAt : Cond.instanceMethod yX7_isAt ∈ zt := zt_of 1047 (by decide +kernel) rfl
theorem seX7_isAt : Cond.selects yX7_isAt.cls yX7_isAt yX7_isAt ∈ zt := zt_of 53 (by decide +kernel) rfl
theorem coX7_blanks : Cond.code yX7_blanks cX7_blanks 1 none ∈ zt := zt_of 1044 (by decide +kernel) rfl
theorem imX7_blanks : Cond.instanceMethod yX7_blanks ∈ zt := zt_of 1043 (by decide +kernel) rfl
theorem seX7_blanks : Cond.selects yX7_blanks.cls yX7_blanks yX7_blanks ∈ zt := zt_of 52 (by decide +kernel) rfl
theorem coX7_number : Cond.code yX7_number cX7_number 3 (some .int) ∈ zt := zt_of 1063 (by decide +kernel) rfl
theorem imX7_number : Cond.instanceMethod yX7_number ∈ zt := zt_of 1062 (by decide +kernel) rfl
theorem seX7_number : Cond.selects yX7_number.cls yX7_number yX7_number ∈ zt := zt_of 56 (by decide +kernel) rfl
theorem coX7_passesLetters : Cond.code yX7_passesLetters cX7_passesLetters 4 (some .int) ∈ zt := zt_of 1067 (by decide +kernel) rfl
theorem imX7_passesLetters : Cond.instanceMethod yX7_passesLetters ∈ zt := zt_of 1066 (by decide +kernel) rfl
theorem seX7_passesLetters : Cond.selects yX7_passesLetters.cls yX7_passesLetters yX7_passesLetters ∈ zt := zt_of 57 (by decide +kernel) rfl
theorem coX7_manyOf : Cond.code yX7_manyOf cX7_manyOf 1 (some .int) ∈ zt := zt_of 1055 (by decide +kernel) rfl
theorem stX7_manyOf : Cond.static yX7_manyOf ∈ zt := zt_of 1054 (by decide +kernel) rfl
theorem coX7_readsParts : Cond.code yX7_readsParts cX7_readsParts 4 none ∈ zt := zt_of 1059 (by decide +kernel) rfl
theorem imX7_readsParts : Cond.instanceMethod yX7_readsParts ∈ zt := zt_of 1058 (by decide +kernel) rfl
theorem seX7_readsParts : Cond.selects yX7_readsParts.cls yX7_readsParts yX7_readsParts ∈ zt := zt_of 55 (by decide +kernel) rfl
theorem coX7_readsOrder : Cond.code yX7_readsOrder cX7_readsOrder 3 none ∈ zt := zt_of 1052 (by decide +kernel) rfl
theorem imX7_readsOrder : Cond.instanceMethod yX7_readsOrder ∈ zt := zt_of 1051 (by decide +kernel) rfl
theorem seX7_readsOrder : Cond.selects yX7_readsOrder.cls yX7_readsOrder yX7_readsOrder ∈ zt := zt_of 54 (by decide +kernel) rfl
theorem coX7_isRead : Cond.code yX7_isRead cX7_isRead 1 (some .boolean) ∈ zt := zt_of 1040 (by decide +kernel) rfl
theorem imX7_isRead : Cond.instanceMethod yX7_isRead ∈ zt := zt_of 1039 (by decide +kernel) rfl
theorem seX7_isRead : Cond.selects yX7_isRead.cls yX7_isRead yX7_isRead ∈ zt := zt_of 51 (by decide +kernel) rfl
theorem coX7_isLetter : Cond.code yX7_isLetter cX7_isLetter 2 (some .boolean) ∈ zt := zt_of 1079 (by decide +kernel) rfl
theorem imX7_isLetter : Cond.instanceMethod yX7_isLetter ∈ zt := zt_of 1078 (by decide +kernel) rfl
theorem seX7_isLetter : Cond.selects yX7_isLetter.cls yX7_isLetter yX7_isLetter ∈ zt := zt_of 60 (by decide +kernel) rfl
theorem coX7_codeFrom : Cond.code yX7_codeFrom cX7_codeFrom 4 (some .int) ∈ zt := zt_of 1075 (by decide +kernel) rfl
theorem imX7_codeFrom : Cond.instanceMethod yX7_codeFrom ∈ zt := zt_of 1074 (by decide +kernel) rfl
theorem seX7_codeFrom : Cond.selects yX7_codeFrom.cls yX7_codeFrom yX7_codeFrom ∈ zt := zt_of 59 (by decide +kernel) rfl
theorem coX7_setsLine : Cond.code yX7_setsLine cX7_setsLine 3 (some .int) ∈ zt := zt_of 1085 (by decide +kernel) rfl
theorem imX7_setsLine : Cond.instanceMethod yX7_setsLine ∈ zt := zt_of 1084 (by decide +kernel) rfl
theorem seX7_setsLine : Cond.selects yX7_setsLine.cls yX7_setsLine yX7_setsLine ∈ zt := zt_of 61 (by decide +kernel) rfl
theorem coX7_doesOrder : Cond.code yX7_doesOrder cX7_doesOrder 4 (some .int) ∈ zt := zt_of 1071 (by decide +kernel) rfl
theorem imX7_doesOrder : Cond.instanceMethod yX7_doesOrder ∈ zt := zt_of 1070 (by decide +kernel) rfl
theorem seX7_doesOrder : Cond.selects yX7_doesOrder.cls yX7_doesOrder yX7_doesOrder ∈ zt := zt_of 58 (by decide +kernel) rfl
theorem coX7_reads : Cond.code yX7_reads cX7_reads 3 (some .int) ∈ zt := zt_of 1036 (by decide +kernel) rfl
theorem imX7_reads : Cond.instanceMethod yX7_reads ∈ zt := zt_of 1034 (by decide +kernel) rfl
theorem seX7_reads : Cond.selects yX7_reads.cls yX7_reads yX7_reads ∈ zt := zt_of 1035 (by decide +kernel) rfl
theorem coX7_toldOf : Cond.code yX7_toldOf cX7_toldOf 2 (some .int) ∈ zt := zt_of 1094 (by decide +kernel) rfl
theorem imX7_toldOf : Cond.instanceMethod yX7_toldOf ∈ zt := zt_of 1093 (by decide +kernel) rfl
theorem seX7_toldOf : Cond.selects yX7_toldOf.cls yX7_toldOf yX7_toldOf ∈ zt := zt_of 62 (by decide +kernel) rfl
theorem coX7_told : Cond.code yX7_told cX7_told 2 (some .int) ∈ zt := zt_of 1089 (by decide +kernel) rfl
theorem imX7_told : Cond.instanceMethod yX7_told ∈ zt := zt_of 1087 (by decide +kernel) rfl
theorem seX7_told : Cond.selects yX7_told.cls yX7_told yX7_told ∈ zt := zt_of 1088 (by decide +kernel) rfl
theorem coX7_mix : Cond.code yX7_mix cX7_mix 3 none ∈ zt := zt_of 1103 (by decide +kernel) rfl
theorem imX7_mix : Cond.instanceMethod yX7_mix ∈ zt := zt_of 1102 (by decide +kernel) rfl
theorem seX7_mix : Cond.selects yX7_mix.cls yX7_mix yX7_mix ∈ zt := zt_of 63 (by decide +kernel) rfl
theorem coX7_digest : Cond.code yX7_digest cX7_digest 3 (some .long) ∈ zt := zt_of 1098 (by decide +kernel) rfl
theorem imX7_digest : Cond.instanceMethod yX7_digest ∈ zt := zt_of 1096 (by decide +kernel) rfl
theorem seX7_digest : Cond.selects yX7_digest.cls yX7_digest yX7_digest ∈ zt := zt_of 1097 (by decide +kernel) rfl
theorem coJ9_max_f86c9 : Cond.code yJ9_max_f86c9 cJ9_max_f86c9 4 (some .long) ∈ zt := zt_of 596 (by decide +kernel) rfl
theorem stJ9_max_f86c9 : Cond.static yJ9_max_f86c9 ∈ zt := zt_of 595 (by decide +kernel) rfl
theorem coJ9_min_7cf53 : Cond.code yJ9_min_7cf53 cJ9_min_7cf53 2 (some .int) ∈ zt := zt_of 334 (by decide +kernel) rfl
theorem stJ9_min_7cf53 : Cond.static yJ9_min_7cf53 ∈ zt := zt_of 333 (by decide +kernel) rfl
theorem coJ7_fill_d0a16 : Cond.code yJ7_fill_d0a16 cJ7_fill_d0a16 5 none ∈ zt := zt_of 473 (by decide +kernel) rfl
theorem stJ7_fill_d0a16 : Cond.static yJ7_fill_d0a16 ∈ zt := zt_of 472 (by decide +kernel) rfl
theorem coJ7_fill_53178 : Cond.code yJ7_fill_53178 cJ7_fill_53178 4 none ∈ zt := zt_of 92 (by decide +kernel) rfl
theorem stJ7_fill_53178 : Cond.static yJ7_fill_53178 ∈ zt := zt_of 91 (by decide +kernel) rfl
