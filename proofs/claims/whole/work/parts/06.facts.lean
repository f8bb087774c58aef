def shCL : List (Nat × Nat) := [(13, 18), (12, 9), (0, 16), (0, 16), (0, 16), (0, 16), (0, 16), (12, 9), (0, 16), (0, 16), (0, 16), (0, 16), (0, 16), (12, 9), (0, 16), (0, 16), (0, 16), (0, 16), (0, 16), (11, 3), (0, 24), (0, 2), (0, 16), (10, 5), (0, 260), (8, 2), (4, 7), (0, 16), (9, 2), (0, 60), (9, 2), (0, 60), (9, 2), (0, 60), (3, 1), (0, 3721), (5, 4), (0, 81), (0, 8), (2, 5), (0, 12), (0, 24), (6, 11), (0, 240), (0, 240), (0, 16), (0, 16), (0, 16), (0, 16), (0, 11), (0, 64), (6, 11), (0, 240), (0, 240), (0, 16), (0, 16), (0, 16), (0, 16), (0, 11), (0, 64), (7, 2)]
def fkCL : List (List Nat) := [[3, 9, 15, 21, 25, 27, 28, 30, 32, 34, 36, 38, 41, 43, 1, 1, 62, 0], [4, 5, 6, 7, 8, 0, 0, 0, 0], [], [], [], [], [], [10, 11, 12, 13, 14, 0, 0, 0, 0], [], [], [], [], [], [16, 17, 18, 19, 20, 0, 0, 0, 0], [], [], [], [], [], [22, 23, 24], [], [], [], [26, 0, 0, 0, 0], [], [25, 0], [21, 29, 0, 0, 0, 0, 0], [], [31, 0], [], [33, 0], [], [35, 0], [], [37], [], [39, 40, 0, 0], [], [], [42, 0, 0, 0, 0], [], [], [45, 46, 47, 48, 49, 50, 51, 52, 0, 0, 0], [], [], [], [], [], [], [], [], [54, 55, 56, 57, 58, 59, 60, 61, 0, 0, 0], [], [], [], [], [], [], [], [], [25, 1]]
def wC : ZS := (61, fun k => shCL.getD k (0, 0), fun k j => (fkCL.getD k []).getD j 0)
theorem sC_0 : wC.2.1 0 = (13, 18) := rfl
theorem lC_0 : 0 < wC.1 := by decide
theorem sC_1 : wC.2.1 1 = (12, 9) := rfl
theorem lC_1 : 1 < wC.1 := by decide
theorem sC_2 : wC.2.1 2 = (0, 16) := rfl
theorem lC_2 : 2 < wC.1 := by decide
theorem sC_3 : wC.2.1 3 = (0, 16) := rfl
theorem lC_3 : 3 < wC.1 := by decide
theorem sC_4 : wC.2.1 4 = (0, 16) := rfl
theorem lC_4 : 4 < wC.1 := by decide
theorem sC_5 : wC.2.1 5 = (0, 16) := rfl
theorem lC_5 : 5 < wC.1 := by decide
theorem sC_6 : wC.2.1 6 = (0, 16) := rfl
theorem lC_6 : 6 < wC.1 := by decide
theorem sC_7 : wC.2.1 7 = (12, 9) := rfl
theorem lC_7 : 7 < wC.1 := by decide
theorem sC_8 : wC.2.1 8 = (0, 16) := rfl
theorem lC_8 : 8 < wC.1 := by decide
theorem sC_9 : wC.2.1 9 = (0, 16) := rfl
theorem lC_9 : 9 < wC.1 := by decide
theorem sC_10 : wC.2.1 10 = (0, 16) := rfl
theorem lC_10 : 10 < wC.1 := by decide
theorem sC_11 : wC.2.1 11 = (0, 16) := rfl
theorem lC_11 : 11 < wC.1 := by decide
theorem sC_12 : wC.2.1 12 = (0, 16) := rfl
theorem lC_12 : 12 < wC.1 := by decide
theorem sC_13 : wC.2.1 13 = (12, 9) := rfl
theorem lC_13 : 13 < wC.1 := by decide
theorem sC_14 : wC.2.1 14 = (0, 16) := rfl
theorem lC_14 : 14 < wC.1 := by decide
theorem sC_15 : wC.2.1 15 = (0, 16) := rfl
theorem lC_15 : 15 < wC.1 := by decide
theorem sC_16 : wC.2.1 16 = (0, 16) := rfl
theorem lC_16 : 16 < wC.1 := by decide
theorem sC_17 : wC.2.1 17 = (0, 16) := rfl
theorem lC_17 : 17 < wC.1 := by decide
theorem sC_18 : wC.2.1 18 = (0, 16) := rfl
theorem lC_18 : 18 < wC.1 := by decide
theorem sC_19 : wC.2.1 19 = (11, 3) := rfl
theorem lC_19 : 19 < wC.1 := by decide
theorem sC_20 : wC.2.1 20 = (0, 24) := rfl
theorem lC_20 : 20 < wC.1 := by decide
theorem sC_21 : wC.2.1 21 = (0, 2) := rfl
theorem lC_21 : 21 < wC.1 := by decide
theorem sC_22 : wC.2.1 22 = (0, 16) := rfl
theorem lC_22 : 22 < wC.1 := by decide
theorem sC_23 : wC.2.1 23 = (10, 5) := rfl
theorem lC_23 : 23 < wC.1 := by decide
theorem sC_24 : wC.2.1 24 = (0, 260) := rfl
theorem lC_24 : 24 < wC.1 := by decide
theorem sC_25 : wC.2.1 25 = (8, 2) := rfl
theorem lC_25 : 25 < wC.1 := by decide
theorem sC_26 : wC.2.1 26 = (4, 7) := rfl
theorem lC_26 : 26 < wC.1 := by decide
theorem sC_27 : wC.2.1 27 = (0, 16) := rfl
theorem lC_27 : 27 < wC.1 := by decide
theorem sC_28 : wC.2.1 28 = (9, 2) := rfl
theorem lC_28 : 28 < wC.1 := by decide
theorem sC_29 : wC.2.1 29 = (0, 60) := rfl
theorem lC_29 : 29 < wC.1 := by decide
theorem sC_30 : wC.2.1 30 = (9, 2) := rfl
theorem lC_30 : 30 < wC.1 := by decide
theorem sC_31 : wC.2.1 31 = (0, 60) := rfl
theorem lC_31 : 31 < wC.1 := by decide
theorem sC_32 : wC.2.1 32 = (9, 2) := rfl
theorem lC_32 : 32 < wC.1 := by decide
theorem sC_33 : wC.2.1 33 = (0, 60) := rfl
theorem lC_33 : 33 < wC.1 := by decide
theorem sC_34 : wC.2.1 34 = (3, 1) := rfl
theorem lC_34 : 34 < wC.1 := by decide
theorem sC_35 : wC.2.1 35 = (0, 3721) := rfl
theorem lC_35 : 35 < wC.1 := by decide
theorem sC_36 : wC.2.1 36 = (5, 4) := rfl
theorem lC_36 : 36 < wC.1 := by decide
theorem sC_37 : wC.2.1 37 = (0, 81) := rfl
theorem lC_37 : 37 < wC.1 := by decide
theorem sC_38 : wC.2.1 38 = (0, 8) := rfl
theorem lC_38 : 38 < wC.1 := by decide
theorem sC_39 : wC.2.1 39 = (2, 5) := rfl
theorem lC_39 : 39 < wC.1 := by decide
theorem sC_40 : wC.2.1 40 = (0, 12) := rfl
theorem lC_40 : 40 < wC.1 := by decide
theorem sC_41 : wC.2.1 41 = (0, 24) := rfl
theorem lC_41 : 41 < wC.1 := by decide
theorem sC_42 : wC.2.1 42 = (6, 11) := rfl
theorem lC_42 : 42 < wC.1 := by decide
theorem sC_43 : wC.2.1 43 = (0, 240) := rfl
theorem lC_43 : 43 < wC.1 := by decide
theorem sC_44 : wC.2.1 44 = (0, 240) := rfl
theorem lC_44 : 44 < wC.1 := by decide
theorem sC_45 : wC.2.1 45 = (0, 16) := rfl
theorem lC_45 : 45 < wC.1 := by decide
theorem sC_46 : wC.2.1 46 = (0, 16) := rfl
theorem lC_46 : 46 < wC.1 := by decide
theorem sC_47 : wC.2.1 47 = (0, 16) := rfl
theorem lC_47 : 47 < wC.1 := by decide
theorem sC_48 : wC.2.1 48 = (0, 16) := rfl
theorem lC_48 : 48 < wC.1 := by decide
theorem sC_49 : wC.2.1 49 = (0, 11) := rfl
theorem lC_49 : 49 < wC.1 := by decide
theorem sC_50 : wC.2.1 50 = (0, 64) := rfl
theorem lC_50 : 50 < wC.1 := by decide
theorem sC_51 : wC.2.1 51 = (6, 11) := rfl
theorem lC_51 : 51 < wC.1 := by decide
theorem sC_52 : wC.2.1 52 = (0, 240) := rfl
theorem lC_52 : 52 < wC.1 := by decide
theorem sC_53 : wC.2.1 53 = (0, 240) := rfl
theorem lC_53 : 53 < wC.1 := by decide
theorem sC_54 : wC.2.1 54 = (0, 16) := rfl
theorem lC_54 : 54 < wC.1 := by decide
theorem sC_55 : wC.2.1 55 = (0, 16) := rfl
theorem lC_55 : 55 < wC.1 := by decide
theorem sC_56 : wC.2.1 56 = (0, 16) := rfl
theorem lC_56 : 56 < wC.1 := by decide
theorem sC_57 : wC.2.1 57 = (0, 16) := rfl
theorem lC_57 : 57 < wC.1 := by decide
theorem sC_58 : wC.2.1 58 = (0, 11) := rfl
theorem lC_58 : 58 < wC.1 := by decide
theorem sC_59 : wC.2.1 59 = (0, 64) := rfl
theorem lC_59 : 59 < wC.1 := by decide
theorem sC_60 : wC.2.1 60 = (7, 2) := rfl
theorem lC_60 : 60 < wC.1 := by decide
theorem fC_0_0 : wC.2.2 0 0 = 1 + 2 := rfl
theorem fC_0_1 : wC.2.2 0 1 = 7 + 2 := rfl
theorem fC_0_2 : wC.2.2 0 2 = 13 + 2 := rfl
theorem fC_0_3 : wC.2.2 0 3 = 19 + 2 := rfl
theorem fC_0_4 : wC.2.2 0 4 = 23 + 2 := rfl
theorem fC_0_5 : wC.2.2 0 5 = 25 + 2 := rfl
theorem fC_0_6 : wC.2.2 0 6 = 26 + 2 := rfl
theorem fC_0_7 : wC.2.2 0 7 = 28 + 2 := rfl
theorem fC_0_8 : wC.2.2 0 8 = 30 + 2 := rfl
theorem fC_0_9 : wC.2.2 0 9 = 32 + 2 := rfl
theorem fC_0_10 : wC.2.2 0 10 = 34 + 2 := rfl
theorem fC_0_11 : wC.2.2 0 11 = 36 + 2 := rfl
theorem fC_0_12 : wC.2.2 0 12 = 39 + 2 := rfl
theorem fC_0_13 : wC.2.2 0 13 = 41 + 2 := rfl
theorem fC_0_14 : wC.2.2 0 14 = 1 := rfl
theorem fC_0_15 : wC.2.2 0 15 = 1 := rfl
theorem fC_0_16 : wC.2.2 0 16 = 60 + 2 := rfl
theorem fC_0_17 : wC.2.2 0 17 = 0 := rfl
theorem fC_1_0 : wC.2.2 1 0 = 2 + 2 := rfl
theorem fC_1_1 : wC.2.2 1 1 = 3 + 2 := rfl
theorem fC_1_2 : wC.2.2 1 2 = 4 + 2 := rfl
theorem fC_1_3 : wC.2.2 1 3 = 5 + 2 := rfl
theorem fC_1_4 : wC.2.2 1 4 = 6 + 2 := rfl
theorem fC_1_5 : wC.2.2 1 5 = 0 := rfl
theorem fC_1_6 : wC.2.2 1 6 = 0 := rfl
theorem fC_1_7 : wC.2.2 1 7 = 0 := rfl
theorem fC_1_8 : wC.2.2 1 8 = 0 := rfl
theorem fC_13_1 : wC.2.2 13 1 = 15 + 2 := rfl
theorem fC_13_2 : wC.2.2 13 2 = 16 + 2 := rfl
theorem fC_13_4 : wC.2.2 13 4 = 18 + 2 := rfl
theorem fC_13_8 : wC.2.2 13 8 = 0 := rfl
theorem fC_19_0 : wC.2.2 19 0 = 20 + 2 := rfl
theorem fC_19_1 : wC.2.2 19 1 = 21 + 2 := rfl
theorem fC_19_2 : wC.2.2 19 2 = 22 + 2 := rfl
theorem fC_23_0 : wC.2.2 23 0 = 24 + 2 := rfl
theorem fC_23_1 : wC.2.2 23 1 = 0 := rfl
theorem fC_23_2 : wC.2.2 23 2 = 0 := rfl
theorem fC_23_3 : wC.2.2 23 3 = 0 := rfl
theorem fC_23_4 : wC.2.2 23 4 = 0 := rfl
theorem fC_25_0 : wC.2.2 25 0 = 23 + 2 := rfl
theorem fC_25_1 : wC.2.2 25 1 = 0 := rfl
theorem fC_26_0 : wC.2.2 26 0 = 19 + 2 := rfl
theorem fC_26_1 : wC.2.2 26 1 = 27 + 2 := rfl
theorem fC_26_2 : wC.2.2 26 2 = 0 := rfl
theorem fC_26_3 : wC.2.2 26 3 = 0 := rfl
theorem fC_26_4 : wC.2.2 26 4 = 0 := rfl
theorem fC_26_5 : wC.2.2 26 5 = 0 := rfl
theorem fC_26_6 : wC.2.2 26 6 = 0 := rfl
theorem fC_28_0 : wC.2.2 28 0 = 29 + 2 := rfl
theorem fC_28_1 : wC.2.2 28 1 = 0 := rfl
theorem fC_30_0 : wC.2.2 30 0 = 31 + 2 := rfl
theorem fC_30_1 : wC.2.2 30 1 = 0 := rfl
theorem fC_34_0 : wC.2.2 34 0 = 35 + 2 := rfl
theorem fC_36_0 : wC.2.2 36 0 = 37 + 2 := rfl
theorem fC_36_1 : wC.2.2 36 1 = 38 + 2 := rfl
theorem fC_36_2 : wC.2.2 36 2 = 0 := rfl
theorem fC_36_3 : wC.2.2 36 3 = 0 := rfl
theorem fC_39_0 : wC.2.2 39 0 = 40 + 2 := rfl
theorem fC_39_1 : wC.2.2 39 1 = 0 := rfl
theorem fC_39_2 : wC.2.2 39 2 = 0 := rfl
theorem fC_39_3 : wC.2.2 39 3 = 0 := rfl
theorem fC_39_4 : wC.2.2 39 4 = 0 := rfl
theorem fC_60_0 : wC.2.2 60 0 = 23 + 2 := rfl
theorem fC_60_1 : wC.2.2 60 1 = 1 := rfl
def shML : List (Nat × Nat) := [(14, 62), (0, 100), (0, 100), (0, 100), (0, 2), (0, 24), (1, 260), (0, 260), (0, 260), (0, 16), (0, 16), (0, 16), (0, 16), (0, 260), (0, 16), (0, 16), (0, 16), (0, 16), (0, 260), (0, 11), (1, 120), (0, 2), (0, 60), (0, 2), (0, 2), (0, 2), (0, 16), (0, 2304), (0, 24), (1, 3721), (0, 13), (0, 13), (0, 13), (0, 13), (0, 13), (0, 13), (0, 10), (0, 8)]
def fkML : List (List Nat) := [[3, 4, 5, 6, 7, 8, 0, 0, 0, 0, 0, 0, 0, 0, 0, 0, 9, 10, 11, 12, 13, 14, 15, 16, 17, 18, 19, 20, 21, 0, 22, 23, 24, 25, 26, 27, 0, 0, 0, 0, 0, 0, 0, 0, 0, 0, 28, 29, 30, 31, 32, 33, 34, 35, 36, 37, 0, 0, 0, 38, 39, 0], [], [], [], [], [], [], [], [], [], [], [], [], [], [], [], [], [], [], [], [], [], [], [], [], [], [], [], [], [], [], [], [], [], [], [], [], []]
def wM : ZS := (38, fun k => shML.getD k (0, 0), fun k j => (fkML.getD k []).getD j 0)
theorem sM_0 : wM.2.1 0 = (14, 62) := rfl
theorem lM_0 : 0 < wM.1 := by decide
theorem sM_1 : wM.2.1 1 = (0, 100) := rfl
theorem lM_1 : 1 < wM.1 := by decide
theorem sM_2 : wM.2.1 2 = (0, 100) := rfl
theorem lM_2 : 2 < wM.1 := by decide
theorem sM_3 : wM.2.1 3 = (0, 100) := rfl
theorem lM_3 : 3 < wM.1 := by decide
theorem sM_4 : wM.2.1 4 = (0, 2) := rfl
theorem lM_4 : 4 < wM.1 := by decide
theorem sM_5 : wM.2.1 5 = (0, 24) := rfl
theorem lM_5 : 5 < wM.1 := by decide
theorem sM_6 : wM.2.1 6 = (1, 260) := rfl
theorem lM_6 : 6 < wM.1 := by decide
theorem sM_7 : wM.2.1 7 = (0, 260) := rfl
theorem lM_7 : 7 < wM.1 := by decide
theorem sM_8 : wM.2.1 8 = (0, 260) := rfl
theorem lM_8 : 8 < wM.1 := by decide
theorem sM_9 : wM.2.1 9 = (0, 16) := rfl
theorem lM_9 : 9 < wM.1 := by decide
theorem sM_10 : wM.2.1 10 = (0, 16) := rfl
theorem lM_10 : 10 < wM.1 := by decide
theorem sM_11 : wM.2.1 11 = (0, 16) := rfl
theorem lM_11 : 11 < wM.1 := by decide
theorem sM_12 : wM.2.1 12 = (0, 16) := rfl
theorem lM_12 : 12 < wM.1 := by decide
theorem sM_13 : wM.2.1 13 = (0, 260) := rfl
theorem lM_13 : 13 < wM.1 := by decide
theorem sM_14 : wM.2.1 14 = (0, 16) := rfl
theorem lM_14 : 14 < wM.1 := by decide
theorem sM_15 : wM.2.1 15 = (0, 16) := rfl
theorem lM_15 : 15 < wM.1 := by decide
theorem sM_16 : wM.2.1 16 = (0, 16) := rfl
theorem lM_16 : 16 < wM.1 := by decide
theorem sM_17 : wM.2.1 17 = (0, 16) := rfl
theorem lM_17 : 17 < wM.1 := by decide
theorem sM_18 : wM.2.1 18 = (0, 260) := rfl
theorem lM_18 : 18 < wM.1 := by decide
theorem sM_19 : wM.2.1 19 = (0, 11) := rfl
theorem lM_19 : 19 < wM.1 := by decide
theorem sM_20 : wM.2.1 20 = (1, 120) := rfl
theorem lM_20 : 20 < wM.1 := by decide
theorem sM_21 : wM.2.1 21 = (0, 2) := rfl
theorem lM_21 : 21 < wM.1 := by decide
theorem sM_22 : wM.2.1 22 = (0, 60) := rfl
theorem lM_22 : 22 < wM.1 := by decide
theorem sM_23 : wM.2.1 23 = (0, 2) := rfl
theorem lM_23 : 23 < wM.1 := by decide
theorem sM_24 : wM.2.1 24 = (0, 2) := rfl
theorem lM_24 : 24 < wM.1 := by decide
theorem sM_25 : wM.2.1 25 = (0, 2) := rfl
theorem lM_25 : 25 < wM.1 := by decide
theorem sM_26 : wM.2.1 26 = (0, 16) := rfl
theorem lM_26 : 26 < wM.1 := by decide
theorem sM_27 : wM.2.1 27 = (0, 2304) := rfl
theorem lM_27 : 27 < wM.1 := by decide
theorem sM_28 : wM.2.1 28 = (0, 24) := rfl
theorem lM_28 : 28 < wM.1 := by decide
theorem sM_29 : wM.2.1 29 = (1, 3721) := rfl
theorem lM_29 : 29 < wM.1 := by decide
theorem sM_30 : wM.2.1 30 = (0, 13) := rfl
theorem lM_30 : 30 < wM.1 := by decide
theorem sM_31 : wM.2.1 31 = (0, 13) := rfl
theorem lM_31 : 31 < wM.1 := by decide
theorem sM_32 : wM.2.1 32 = (0, 13) := rfl
theorem lM_32 : 32 < wM.1 := by decide
theorem sM_33 : wM.2.1 33 = (0, 13) := rfl
theorem lM_33 : 33 < wM.1 := by decide
theorem sM_34 : wM.2.1 34 = (0, 13) := rfl
theorem lM_34 : 34 < wM.1 := by decide
theorem sM_35 : wM.2.1 35 = (0, 13) := rfl
theorem lM_35 : 35 < wM.1 := by decide
theorem sM_36 : wM.2.1 36 = (0, 10) := rfl
theorem lM_36 : 36 < wM.1 := by decide
theorem sM_37 : wM.2.1 37 = (0, 8) := rfl
theorem lM_37 : 37 < wM.1 := by decide
theorem fM_0_0 : wM.2.2 0 0 = 1 + 2 := rfl
theorem fM_0_1 : wM.2.2 0 1 = 2 + 2 := rfl
theorem fM_0_2 : wM.2.2 0 2 = 3 + 2 := rfl
theorem fM_0_3 : wM.2.2 0 3 = 4 + 2 := rfl
theorem fM_0_4 : wM.2.2 0 4 = 5 + 2 := rfl
theorem fM_0_5 : wM.2.2 0 5 = 6 + 2 := rfl
theorem fM_0_6 : wM.2.2 0 6 = 0 := rfl
theorem fM_0_7 : wM.2.2 0 7 = 0 := rfl
theorem fM_0_8 : wM.2.2 0 8 = 0 := rfl
theorem fM_0_9 : wM.2.2 0 9 = 0 := rfl
theorem fM_0_10 : wM.2.2 0 10 = 0 := rfl
theorem fM_0_11 : wM.2.2 0 11 = 0 := rfl
theorem fM_0_12 : wM.2.2 0 12 = 0 := rfl
theorem fM_0_13 : wM.2.2 0 13 = 0 := rfl
theorem fM_0_14 : wM.2.2 0 14 = 0 := rfl
theorem fM_0_15 : wM.2.2 0 15 = 0 := rfl
theorem fM_0_16 : wM.2.2 0 16 = 7 + 2 := rfl
theorem fM_0_17 : wM.2.2 0 17 = 8 + 2 := rfl
theorem fM_0_18 : wM.2.2 0 18 = 9 + 2 := rfl
theorem fM_0_19 : wM.2.2 0 19 = 10 + 2 := rfl
theorem fM_0_20 : wM.2.2 0 20 = 11 + 2 := rfl
theorem fM_0_21 : wM.2.2 0 21 = 12 + 2 := rfl
theorem fM_0_22 : wM.2.2 0 22 = 13 + 2 := rfl
theorem fM_0_23 : wM.2.2 0 23 = 14 + 2 := rfl
theorem fM_0_24 : wM.2.2 0 24 = 15 + 2 := rfl
theorem fM_0_25 : wM.2.2 0 25 = 16 + 2 := rfl
theorem fM_0_26 : wM.2.2 0 26 = 17 + 2 := rfl
theorem fM_0_27 : wM.2.2 0 27 = 18 + 2 := rfl
theorem fM_0_28 : wM.2.2 0 28 = 19 + 2 := rfl
theorem fM_0_29 : wM.2.2 0 29 = 0 := rfl
theorem fM_0_30 : wM.2.2 0 30 = 20 + 2 := rfl
theorem fM_0_31 : wM.2.2 0 31 = 21 + 2 := rfl
theorem fM_0_32 : wM.2.2 0 32 = 22 + 2 := rfl
theorem fM_0_33 : wM.2.2 0 33 = 23 + 2 := rfl
theorem fM_0_34 : wM.2.2 0 34 = 24 + 2 := rfl
theorem fM_0_35 : wM.2.2 0 35 = 25 + 2 := rfl
theorem fM_0_36 : wM.2.2 0 36 = 0 := rfl
theorem fM_0_37 : wM.2.2 0 37 = 0 := rfl
theorem fM_0_38 : wM.2.2 0 38 = 0 := rfl
theorem fM_0_39 : wM.2.2 0 39 = 0 := rfl
theorem fM_0_40 : wM.2.2 0 40 = 0 := rfl
theorem fM_0_41 : wM.2.2 0 41 = 0 := rfl
theorem fM_0_42 : wM.2.2 0 42 = 0 := rfl
theorem fM_0_43 : wM.2.2 0 43 = 0 := rfl
theorem fM_0_44 : wM.2.2 0 44 = 0 := rfl
theorem fM_0_45 : wM.2.2 0 45 = 0 := rfl
theorem fM_0_46 : wM.2.2 0 46 = 26 + 2 := rfl
theorem fM_0_47 : wM.2.2 0 47 = 27 + 2 := rfl
theorem fM_0_48 : wM.2.2 0 48 = 28 + 2 := rfl
theorem fM_0_49 : wM.2.2 0 49 = 29 + 2 := rfl
theorem fM_0_50 : wM.2.2 0 50 = 30 + 2 := rfl
theorem fM_0_51 : wM.2.2 0 51 = 31 + 2 := rfl
theorem fM_0_52 : wM.2.2 0 52 = 32 + 2 := rfl
theorem fM_0_53 : wM.2.2 0 53 = 33 + 2 := rfl
theorem fM_0_54 : wM.2.2 0 54 = 34 + 2 := rfl
theorem fM_0_55 : wM.2.2 0 55 = 35 + 2 := rfl
theorem fM_0_56 : wM.2.2 0 56 = 0 := rfl
theorem fM_0_57 : wM.2.2 0 57 = 0 := rfl
theorem fM_0_58 : wM.2.2 0 58 = 0 := rfl
theorem fM_0_59 : wM.2.2 0 59 = 36 + 2 := rfl
theorem fM_0_60 : wM.2.2 0 60 = 37 + 2 := rfl
theorem fM_0_61 : wM.2.2 0 61 = 0 := rfl
def isW (k : Nat) : Bool := k == 1 || k == 7 || k == 13
theorem isW_c {k : Nat} (h : isW k = true) : k = 1 ∨ k = 7 ∨ k = 13 := by simpa [isW, or_assoc] using h
theorem lW {k : Nat} (h : isW k = true) : k < wC.1 := by rcases isW_c h with rfl | rfl | rfl <;> decide
theorem bW {k : Nat} (h : isW k = true) : k < 2 ^ 31 := by rcases isW_c h with rfl | rfl | rfl <;> decide
theorem sW {k : Nat} (h : isW k = true) : wC.2.1 k = (12, 9) := by rcases isW_c h with rfl | rfl | rfl <;> rfl
theorem fW_0 {k : Nat} (h : isW k = true) : wC.2.2 k 0 = (k + 1) + 2 := by rcases isW_c h with rfl | rfl | rfl <;> rfl
theorem lWa_1 {k : Nat} (h : isW k = true) : k + 1 < wC.1 := by rcases isW_c h with rfl | rfl | rfl <;> decide
theorem sWa_1 {k : Nat} (h : isW k = true) : wC.2.1 (k + 1) = (0, 16) := by rcases isW_c h with rfl | rfl | rfl <;> rfl
theorem fW_1 {k : Nat} (h : isW k = true) : wC.2.2 k 1 = (k + 2) + 2 := by rcases isW_c h with rfl | rfl | rfl <;> rfl
theorem lWa_2 {k : Nat} (h : isW k = true) : k + 2 < wC.1 := by rcases isW_c h with rfl | rfl | rfl <;> decide
theorem sWa_2 {k : Nat} (h : isW k = true) : wC.2.1 (k + 2) = (0, 16) := by rcases isW_c h with rfl | rfl | rfl <;> rfl
theorem fW_2 {k : Nat} (h : isW k = true) : wC.2.2 k 2 = (k + 3) + 2 := by rcases isW_c h with rfl | rfl | rfl <;> rfl
theorem lWa_3 {k : Nat} (h : isW k = true) : k + 3 < wC.1 := by rcases isW_c h with rfl | rfl | rfl <;> decide
theorem sWa_3 {k : Nat} (h : isW k = true) : wC.2.1 (k + 3) = (0, 16) := by rcases isW_c h with rfl | rfl | rfl <;> rfl
theorem fW_3 {k : Nat} (h : isW k = true) : wC.2.2 k 3 = (k + 4) + 2 := by rcases isW_c h with rfl | rfl | rfl <;> rfl
theorem lWa_4 {k : Nat} (h : isW k = true) : k + 4 < wC.1 := by rcases isW_c h with rfl | rfl | rfl <;> decide
theorem sWa_4 {k : Nat} (h : isW k = true) : wC.2.1 (k + 4) = (0, 16) := by rcases isW_c h with rfl | rfl | rfl <;> rfl
theorem fW_4 {k : Nat} (h : isW k = true) : wC.2.2 k 4 = (k + 5) + 2 := by rcases isW_c h with rfl | rfl | rfl <;> rfl
theorem lWa_5 {k : Nat} (h : isW k = true) : k + 5 < wC.1 := by rcases isW_c h with rfl | rfl | rfl <;> decide
theorem sWa_5 {k : Nat} (h : isW k = true) : wC.2.1 (k + 5) = (0, 16) := by rcases isW_c h with rfl | rfl | rfl <;> rfl
theorem fW_5 {k : Nat} (h : isW k = true) : wC.2.2 k 5 = 0 := by rcases isW_c h with rfl | rfl | rfl <;> rfl
theorem fW_6 {k : Nat} (h : isW k = true) : wC.2.2 k 6 = 0 := by rcases isW_c h with rfl | rfl | rfl <;> rfl
theorem fW_7 {k : Nat} (h : isW k = true) : wC.2.2 k 7 = 0 := by rcases isW_c h with rfl | rfl | rfl <;> rfl
theorem fW_8 {k : Nat} (h : isW k = true) : wC.2.2 k 8 = 0 := by rcases isW_c h with rfl | rfl | rfl <;> rfl
def isL (k : Nat) : Bool := k == 42 || k == 51
theorem isL_c {k : Nat} (h : isL k = true) : k = 42 ∨ k = 51 := by simpa [isL, or_assoc] using h
theorem lL {k : Nat} (h : isL k = true) : k < wC.1 := by rcases isL_c h with rfl | rfl <;> decide
theorem bL {k : Nat} (h : isL k = true) : k < 2 ^ 31 := by rcases isL_c h with rfl | rfl <;> decide
theorem sL {k : Nat} (h : isL k = true) : wC.2.1 k = (6, 11) := by rcases isL_c h with rfl | rfl <;> rfl
theorem fL_0 {k : Nat} (h : isL k = true) : wC.2.2 k 0 = (k + 1) + 2 := by rcases isL_c h with rfl | rfl <;> rfl
theorem lLa_1 {k : Nat} (h : isL k = true) : k + 1 < wC.1 := by rcases isL_c h with rfl | rfl <;> decide
theorem sLa_1 {k : Nat} (h : isL k = true) : wC.2.1 (k + 1) = (0, 240) := by rcases isL_c h with rfl | rfl <;> rfl
theorem fL_1 {k : Nat} (h : isL k = true) : wC.2.2 k 1 = (k + 2) + 2 := by rcases isL_c h with rfl | rfl <;> rfl
theorem lLa_2 {k : Nat} (h : isL k = true) : k + 2 < wC.1 := by rcases isL_c h with rfl | rfl <;> decide
theorem sLa_2 {k : Nat} (h : isL k = true) : wC.2.1 (k + 2) = (0, 240) := by rcases isL_c h with rfl | rfl <;> rfl
theorem fL_2 {k : Nat} (h : isL k = true) : wC.2.2 k 2 = (k + 3) + 2 := by rcases isL_c h with rfl | rfl <;> rfl
theorem lLa_3 {k : Nat} (h : isL k = true) : k + 3 < wC.1 := by rcases isL_c h with rfl | rfl <;> decide
theorem sLa_3 {k : Nat} (h : isL k = true) : wC.2.1 (k + 3) = (0, 16) := by rcases isL_c h with rfl | rfl <;> rfl
theorem fL_3 {k : Nat} (h : isL k = true) : wC.2.2 k 3 = (k + 4) + 2 := by rcases isL_c h with rfl | rfl <;> rfl
theorem lLa_4 {k : Nat} (h : isL k = true) : k + 4 < wC.1 := by rcases isL_c h with rfl | rfl <;> decide
theorem sLa_4 {k : Nat} (h : isL k = true) : wC.2.1 (k + 4) = (0, 16) := by rcases isL_c h with rfl | rfl <;> rfl
theorem fL_4 {k : Nat} (h : isL k = true) : wC.2.2 k 4 = (k + 5) + 2 := by rcases isL_c h with rfl | rfl <;> rfl
theorem lLa_5 {k : Nat} (h : isL k = true) : k + 5 < wC.1 := by rcases isL_c h with rfl | rfl <;> decide
theorem sLa_5 {k : Nat} (h : isL k = true) : wC.2.1 (k + 5) = (0, 16) := by rcases isL_c h with rfl | rfl <;> rfl
theorem fL_5 {k : Nat} (h : isL k = true) : wC.2.2 k 5 = (k + 6) + 2 := by rcases isL_c h with rfl | rfl <;> rfl
theorem lLa_6 {k : Nat} (h : isL k = true) : k + 6 < wC.1 := by rcases isL_c h with rfl | rfl <;> decide
theorem sLa_6 {k : Nat} (h : isL k = true) : wC.2.1 (k + 6) = (0, 16) := by rcases isL_c h with rfl | rfl <;> rfl
theorem fL_6 {k : Nat} (h : isL k = true) : wC.2.2 k 6 = (k + 7) + 2 := by rcases isL_c h with rfl | rfl <;> rfl
theorem lLa_7 {k : Nat} (h : isL k = true) : k + 7 < wC.1 := by rcases isL_c h with rfl | rfl <;> decide
theorem sLa_7 {k : Nat} (h : isL k = true) : wC.2.1 (k + 7) = (0, 11) := by rcases isL_c h with rfl | rfl <;> rfl
theorem fL_7 {k : Nat} (h : isL k = true) : wC.2.2 k 7 = (k + 8) + 2 := by rcases isL_c h with rfl | rfl <;> rfl
theorem lLa_8 {k : Nat} (h : isL k = true) : k + 8 < wC.1 := by rcases isL_c h with rfl | rfl <;> decide
theorem sLa_8 {k : Nat} (h : isL k = true) : wC.2.1 (k + 8) = (0, 64) := by rcases isL_c h with rfl | rfl <;> rfl
theorem fL_8 {k : Nat} (h : isL k = true) : wC.2.2 k 8 = 0 := by rcases isL_c h with rfl | rfl <;> rfl
theorem fL_9 {k : Nat} (h : isL k = true) : wC.2.2 k 9 = 0 := by rcases isL_c h with rfl | rfl <;> rfl
theorem fL_10 {k : Nat} (h : isL k = true) : wC.2.2 k 10 = 0 := by rcases isL_c h with rfl | rfl <;> rfl
def isS (k : Nat) : Bool := k == 28 || k == 30 || k == 32
theorem isS_c {k : Nat} (h : isS k = true) : k = 28 ∨ k = 30 ∨ k = 32 := by simpa [isS, or_assoc] using h
theorem lS {k : Nat} (h : isS k = true) : k < wC.1 := by rcases isS_c h with rfl | rfl | rfl <;> decide
theorem bS {k : Nat} (h : isS k = true) : k < 2 ^ 31 := by rcases isS_c h with rfl | rfl | rfl <;> decide
theorem sS {k : Nat} (h : isS k = true) : wC.2.1 k = (9, 2) := by rcases isS_c h with rfl | rfl | rfl <;> rfl
theorem fS_0 {k : Nat} (h : isS k = true) : wC.2.2 k 0 = (k + 1) + 2 := by rcases isS_c h with rfl | rfl | rfl <;> rfl
theorem lSa_1 {k : Nat} (h : isS k = true) : k + 1 < wC.1 := by rcases isS_c h with rfl | rfl | rfl <;> decide
theorem sSa_1 {k : Nat} (h : isS k = true) : wC.2.1 (k + 1) = (0, 60) := by rcases isS_c h with rfl | rfl | rfl <;> rfl
theorem fS_1 {k : Nat} (h : isS k = true) : wC.2.2 k 1 = 0 := by rcases isS_c h with rfl | rfl | rfl <;> rfl
theorem wd_0 : Cond.selects RX5 yX5_readRule yX5_readRule ∈ tb := tb_in (List.mem_of_getElem? (i := 0) (by decide +kernel)) (by decide)
theorem wd_1 : Cond.selects RX5 yX5_readAmount yX5_readAmount ∈ tb := tb_in (List.mem_of_getElem? (i := 1) (by decide +kernel)) (by decide)
theorem wd_2 : Cond.selects RX5 yX5_readTerm yX5_readTerm ∈ tb := tb_in (List.mem_of_getElem? (i := 2) (by decide +kernel)) (by decide)
theorem wd_3 : Cond.selects RX5 yX5_readFactor yX5_readFactor ∈ tb := tb_in (List.mem_of_getElem? (i := 3) (by decide +kernel)) (by decide)
theorem wd_4 : Cond.selects RX5 yX5_readClosing yX5_readClosing ∈ tb := tb_in (List.mem_of_getElem? (i := 4) (by decide +kernel)) (by decide)
theorem wd_5 : Cond.selects RX5 yX5_readChoice yX5_readChoice ∈ tb := tb_in (List.mem_of_getElem? (i := 5) (by decide +kernel)) (by decide)
theorem wd_6 : Cond.selects RX5 yX5_readPart yX5_readPart ∈ tb := tb_in (List.mem_of_getElem? (i := 6) (by decide +kernel)) (by decide)
theorem wd_7 : Cond.selects RX5 yX5_readTest yX5_readTest ∈ tb := tb_in (List.mem_of_getElem? (i := 7) (by decide +kernel)) (by decide)
theorem wd_8 : Cond.selects RX5 yX5_readOpened yX5_readOpened ∈ tb := tb_in (List.mem_of_getElem? (i := 8) (by decide +kernel)) (by decide)
theorem wd_9 : Cond.selects RX6 yX6_readLine yX6_readLine ∈ tb := tb_in (List.mem_of_getElem? (i := 9) (by decide +kernel)) (by decide)
theorem wd_10 : Cond.selects RX6 yX6_readGift yX6_readGift ∈ tb := tb_in (List.mem_of_getElem? (i := 10) (by decide +kernel)) (by decide)
theorem wd_11 : Cond.selects RX6 yX6_readChange yX6_readChange ∈ tb := tb_in (List.mem_of_getElem? (i := 11) (by decide +kernel)) (by decide)
theorem wd_12 : Cond.selects RX7 yX7_readLamps yX7_readLamps ∈ tb := tb_in (List.mem_of_getElem? (i := 12) (by decide +kernel)) (by decide)
theorem wd_13 : Cond.selects RX7 yX7_readItem yX7_readItem ∈ tb := tb_in (List.mem_of_getElem? (i := 13) (by decide +kernel)) (by decide)
theorem wd_14 : Cond.selects RX7 yX7_repeat yX7_repeat ∈ tb := tb_in (List.mem_of_getElem? (i := 14) (by decide +kernel)) (by decide)
theorem wd_15 : Cond.selects RX11 yX11_signalsOf yX11_signalsOf ∈ tb := tb_in (List.mem_of_getElem? (i := 15) (by decide +kernel)) (by decide)
theorem wd_16 : Cond.selects RX2 yX2_passWatch yX2_passWatch ∈ tb := tb_in (List.mem_of_getElem? (i := 16) (by decide +kernel)) (by decide)
theorem wd_17 : Cond.selects RX2 yX2_drinkAndYawn yX2_drinkAndYawn ∈ tb := tb_in (List.mem_of_getElem? (i := 17) (by decide +kernel)) (by decide)
theorem wd_18 : Cond.selects RX2 yX2_look yX2_look ∈ tb := tb_in (List.mem_of_getElem? (i := 18) (by decide +kernel)) (by decide)
theorem wd_19 : Cond.selects RX4 yX4_reckon yX4_reckon ∈ tb := tb_in (List.mem_of_getElem? (i := 19) (by decide +kernel)) (by decide)
theorem wd_20 : Cond.selects RX4 yX4_valueOf yX4_valueOf ∈ tb := tb_in (List.mem_of_getElem? (i := 20) (by decide +kernel)) (by decide)
theorem wd_21 : Cond.selects RX4 yX4_push yX4_push ∈ tb := tb_in (List.mem_of_getElem? (i := 21) (by decide +kernel)) (by decide)
theorem wd_22 : Cond.selects RX4 yX4_combine yX4_combine ∈ tb := tb_in (List.mem_of_getElem? (i := 22) (by decide +kernel)) (by decide)
theorem wd_23 : Cond.selects RX2 yX2_stayOrGo yX2_stayOrGo ∈ tb := tb_in (List.mem_of_getElem? (i := 23) (by decide +kernel)) (by decide)
theorem wd_24 : Cond.selects RX11 yX11_tryWatches yX11_tryWatches ∈ tb := tb_in (List.mem_of_getElem? (i := 24) (by decide +kernel)) (by decide)
theorem wd_25 : Cond.selects RX11 yX11_isGentleman yX11_isGentleman ∈ tb := tb_in (List.mem_of_getElem? (i := 25) (by decide +kernel)) (by decide)
theorem wd_26 : Cond.selects RX3 yX3_leastWay yX3_leastWay ∈ tb := tb_in (List.mem_of_getElem? (i := 26) (by decide +kernel)) (by decide)
theorem wd_27 : Cond.selects RX3 yX3_leastPartner yX3_leastPartner ∈ tb := tb_in (List.mem_of_getElem? (i := 27) (by decide +kernel)) (by decide)
theorem wd_28 : Cond.selects RX11 yX11_crests yX11_crests ∈ tb := tb_in (List.mem_of_getElem? (i := 28) (by decide +kernel)) (by decide)
theorem wd_29 : Cond.selects RX11 yX11_longestRise yX11_longestRise ∈ tb := tb_in (List.mem_of_getElem? (i := 29) (by decide +kernel)) (by decide)
theorem wd_30 : Cond.selects RX1 yX1_reckon yX1_reckon ∈ tb := tb_in (List.mem_of_getElem? (i := 30) (by decide +kernel)) (by decide)
theorem wd_31 : Cond.selects RX1 yX1_leastSign yX1_leastSign ∈ tb := tb_in (List.mem_of_getElem? (i := 31) (by decide +kernel)) (by decide)
theorem wd_32 : Cond.selects RX0 yX0_lay yX0_lay ∈ tb := tb_in (List.mem_of_getElem? (i := 32) (by decide +kernel)) (by decide)
theorem wd_33 : Cond.selects RX0 yX0_beats yX0_beats ∈ tb := tb_in (List.mem_of_getElem? (i := 33) (by decide +kernel)) (by decide)
theorem wd_34 : Cond.selects RX0 yX0_suit yX0_suit ∈ tb := tb_in (List.mem_of_getElem? (i := 34) (by decide +kernel)) (by decide)
theorem wd_35 : Cond.selects RX0 yX0_playBest yX0_playBest ∈ tb := tb_in (List.mem_of_getElem? (i := 35) (by decide +kernel)) (by decide)
theorem wd_36 : Cond.selects RX0 yX0_hasSuit yX0_hasSuit ∈ tb := tb_in (List.mem_of_getElem? (i := 36) (by decide +kernel)) (by decide)
theorem wd_37 : Cond.selects RX11 yX11_reckonArrivals yX11_reckonArrivals ∈ tb := tb_in (List.mem_of_getElem? (i := 37) (by decide +kernel)) (by decide)
theorem wd_38 : Cond.selects RX11 yX11_countOfSide yX11_countOfSide ∈ tb := tb_in (List.mem_of_getElem? (i := 38) (by decide +kernel)) (by decide)
theorem wd_39 : Cond.selects RX12 yX12_types yX12_types ∈ tb := tb_in (List.mem_of_getElem? (i := 39) (by decide +kernel)) (by decide)
theorem wd_40 : Cond.selects RX12 yX12_beginsText yX12_beginsText ∈ tb := tb_in (List.mem_of_getElem? (i := 40) (by decide +kernel)) (by decide)
theorem wd_41 : Cond.selects RX12 yX12_readsRule yX12_readsRule ∈ tb := tb_in (List.mem_of_getElem? (i := 41) (by decide +kernel)) (by decide)
theorem wd_42 : Cond.selects RX12 yX12_here yX12_here ∈ tb := tb_in (List.mem_of_getElem? (i := 42) (by decide +kernel)) (by decide)
theorem wd_43 : Cond.selects RX12 yX12_wrongAt yX12_wrongAt ∈ tb := tb_in (List.mem_of_getElem? (i := 43) (by decide +kernel)) (by decide)
theorem wd_44 : Cond.selects RX12 yX12_readsSum yX12_readsSum ∈ tb := tb_in (List.mem_of_getElem? (i := 44) (by decide +kernel)) (by decide)
theorem wd_45 : Cond.selects RX12 yX12_readsFactor yX12_readsFactor ∈ tb := tb_in (List.mem_of_getElem? (i := 45) (by decide +kernel)) (by decide)
theorem wd_46 : Cond.selects RX12 yX12_opens yX12_opens ∈ tb := tb_in (List.mem_of_getElem? (i := 46) (by decide +kernel)) (by decide)
theorem wd_47 : Cond.selects RX12 yX12_isDigit yX12_isDigit ∈ tb := tb_in (List.mem_of_getElem? (i := 47) (by decide +kernel)) (by decide)
theorem wd_48 : Cond.selects RX12 yX12_readsNumber yX12_readsNumber ∈ tb := tb_in (List.mem_of_getElem? (i := 48) (by decide +kernel)) (by decide)
theorem wd_49 : Cond.selects RX12 yX12_notes yX12_notes ∈ tb := tb_in (List.mem_of_getElem? (i := 49) (by decide +kernel)) (by decide)
theorem wd_50 : Cond.selects RX12 yX12_closesSums yX12_closesSums ∈ tb := tb_in (List.mem_of_getElem? (i := 50) (by decide +kernel)) (by decide)
theorem wd_51 : Cond.selects RX12 yX12_waitTop yX12_waitTop ∈ tb := tb_in (List.mem_of_getElem? (i := 51) (by decide +kernel)) (by decide)
theorem wd_52 : Cond.selects RX12 yX12_hasOpenSum yX12_hasOpenSum ∈ tb := tb_in (List.mem_of_getElem? (i := 52) (by decide +kernel)) (by decide)
theorem wd_53 : Cond.selects RX12 yX12_readsCondition yX12_readsCondition ∈ tb := tb_in (List.mem_of_getElem? (i := 53) (by decide +kernel)) (by decide)
theorem wd_54 : Cond.selects RX12 yX12_readsCompared yX12_readsCompared ∈ tb := tb_in (List.mem_of_getElem? (i := 54) (by decide +kernel)) (by decide)
theorem wd_55 : Cond.selects RX12 yX12_endsPiece yX12_endsPiece ∈ tb := tb_in (List.mem_of_getElem? (i := 55) (by decide +kernel)) (by decide)
theorem wd_56 : Cond.selects RX12 yX12_lands yX12_lands ∈ tb := tb_in (List.mem_of_getElem? (i := 56) (by decide +kernel)) (by decide)
theorem wd_57 : Cond.selects RX12 yX12_jumps yX12_jumps ∈ tb := tb_in (List.mem_of_getElem? (i := 57) (by decide +kernel)) (by decide)
theorem wd_58 : Cond.selects RX12 yX12_takes yX12_takes ∈ tb := tb_in (List.mem_of_getElem? (i := 58) (by decide +kernel)) (by decide)
theorem wd_59 : Cond.selects RX12 yX12_readsLine yX12_readsLine ∈ tb := tb_in (List.mem_of_getElem? (i := 59) (by decide +kernel)) (by decide)
theorem wd_60 : Cond.selects RX12 yX12_readsPlace yX12_readsPlace ∈ tb := tb_in (List.mem_of_getElem? (i := 60) (by decide +kernel)) (by decide)
theorem wd_61 : Cond.selects RX12 yX12_isThere yX12_isThere ∈ tb := tb_in (List.mem_of_getElem? (i := 61) (by decide +kernel)) (by decide)
theorem wd_62 : Cond.selects RX12 yX12_readsDeed yX12_readsDeed ∈ tb := tb_in (List.mem_of_getElem? (i := 62) (by decide +kernel)) (by decide)
theorem wd_63 : Cond.selects RX12 yX12_readsAmount yX12_readsAmount ∈ tb := tb_in (List.mem_of_getElem? (i := 63) (by decide +kernel)) (by decide)
theorem wd_64 : Cond.selects RX12 yX12_changes yX12_changes ∈ tb := tb_in (List.mem_of_getElem? (i := 64) (by decide +kernel)) (by decide)
theorem wd_65 : Cond.selects RX12 yX12_swaps yX12_swaps ∈ tb := tb_in (List.mem_of_getElem? (i := 65) (by decide +kernel)) (by decide)
theorem wd_66 : Cond.selects RX12 yX12_comesOut yX12_comesOut ∈ tb := tb_in (List.mem_of_getElem? (i := 66) (by decide +kernel)) (by decide)
theorem wd_67 : Cond.selects RX12 yX12_readsItem yX12_readsItem ∈ tb := tb_in (List.mem_of_getElem? (i := 67) (by decide +kernel)) (by decide)
theorem wd_68 : Cond.selects RX12 yX12_readsTimes yX12_readsTimes ∈ tb := tb_in (List.mem_of_getElem? (i := 68) (by decide +kernel)) (by decide)
theorem wd_69 : Cond.selects RX12 yX12_repeats yX12_repeats ∈ tb := tb_in (List.mem_of_getElem? (i := 69) (by decide +kernel)) (by decide)
theorem wd_70 : Cond.selects RX12 yX12_watchesGo yX12_watchesGo ∈ tb := tb_in (List.mem_of_getElem? (i := 70) (by decide +kernel)) (by decide)
theorem wd_71 : Cond.selects RX12 yX12_watchGoes yX12_watchGoes ∈ tb := tb_in (List.mem_of_getElem? (i := 71) (by decide +kernel)) (by decide)
theorem wd_72 : Cond.selects RX12 yX12_outside yX12_outside ∈ tb := tb_in (List.mem_of_getElem? (i := 72) (by decide +kernel)) (by decide)
theorem wd_73 : Cond.selects RX12 yX12_setOf yX12_setOf ∈ tb := tb_in (List.mem_of_getElem? (i := 73) (by decide +kernel)) (by decide)
theorem wd_74 : Cond.selects RX12 yX12_sitsIn yX12_sitsIn ∈ tb := tb_in (List.mem_of_getElem? (i := 74) (by decide +kernel)) (by decide)
theorem wd_75 : Cond.selects RX12 yX12_turnOf yX12_turnOf ∈ tb := tb_in (List.mem_of_getElem? (i := 75) (by decide +kernel)) (by decide)
theorem wd_76 : Cond.selects RX12 yX12_feels yX12_feels ∈ tb := tb_in (List.mem_of_getElem? (i := 76) (by decide +kernel)) (by decide)
theorem wd_77 : Cond.selects RX12 yX12_seenBy yX12_seenBy ∈ tb := tb_in (List.mem_of_getElem? (i := 77) (by decide +kernel)) (by decide)
theorem wd_78 : Cond.selects RX12 yX12_seesOne yX12_seesOne ∈ tb := tb_in (List.mem_of_getElem? (i := 78) (by decide +kernel)) (by decide)
theorem wd_79 : Cond.selects RX12 yX12_eyeOf yX12_eyeOf ∈ tb := tb_in (List.mem_of_getElem? (i := 79) (by decide +kernel)) (by decide)
theorem wd_80 : Cond.selects RX12 yX12_seesOver yX12_seesOver ∈ tb := tb_in (List.mem_of_getElem? (i := 80) (by decide +kernel)) (by decide)
theorem wd_81 : Cond.selects RX12 yX12_byLaw yX12_byLaw ∈ tb := tb_in (List.mem_of_getElem? (i := 81) (by decide +kernel)) (by decide)
theorem wd_82 : Cond.selects RX12 yX12_comesTo yX12_comesTo ∈ tb := tb_in (List.mem_of_getElem? (i := 82) (by decide +kernel)) (by decide)
theorem wd_83 : Cond.selects RX12 yX12_holdsAny yX12_holdsAny ∈ tb := tb_in (List.mem_of_getElem? (i := 83) (by decide +kernel)) (by decide)
theorem wd_84 : Cond.selects RX12 yX12_goesIn yX12_goesIn ∈ tb := tb_in (List.mem_of_getElem? (i := 84) (by decide +kernel)) (by decide)
theorem wd_85 : Cond.selects RX12 yX12_draws yX12_draws ∈ tb := tb_in (List.mem_of_getElem? (i := 85) (by decide +kernel)) (by decide)
theorem wd_86 : Cond.selects RX12 yX12_triesWatches yX12_triesWatches ∈ tb := tb_in (List.mem_of_getElem? (i := 86) (by decide +kernel)) (by decide)
theorem wd_87 : Cond.selects RX12 yX12_twosWithout yX12_twosWithout ∈ tb := tb_in (List.mem_of_getElem? (i := 87) (by decide +kernel)) (by decide)
theorem wd_88 : Cond.selects RX12 yX12_twosOver yX12_twosOver ∈ tb := tb_in (List.mem_of_getElem? (i := 88) (by decide +kernel)) (by decide)
theorem wd_89 : Cond.selects RX12 yX12_lastsWith yX12_lastsWith ∈ tb := tb_in (List.mem_of_getElem? (i := 89) (by decide +kernel)) (by decide)
theorem wd_90 : Cond.selects RX12 yX12_laysGlasses yX12_laysGlasses ∈ tb := tb_in (List.mem_of_getElem? (i := 90) (by decide +kernel)) (by decide)
theorem wd_91 : Cond.selects RX12 yX12_laysCommon yX12_laysCommon ∈ tb := tb_in (List.mem_of_getElem? (i := 91) (by decide +kernel)) (by decide)
theorem wd_92 : Cond.selects RX12 yX12_nextOf yX12_nextOf ∈ tb := tb_in (List.mem_of_getElem? (i := 92) (by decide +kernel)) (by decide)
theorem wd_93 : Cond.selects RX12 yX12_isBeat yX12_isBeat ∈ tb := tb_in (List.mem_of_getElem? (i := 93) (by decide +kernel)) (by decide)
theorem wd_94 : Cond.selects RX12 yX12_octet yX12_octet ∈ tb := tb_in (List.mem_of_getElem? (i := 94) (by decide +kernel)) (by decide)
theorem wd_95 : Cond.selects RX12 yX12_playsOut yX12_playsOut ∈ tb := tb_in (List.mem_of_getElem? (i := 95) (by decide +kernel)) (by decide)
theorem wd_96 : Cond.selects RX12 yX12_begins yX12_begins ∈ tb := tb_in (List.mem_of_getElem? (i := 96) (by decide +kernel)) (by decide)
theorem wd_97 : Cond.selects RX12 yX12_mayPlay yX12_mayPlay ∈ tb := tb_in (List.mem_of_getElem? (i := 97) (by decide +kernel)) (by decide)
theorem wd_98 : Cond.selects RX12 yX12_isAway yX12_isAway ∈ tb := tb_in (List.mem_of_getElem? (i := 98) (by decide +kernel)) (by decide)
theorem wd_99 : Cond.selects RX12 yX12_cardOf yX12_cardOf ∈ tb := tb_in (List.mem_of_getElem? (i := 99) (by decide +kernel)) (by decide)
theorem wd_100 : Cond.selects RX12 yX12_mayBeBest yX12_mayBeBest ∈ tb := tb_in (List.mem_of_getElem? (i := 100) (by decide +kernel)) (by decide)
theorem wd_101 : Cond.selects RX12 yX12_takerOf yX12_takerOf ∈ tb := tb_in (List.mem_of_getElem? (i := 101) (by decide +kernel)) (by decide)
theorem wd_102 : Cond.selects RX12 yX12_isHigher yX12_isHigher ∈ tb := tb_in (List.mem_of_getElem? (i := 102) (by decide +kernel)) (by decide)
theorem wd_104 : Cond.initialized RX11 ∈ tb := tb_in (List.mem_of_getElem? (i := 104) (by decide +kernel)) (by decide)
theorem wd_105 : Cond.initialized RX10 ∈ tb := tb_in (List.mem_of_getElem? (i := 105) (by decide +kernel)) (by decide)
theorem wd_106 : Cond.initialized RJ7 ∈ tb := tb_in (List.mem_of_getElem? (i := 106) (by decide +kernel)) (by decide)
theorem wd_107 : Cond.initialized RX9 ∈ tb := tb_in (List.mem_of_getElem? (i := 107) (by decide +kernel)) (by decide)
theorem wd_108 : Cond.initialized RX8 ∈ tb := tb_in (List.mem_of_getElem? (i := 108) (by decide +kernel)) (by decide)
theorem wd_109 : Cond.initialized RX6 ∈ tb := tb_in (List.mem_of_getElem? (i := 109) (by decide +kernel)) (by decide)
theorem wd_110 : Cond.initialized RX2 ∈ tb := tb_in (List.mem_of_getElem? (i := 110) (by decide +kernel)) (by decide)
theorem wd_111 : Cond.initialized RX7 ∈ tb := tb_in (List.mem_of_getElem? (i := 111) (by decide +kernel)) (by decide)
theorem wd_112 : Cond.initialized RX1 ∈ tb := tb_in (List.mem_of_getElem? (i := 112) (by decide +kernel)) (by decide)
theorem wd_113 : Cond.initialized RX3 ∈ tb := tb_in (List.mem_of_getElem? (i := 113) (by decide +kernel)) (by decide)
theorem wd_114 : Cond.initialized RX0 ∈ tb := tb_in (List.mem_of_getElem? (i := 114) (by decide +kernel)) (by decide)
theorem wd_115 : Cond.initialized RX4 ∈ tb := tb_in (List.mem_of_getElem? (i := 115) (by decide +kernel)) (by decide)
theorem wd_116 : Cond.initialized RX5 ∈ tb := tb_in (List.mem_of_getElem? (i := 116) (by decide +kernel)) (by decide)
theorem wd_117 : Cond.initialized RX12 ∈ tb := tb_in (List.mem_of_getElem? (i := 117) (by decide +kernel)) (by decide)
theorem wd_120 : Cond.initialized "java/lang/Math" ∈ tb := tb_in (List.mem_of_getElem? (i := 120) (by decide +kernel)) (by decide)
theorem wd_124 : Cond.initialized "java/lang/System" ∈ tb := tb_in (List.mem_of_getElem? (i := 124) (by decide +kernel)) (by decide)
theorem wd_125 : Cond.initialized RJ6 ∈ tb := tb_in (List.mem_of_getElem? (i := 125) (by decide +kernel)) (by decide)
theorem wd_141 : Cond.static yJ7_fill_53178 ∈ tb := tb_in (List.mem_of_getElem? (i := 141) (by decide +kernel)) (by decide)
theorem wd_142 : Cond.code yJ7_fill_53178 cJ7_fill_53178 4 none ∈ tb := tb_in (List.mem_of_getElem? (i := 142) (by decide +kernel)) (by decide)
theorem wd_143 : Cond.fieldLink RX10 9 "VerandaWar$War" "rank" "[I" ∈ tb := tb_in (List.mem_of_getElem? (i := 143) (by decide +kernel)) (by decide)
theorem wd_144 : Cond.fieldLink RX2 109 "VerandaWar$War" "rank" "[I" ∈ tb := tb_in (List.mem_of_getElem? (i := 144) (by decide +kernel)) (by decide)
theorem wd_145 : Cond.fieldLink RX11 213 "VerandaWar$War" "rank" "[I" ∈ tb := tb_in (List.mem_of_getElem? (i := 145) (by decide +kernel)) (by decide)
theorem wd_146 : Cond.fieldLink RX10 15 "VerandaWar$War" "boredom" "[I" ∈ tb := tb_in (List.mem_of_getElem? (i := 146) (by decide +kernel)) (by decide)
theorem wd_147 : Cond.fieldLink RX6 63 "VerandaWar$War" "boredom" "[I" ∈ tb := tb_in (List.mem_of_getElem? (i := 147) (by decide +kernel)) (by decide)
theorem wd_148 : Cond.fieldLink RX2 80 "VerandaWar$War" "boredom" "[I" ∈ tb := tb_in (List.mem_of_getElem? (i := 148) (by decide +kernel)) (by decide)
theorem wd_149 : Cond.fieldLink RX11 201 "VerandaWar$War" "boredom" "[I" ∈ tb := tb_in (List.mem_of_getElem? (i := 149) (by decide +kernel)) (by decide)
theorem wd_150 : Cond.fieldLink RX10 18 "VerandaWar$War" "lemonade" "[I" ∈ tb := tb_in (List.mem_of_getElem? (i := 150) (by decide +kernel)) (by decide)
theorem wd_151 : Cond.fieldLink RX2 83 "VerandaWar$War" "lemonade" "[I" ∈ tb := tb_in (List.mem_of_getElem? (i := 151) (by decide +kernel)) (by decide)
theorem wd_152 : Cond.fieldLink RX6 70 "VerandaWar$War" "lemonade" "[I" ∈ tb := tb_in (List.mem_of_getElem? (i := 152) (by decide +kernel)) (by decide)
theorem wd_153 : Cond.fieldLink RX11 216 "VerandaWar$War" "lemonade" "[I" ∈ tb := tb_in (List.mem_of_getElem? (i := 153) (by decide +kernel)) (by decide)
theorem wd_154 : Cond.fieldLink RX10 21 "VerandaWar$War" "cushions" "[I" ∈ tb := tb_in (List.mem_of_getElem? (i := 154) (by decide +kernel)) (by decide)
theorem wd_155 : Cond.fieldLink RX9 21 "VerandaWar$War" "cushions" "[I" ∈ tb := tb_in (List.mem_of_getElem? (i := 155) (by decide +kernel)) (by decide)
theorem wd_156 : Cond.fieldLink RX6 83 "VerandaWar$War" "cushions" "[I" ∈ tb := tb_in (List.mem_of_getElem? (i := 156) (by decide +kernel)) (by decide)
theorem wd_157 : Cond.fieldLink RX2 112 "VerandaWar$War" "cushions" "[I" ∈ tb := tb_in (List.mem_of_getElem? (i := 157) (by decide +kernel)) (by decide)
theorem wd_158 : Cond.fieldLink RX11 219 "VerandaWar$War" "cushions" "[I" ∈ tb := tb_in (List.mem_of_getElem? (i := 158) (by decide +kernel)) (by decide)
theorem wd_159 : Cond.fieldLink RX10 24 "VerandaWar$War" "state" "[I" ∈ tb := tb_in (List.mem_of_getElem? (i := 159) (by decide +kernel)) (by decide)
theorem wd_160 : Cond.fieldLink RX2 61 "VerandaWar$War" "state" "[I" ∈ tb := tb_in (List.mem_of_getElem? (i := 160) (by decide +kernel)) (by decide)
theorem wd_161 : Cond.fieldLink RX6 50 "VerandaWar$War" "state" "[I" ∈ tb := tb_in (List.mem_of_getElem? (i := 161) (by decide +kernel)) (by decide)
theorem wd_162 : Cond.fieldLink RX9 40 "VerandaWar$War" "state" "[I" ∈ tb := tb_in (List.mem_of_getElem? (i := 162) (by decide +kernel)) (by decide)
theorem wd_163 : Cond.fieldLink RX11 198 "VerandaWar$War" "state" "[I" ∈ tb := tb_in (List.mem_of_getElem? (i := 163) (by decide +kernel)) (by decide)
theorem wd_164 : Cond.fieldLink RX10 27 "VerandaWar$War" "watch" "I" ∈ tb := tb_in (List.mem_of_getElem? (i := 164) (by decide +kernel)) (by decide)
theorem wd_165 : Cond.fieldLink RX2 124 "VerandaWar$War" "watch" "I" ∈ tb := tb_in (List.mem_of_getElem? (i := 165) (by decide +kernel)) (by decide)
theorem wd_166 : Cond.fieldLink RX11 255 "VerandaWar$War" "watch" "I" ∈ tb := tb_in (List.mem_of_getElem? (i := 166) (by decide +kernel)) (by decide)
theorem wd_167 : Cond.fieldLink RX10 31 "VerandaWar$War" "day" "I" ∈ tb := tb_in (List.mem_of_getElem? (i := 167) (by decide +kernel)) (by decide)
theorem wd_168 : Cond.fieldLink RX2 127 "VerandaWar$War" "day" "I" ∈ tb := tb_in (List.mem_of_getElem? (i := 168) (by decide +kernel)) (by decide)
theorem wd_169 : Cond.fieldLink RX11 341 "VerandaWar$War" "day" "I" ∈ tb := tb_in (List.mem_of_getElem? (i := 169) (by decide +kernel)) (by decide)
theorem wd_170 : Cond.fieldLink RX10 34 "VerandaWar$War" "drawn" "I" ∈ tb := tb_in (List.mem_of_getElem? (i := 170) (by decide +kernel)) (by decide)
theorem wd_171 : Cond.fieldLink RX11 338 "VerandaWar$War" "drawn" "I" ∈ tb := tb_in (List.mem_of_getElem? (i := 171) (by decide +kernel)) (by decide)
theorem wd_172 : Cond.fieldLink RX10 37 "VerandaWar$War" "lost" "I" ∈ tb := tb_in (List.mem_of_getElem? (i := 172) (by decide +kernel)) (by decide)
theorem wd_173 : Cond.fieldLink RX11 127 "VerandaWar$War" "lost" "I" ∈ tb := tb_in (List.mem_of_getElem? (i := 173) (by decide +kernel)) (by decide)
theorem wd_174 : Cond.fieldLink RX2 71 "VerandaWar$War" "lost" "I" ∈ tb := tb_in (List.mem_of_getElem? (i := 174) (by decide +kernel)) (by decide)
theorem wd_201 : Cond.fieldLink RX9 9 "VerandaWar$Valley" "columns" "[I" ∈ tb := tb_in (List.mem_of_getElem? (i := 201) (by decide +kernel)) (by decide)
theorem wd_202 : Cond.fieldLink RX11 138 "VerandaWar$Valley" "columns" "[I" ∈ tb := tb_in (List.mem_of_getElem? (i := 202) (by decide +kernel)) (by decide)
theorem wd_203 : Cond.fieldLink RX9 15 "VerandaWar$Valley" "floors" "[I" ∈ tb := tb_in (List.mem_of_getElem? (i := 203) (by decide +kernel)) (by decide)
theorem wd_204 : Cond.fieldLink RX11 135 "VerandaWar$Valley" "floors" "[I" ∈ tb := tb_in (List.mem_of_getElem? (i := 204) (by decide +kernel)) (by decide)
theorem wd_205 : Cond.fieldLink RX9 18 "VerandaWar$Valley" "sight" "[I" ∈ tb := tb_in (List.mem_of_getElem? (i := 205) (by decide +kernel)) (by decide)
theorem wd_206 : Cond.fieldLink RX2 121 "VerandaWar$Valley" "sight" "[I" ∈ tb := tb_in (List.mem_of_getElem? (i := 206) (by decide +kernel)) (by decide)
theorem wd_207 : Cond.fieldLink RX11 225 "VerandaWar$Valley" "sight" "[I" ∈ tb := tb_in (List.mem_of_getElem? (i := 207) (by decide +kernel)) (by decide)
theorem wd_221 : Cond.fieldLink RX8 9 "VerandaWar$Tape" "bytes" "[I" ∈ tb := tb_in (List.mem_of_getElem? (i := 221) (by decide +kernel)) (by decide)
theorem wd_222 : Cond.fieldLink RX8 15 "VerandaWar$Tape" "many" "I" ∈ tb := tb_in (List.mem_of_getElem? (i := 222) (by decide +kernel)) (by decide)
theorem wd_223 : Cond.fieldLink RX11 148 "VerandaWar$Tape" "many" "I" ∈ tb := tb_in (List.mem_of_getElem? (i := 223) (by decide +kernel)) (by decide)
theorem wd_224 : Cond.fieldLink RX8 19 "VerandaWar$Tape" "end" "I" ∈ tb := tb_in (List.mem_of_getElem? (i := 224) (by decide +kernel)) (by decide)
theorem wd_225 : Cond.fieldLink RX8 22 "VerandaWar$Tape" "at" "I" ∈ tb := tb_in (List.mem_of_getElem? (i := 225) (by decide +kernel)) (by decide)
theorem wd_226 : Cond.fieldLink RX6 33 "VerandaWar$Tape" "at" "I" ∈ tb := tb_in (List.mem_of_getElem? (i := 226) (by decide +kernel)) (by decide)
theorem wd_227 : Cond.fieldLink RX5 44 "VerandaWar$Tape" "at" "I" ∈ tb := tb_in (List.mem_of_getElem? (i := 227) (by decide +kernel)) (by decide)
theorem wd_228 : Cond.fieldLink RX7 46 "VerandaWar$Tape" "at" "I" ∈ tb := tb_in (List.mem_of_getElem? (i := 228) (by decide +kernel)) (by decide)
theorem wd_229 : Cond.fieldLink RX8 25 "VerandaWar$Tape" "fault" "I" ∈ tb := tb_in (List.mem_of_getElem? (i := 229) (by decide +kernel)) (by decide)
theorem wd_230 : Cond.fieldLink RX11 161 "VerandaWar$Tape" "fault" "I" ∈ tb := tb_in (List.mem_of_getElem? (i := 230) (by decide +kernel)) (by decide)
theorem wd_248 : Cond.fieldLink RX6 15 "VerandaWar$OrdersReader" "tape" "LVerandaWar$Tape;" ∈ tb := tb_in (List.mem_of_getElem? (i := 248) (by decide +kernel)) (by decide)
theorem wd_249 : Cond.fieldLink RX6 9 "VerandaWar$OrdersReader" "lines" "I" ∈ tb := tb_in (List.mem_of_getElem? (i := 249) (by decide +kernel)) (by decide)
theorem wd_250 : Cond.fieldLink RX11 173 "VerandaWar$OrdersReader" "lines" "I" ∈ tb := tb_in (List.mem_of_getElem? (i := 250) (by decide +kernel)) (by decide)
theorem wd_262 : Cond.fieldLink RX2 31 "VerandaWar$Course" "valley" "LVerandaWar$Valley;" ∈ tb := tb_in (List.mem_of_getElem? (i := 262) (by decide +kernel)) (by decide)
theorem wd_263 : Cond.fieldLink RX2 9 "VerandaWar$Course" "behind" "[I" ∈ tb := tb_in (List.mem_of_getElem? (i := 263) (by decide +kernel)) (by decide)
theorem wd_264 : Cond.fieldLink RX11 258 "VerandaWar$Course" "behind" "[I" ∈ tb := tb_in (List.mem_of_getElem? (i := 264) (by decide +kernel)) (by decide)
theorem wd_265 : Cond.fieldLink RX2 15 "VerandaWar$Course" "wentIn" "I" ∈ tb := tb_in (List.mem_of_getElem? (i := 265) (by decide +kernel)) (by decide)
theorem wd_266 : Cond.fieldLink RX11 192 "VerandaWar$Course" "wentIn" "I" ∈ tb := tb_in (List.mem_of_getElem? (i := 266) (by decide +kernel)) (by decide)
theorem wd_267 : Cond.fieldLink RX2 19 "VerandaWar$Course" "dinners" "I" ∈ tb := tb_in (List.mem_of_getElem? (i := 267) (by decide +kernel)) (by decide)
theorem wd_268 : Cond.fieldLink RX11 204 "VerandaWar$Course" "dinners" "I" ∈ tb := tb_in (List.mem_of_getElem? (i := 268) (by decide +kernel)) (by decide)
theorem wd_269 : Cond.fieldLink RX2 22 "VerandaWar$Course" "drunk" "I" ∈ tb := tb_in (List.mem_of_getElem? (i := 269) (by decide +kernel)) (by decide)
theorem wd_270 : Cond.fieldLink RX11 207 "VerandaWar$Course" "drunk" "I" ∈ tb := tb_in (List.mem_of_getElem? (i := 270) (by decide +kernel)) (by decide)
theorem wd_271 : Cond.fieldLink RX2 25 "VerandaWar$Course" "firstIn" "I" ∈ tb := tb_in (List.mem_of_getElem? (i := 271) (by decide +kernel)) (by decide)
theorem wd_272 : Cond.fieldLink RX11 261 "VerandaWar$Course" "firstIn" "I" ∈ tb := tb_in (List.mem_of_getElem? (i := 272) (by decide +kernel)) (by decide)
theorem wd_273 : Cond.fieldLink RX2 28 "VerandaWar$Course" "lostBehind" "I" ∈ tb := tb_in (List.mem_of_getElem? (i := 273) (by decide +kernel)) (by decide)
theorem wd_274 : Cond.fieldLink RX11 264 "VerandaWar$Course" "lostBehind" "I" ∈ tb := tb_in (List.mem_of_getElem? (i := 274) (by decide +kernel)) (by decide)
theorem wd_296 : Cond.fieldLink RX7 11 "VerandaWar$Signals" "lamps" "[I" ∈ tb := tb_in (List.mem_of_getElem? (i := 296) (by decide +kernel)) (by decide)
theorem wd_297 : Cond.fieldLink RX1 25 "VerandaWar$Signals" "lamps" "[I" ∈ tb := tb_in (List.mem_of_getElem? (i := 297) (by decide +kernel)) (by decide)
theorem wd_298 : Cond.fieldLink RX11 295 "VerandaWar$Signals" "lamps" "[I" ∈ tb := tb_in (List.mem_of_getElem? (i := 298) (by decide +kernel)) (by decide)
theorem wd_299 : Cond.fieldLink RX7 15 "VerandaWar$Signals" "many" "I" ∈ tb := tb_in (List.mem_of_getElem? (i := 299) (by decide +kernel)) (by decide)
theorem wd_300 : Cond.fieldLink RX1 17 "VerandaWar$Signals" "many" "I" ∈ tb := tb_in (List.mem_of_getElem? (i := 300) (by decide +kernel)) (by decide)
theorem wd_301 : Cond.fieldLink RX11 187 "VerandaWar$Signals" "many" "I" ∈ tb := tb_in (List.mem_of_getElem? (i := 301) (by decide +kernel)) (by decide)
theorem wd_313 : Cond.fieldLink RX1 13 "VerandaWar$Common" "longest" "[I" ∈ tb := tb_in (List.mem_of_getElem? (i := 313) (by decide +kernel)) (by decide)
theorem wd_323 : Cond.fieldLink RX3 11 "VerandaWar$Glasses" "way" "[I" ∈ tb := tb_in (List.mem_of_getElem? (i := 323) (by decide +kernel)) (by decide)
theorem wd_324 : Cond.fieldLink RX3 15 "VerandaWar$Glasses" "whom" "[I" ∈ tb := tb_in (List.mem_of_getElem? (i := 324) (by decide +kernel)) (by decide)
theorem wd_325 : Cond.fieldLink RX11 281 "VerandaWar$Glasses" "whom" "[I" ∈ tb := tb_in (List.mem_of_getElem? (i := 325) (by decide +kernel)) (by decide)
theorem wd_326 : Cond.fieldLink RX3 18 "VerandaWar$Glasses" "here" "I" ∈ tb := tb_in (List.mem_of_getElem? (i := 326) (by decide +kernel)) (by decide)
theorem wd_327 : Cond.fieldLink RX3 22 "VerandaWar$Glasses" "across" "I" ∈ tb := tb_in (List.mem_of_getElem? (i := 327) (by decide +kernel)) (by decide)
theorem wd_343 : Cond.fieldLink RX0 11 "VerandaWar$Bridge" "cards" "[I" ∈ tb := tb_in (List.mem_of_getElem? (i := 343) (by decide +kernel)) (by decide)
theorem wd_344 : Cond.fieldLink RX0 15 "VerandaWar$Bridge" "trumps" "I" ∈ tb := tb_in (List.mem_of_getElem? (i := 344) (by decide +kernel)) (by decide)
theorem wd_345 : Cond.fieldLink RX0 19 "VerandaWar$Bridge" "dealt" "I" ∈ tb := tb_in (List.mem_of_getElem? (i := 345) (by decide +kernel)) (by decide)
theorem wd_346 : Cond.fieldLink RX0 22 "VerandaWar$Bridge" "tricks" "I" ∈ tb := tb_in (List.mem_of_getElem? (i := 346) (by decide +kernel)) (by decide)
theorem wd_347 : Cond.fieldLink RX11 322 "VerandaWar$Bridge" "tricks" "I" ∈ tb := tb_in (List.mem_of_getElem? (i := 347) (by decide +kernel)) (by decide)
theorem wd_348 : Cond.fieldLink RX0 25 "VerandaWar$Bridge" "card" "I" ∈ tb := tb_in (List.mem_of_getElem? (i := 348) (by decide +kernel)) (by decide)
theorem wd_349 : Cond.fieldLink RX11 325 "VerandaWar$Bridge" "card" "I" ∈ tb := tb_in (List.mem_of_getElem? (i := 349) (by decide +kernel)) (by decide)
theorem wd_367 : Cond.fieldLink RX4 9 "VerandaWar$Law" "code" "[I" ∈ tb := tb_in (List.mem_of_getElem? (i := 367) (by decide +kernel)) (by decide)
theorem wd_368 : Cond.fieldLink RX4 13 "VerandaWar$Law" "with" "[I" ∈ tb := tb_in (List.mem_of_getElem? (i := 368) (by decide +kernel)) (by decide)
theorem wd_369 : Cond.fieldLink RX4 16 "VerandaWar$Law" "letter" "[I" ∈ tb := tb_in (List.mem_of_getElem? (i := 369) (by decide +kernel)) (by decide)
theorem wd_370 : Cond.fieldLink RX5 48 "VerandaWar$Law" "letter" "[I" ∈ tb := tb_in (List.mem_of_getElem? (i := 370) (by decide +kernel)) (by decide)
theorem wd_371 : Cond.fieldLink RX4 19 "VerandaWar$Law" "amountFrom" "[I" ∈ tb := tb_in (List.mem_of_getElem? (i := 371) (by decide +kernel)) (by decide)
theorem wd_372 : Cond.fieldLink RX5 52 "VerandaWar$Law" "amountFrom" "[I" ∈ tb := tb_in (List.mem_of_getElem? (i := 372) (by decide +kernel)) (by decide)
theorem wd_373 : Cond.fieldLink RX4 22 "VerandaWar$Law" "testFrom" "[I" ∈ tb := tb_in (List.mem_of_getElem? (i := 373) (by decide +kernel)) (by decide)
theorem wd_374 : Cond.fieldLink RX5 61 "VerandaWar$Law" "testFrom" "[I" ∈ tb := tb_in (List.mem_of_getElem? (i := 374) (by decide +kernel)) (by decide)
theorem wd_375 : Cond.fieldLink RX4 25 "VerandaWar$Law" "testEnd" "[I" ∈ tb := tb_in (List.mem_of_getElem? (i := 375) (by decide +kernel)) (by decide)
theorem wd_376 : Cond.fieldLink RX5 70 "VerandaWar$Law" "testEnd" "[I" ∈ tb := tb_in (List.mem_of_getElem? (i := 376) (by decide +kernel)) (by decide)
theorem wd_377 : Cond.fieldLink RX4 28 "VerandaWar$Law" "values" "[I" ∈ tb := tb_in (List.mem_of_getElem? (i := 377) (by decide +kernel)) (by decide)
theorem wd_378 : Cond.fieldLink RX2 106 "VerandaWar$Law" "values" "[I" ∈ tb := tb_in (List.mem_of_getElem? (i := 378) (by decide +kernel)) (by decide)
theorem wd_379 : Cond.fieldLink RX4 31 "VerandaWar$Law" "stack" "[I" ∈ tb := tb_in (List.mem_of_getElem? (i := 379) (by decide +kernel)) (by decide)
theorem wd_380 : Cond.fieldLink RX4 34 "VerandaWar$Law" "many" "I" ∈ tb := tb_in (List.mem_of_getElem? (i := 380) (by decide +kernel)) (by decide)
theorem wd_381 : Cond.fieldLink RX5 73 "VerandaWar$Law" "many" "I" ∈ tb := tb_in (List.mem_of_getElem? (i := 381) (by decide +kernel)) (by decide)
theorem wd_382 : Cond.fieldLink RX11 164 "VerandaWar$Law" "many" "I" ∈ tb := tb_in (List.mem_of_getElem? (i := 382) (by decide +kernel)) (by decide)
theorem wd_383 : Cond.fieldLink RX4 38 "VerandaWar$Law" "size" "I" ∈ tb := tb_in (List.mem_of_getElem? (i := 383) (by decide +kernel)) (by decide)
theorem wd_384 : Cond.fieldLink RX5 55 "VerandaWar$Law" "size" "I" ∈ tb := tb_in (List.mem_of_getElem? (i := 384) (by decide +kernel)) (by decide)
theorem wd_385 : Cond.fieldLink RX4 41 "VerandaWar$Law" "refused" "Z" ∈ tb := tb_in (List.mem_of_getElem? (i := 385) (by decide +kernel)) (by decide)
theorem wd_415 : Cond.fieldLink RX5 9 "VerandaWar$LawReader" "tape" "LVerandaWar$Tape;" ∈ tb := tb_in (List.mem_of_getElem? (i := 415) (by decide +kernel)) (by decide)
theorem wd_416 : Cond.fieldLink RX5 15 "VerandaWar$LawReader" "into" "LVerandaWar$Law;" ∈ tb := tb_in (List.mem_of_getElem? (i := 416) (by decide +kernel)) (by decide)
theorem wd_422 : Cond.fieldLink RX11 10 "VerandaWar" "now" "LVerandaWar$War;" ∈ tb := tb_in (List.mem_of_getElem? (i := 422) (by decide +kernel)) (by decide)
theorem wd_423 : Cond.fieldLink RX11 16 "VerandaWar" "kept" "LVerandaWar$War;" ∈ tb := tb_in (List.mem_of_getElem? (i := 423) (by decide +kernel)) (by decide)
theorem wd_424 : Cond.fieldLink RX11 19 "VerandaWar" "trial" "LVerandaWar$War;" ∈ tb := tb_in (List.mem_of_getElem? (i := 424) (by decide +kernel)) (by decide)
theorem wd_425 : Cond.fieldLink RX11 25 "VerandaWar" "valley" "LVerandaWar$Valley;" ∈ tb := tb_in (List.mem_of_getElem? (i := 425) (by decide +kernel)) (by decide)
theorem wd_426 : Cond.fieldLink RX11 32 "VerandaWar" "tape" "LVerandaWar$Tape;" ∈ tb := tb_in (List.mem_of_getElem? (i := 426) (by decide +kernel)) (by decide)
theorem wd_427 : Cond.fieldLink RX11 41 "VerandaWar" "ordersReader" "LVerandaWar$OrdersReader;" ∈ tb := tb_in (List.mem_of_getElem? (i := 427) (by decide +kernel)) (by decide)
theorem wd_428 : Cond.fieldLink RX11 50 "VerandaWar" "course" "LVerandaWar$Course;" ∈ tb := tb_in (List.mem_of_getElem? (i := 428) (by decide +kernel)) (by decide)
theorem wd_429 : Cond.fieldLink RX11 57 "VerandaWar" "near" "LVerandaWar$Signals;" ∈ tb := tb_in (List.mem_of_getElem? (i := 429) (by decide +kernel)) (by decide)
theorem wd_430 : Cond.fieldLink RX11 61 "VerandaWar" "far" "LVerandaWar$Signals;" ∈ tb := tb_in (List.mem_of_getElem? (i := 430) (by decide +kernel)) (by decide)
theorem wd_431 : Cond.fieldLink RX11 64 "VerandaWar" "read" "LVerandaWar$Signals;" ∈ tb := tb_in (List.mem_of_getElem? (i := 431) (by decide +kernel)) (by decide)
theorem wd_432 : Cond.fieldLink RX11 70 "VerandaWar" "common" "LVerandaWar$Common;" ∈ tb := tb_in (List.mem_of_getElem? (i := 432) (by decide +kernel)) (by decide)
theorem wd_433 : Cond.fieldLink RX11 77 "VerandaWar" "tray" "LVerandaWar$Glasses;" ∈ tb := tb_in (List.mem_of_getElem? (i := 433) (by decide +kernel)) (by decide)
theorem wd_434 : Cond.fieldLink RX11 84 "VerandaWar" "table" "LVerandaWar$Bridge;" ∈ tb := tb_in (List.mem_of_getElem? (i := 434) (by decide +kernel)) (by decide)
theorem wd_435 : Cond.fieldLink RX11 88 "VerandaWar" "row" "[I" ∈ tb := tb_in (List.mem_of_getElem? (i := 435) (by decide +kernel)) (by decide)
theorem wd_436 : Cond.fieldLink RX11 95 "VerandaWar" "rules" "LVerandaWar$Law;" ∈ tb := tb_in (List.mem_of_getElem? (i := 436) (by decide +kernel)) (by decide)
theorem wd_437 : Cond.fieldLink RX11 99 "VerandaWar" "spare" "LVerandaWar$Law;" ∈ tb := tb_in (List.mem_of_getElem? (i := 437) (by decide +kernel)) (by decide)
theorem wd_438 : Cond.fieldLink RX11 107 "VerandaWar" "lawReader" "LVerandaWar$LawReader;" ∈ tb := tb_in (List.mem_of_getElem? (i := 438) (by decide +kernel)) (by decide)
theorem wd_439 : Cond.fieldLink RX11 111 "VerandaWar" "isKept" "Z" ∈ tb := tb_in (List.mem_of_getElem? (i := 439) (by decide +kernel)) (by decide)
theorem wd_481 : Cond.methodLink RX11 115 yX11_isChair ∈ tb := tb_in (List.mem_of_getElem? (i := 481) (by decide +kernel)) (by decide)
theorem wd_482 : Cond.static yX11_isChair ∈ tb := tb_in (List.mem_of_getElem? (i := 482) (by decide +kernel)) (by decide)
theorem wd_483 : Cond.code yX11_isChair cX11_isChair 2 (some .boolean) ∈ tb := tb_in (List.mem_of_getElem? (i := 483) (by decide +kernel)) (by decide)
theorem wd_484 : Cond.methodLink RX11 131 yX11_isSide ∈ tb := tb_in (List.mem_of_getElem? (i := 484) (by decide +kernel)) (by decide)
theorem wd_485 : Cond.static yX11_isSide ∈ tb := tb_in (List.mem_of_getElem? (i := 485) (by decide +kernel)) (by decide)
theorem wd_486 : Cond.code yX11_isSide cX11_isSide 1 (some .boolean) ∈ tb := tb_in (List.mem_of_getElem? (i := 486) (by decide +kernel)) (by decide)
theorem wd_487 : Cond.methodLink RX11 119 yX11_within ∈ tb := tb_in (List.mem_of_getElem? (i := 487) (by decide +kernel)) (by decide)
theorem wd_488 : Cond.static yX11_within ∈ tb := tb_in (List.mem_of_getElem? (i := 488) (by decide +kernel)) (by decide)
theorem wd_489 : Cond.code yX11_within cX11_within 3 (some .boolean) ∈ tb := tb_in (List.mem_of_getElem? (i := 489) (by decide +kernel)) (by decide)
theorem wd_490 : Cond.methodLink RX11 123 yX10_seat ∈ tb := tb_in (List.mem_of_getElem? (i := 490) (by decide +kernel)) (by decide)
theorem wd_491 : Cond.instanceMethod yX10_seat ∈ tb := tb_in (List.mem_of_getElem? (i := 491) (by decide +kernel)) (by decide)
theorem wd_492 : Cond.selects RX10 yX10_seat yX10_seat ∈ tb := tb_in (List.mem_of_getElem? (i := 492) (by decide +kernel)) (by decide)
theorem wd_493 : Cond.code yX10_seat cX10_seat 5 none ∈ tb := tb_in (List.mem_of_getElem? (i := 493) (by decide +kernel)) (by decide)
theorem wd_506 : Cond.methodLink RX11 141 yX8_hasRoom ∈ tb := tb_in (List.mem_of_getElem? (i := 506) (by decide +kernel)) (by decide)
theorem wd_507 : Cond.instanceMethod yX8_hasRoom ∈ tb := tb_in (List.mem_of_getElem? (i := 507) (by decide +kernel)) (by decide)
theorem wd_508 : Cond.selects RX8 yX8_hasRoom yX8_hasRoom ∈ tb := tb_in (List.mem_of_getElem? (i := 508) (by decide +kernel)) (by decide)
theorem wd_509 : Cond.code yX8_hasRoom cX8_hasRoom 2 (some .boolean) ∈ tb := tb_in (List.mem_of_getElem? (i := 509) (by decide +kernel)) (by decide)
theorem wd_510 : Cond.methodLink RX11 144 yX8_add ∈ tb := tb_in (List.mem_of_getElem? (i := 510) (by decide +kernel)) (by decide)
theorem wd_511 : Cond.instanceMethod yX8_add ∈ tb := tb_in (List.mem_of_getElem? (i := 511) (by decide +kernel)) (by decide)
theorem wd_512 : Cond.selects RX8 yX8_add yX8_add ∈ tb := tb_in (List.mem_of_getElem? (i := 512) (by decide +kernel)) (by decide)
theorem wd_513 : Cond.code yX8_add cX8_add 3 none ∈ tb := tb_in (List.mem_of_getElem? (i := 513) (by decide +kernel)) (by decide)
theorem wd_518 : Cond.methodLink RX11 151 yX8_has ∈ tb := tb_in (List.mem_of_getElem? (i := 518) (by decide +kernel)) (by decide)
theorem wd_519 : Cond.instanceMethod yX8_has ∈ tb := tb_in (List.mem_of_getElem? (i := 519) (by decide +kernel)) (by decide)
theorem wd_520 : Cond.selects RX8 yX8_has yX8_has ∈ tb := tb_in (List.mem_of_getElem? (i := 520) (by decide +kernel)) (by decide)
theorem wd_521 : Cond.code yX8_has cX8_has 2 (some .boolean) ∈ tb := tb_in (List.mem_of_getElem? (i := 521) (by decide +kernel)) (by decide)
theorem wd_522 : Cond.methodLink RX11 154 yX5_readInto ∈ tb := tb_in (List.mem_of_getElem? (i := 522) (by decide +kernel)) (by decide)
theorem wd_523 : Cond.instanceMethod yX5_readInto ∈ tb := tb_in (List.mem_of_getElem? (i := 523) (by decide +kernel)) (by decide)
theorem wd_524 : Cond.selects RX5 yX5_readInto yX5_readInto ∈ tb := tb_in (List.mem_of_getElem? (i := 524) (by decide +kernel)) (by decide)
theorem wd_525 : Cond.code yX5_readInto cX5_readInto 5 (some .boolean) ∈ tb := tb_in (List.mem_of_getElem? (i := 525) (by decide +kernel)) (by decide)
theorem wd_526 : Cond.methodLink RX5 19 yX4_begin ∈ tb := tb_in (List.mem_of_getElem? (i := 526) (by decide +kernel)) (by decide)
theorem wd_527 : Cond.instanceMethod yX4_begin ∈ tb := tb_in (List.mem_of_getElem? (i := 527) (by decide +kernel)) (by decide)
theorem wd_528 : Cond.selects RX4 yX4_begin yX4_begin ∈ tb := tb_in (List.mem_of_getElem? (i := 528) (by decide +kernel)) (by decide)
theorem wd_529 : Cond.code yX4_begin cX4_begin 1 none ∈ tb := tb_in (List.mem_of_getElem? (i := 529) (by decide +kernel)) (by decide)
theorem wd_530 : Cond.methodLink RX5 24 yX8_begin ∈ tb := tb_in (List.mem_of_getElem? (i := 530) (by decide +kernel)) (by decide)
theorem wd_531 : Cond.instanceMethod yX8_begin ∈ tb := tb_in (List.mem_of_getElem? (i := 531) (by decide +kernel)) (by decide)
theorem wd_532 : Cond.selects RX8 yX8_begin yX8_begin ∈ tb := tb_in (List.mem_of_getElem? (i := 532) (by decide +kernel)) (by decide)
theorem wd_533 : Cond.code yX8_begin cX8_begin 2 none ∈ tb := tb_in (List.mem_of_getElem? (i := 533) (by decide +kernel)) (by decide)
theorem wd_534 : Cond.methodLink RX5 29 yX8_here ∈ tb := tb_in (List.mem_of_getElem? (i := 534) (by decide +kernel)) (by decide)
theorem wd_535 : Cond.instanceMethod yX8_here ∈ tb := tb_in (List.mem_of_getElem? (i := 535) (by decide +kernel)) (by decide)
theorem wd_536 : Cond.selects RX8 yX8_here yX8_here ∈ tb := tb_in (List.mem_of_getElem? (i := 536) (by decide +kernel)) (by decide)
theorem wd_537 : Cond.code yX8_here cX8_here 1 (some .int) ∈ tb := tb_in (List.mem_of_getElem? (i := 537) (by decide +kernel)) (by decide)
theorem wd_538 : Cond.methodLink RX5 33 yX8_refuse ∈ tb := tb_in (List.mem_of_getElem? (i := 538) (by decide +kernel)) (by decide)
theorem wd_539 : Cond.instanceMethod yX8_refuse ∈ tb := tb_in (List.mem_of_getElem? (i := 539) (by decide +kernel)) (by decide)
theorem wd_540 : Cond.selects RX8 yX8_refuse yX8_refuse ∈ tb := tb_in (List.mem_of_getElem? (i := 540) (by decide +kernel)) (by decide)
theorem wd_541 : Cond.code yX8_refuse cX8_refuse 2 (some .boolean) ∈ tb := tb_in (List.mem_of_getElem? (i := 541) (by decide +kernel)) (by decide)
theorem wd_542 : Cond.methodLink RX8 39 yX8_refuseAt ∈ tb := tb_in (List.mem_of_getElem? (i := 542) (by decide +kernel)) (by decide)
theorem wd_543 : Cond.instanceMethod yX8_refuseAt ∈ tb := tb_in (List.mem_of_getElem? (i := 543) (by decide +kernel)) (by decide)
theorem wd_544 : Cond.selects RX8 yX8_refuseAt yX8_refuseAt ∈ tb := tb_in (List.mem_of_getElem? (i := 544) (by decide +kernel)) (by decide)
theorem wd_545 : Cond.code yX8_refuseAt cX8_refuseAt 3 (some .boolean) ∈ tb := tb_in (List.mem_of_getElem? (i := 545) (by decide +kernel)) (by decide)
theorem wd_546 : Cond.methodLink RX5 37 yX5_readRule ∈ tb := tb_in (List.mem_of_getElem? (i := 546) (by decide +kernel)) (by decide)
theorem wd_548 : Cond.instanceMethod yX5_readRule ∈ tb := tb_in (List.mem_of_getElem? (i := 548) (by decide +kernel)) (by decide)
theorem wd_549 : Cond.code yX5_readRule cX5_readRule 3 (some .boolean) ∈ tb := tb_in (List.mem_of_getElem? (i := 549) (by decide +kernel)) (by decide)
theorem wd_550 : Cond.methodLink RX5 58 yX5_readAmount ∈ tb := tb_in (List.mem_of_getElem? (i := 550) (by decide +kernel)) (by decide)
theorem wd_552 : Cond.instanceMethod yX5_readAmount ∈ tb := tb_in (List.mem_of_getElem? (i := 552) (by decide +kernel)) (by decide)
theorem wd_553 : Cond.code yX5_readAmount cX5_readAmount 4 (some .boolean) ∈ tb := tb_in (List.mem_of_getElem? (i := 553) (by decide +kernel)) (by decide)
theorem wd_554 : Cond.methodLink RX5 92 yX5_readTerm ∈ tb := tb_in (List.mem_of_getElem? (i := 554) (by decide +kernel)) (by decide)
theorem wd_556 : Cond.instanceMethod yX5_readTerm ∈ tb := tb_in (List.mem_of_getElem? (i := 556) (by decide +kernel)) (by decide)
theorem wd_557 : Cond.code yX5_readTerm cX5_readTerm 4 (some .boolean) ∈ tb := tb_in (List.mem_of_getElem? (i := 557) (by decide +kernel)) (by decide)
theorem wd_558 : Cond.methodLink RX5 95 yX5_readFactor ∈ tb := tb_in (List.mem_of_getElem? (i := 558) (by decide +kernel)) (by decide)
theorem wd_560 : Cond.instanceMethod yX5_readFactor ∈ tb := tb_in (List.mem_of_getElem? (i := 560) (by decide +kernel)) (by decide)
theorem wd_561 : Cond.code yX5_readFactor cX5_readFactor 3 (some .boolean) ∈ tb := tb_in (List.mem_of_getElem? (i := 561) (by decide +kernel)) (by decide)
theorem wd_562 : Cond.methodLink RX5 67 yX5_readClosing ∈ tb := tb_in (List.mem_of_getElem? (i := 562) (by decide +kernel)) (by decide)
theorem wd_564 : Cond.instanceMethod yX5_readClosing ∈ tb := tb_in (List.mem_of_getElem? (i := 564) (by decide +kernel)) (by decide)
theorem wd_565 : Cond.code yX5_readClosing cX5_readClosing 2 (some .boolean) ∈ tb := tb_in (List.mem_of_getElem? (i := 565) (by decide +kernel)) (by decide)
theorem wd_566 : Cond.methodLink RX5 41 yX8_takes ∈ tb := tb_in (List.mem_of_getElem? (i := 566) (by decide +kernel)) (by decide)
theorem wd_567 : Cond.instanceMethod yX8_takes ∈ tb := tb_in (List.mem_of_getElem? (i := 567) (by decide +kernel)) (by decide)
theorem wd_568 : Cond.selects RX8 yX8_takes yX8_takes ∈ tb := tb_in (List.mem_of_getElem? (i := 568) (by decide +kernel)) (by decide)
theorem wd_569 : Cond.code yX8_takes cX8_takes 2 (some .boolean) ∈ tb := tb_in (List.mem_of_getElem? (i := 569) (by decide +kernel)) (by decide)
theorem wd_570 : Cond.methodLink RX8 28 yX8_here ∈ tb := tb_in (List.mem_of_getElem? (i := 570) (by decide +kernel)) (by decide)
theorem wd_571 : Cond.methodLink RX5 98 yX8_digit ∈ tb := tb_in (List.mem_of_getElem? (i := 571) (by decide +kernel)) (by decide)
theorem wd_572 : Cond.instanceMethod yX8_digit ∈ tb := tb_in (List.mem_of_getElem? (i := 572) (by decide +kernel)) (by decide)
theorem wd_573 : Cond.selects RX8 yX8_digit yX8_digit ∈ tb := tb_in (List.mem_of_getElem? (i := 573) (by decide +kernel)) (by decide)
theorem wd_574 : Cond.code yX8_digit cX8_digit 2 (some .int) ∈ tb := tb_in (List.mem_of_getElem? (i := 574) (by decide +kernel)) (by decide)
theorem wd_575 : Cond.methodLink RX5 101 yX8_number ∈ tb := tb_in (List.mem_of_getElem? (i := 575) (by decide +kernel)) (by decide)
theorem wd_576 : Cond.instanceMethod yX8_number ∈ tb := tb_in (List.mem_of_getElem? (i := 576) (by decide +kernel)) (by decide)
theorem wd_577 : Cond.selects RX8 yX8_number yX8_number ∈ tb := tb_in (List.mem_of_getElem? (i := 577) (by decide +kernel)) (by decide)
theorem wd_578 : Cond.code yX8_number cX8_number 4 (some .int) ∈ tb := tb_in (List.mem_of_getElem? (i := 578) (by decide +kernel)) (by decide)
theorem wd_579 : Cond.methodLink RX8 32 yX8_digit ∈ tb := tb_in (List.mem_of_getElem? (i := 579) (by decide +kernel)) (by decide)
theorem wd_580 : Cond.methodLink RX8 35 yX8_refuse ∈ tb := tb_in (List.mem_of_getElem? (i := 580) (by decide +kernel)) (by decide)
theorem wd_581 : Cond.methodLink RX5 79 yX4_add ∈ tb := tb_in (List.mem_of_getElem? (i := 581) (by decide +kernel)) (by decide)
theorem wd_582 : Cond.instanceMethod yX4_add ∈ tb := tb_in (List.mem_of_getElem? (i := 582) (by decide +kernel)) (by decide)
theorem wd_583 : Cond.selects RX4 yX4_add yX4_add ∈ tb := tb_in (List.mem_of_getElem? (i := 583) (by decide +kernel)) (by decide)
theorem wd_584 : Cond.code yX4_add cX4_add 3 (some .int) ∈ tb := tb_in (List.mem_of_getElem? (i := 584) (by decide +kernel)) (by decide)
theorem wd_615 : Cond.static Lib.Math.max.name ∈ tb := tb_in (List.mem_of_getElem? (i := 615) (by decide +kernel)) (by decide)
theorem wd_616 : Cond.code Lib.Math.max.name Lib.Math.max.code 2 (some .int) ∈ tb := tb_in (List.mem_of_getElem? (i := 616) (by decide +kernel)) (by decide)
theorem wd_618 : Cond.static Lib.Math.min.name ∈ tb := tb_in (List.mem_of_getElem? (i := 618) (by decide +kernel)) (by decide)
theorem wd_619 : Cond.code Lib.Math.min.name Lib.Math.min.code 2 (some .int) ∈ tb := tb_in (List.mem_of_getElem? (i := 619) (by decide +kernel)) (by decide)
theorem wd_672 : Cond.methodLink RX5 64 yX5_readChoice ∈ tb := tb_in (List.mem_of_getElem? (i := 672) (by decide +kernel)) (by decide)
theorem wd_674 : Cond.instanceMethod yX5_readChoice ∈ tb := tb_in (List.mem_of_getElem? (i := 674) (by decide +kernel)) (by decide)
theorem wd_675 : Cond.code yX5_readChoice cX5_readChoice 4 (some .boolean) ∈ tb := tb_in (List.mem_of_getElem? (i := 675) (by decide +kernel)) (by decide)
theorem wd_676 : Cond.methodLink RX5 76 yX5_readPart ∈ tb := tb_in (List.mem_of_getElem? (i := 676) (by decide +kernel)) (by decide)
theorem wd_678 : Cond.instanceMethod yX5_readPart ∈ tb := tb_in (List.mem_of_getElem? (i := 678) (by decide +kernel)) (by decide)
theorem wd_679 : Cond.code yX5_readPart cX5_readPart 4 (some .boolean) ∈ tb := tb_in (List.mem_of_getElem? (i := 679) (by decide +kernel)) (by decide)
theorem wd_680 : Cond.methodLink RX5 86 yX5_readTest ∈ tb := tb_in (List.mem_of_getElem? (i := 680) (by decide +kernel)) (by decide)
theorem wd_682 : Cond.instanceMethod yX5_readTest ∈ tb := tb_in (List.mem_of_getElem? (i := 682) (by decide +kernel)) (by decide)
theorem wd_683 : Cond.code yX5_readTest cX5_readTest 3 (some .boolean) ∈ tb := tb_in (List.mem_of_getElem? (i := 683) (by decide +kernel)) (by decide)
theorem wd_684 : Cond.methodLink RX5 89 yX5_readOpened ∈ tb := tb_in (List.mem_of_getElem? (i := 684) (by decide +kernel)) (by decide)
theorem wd_686 : Cond.instanceMethod yX5_readOpened ∈ tb := tb_in (List.mem_of_getElem? (i := 686) (by decide +kernel)) (by decide)
theorem wd_687 : Cond.code yX5_readOpened cX5_readOpened 2 (some .boolean) ∈ tb := tb_in (List.mem_of_getElem? (i := 687) (by decide +kernel)) (by decide)
theorem wd_688 : Cond.methodLink RX5 83 yX4_jumpHere ∈ tb := tb_in (List.mem_of_getElem? (i := 688) (by decide +kernel)) (by decide)
theorem wd_689 : Cond.instanceMethod yX4_jumpHere ∈ tb := tb_in (List.mem_of_getElem? (i := 689) (by decide +kernel)) (by decide)
theorem wd_690 : Cond.selects RX4 yX4_jumpHere yX4_jumpHere ∈ tb := tb_in (List.mem_of_getElem? (i := 690) (by decide +kernel)) (by decide)
theorem wd_691 : Cond.code yX4_jumpHere cX4_jumpHere 2 none ∈ tb := tb_in (List.mem_of_getElem? (i := 691) (by decide +kernel)) (by decide)
theorem wd_692 : Cond.methodLink RX11 158 yX8_clear ∈ tb := tb_in (List.mem_of_getElem? (i := 692) (by decide +kernel)) (by decide)
theorem wd_693 : Cond.instanceMethod yX8_clear ∈ tb := tb_in (List.mem_of_getElem? (i := 693) (by decide +kernel)) (by decide)
theorem wd_694 : Cond.selects RX8 yX8_clear yX8_clear ∈ tb := tb_in (List.mem_of_getElem? (i := 694) (by decide +kernel)) (by decide)
theorem wd_695 : Cond.code yX8_clear cX8_clear 1 none ∈ tb := tb_in (List.mem_of_getElem? (i := 695) (by decide +kernel)) (by decide)
theorem wd_701 : Cond.methodLink RX11 165 yX10_copy ∈ tb := tb_in (List.mem_of_getElem? (i := 701) (by decide +kernel)) (by decide)
theorem wd_702 : Cond.instanceMethod yX10_copy ∈ tb := tb_in (List.mem_of_getElem? (i := 702) (by decide +kernel)) (by decide)
theorem wd_703 : Cond.selects RX10 yX10_copy yX10_copy ∈ tb := tb_in (List.mem_of_getElem? (i := 703) (by decide +kernel)) (by decide)
theorem wd_704 : Cond.code yX10_copy cX10_copy 2 none ∈ tb := tb_in (List.mem_of_getElem? (i := 704) (by decide +kernel)) (by decide)
theorem wd_705 : Cond.methodLink RX10 46 arraycopyName ∈ tb := tb_in (List.mem_of_getElem? (i := 705) (by decide +kernel)) (by decide)
theorem wd_706 : Cond.static arraycopyName ∈ tb := tb_in (List.mem_of_getElem? (i := 706) (by decide +kernel)) (by decide)
theorem wd_707 : Cond.native arraycopyName ∈ tb := tb_in (List.mem_of_getElem? (i := 707) (by decide +kernel)) (by decide)
theorem wd_708 : Cond.methodLink RX11 169 yX6_readOnto ∈ tb := tb_in (List.mem_of_getElem? (i := 708) (by decide +kernel)) (by decide)
theorem wd_709 : Cond.instanceMethod yX6_readOnto ∈ tb := tb_in (List.mem_of_getElem? (i := 709) (by decide +kernel)) (by decide)
theorem wd_710 : Cond.selects RX6 yX6_readOnto yX6_readOnto ∈ tb := tb_in (List.mem_of_getElem? (i := 710) (by decide +kernel)) (by decide)
theorem wd_711 : Cond.code yX6_readOnto cX6_readOnto 4 (some .boolean) ∈ tb := tb_in (List.mem_of_getElem? (i := 711) (by decide +kernel)) (by decide)
theorem wd_712 : Cond.methodLink RX6 19 yX8_begin ∈ tb := tb_in (List.mem_of_getElem? (i := 712) (by decide +kernel)) (by decide)
theorem wd_713 : Cond.methodLink RX6 25 yX8_here ∈ tb := tb_in (List.mem_of_getElem? (i := 713) (by decide +kernel)) (by decide)
theorem wd_714 : Cond.methodLink RX6 29 yX8_refuse ∈ tb := tb_in (List.mem_of_getElem? (i := 714) (by decide +kernel)) (by decide)
theorem wd_715 : Cond.methodLink RX6 36 yX6_readLine ∈ tb := tb_in (List.mem_of_getElem? (i := 715) (by decide +kernel)) (by decide)
theorem wd_717 : Cond.instanceMethod yX6_readLine ∈ tb := tb_in (List.mem_of_getElem? (i := 717) (by decide +kernel)) (by decide)
theorem wd_718 : Cond.code yX6_readLine cX6_readLine 6 (some .boolean) ∈ tb := tb_in (List.mem_of_getElem? (i := 718) (by decide +kernel)) (by decide)
theorem wd_719 : Cond.methodLink RX6 43 yX8_digit ∈ tb := tb_in (List.mem_of_getElem? (i := 719) (by decide +kernel)) (by decide)
theorem wd_721 : Cond.methodLink RX6 56 yX6_readGift ∈ tb := tb_in (List.mem_of_getElem? (i := 721) (by decide +kernel)) (by decide)
theorem wd_723 : Cond.instanceMethod yX6_readGift ∈ tb := tb_in (List.mem_of_getElem? (i := 723) (by decide +kernel)) (by decide)
theorem wd_724 : Cond.code yX6_readGift cX6_readGift 6 (some .boolean) ∈ tb := tb_in (List.mem_of_getElem? (i := 724) (by decide +kernel)) (by decide)
theorem wd_725 : Cond.methodLink RX6 66 yX8_number ∈ tb := tb_in (List.mem_of_getElem? (i := 725) (by decide +kernel)) (by decide)
theorem wd_726 : Cond.methodLink RX6 73 Lib.Math.min.name ∈ tb := tb_in (List.mem_of_getElem? (i := 726) (by decide +kernel)) (by decide)
theorem wd_727 : Cond.methodLink RX6 79 yX8_refuseAt ∈ tb := tb_in (List.mem_of_getElem? (i := 727) (by decide +kernel)) (by decide)
theorem wd_728 : Cond.methodLink RX6 60 yX6_readChange ∈ tb := tb_in (List.mem_of_getElem? (i := 728) (by decide +kernel)) (by decide)
theorem wd_730 : Cond.instanceMethod yX6_readChange ∈ tb := tb_in (List.mem_of_getElem? (i := 730) (by decide +kernel)) (by decide)
theorem wd_731 : Cond.code yX6_readChange cX6_readChange 5 (some .boolean) ∈ tb := tb_in (List.mem_of_getElem? (i := 731) (by decide +kernel)) (by decide)
theorem wd_732 : Cond.methodLink RX6 86 yX10_change ∈ tb := tb_in (List.mem_of_getElem? (i := 732) (by decide +kernel)) (by decide)
theorem wd_733 : Cond.instanceMethod yX10_change ∈ tb := tb_in (List.mem_of_getElem? (i := 733) (by decide +kernel)) (by decide)
theorem wd_734 : Cond.selects RX10 yX10_change yX10_change ∈ tb := tb_in (List.mem_of_getElem? (i := 734) (by decide +kernel)) (by decide)
theorem wd_735 : Cond.code yX10_change cX10_change 3 none ∈ tb := tb_in (List.mem_of_getElem? (i := 735) (by decide +kernel)) (by decide)
theorem wd_736 : Cond.methodLink RX10 52 yX10_turn ∈ tb := tb_in (List.mem_of_getElem? (i := 736) (by decide +kernel)) (by decide)
theorem wd_737 : Cond.static yX10_turn ∈ tb := tb_in (List.mem_of_getElem? (i := 737) (by decide +kernel)) (by decide)
theorem wd_738 : Cond.code yX10_turn cX10_turn 4 none ∈ tb := tb_in (List.mem_of_getElem? (i := 738) (by decide +kernel)) (by decide)
theorem wd_739 : Cond.methodLink RX6 40 yX8_takes ∈ tb := tb_in (List.mem_of_getElem? (i := 739) (by decide +kernel)) (by decide)
theorem wd_744 : Cond.methodLink RX11 176 yX7_readFrom ∈ tb := tb_in (List.mem_of_getElem? (i := 744) (by decide +kernel)) (by decide)
theorem wd_745 : Cond.instanceMethod yX7_readFrom ∈ tb := tb_in (List.mem_of_getElem? (i := 745) (by decide +kernel)) (by decide)
theorem wd_746 : Cond.selects RX7 yX7_readFrom yX7_readFrom ∈ tb := tb_in (List.mem_of_getElem? (i := 746) (by decide +kernel)) (by decide)
theorem wd_747 : Cond.code yX7_readFrom cX7_readFrom 3 (some .boolean) ∈ tb := tb_in (List.mem_of_getElem? (i := 747) (by decide +kernel)) (by decide)
theorem wd_748 : Cond.methodLink RX7 25 yX8_begin ∈ tb := tb_in (List.mem_of_getElem? (i := 748) (by decide +kernel)) (by decide)
theorem wd_749 : Cond.methodLink RX7 31 yX7_readLamps ∈ tb := tb_in (List.mem_of_getElem? (i := 749) (by decide +kernel)) (by decide)
theorem wd_751 : Cond.instanceMethod yX7_readLamps ∈ tb := tb_in (List.mem_of_getElem? (i := 751) (by decide +kernel)) (by decide)
theorem wd_752 : Cond.code yX7_readLamps cX7_readLamps 4 (some .boolean) ∈ tb := tb_in (List.mem_of_getElem? (i := 752) (by decide +kernel)) (by decide)
theorem wd_753 : Cond.methodLink RX7 43 yX7_readItem ∈ tb := tb_in (List.mem_of_getElem? (i := 753) (by decide +kernel)) (by decide)
theorem wd_755 : Cond.instanceMethod yX7_readItem ∈ tb := tb_in (List.mem_of_getElem? (i := 755) (by decide +kernel)) (by decide)
theorem wd_756 : Cond.code yX7_readItem cX7_readItem 7 (some .boolean) ∈ tb := tb_in (List.mem_of_getElem? (i := 756) (by decide +kernel)) (by decide)
theorem wd_757 : Cond.methodLink RX7 49 yX8_digit ∈ tb := tb_in (List.mem_of_getElem? (i := 757) (by decide +kernel)) (by decide)
theorem wd_758 : Cond.methodLink RX7 35 yX8_here ∈ tb := tb_in (List.mem_of_getElem? (i := 758) (by decide +kernel)) (by decide)
theorem wd_759 : Cond.methodLink RX7 39 yX8_refuse ∈ tb := tb_in (List.mem_of_getElem? (i := 759) (by decide +kernel)) (by decide)
theorem wd_760 : Cond.methodLink RX7 52 yX8_takes ∈ tb := tb_in (List.mem_of_getElem? (i := 760) (by decide +kernel)) (by decide)
theorem wd_761 : Cond.methodLink RX7 55 yX7_repeat ∈ tb := tb_in (List.mem_of_getElem? (i := 761) (by decide +kernel)) (by decide)
theorem wd_763 : Cond.instanceMethod yX7_repeat ∈ tb := tb_in (List.mem_of_getElem? (i := 763) (by decide +kernel)) (by decide)
theorem wd_764 : Cond.code yX7_repeat cX7_repeat 6 (some .boolean) ∈ tb := tb_in (List.mem_of_getElem? (i := 764) (by decide +kernel)) (by decide)
theorem wd_765 : Cond.methodLink RX7 59 yX8_refuseAt ∈ tb := tb_in (List.mem_of_getElem? (i := 765) (by decide +kernel)) (by decide)
theorem wd_767 : Cond.methodLink RX11 180 yX11_signalsOf ∈ tb := tb_in (List.mem_of_getElem? (i := 767) (by decide +kernel)) (by decide)
theorem wd_769 : Cond.instanceMethod yX11_signalsOf ∈ tb := tb_in (List.mem_of_getElem? (i := 769) (by decide +kernel)) (by decide)
theorem wd_770 : Cond.code yX11_signalsOf cX11_signalsOf 2 (some (.object "VerandaWar$Signals")) ∈ tb := tb_in (List.mem_of_getElem? (i := 770) (by decide +kernel)) (by decide)
theorem wd_771 : Cond.methodLink RX11 184 yX7_copy ∈ tb := tb_in (List.mem_of_getElem? (i := 771) (by decide +kernel)) (by decide)
theorem wd_772 : Cond.instanceMethod yX7_copy ∈ tb := tb_in (List.mem_of_getElem? (i := 772) (by decide +kernel)) (by decide)
theorem wd_773 : Cond.selects RX7 yX7_copy yX7_copy ∈ tb := tb_in (List.mem_of_getElem? (i := 773) (by decide +kernel)) (by decide)
theorem wd_774 : Cond.code yX7_copy cX7_copy 2 none ∈ tb := tb_in (List.mem_of_getElem? (i := 774) (by decide +kernel)) (by decide)
theorem wd_775 : Cond.methodLink RX7 19 arraycopyName ∈ tb := tb_in (List.mem_of_getElem? (i := 775) (by decide +kernel)) (by decide)
theorem wd_780 : Cond.methodLink RX11 188 yX2_run ∈ tb := tb_in (List.mem_of_getElem? (i := 780) (by decide +kernel)) (by decide)
theorem wd_781 : Cond.instanceMethod yX2_run ∈ tb := tb_in (List.mem_of_getElem? (i := 781) (by decide +kernel)) (by decide)
theorem wd_782 : Cond.selects RX2 yX2_run yX2_run ∈ tb := tb_in (List.mem_of_getElem? (i := 782) (by decide +kernel)) (by decide)
theorem wd_783 : Cond.code yX2_run cX2_run 5 none ∈ tb := tb_in (List.mem_of_getElem? (i := 783) (by decide +kernel)) (by decide)
theorem wd_784 : Cond.methodLink RX2 35 yJ7_fill_53178 ∈ tb := tb_in (List.mem_of_getElem? (i := 784) (by decide +kernel)) (by decide)
theorem wd_785 : Cond.methodLink RX2 41 yX9_lookAround ∈ tb := tb_in (List.mem_of_getElem? (i := 785) (by decide +kernel)) (by decide)
theorem wd_786 : Cond.instanceMethod yX9_lookAround ∈ tb := tb_in (List.mem_of_getElem? (i := 786) (by decide +kernel)) (by decide)
theorem wd_787 : Cond.selects RX9 yX9_lookAround yX9_lookAround ∈ tb := tb_in (List.mem_of_getElem? (i := 787) (by decide +kernel)) (by decide)
theorem wd_788 : Cond.code yX9_lookAround cX9_lookAround 5 none ∈ tb := tb_in (List.mem_of_getElem? (i := 788) (by decide +kernel)) (by decide)
theorem wd_789 : Cond.methodLink RX9 34 yJ7_fill_53178 ∈ tb := tb_in (List.mem_of_getElem? (i := 789) (by decide +kernel)) (by decide)
theorem wd_790 : Cond.methodLink RX9 43 yX9_sighted ∈ tb := tb_in (List.mem_of_getElem? (i := 790) (by decide +kernel)) (by decide)
theorem wd_791 : Cond.instanceMethod yX9_sighted ∈ tb := tb_in (List.mem_of_getElem? (i := 791) (by decide +kernel)) (by decide)
theorem wd_792 : Cond.selects RX9 yX9_sighted yX9_sighted ∈ tb := tb_in (List.mem_of_getElem? (i := 792) (by decide +kernel)) (by decide)
theorem wd_793 : Cond.code yX9_sighted cX9_sighted 4 (some .boolean) ∈ tb := tb_in (List.mem_of_getElem? (i := 793) (by decide +kernel)) (by decide)
theorem wd_794 : Cond.methodLink RX9 26 yX9_eye ∈ tb := tb_in (List.mem_of_getElem? (i := 794) (by decide +kernel)) (by decide)
theorem wd_795 : Cond.instanceMethod yX9_eye ∈ tb := tb_in (List.mem_of_getElem? (i := 795) (by decide +kernel)) (by decide)
theorem wd_796 : Cond.selects RX9 yX9_eye yX9_eye ∈ tb := tb_in (List.mem_of_getElem? (i := 796) (by decide +kernel)) (by decide)
theorem wd_797 : Cond.code yX9_eye cX9_eye 3 (some .int) ∈ tb := tb_in (List.mem_of_getElem? (i := 797) (by decide +kernel)) (by decide)
theorem wd_798 : Cond.methodLink RX9 30 yX9_isFree ∈ tb := tb_in (List.mem_of_getElem? (i := 798) (by decide +kernel)) (by decide)
theorem wd_799 : Cond.instanceMethod yX9_isFree ∈ tb := tb_in (List.mem_of_getElem? (i := 799) (by decide +kernel)) (by decide)
theorem wd_800 : Cond.selects RX9 yX9_isFree yX9_isFree ∈ tb := tb_in (List.mem_of_getElem? (i := 800) (by decide +kernel)) (by decide)
theorem wd_801 : Cond.code yX9_isFree cX9_isFree 6 (some .boolean) ∈ tb := tb_in (List.mem_of_getElem? (i := 801) (by decide +kernel)) (by decide)
theorem wd_802 : Cond.methodLink RX2 47 yX10_goesOn ∈ tb := tb_in (List.mem_of_getElem? (i := 802) (by decide +kernel)) (by decide)
theorem wd_803 : Cond.instanceMethod yX10_goesOn ∈ tb := tb_in (List.mem_of_getElem? (i := 803) (by decide +kernel)) (by decide)
theorem wd_804 : Cond.selects RX10 yX10_goesOn yX10_goesOn ∈ tb := tb_in (List.mem_of_getElem? (i := 804) (by decide +kernel)) (by decide)
theorem wd_805 : Cond.code yX10_goesOn cX10_goesOn 1 (some .boolean) ∈ tb := tb_in (List.mem_of_getElem? (i := 805) (by decide +kernel)) (by decide)
theorem wd_806 : Cond.methodLink RX2 53 yX2_passWatch ∈ tb := tb_in (List.mem_of_getElem? (i := 806) (by decide +kernel)) (by decide)
theorem wd_808 : Cond.instanceMethod yX2_passWatch ∈ tb := tb_in (List.mem_of_getElem? (i := 808) (by decide +kernel)) (by decide)
theorem wd_809 : Cond.code yX2_passWatch cX2_passWatch 6 none ∈ tb := tb_in (List.mem_of_getElem? (i := 809) (by decide +kernel)) (by decide)
theorem wd_810 : Cond.methodLink RX2 57 yX10_sidesOut ∈ tb := tb_in (List.mem_of_getElem? (i := 810) (by decide +kernel)) (by decide)
theorem wd_811 : Cond.instanceMethod yX10_sidesOut ∈ tb := tb_in (List.mem_of_getElem? (i := 811) (by decide +kernel)) (by decide)
theorem wd_812 : Cond.selects RX10 yX10_sidesOut yX10_sidesOut ∈ tb := tb_in (List.mem_of_getElem? (i := 812) (by decide +kernel)) (by decide)
theorem wd_813 : Cond.code yX10_sidesOut cX10_sidesOut 3 (some .int) ∈ tb := tb_in (List.mem_of_getElem? (i := 813) (by decide +kernel)) (by decide)
theorem wd_814 : Cond.methodLink RX2 64 yX2_drinkAndYawn ∈ tb := tb_in (List.mem_of_getElem? (i := 814) (by decide +kernel)) (by decide)
theorem wd_816 : Cond.instanceMethod yX2_drinkAndYawn ∈ tb := tb_in (List.mem_of_getElem? (i := 816) (by decide +kernel)) (by decide)
theorem wd_817 : Cond.code yX2_drinkAndYawn cX2_drinkAndYawn 6 none ∈ tb := tb_in (List.mem_of_getElem? (i := 817) (by decide +kernel)) (by decide)
theorem wd_818 : Cond.methodLink RX2 77 yX2_look ∈ tb := tb_in (List.mem_of_getElem? (i := 818) (by decide +kernel)) (by decide)
theorem wd_820 : Cond.instanceMethod yX2_look ∈ tb := tb_in (List.mem_of_getElem? (i := 820) (by decide +kernel)) (by decide)
theorem wd_821 : Cond.code yX2_look cX2_look 7 none ∈ tb := tb_in (List.mem_of_getElem? (i := 821) (by decide +kernel)) (by decide)
theorem wd_822 : Cond.methodLink RX2 103 yX10_bits ∈ tb := tb_in (List.mem_of_getElem? (i := 822) (by decide +kernel)) (by decide)
theorem wd_823 : Cond.instanceMethod yX10_bits ∈ tb := tb_in (List.mem_of_getElem? (i := 823) (by decide +kernel)) (by decide)
theorem wd_824 : Cond.selects RX10 yX10_bits yX10_bits ∈ tb := tb_in (List.mem_of_getElem? (i := 824) (by decide +kernel)) (by decide)
theorem wd_825 : Cond.code yX10_bits cX10_bits 5 (some .int) ∈ tb := tb_in (List.mem_of_getElem? (i := 825) (by decide +kernel)) (by decide)
theorem wd_826 : Cond.methodLink RX2 115 yJ6_bitCount_0f7a4 ∈ tb := tb_in (List.mem_of_getElem? (i := 826) (by decide +kernel)) (by decide)
theorem wd_827 : Cond.static yJ6_bitCount_0f7a4 ∈ tb := tb_in (List.mem_of_getElem? (i := 827) (by decide +kernel)) (by decide)
theorem wd_828 : Cond.code yJ6_bitCount_0f7a4 cJ6_bitCount_0f7a4 1 (some .int) ∈ tb := tb_in (List.mem_of_getElem? (i := 828) (by decide +kernel)) (by decide)
theorem wd_829 : Cond.constant RJ6 265 (1431655765) ∈ tb := tb_in (List.mem_of_getElem? (i := 829) (by decide +kernel)) (by decide)
theorem wd_830 : Cond.constant RJ6 266 (858993459) ∈ tb := tb_in (List.mem_of_getElem? (i := 830) (by decide +kernel)) (by decide)
theorem wd_831 : Cond.constant RJ6 267 (252645135) ∈ tb := tb_in (List.mem_of_getElem? (i := 831) (by decide +kernel)) (by decide)
theorem wd_832 : Cond.methodLink RX2 94 yX4_amount ∈ tb := tb_in (List.mem_of_getElem? (i := 832) (by decide +kernel)) (by decide)
theorem wd_833 : Cond.instanceMethod yX4_amount ∈ tb := tb_in (List.mem_of_getElem? (i := 833) (by decide +kernel)) (by decide)
theorem wd_834 : Cond.selects RX4 yX4_amount yX4_amount ∈ tb := tb_in (List.mem_of_getElem? (i := 834) (by decide +kernel)) (by decide)
theorem wd_835 : Cond.code yX4_amount cX4_amount 5 (some .int) ∈ tb := tb_in (List.mem_of_getElem? (i := 835) (by decide +kernel)) (by decide)
theorem wd_836 : Cond.methodLink RX4 45 yX4_reckon ∈ tb := tb_in (List.mem_of_getElem? (i := 836) (by decide +kernel)) (by decide)
theorem wd_838 : Cond.instanceMethod yX4_reckon ∈ tb := tb_in (List.mem_of_getElem? (i := 838) (by decide +kernel)) (by decide)
theorem wd_839 : Cond.code yX4_reckon cX4_reckon 8 (some .int) ∈ tb := tb_in (List.mem_of_getElem? (i := 839) (by decide +kernel)) (by decide)
theorem wd_840 : Cond.methodLink RX4 57 yX4_valueOf ∈ tb := tb_in (List.mem_of_getElem? (i := 840) (by decide +kernel)) (by decide)
theorem wd_842 : Cond.instanceMethod yX4_valueOf ∈ tb := tb_in (List.mem_of_getElem? (i := 842) (by decide +kernel)) (by decide)
theorem wd_843 : Cond.code yX4_valueOf cX4_valueOf 2 (some .int) ∈ tb := tb_in (List.mem_of_getElem? (i := 843) (by decide +kernel)) (by decide)
theorem wd_844 : Cond.methodLink RX4 61 yX4_push ∈ tb := tb_in (List.mem_of_getElem? (i := 844) (by decide +kernel)) (by decide)
theorem wd_846 : Cond.instanceMethod yX4_push ∈ tb := tb_in (List.mem_of_getElem? (i := 846) (by decide +kernel)) (by decide)
theorem wd_847 : Cond.code yX4_push cX4_push 3 (some .int) ∈ tb := tb_in (List.mem_of_getElem? (i := 847) (by decide +kernel)) (by decide)
theorem wd_848 : Cond.methodLink RX4 64 yX4_combine ∈ tb := tb_in (List.mem_of_getElem? (i := 848) (by decide +kernel)) (by decide)
theorem wd_850 : Cond.instanceMethod yX4_combine ∈ tb := tb_in (List.mem_of_getElem? (i := 850) (by decide +kernel)) (by decide)
theorem wd_851 : Cond.code yX4_combine cX4_combine 4 (some .int) ∈ tb := tb_in (List.mem_of_getElem? (i := 851) (by decide +kernel)) (by decide)
theorem wd_852 : Cond.methodLink RX4 49 Lib.Math.min.name ∈ tb := tb_in (List.mem_of_getElem? (i := 852) (by decide +kernel)) (by decide)
theorem wd_853 : Cond.methodLink RX4 54 Lib.Math.max.name ∈ tb := tb_in (List.mem_of_getElem? (i := 853) (by decide +kernel)) (by decide)
theorem wd_854 : Cond.methodLink RX2 98 Lib.Math.min.name ∈ tb := tb_in (List.mem_of_getElem? (i := 854) (by decide +kernel)) (by decide)
theorem wd_855 : Cond.methodLink RX2 67 yX2_stayOrGo ∈ tb := tb_in (List.mem_of_getElem? (i := 855) (by decide +kernel)) (by decide)
theorem wd_857 : Cond.instanceMethod yX2_stayOrGo ∈ tb := tb_in (List.mem_of_getElem? (i := 857) (by decide +kernel)) (by decide)
theorem wd_858 : Cond.code yX2_stayOrGo cX2_stayOrGo 5 none ∈ tb := tb_in (List.mem_of_getElem? (i := 858) (by decide +kernel)) (by decide)
theorem wd_859 : Cond.methodLink RX2 86 yX4_sendsIn ∈ tb := tb_in (List.mem_of_getElem? (i := 859) (by decide +kernel)) (by decide)
theorem wd_860 : Cond.instanceMethod yX4_sendsIn ∈ tb := tb_in (List.mem_of_getElem? (i := 860) (by decide +kernel)) (by decide)
theorem wd_861 : Cond.selects RX4 yX4_sendsIn yX4_sendsIn ∈ tb := tb_in (List.mem_of_getElem? (i := 861) (by decide +kernel)) (by decide)
theorem wd_862 : Cond.code yX4_sendsIn cX4_sendsIn 2 (some .boolean) ∈ tb := tb_in (List.mem_of_getElem? (i := 862) (by decide +kernel)) (by decide)
theorem wd_863 : Cond.methodLink RX2 91 yX10_draw ∈ tb := tb_in (List.mem_of_getElem? (i := 863) (by decide +kernel)) (by decide)
theorem wd_864 : Cond.instanceMethod yX10_draw ∈ tb := tb_in (List.mem_of_getElem? (i := 864) (by decide +kernel)) (by decide)
theorem wd_865 : Cond.selects RX10 yX10_draw yX10_draw ∈ tb := tb_in (List.mem_of_getElem? (i := 865) (by decide +kernel)) (by decide)
theorem wd_866 : Cond.code yX10_draw cX10_draw 1 (some .int) ∈ tb := tb_in (List.mem_of_getElem? (i := 866) (by decide +kernel)) (by decide)
theorem wd_867 : Cond.constant RX10 60 (65535) ∈ tb := tb_in (List.mem_of_getElem? (i := 867) (by decide +kernel)) (by decide)
theorem wd_868 : Cond.methodLink RX2 74 yX10_nextWatch ∈ tb := tb_in (List.mem_of_getElem? (i := 868) (by decide +kernel)) (by decide)
theorem wd_869 : Cond.instanceMethod yX10_nextWatch ∈ tb := tb_in (List.mem_of_getElem? (i := 869) (by decide +kernel)) (by decide)
theorem wd_870 : Cond.selects RX10 yX10_nextWatch yX10_nextWatch ∈ tb := tb_in (List.mem_of_getElem? (i := 870) (by decide +kernel)) (by decide)
theorem wd_871 : Cond.code yX10_nextWatch cX10_nextWatch 1 none ∈ tb := tb_in (List.mem_of_getElem? (i := 871) (by decide +kernel)) (by decide)
theorem wd_876 : Cond.methodLink RX11 195 yX11_tryWatches ∈ tb := tb_in (List.mem_of_getElem? (i := 876) (by decide +kernel)) (by decide)
theorem wd_878 : Cond.instanceMethod yX11_tryWatches ∈ tb := tb_in (List.mem_of_getElem? (i := 878) (by decide +kernel)) (by decide)
theorem wd_879 : Cond.code yX11_tryWatches cX11_tryWatches 2 none ∈ tb := tb_in (List.mem_of_getElem? (i := 879) (by decide +kernel)) (by decide)
theorem wd_884 : Cond.methodLink RX11 210 yX11_isGentleman ∈ tb := tb_in (List.mem_of_getElem? (i := 884) (by decide +kernel)) (by decide)
theorem wd_886 : Cond.instanceMethod yX11_isGentleman ∈ tb := tb_in (List.mem_of_getElem? (i := 886) (by decide +kernel)) (by decide)
theorem wd_887 : Cond.code yX11_isGentleman cX11_isGentleman 3 (some .boolean) ∈ tb := tb_in (List.mem_of_getElem? (i := 887) (by decide +kernel)) (by decide)
theorem wd_888 : Cond.methodLink RX11 222 yX9_lookAround ∈ tb := tb_in (List.mem_of_getElem? (i := 888) (by decide +kernel)) (by decide)
theorem wd_889 : Cond.methodLink RX11 228 yX10_bits ∈ tb := tb_in (List.mem_of_getElem? (i := 889) (by decide +kernel)) (by decide)
theorem wd_890 : Cond.methodLink RX11 232 yX9_eye ∈ tb := tb_in (List.mem_of_getElem? (i := 890) (by decide +kernel)) (by decide)
theorem wd_895 : Cond.methodLink RX11 235 yX9_sighted ∈ tb := tb_in (List.mem_of_getElem? (i := 895) (by decide +kernel)) (by decide)
theorem wd_900 : Cond.methodLink RX11 239 yX9_isFree ∈ tb := tb_in (List.mem_of_getElem? (i := 900) (by decide +kernel)) (by decide)
theorem wd_905 : Cond.methodLink RX11 242 yX9_twos ∈ tb := tb_in (List.mem_of_getElem? (i := 905) (by decide +kernel)) (by decide)
theorem wd_906 : Cond.instanceMethod yX9_twos ∈ tb := tb_in (List.mem_of_getElem? (i := 906) (by decide +kernel)) (by decide)
theorem wd_907 : Cond.selects RX9 yX9_twos yX9_twos ∈ tb := tb_in (List.mem_of_getElem? (i := 907) (by decide +kernel)) (by decide)
theorem wd_908 : Cond.code yX9_twos cX9_twos 7 (some .int) ∈ tb := tb_in (List.mem_of_getElem? (i := 908) (by decide +kernel)) (by decide)
theorem wd_913 : Cond.methodLink RX11 246 yX9_seenBy ∈ tb := tb_in (List.mem_of_getElem? (i := 913) (by decide +kernel)) (by decide)
theorem wd_914 : Cond.instanceMethod yX9_seenBy ∈ tb := tb_in (List.mem_of_getElem? (i := 914) (by decide +kernel)) (by decide)
theorem wd_915 : Cond.selects RX9 yX9_seenBy yX9_seenBy ∈ tb := tb_in (List.mem_of_getElem? (i := 915) (by decide +kernel)) (by decide)
theorem wd_916 : Cond.code yX9_seenBy cX9_seenBy 4 (some .int) ∈ tb := tb_in (List.mem_of_getElem? (i := 916) (by decide +kernel)) (by decide)
theorem wd_917 : Cond.methodLink RX11 250 yJ6_bitCount_0f7a4 ∈ tb := tb_in (List.mem_of_getElem? (i := 917) (by decide +kernel)) (by decide)
theorem wd_938 : Cond.methodLink RX11 267 yX2_outlasts ∈ tb := tb_in (List.mem_of_getElem? (i := 938) (by decide +kernel)) (by decide)
theorem wd_939 : Cond.instanceMethod yX2_outlasts ∈ tb := tb_in (List.mem_of_getElem? (i := 939) (by decide +kernel)) (by decide)
theorem wd_940 : Cond.selects RX2 yX2_outlasts yX2_outlasts ∈ tb := tb_in (List.mem_of_getElem? (i := 940) (by decide +kernel)) (by decide)
theorem wd_941 : Cond.code yX2_outlasts cX2_outlasts 6 (some .boolean) ∈ tb := tb_in (List.mem_of_getElem? (i := 941) (by decide +kernel)) (by decide)
theorem wd_946 : Cond.methodLink RX11 271 yX3_carry ∈ tb := tb_in (List.mem_of_getElem? (i := 946) (by decide +kernel)) (by decide)
theorem wd_947 : Cond.instanceMethod yX3_carry ∈ tb := tb_in (List.mem_of_getElem? (i := 947) (by decide +kernel)) (by decide)
theorem wd_948 : Cond.selects RX3 yX3_carry yX3_carry ∈ tb := tb_in (List.mem_of_getElem? (i := 948) (by decide +kernel)) (by decide)
theorem wd_949 : Cond.code yX3_carry cX3_carry 5 none ∈ tb := tb_in (List.mem_of_getElem? (i := 949) (by decide +kernel)) (by decide)
theorem wd_950 : Cond.methodLink RX3 25 yX3_leastWay ∈ tb := tb_in (List.mem_of_getElem? (i := 950) (by decide +kernel)) (by decide)
theorem wd_952 : Cond.instanceMethod yX3_leastWay ∈ tb := tb_in (List.mem_of_getElem? (i := 952) (by decide +kernel)) (by decide)
theorem wd_953 : Cond.code yX3_leastWay cX3_leastWay 4 (some .int) ∈ tb := tb_in (List.mem_of_getElem? (i := 953) (by decide +kernel)) (by decide)
theorem wd_954 : Cond.methodLink RX3 43 yX3_mayPass ∈ tb := tb_in (List.mem_of_getElem? (i := 954) (by decide +kernel)) (by decide)
theorem wd_955 : Cond.static yX3_mayPass ∈ tb := tb_in (List.mem_of_getElem? (i := 955) (by decide +kernel)) (by decide)
theorem wd_956 : Cond.code yX3_mayPass cX3_mayPass 3 (some .boolean) ∈ tb := tb_in (List.mem_of_getElem? (i := 956) (by decide +kernel)) (by decide)
theorem wd_957 : Cond.methodLink RX3 47 yX3_sits ∈ tb := tb_in (List.mem_of_getElem? (i := 957) (by decide +kernel)) (by decide)
theorem wd_958 : Cond.static yX3_sits ∈ tb := tb_in (List.mem_of_getElem? (i := 958) (by decide +kernel)) (by decide)
theorem wd_959 : Cond.code yX3_sits cX3_sits 2 (some .boolean) ∈ tb := tb_in (List.mem_of_getElem? (i := 959) (by decide +kernel)) (by decide)
theorem wd_960 : Cond.methodLink RX3 32 yJ6_bitCount_0f7a4 ∈ tb := tb_in (List.mem_of_getElem? (i := 960) (by decide +kernel)) (by decide)
theorem wd_961 : Cond.methodLink RX3 38 Lib.Math.min.name ∈ tb := tb_in (List.mem_of_getElem? (i := 961) (by decide +kernel)) (by decide)
theorem wd_962 : Cond.methodLink RX3 51 Lib.Math.abs.name ∈ tb := tb_in (List.mem_of_getElem? (i := 962) (by decide +kernel)) (by decide)
theorem wd_963 : Cond.static Lib.Math.abs.name ∈ tb := tb_in (List.mem_of_getElem? (i := 963) (by decide +kernel)) (by decide)
theorem wd_964 : Cond.code Lib.Math.abs.name Lib.Math.abs.code 1 (some .int) ∈ tb := tb_in (List.mem_of_getElem? (i := 964) (by decide +kernel)) (by decide)
theorem wd_965 : Cond.methodLink RX3 29 yX3_leastPartner ∈ tb := tb_in (List.mem_of_getElem? (i := 965) (by decide +kernel)) (by decide)
theorem wd_967 : Cond.instanceMethod yX3_leastPartner ∈ tb := tb_in (List.mem_of_getElem? (i := 967) (by decide +kernel)) (by decide)
theorem wd_968 : Cond.code yX3_leastPartner cX3_leastPartner 4 (some .int) ∈ tb := tb_in (List.mem_of_getElem? (i := 968) (by decide +kernel)) (by decide)
theorem wd_969 : Cond.methodLink RX11 275 yX3_apart ∈ tb := tb_in (List.mem_of_getElem? (i := 969) (by decide +kernel)) (by decide)
theorem wd_970 : Cond.instanceMethod yX3_apart ∈ tb := tb_in (List.mem_of_getElem? (i := 970) (by decide +kernel)) (by decide)
theorem wd_971 : Cond.selects RX3 yX3_apart yX3_apart ∈ tb := tb_in (List.mem_of_getElem? (i := 971) (by decide +kernel)) (by decide)
theorem wd_972 : Cond.code yX3_apart cX3_apart 1 (some .int) ∈ tb := tb_in (List.mem_of_getElem? (i := 972) (by decide +kernel)) (by decide)
theorem wd_973 : Cond.methodLink RX11 279 yX3_twos ∈ tb := tb_in (List.mem_of_getElem? (i := 973) (by decide +kernel)) (by decide)
theorem wd_974 : Cond.instanceMethod yX3_twos ∈ tb := tb_in (List.mem_of_getElem? (i := 974) (by decide +kernel)) (by decide)
theorem wd_975 : Cond.selects RX3 yX3_twos yX3_twos ∈ tb := tb_in (List.mem_of_getElem? (i := 975) (by decide +kernel)) (by decide)
theorem wd_976 : Cond.code yX3_twos cX3_twos 1 (some .int) ∈ tb := tb_in (List.mem_of_getElem? (i := 976) (by decide +kernel)) (by decide)
theorem wd_985 : Cond.methodLink RX11 284 yX11_crests ∈ tb := tb_in (List.mem_of_getElem? (i := 985) (by decide +kernel)) (by decide)
theorem wd_987 : Cond.instanceMethod yX11_crests ∈ tb := tb_in (List.mem_of_getElem? (i := 987) (by decide +kernel)) (by decide)
theorem wd_988 : Cond.code yX11_crests cX11_crests 4 (some .int) ∈ tb := tb_in (List.mem_of_getElem? (i := 988) (by decide +kernel)) (by decide)
theorem wd_989 : Cond.methodLink RX11 287 yX11_longestRise ∈ tb := tb_in (List.mem_of_getElem? (i := 989) (by decide +kernel)) (by decide)
theorem wd_991 : Cond.instanceMethod yX11_longestRise ∈ tb := tb_in (List.mem_of_getElem? (i := 991) (by decide +kernel)) (by decide)
theorem wd_992 : Cond.code yX11_longestRise cX11_longestRise 4 (some .int) ∈ tb := tb_in (List.mem_of_getElem? (i := 992) (by decide +kernel)) (by decide)
theorem wd_993 : Cond.methodLink RX11 350 Lib.Math.max.name ∈ tb := tb_in (List.mem_of_getElem? (i := 993) (by decide +kernel)) (by decide)
theorem wd_998 : Cond.methodLink RX11 290 Lib.Math.min.name ∈ tb := tb_in (List.mem_of_getElem? (i := 998) (by decide +kernel)) (by decide)
theorem wd_1003 : Cond.methodLink RX11 298 yX1_compare ∈ tb := tb_in (List.mem_of_getElem? (i := 1003) (by decide +kernel)) (by decide)
theorem wd_1004 : Cond.instanceMethod yX1_compare ∈ tb := tb_in (List.mem_of_getElem? (i := 1004) (by decide +kernel)) (by decide)
theorem wd_1005 : Cond.selects RX1 yX1_compare yX1_compare ∈ tb := tb_in (List.mem_of_getElem? (i := 1005) (by decide +kernel)) (by decide)
theorem wd_1006 : Cond.code yX1_compare cX1_compare 5 none ∈ tb := tb_in (List.mem_of_getElem? (i := 1006) (by decide +kernel)) (by decide)
theorem wd_1007 : Cond.methodLink RX1 21 yX1_reckon ∈ tb := tb_in (List.mem_of_getElem? (i := 1007) (by decide +kernel)) (by decide)
theorem wd_1009 : Cond.instanceMethod yX1_reckon ∈ tb := tb_in (List.mem_of_getElem? (i := 1009) (by decide +kernel)) (by decide)
theorem wd_1010 : Cond.code yX1_reckon cX1_reckon 5 (some .int) ∈ tb := tb_in (List.mem_of_getElem? (i := 1010) (by decide +kernel)) (by decide)
theorem wd_1011 : Cond.methodLink RX1 28 Lib.Math.max.name ∈ tb := tb_in (List.mem_of_getElem? (i := 1011) (by decide +kernel)) (by decide)
theorem wd_1012 : Cond.methodLink RX11 302 yX1_length ∈ tb := tb_in (List.mem_of_getElem? (i := 1012) (by decide +kernel)) (by decide)
theorem wd_1013 : Cond.instanceMethod yX1_length ∈ tb := tb_in (List.mem_of_getElem? (i := 1013) (by decide +kernel)) (by decide)
theorem wd_1014 : Cond.selects RX1 yX1_length yX1_length ∈ tb := tb_in (List.mem_of_getElem? (i := 1014) (by decide +kernel)) (by decide)
theorem wd_1015 : Cond.code yX1_length cX1_length 1 (some .int) ∈ tb := tb_in (List.mem_of_getElem? (i := 1015) (by decide +kernel)) (by decide)
theorem wd_1016 : Cond.methodLink RX11 305 yX1_lampAt ∈ tb := tb_in (List.mem_of_getElem? (i := 1016) (by decide +kernel)) (by decide)
theorem wd_1017 : Cond.instanceMethod yX1_lampAt ∈ tb := tb_in (List.mem_of_getElem? (i := 1017) (by decide +kernel)) (by decide)
theorem wd_1018 : Cond.selects RX1 yX1_lampAt yX1_lampAt ∈ tb := tb_in (List.mem_of_getElem? (i := 1018) (by decide +kernel)) (by decide)
theorem wd_1019 : Cond.code yX1_lampAt cX1_lampAt 8 (some .int) ∈ tb := tb_in (List.mem_of_getElem? (i := 1019) (by decide +kernel)) (by decide)
theorem wd_1020 : Cond.methodLink RX1 34 yX1_length ∈ tb := tb_in (List.mem_of_getElem? (i := 1020) (by decide +kernel)) (by decide)
theorem wd_1021 : Cond.methodLink RX1 38 yX1_leastSign ∈ tb := tb_in (List.mem_of_getElem? (i := 1021) (by decide +kernel)) (by decide)
theorem wd_1023 : Cond.instanceMethod yX1_leastSign ∈ tb := tb_in (List.mem_of_getElem? (i := 1023) (by decide +kernel)) (by decide)
theorem wd_1024 : Cond.code yX1_leastSign cX1_leastSign 8 (some .int) ∈ tb := tb_in (List.mem_of_getElem? (i := 1024) (by decide +kernel)) (by decide)
theorem wd_1025 : Cond.methodLink RX1 41 yX7_next ∈ tb := tb_in (List.mem_of_getElem? (i := 1025) (by decide +kernel)) (by decide)
theorem wd_1026 : Cond.instanceMethod yX7_next ∈ tb := tb_in (List.mem_of_getElem? (i := 1026) (by decide +kernel)) (by decide)
theorem wd_1027 : Cond.selects RX7 yX7_next yX7_next ∈ tb := tb_in (List.mem_of_getElem? (i := 1027) (by decide +kernel)) (by decide)
theorem wd_1028 : Cond.code yX7_next cX7_next 4 (some .int) ∈ tb := tb_in (List.mem_of_getElem? (i := 1028) (by decide +kernel)) (by decide)
theorem wd_1029 : Cond.methodLink RX1 44 Lib.Math.min.name ∈ tb := tb_in (List.mem_of_getElem? (i := 1029) (by decide +kernel)) (by decide)
theorem wd_1034 : Cond.methodLink RX11 309 yX7_repeatsAfter ∈ tb := tb_in (List.mem_of_getElem? (i := 1034) (by decide +kernel)) (by decide)
theorem wd_1035 : Cond.instanceMethod yX7_repeatsAfter ∈ tb := tb_in (List.mem_of_getElem? (i := 1035) (by decide +kernel)) (by decide)
theorem wd_1036 : Cond.selects RX7 yX7_repeatsAfter yX7_repeatsAfter ∈ tb := tb_in (List.mem_of_getElem? (i := 1036) (by decide +kernel)) (by decide)
theorem wd_1037 : Cond.code yX7_repeatsAfter cX7_repeatsAfter 3 (some .boolean) ∈ tb := tb_in (List.mem_of_getElem? (i := 1037) (by decide +kernel)) (by decide)
theorem wd_1042 : Cond.methodLink RX11 312 yX7_howOften ∈ tb := tb_in (List.mem_of_getElem? (i := 1042) (by decide +kernel)) (by decide)
theorem wd_1043 : Cond.instanceMethod yX7_howOften ∈ tb := tb_in (List.mem_of_getElem? (i := 1043) (by decide +kernel)) (by decide)
theorem wd_1044 : Cond.selects RX7 yX7_howOften yX7_howOften ∈ tb := tb_in (List.mem_of_getElem? (i := 1044) (by decide +kernel)) (by decide)
theorem wd_1045 : Cond.code yX7_howOften cX7_howOften 4 (some .int) ∈ tb := tb_in (List.mem_of_getElem? (i := 1045) (by decide +kernel)) (by decide)
theorem wd_1050 : Cond.methodLink RX11 315 yX0_deal ∈ tb := tb_in (List.mem_of_getElem? (i := 1050) (by decide +kernel)) (by decide)
theorem wd_1051 : Cond.instanceMethod yX0_deal ∈ tb := tb_in (List.mem_of_getElem? (i := 1051) (by decide +kernel)) (by decide)
theorem wd_1052 : Cond.selects RX0 yX0_deal yX0_deal ∈ tb := tb_in (List.mem_of_getElem? (i := 1052) (by decide +kernel)) (by decide)
theorem wd_1053 : Cond.code yX0_deal cX0_deal 9 (some .boolean) ∈ tb := tb_in (List.mem_of_getElem? (i := 1053) (by decide +kernel)) (by decide)
theorem wd_1054 : Cond.methodLink RX0 28 yX8_byteAt ∈ tb := tb_in (List.mem_of_getElem? (i := 1054) (by decide +kernel)) (by decide)
theorem wd_1055 : Cond.instanceMethod yX8_byteAt ∈ tb := tb_in (List.mem_of_getElem? (i := 1055) (by decide +kernel)) (by decide)
theorem wd_1056 : Cond.selects RX8 yX8_byteAt yX8_byteAt ∈ tb := tb_in (List.mem_of_getElem? (i := 1056) (by decide +kernel)) (by decide)
theorem wd_1057 : Cond.code yX8_byteAt cX8_byteAt 2 (some .int) ∈ tb := tb_in (List.mem_of_getElem? (i := 1057) (by decide +kernel)) (by decide)
theorem wd_1058 : Cond.methodLink RX11 319 yX0_playFrom ∈ tb := tb_in (List.mem_of_getElem? (i := 1058) (by decide +kernel)) (by decide)
theorem wd_1059 : Cond.instanceMethod yX0_playFrom ∈ tb := tb_in (List.mem_of_getElem? (i := 1059) (by decide +kernel)) (by decide)
theorem wd_1060 : Cond.selects RX0 yX0_playFrom yX0_playFrom ∈ tb := tb_in (List.mem_of_getElem? (i := 1060) (by decide +kernel)) (by decide)
theorem wd_1061 : Cond.code yX0_playFrom cX0_playFrom 5 none ∈ tb := tb_in (List.mem_of_getElem? (i := 1061) (by decide +kernel)) (by decide)
theorem wd_1062 : Cond.methodLink RX0 34 yX0_isLeft ∈ tb := tb_in (List.mem_of_getElem? (i := 1062) (by decide +kernel)) (by decide)
theorem wd_1063 : Cond.static yX0_isLeft ∈ tb := tb_in (List.mem_of_getElem? (i := 1063) (by decide +kernel)) (by decide)
theorem wd_1064 : Cond.code yX0_isLeft cX0_isLeft 2 (some .boolean) ∈ tb := tb_in (List.mem_of_getElem? (i := 1064) (by decide +kernel)) (by decide)
theorem wd_1065 : Cond.methodLink RX0 38 yX0_lay ∈ tb := tb_in (List.mem_of_getElem? (i := 1065) (by decide +kernel)) (by decide)
theorem wd_1067 : Cond.instanceMethod yX0_lay ∈ tb := tb_in (List.mem_of_getElem? (i := 1067) (by decide +kernel)) (by decide)
theorem wd_1068 : Cond.code yX0_lay cX0_lay 11 (some .int) ∈ tb := tb_in (List.mem_of_getElem? (i := 1068) (by decide +kernel)) (by decide)
theorem wd_1069 : Cond.methodLink RX0 46 yX0_beats ∈ tb := tb_in (List.mem_of_getElem? (i := 1069) (by decide +kernel)) (by decide)
theorem wd_1071 : Cond.instanceMethod yX0_beats ∈ tb := tb_in (List.mem_of_getElem? (i := 1071) (by decide +kernel)) (by decide)
theorem wd_1072 : Cond.code yX0_beats cX0_beats 3 (some .boolean) ∈ tb := tb_in (List.mem_of_getElem? (i := 1072) (by decide +kernel)) (by decide)
theorem wd_1073 : Cond.methodLink RX0 52 yX0_suit ∈ tb := tb_in (List.mem_of_getElem? (i := 1073) (by decide +kernel)) (by decide)
theorem wd_1075 : Cond.instanceMethod yX0_suit ∈ tb := tb_in (List.mem_of_getElem? (i := 1075) (by decide +kernel)) (by decide)
theorem wd_1076 : Cond.code yX0_suit cX0_suit 2 (some .int) ∈ tb := tb_in (List.mem_of_getElem? (i := 1076) (by decide +kernel)) (by decide)
theorem wd_1077 : Cond.methodLink RX0 49 yX0_playBest ∈ tb := tb_in (List.mem_of_getElem? (i := 1077) (by decide +kernel)) (by decide)
theorem wd_1079 : Cond.instanceMethod yX0_playBest ∈ tb := tb_in (List.mem_of_getElem? (i := 1079) (by decide +kernel)) (by decide)
theorem wd_1080 : Cond.code yX0_playBest cX0_playBest 10 (some .int) ∈ tb := tb_in (List.mem_of_getElem? (i := 1080) (by decide +kernel)) (by decide)
theorem wd_1081 : Cond.methodLink RX0 55 yX0_hasSuit ∈ tb := tb_in (List.mem_of_getElem? (i := 1081) (by decide +kernel)) (by decide)
theorem wd_1083 : Cond.instanceMethod yX0_hasSuit ∈ tb := tb_in (List.mem_of_getElem? (i := 1083) (by decide +kernel)) (by decide)
theorem wd_1084 : Cond.code yX0_hasSuit cX0_hasSuit 5 (some .boolean) ∈ tb := tb_in (List.mem_of_getElem? (i := 1084) (by decide +kernel)) (by decide)
theorem wd_1085 : Cond.methodLink RX0 42 yX0_isBetter ∈ tb := tb_in (List.mem_of_getElem? (i := 1085) (by decide +kernel)) (by decide)
theorem wd_1086 : Cond.static yX0_isBetter ∈ tb := tb_in (List.mem_of_getElem? (i := 1086) (by decide +kernel)) (by decide)
theorem wd_1087 : Cond.code yX0_isBetter cX0_isBetter 3 (some .boolean) ∈ tb := tb_in (List.mem_of_getElem? (i := 1087) (by decide +kernel)) (by decide)
theorem wd_1088 : Cond.methodLink RX0 58 Lib.Math.max.name ∈ tb := tb_in (List.mem_of_getElem? (i := 1088) (by decide +kernel)) (by decide)
theorem wd_1093 : Cond.methodLink RX11 328 yX11_reckonArrivals ∈ tb := tb_in (List.mem_of_getElem? (i := 1093) (by decide +kernel)) (by decide)
theorem wd_1095 : Cond.instanceMethod yX11_reckonArrivals ∈ tb := tb_in (List.mem_of_getElem? (i := 1095) (by decide +kernel)) (by decide)
theorem wd_1096 : Cond.code yX11_reckonArrivals cX11_reckonArrivals 5 (some .boolean) ∈ tb := tb_in (List.mem_of_getElem? (i := 1096) (by decide +kernel)) (by decide)
theorem wd_1097 : Cond.methodLink RX11 353 yJ7_fill_53178 ∈ tb := tb_in (List.mem_of_getElem? (i := 1097) (by decide +kernel)) (by decide)
theorem wd_1098 : Cond.methodLink RX11 334 yX8_byteAt ∈ tb := tb_in (List.mem_of_getElem? (i := 1098) (by decide +kernel)) (by decide)
theorem wd_1099 : Cond.methodLink RX11 331 yX11_commonDivisor ∈ tb := tb_in (List.mem_of_getElem? (i := 1099) (by decide +kernel)) (by decide)
theorem wd_1100 : Cond.static yX11_commonDivisor ∈ tb := tb_in (List.mem_of_getElem? (i := 1100) (by decide +kernel)) (by decide)
theorem wd_1101 : Cond.code yX11_commonDivisor cX11_commonDivisor 6 (some .int) ∈ tb := tb_in (List.mem_of_getElem? (i := 1101) (by decide +kernel)) (by decide)
theorem wd_1110 : Cond.constant RX11 337 (65535) ∈ tb := tb_in (List.mem_of_getElem? (i := 1110) (by decide +kernel)) (by decide)
theorem wd_1127 : Cond.methodLink RX11 344 yX11_countOfSide ∈ tb := tb_in (List.mem_of_getElem? (i := 1127) (by decide +kernel)) (by decide)
theorem wd_1129 : Cond.instanceMethod yX11_countOfSide ∈ tb := tb_in (List.mem_of_getElem? (i := 1129) (by decide +kernel)) (by decide)
theorem wd_1130 : Cond.code yX11_countOfSide cX11_countOfSide 3 (some .int) ∈ tb := tb_in (List.mem_of_getElem? (i := 1130) (by decide +kernel)) (by decide)
theorem wd_1131 : Cond.methodLink RX11 347 yX10_gentlemen ∈ tb := tb_in (List.mem_of_getElem? (i := 1131) (by decide +kernel)) (by decide)
theorem wd_1132 : Cond.instanceMethod yX10_gentlemen ∈ tb := tb_in (List.mem_of_getElem? (i := 1132) (by decide +kernel)) (by decide)
theorem wd_1133 : Cond.selects RX10 yX10_gentlemen yX10_gentlemen ∈ tb := tb_in (List.mem_of_getElem? (i := 1133) (by decide +kernel)) (by decide)
theorem wd_1134 : Cond.code yX10_gentlemen cX10_gentlemen 2 (some .int) ∈ tb := tb_in (List.mem_of_getElem? (i := 1134) (by decide +kernel)) (by decide)
theorem wd_1135 : Cond.methodLink RX10 56 yX10_bits ∈ tb := tb_in (List.mem_of_getElem? (i := 1135) (by decide +kernel)) (by decide)
theorem wd_1142 : Cond.fieldLink RX12 7 "VerandaWarModel" "now" "[I" ∈ tb := tb_in (List.mem_of_getElem? (i := 1142) (by decide +kernel)) (by decide)
theorem wd_1143 : Cond.fieldLink RX12 13 "VerandaWarModel" "aside" "[I" ∈ tb := tb_in (List.mem_of_getElem? (i := 1143) (by decide +kernel)) (by decide)
theorem wd_1144 : Cond.fieldLink RX12 16 "VerandaWarModel" "kept" "[I" ∈ tb := tb_in (List.mem_of_getElem? (i := 1144) (by decide +kernel)) (by decide)
theorem wd_1145 : Cond.fieldLink RX12 19 "VerandaWarModel" "floorOf" "[I" ∈ tb := tb_in (List.mem_of_getElem? (i := 1145) (by decide +kernel)) (by decide)
theorem wd_1146 : Cond.fieldLink RX12 22 "VerandaWarModel" "columnOf" "[I" ∈ tb := tb_in (List.mem_of_getElem? (i := 1146) (by decide +kernel)) (by decide)
theorem wd_1147 : Cond.fieldLink RX12 25 "VerandaWarModel" "tape" "[B" ∈ tb := tb_in (List.mem_of_getElem? (i := 1147) (by decide +kernel)) (by decide)
theorem wd_1148 : Cond.fieldLink RX12 147 "VerandaWarModel" "taped" "I" ∈ tb := tb_in (List.mem_of_getElem? (i := 1148) (by decide +kernel)) (by decide)
theorem wd_1149 : Cond.fieldLink RX12 155 "VerandaWarModel" "place0" "I" ∈ tb := tb_in (List.mem_of_getElem? (i := 1149) (by decide +kernel)) (by decide)
theorem wd_1150 : Cond.fieldLink RX12 158 "VerandaWarModel" "length0" "I" ∈ tb := tb_in (List.mem_of_getElem? (i := 1150) (by decide +kernel)) (by decide)
theorem wd_1151 : Cond.fieldLink RX12 165 "VerandaWarModel" "fault" "I" ∈ tb := tb_in (List.mem_of_getElem? (i := 1151) (by decide +kernel)) (by decide)
theorem wd_1152 : Cond.fieldLink RX12 171 "VerandaWarModel" "number0" "I" ∈ tb := tb_in (List.mem_of_getElem? (i := 1152) (by decide +kernel)) (by decide)
theorem wd_1153 : Cond.fieldLink RX12 182 "VerandaWarModel" "open" "I" ∈ tb := tb_in (List.mem_of_getElem? (i := 1153) (by decide +kernel)) (by decide)
theorem wd_1154 : Cond.fieldLink RX12 178 "VerandaWarModel" "codeMany" "I" ∈ tb := tb_in (List.mem_of_getElem? (i := 1154) (by decide +kernel)) (by decide)
theorem wd_1155 : Cond.fieldLink RX12 185 "VerandaWarModel" "waiting" "I" ∈ tb := tb_in (List.mem_of_getElem? (i := 1155) (by decide +kernel)) (by decide)
theorem wd_1156 : Cond.fieldLink RX12 233 "VerandaWarModel" "saidMany" "I" ∈ tb := tb_in (List.mem_of_getElem? (i := 1156) (by decide +kernel)) (by decide)
theorem wd_1157 : Cond.fieldLink RX12 248 "VerandaWarModel" "clauses" "I" ∈ tb := tb_in (List.mem_of_getElem? (i := 1157) (by decide +kernel)) (by decide)
theorem wd_1158 : Cond.fieldLink RX12 29 "VerandaWarModel" "said" "[I" ∈ tb := tb_in (List.mem_of_getElem? (i := 1158) (by decide +kernel)) (by decide)
theorem wd_1159 : Cond.fieldLink RX12 32 "VerandaWarModel" "waitsAt" "[I" ∈ tb := tb_in (List.mem_of_getElem? (i := 1159) (by decide +kernel)) (by decide)
theorem wd_1160 : Cond.fieldLink RX12 35 "VerandaWarModel" "saidLetter" "[I" ∈ tb := tb_in (List.mem_of_getElem? (i := 1160) (by decide +kernel)) (by decide)
theorem wd_1161 : Cond.fieldLink RX12 38 "VerandaWarModel" "saidFrom" "[I" ∈ tb := tb_in (List.mem_of_getElem? (i := 1161) (by decide +kernel)) (by decide)
theorem wd_1162 : Cond.fieldLink RX12 41 "VerandaWarModel" "saidHalf" "[I" ∈ tb := tb_in (List.mem_of_getElem? (i := 1162) (by decide +kernel)) (by decide)
theorem wd_1163 : Cond.fieldLink RX12 44 "VerandaWarModel" "saidTo" "[I" ∈ tb := tb_in (List.mem_of_getElem? (i := 1163) (by decide +kernel)) (by decide)
theorem wd_1164 : Cond.fieldLink RX12 47 "VerandaWarModel" "codes" "[I" ∈ tb := tb_in (List.mem_of_getElem? (i := 1164) (by decide +kernel)) (by decide)
theorem wd_1165 : Cond.fieldLink RX12 50 "VerandaWarModel" "clauseOf" "[I" ∈ tb := tb_in (List.mem_of_getElem? (i := 1165) (by decide +kernel)) (by decide)
theorem wd_1166 : Cond.fieldLink RX12 53 "VerandaWarModel" "codeFrom" "[I" ∈ tb := tb_in (List.mem_of_getElem? (i := 1166) (by decide +kernel)) (by decide)
theorem wd_1167 : Cond.fieldLink RX12 56 "VerandaWarModel" "codeHalf" "[I" ∈ tb := tb_in (List.mem_of_getElem? (i := 1167) (by decide +kernel)) (by decide)
theorem wd_1168 : Cond.fieldLink RX12 59 "VerandaWarModel" "codeTo" "[I" ∈ tb := tb_in (List.mem_of_getElem? (i := 1168) (by decide +kernel)) (by decide)
theorem wd_1169 : Cond.fieldLink RX12 62 "VerandaWarModel" "stack" "[I" ∈ tb := tb_in (List.mem_of_getElem? (i := 1169) (by decide +kernel)) (by decide)
theorem wd_1170 : Cond.fieldLink RX12 65 "VerandaWarModel" "facts" "[I" ∈ tb := tb_in (List.mem_of_getElem? (i := 1170) (by decide +kernel)) (by decide)
theorem wd_1171 : Cond.fieldLink RX12 282 "VerandaWarModel" "lines" "I" ∈ tb := tb_in (List.mem_of_getElem? (i := 1171) (by decide +kernel)) (by decide)
theorem wd_1172 : Cond.fieldLink RX12 68 "VerandaWarModel" "lampOf" "[B" ∈ tb := tb_in (List.mem_of_getElem? (i := 1172) (by decide +kernel)) (by decide)
theorem wd_1173 : Cond.fieldLink RX12 71 "VerandaWarModel" "lampMany" "[I" ∈ tb := tb_in (List.mem_of_getElem? (i := 1173) (by decide +kernel)) (by decide)
theorem wd_1174 : Cond.fieldLink RX12 74 "VerandaWarModel" "newStep" "[I" ∈ tb := tb_in (List.mem_of_getElem? (i := 1174) (by decide +kernel)) (by decide)
theorem wd_1175 : Cond.fieldLink RX12 77 "VerandaWarModel" "roundFrom" "[I" ∈ tb := tb_in (List.mem_of_getElem? (i := 1175) (by decide +kernel)) (by decide)
theorem wd_1176 : Cond.fieldLink RX12 80 "VerandaWarModel" "roundAt" "[I" ∈ tb := tb_in (List.mem_of_getElem? (i := 1176) (by decide +kernel)) (by decide)
theorem wd_1177 : Cond.fieldLink RX12 83 "VerandaWarModel" "roundTimes" "[I" ∈ tb := tb_in (List.mem_of_getElem? (i := 1177) (by decide +kernel)) (by decide)
theorem wd_1178 : Cond.fieldLink RX12 298 "VerandaWarModel" "newMany" "I" ∈ tb := tb_in (List.mem_of_getElem? (i := 1178) (by decide +kernel)) (by decide)
theorem wd_1179 : Cond.fieldLink RX12 310 "VerandaWarModel" "rounds" "I" ∈ tb := tb_in (List.mem_of_getElem? (i := 1179) (by decide +kernel)) (by decide)
theorem wd_1180 : Cond.fieldLink RX12 301 "VerandaWarModel" "itemFrom" "I" ∈ tb := tb_in (List.mem_of_getElem? (i := 1180) (by decide +kernel)) (by decide)
theorem wd_1181 : Cond.fieldLink RX12 304 "VerandaWarModel" "itemTimes" "I" ∈ tb := tb_in (List.mem_of_getElem? (i := 1181) (by decide +kernel)) (by decide)
theorem wd_1182 : Cond.fieldLink RX12 319 "VerandaWarModel" "wentIn" "I" ∈ tb := tb_in (List.mem_of_getElem? (i := 1182) (by decide +kernel)) (by decide)
theorem wd_1183 : Cond.fieldLink RX12 353 "VerandaWarModel" "calls" "I" ∈ tb := tb_in (List.mem_of_getElem? (i := 1183) (by decide +kernel)) (by decide)
theorem wd_1184 : Cond.fieldLink RX12 341 "VerandaWarModel" "drunk" "I" ∈ tb := tb_in (List.mem_of_getElem? (i := 1184) (by decide +kernel)) (by decide)
theorem wd_1185 : Cond.fieldLink RX12 325 "VerandaWarModel" "firstIn" "I" ∈ tb := tb_in (List.mem_of_getElem? (i := 1185) (by decide +kernel)) (by decide)
theorem wd_1186 : Cond.fieldLink RX12 328 "VerandaWarModel" "firstWhen" "I" ∈ tb := tb_in (List.mem_of_getElem? (i := 1186) (by decide +kernel)) (by decide)
theorem wd_1187 : Cond.fieldLink RX12 322 "VerandaWarModel" "watchNow" "I" ∈ tb := tb_in (List.mem_of_getElem? (i := 1187) (by decide +kernel)) (by decide)
theorem wd_1188 : Cond.fieldLink RX12 86 "VerandaWarModel" "inAt" "[I" ∈ tb := tb_in (List.mem_of_getElem? (i := 1188) (by decide +kernel)) (by decide)
theorem wd_1189 : Cond.fieldLink RX12 89 "VerandaWarModel" "apartBy" "[I" ∈ tb := tb_in (List.mem_of_getElem? (i := 1189) (by decide +kernel)) (by decide)
theorem wd_1190 : Cond.fieldLink RX12 92 "VerandaWarModel" "risesTo" "[I" ∈ tb := tb_in (List.mem_of_getElem? (i := 1190) (by decide +kernel)) (by decide)
theorem wd_1191 : Cond.fieldLink RX12 95 "VerandaWarModel" "commonFrom" "[B" ∈ tb := tb_in (List.mem_of_getElem? (i := 1191) (by decide +kernel)) (by decide)
theorem wd_1192 : Cond.fieldLink RX12 98 "VerandaWarModel" "played" "[I" ∈ tb := tb_in (List.mem_of_getElem? (i := 1192) (by decide +kernel)) (by decide)
theorem wd_1193 : Cond.fieldLink RX12 101 "VerandaWarModel" "choice" "[I" ∈ tb := tb_in (List.mem_of_getElem? (i := 1193) (by decide +kernel)) (by decide)
theorem wd_1194 : Cond.fieldLink RX12 104 "VerandaWarModel" "bestOf" "[I" ∈ tb := tb_in (List.mem_of_getElem? (i := 1194) (by decide +kernel)) (by decide)
theorem wd_1195 : Cond.fieldLink RX12 107 "VerandaWarModel" "turnNow" "[I" ∈ tb := tb_in (List.mem_of_getElem? (i := 1195) (by decide +kernel)) (by decide)
theorem wd_1196 : Cond.fieldLink RX12 110 "VerandaWarModel" "firstOf" "[I" ∈ tb := tb_in (List.mem_of_getElem? (i := 1196) (by decide +kernel)) (by decide)
theorem wd_1197 : Cond.fieldLink RX12 113 "VerandaWarModel" "tricksAt" "[I" ∈ tb := tb_in (List.mem_of_getElem? (i := 1197) (by decide +kernel)) (by decide)
theorem wd_1198 : Cond.fieldLink RX12 399 "VerandaWarModel" "handLong" "I" ∈ tb := tb_in (List.mem_of_getElem? (i := 1198) (by decide +kernel)) (by decide)
theorem wd_1199 : Cond.fieldLink RX12 414 "VerandaWarModel" "trumpsNow" "I" ∈ tb := tb_in (List.mem_of_getElem? (i := 1199) (by decide +kernel)) (by decide)
theorem wd_1200 : Cond.fieldLink RX12 405 "VerandaWarModel" "cardsAway" "I" ∈ tb := tb_in (List.mem_of_getElem? (i := 1200) (by decide +kernel)) (by decide)
theorem wd_1201 : Cond.fieldLink RX12 116 "VerandaWarModel" "waysOf" "[I" ∈ tb := tb_in (List.mem_of_getElem? (i := 1201) (by decide +kernel)) (by decide)
theorem wd_1202 : Cond.fieldLink RX12 119 "VerandaWarModel" "eatenAt" "[I" ∈ tb := tb_in (List.mem_of_getElem? (i := 1202) (by decide +kernel)) (by decide)
theorem wd_1203 : Cond.fieldLink RX12 440 "VerandaWarModel" "isKept" "Z" ∈ tb := tb_in (List.mem_of_getElem? (i := 1203) (by decide +kernel)) (by decide)
theorem wd_1333 : Cond.methodLink RX12 126 yX12_isChair ∈ tb := tb_in (List.mem_of_getElem? (i := 1333) (by decide +kernel)) (by decide)
theorem wd_1334 : Cond.static yX12_isChair ∈ tb := tb_in (List.mem_of_getElem? (i := 1334) (by decide +kernel)) (by decide)
theorem wd_1335 : Cond.code yX12_isChair cX12_isChair 2 (some .boolean) ∈ tb := tb_in (List.mem_of_getElem? (i := 1335) (by decide +kernel)) (by decide)
theorem wd_1336 : Cond.methodLink RX12 122 yX12_in ∈ tb := tb_in (List.mem_of_getElem? (i := 1336) (by decide +kernel)) (by decide)
theorem wd_1337 : Cond.static yX12_in ∈ tb := tb_in (List.mem_of_getElem? (i := 1337) (by decide +kernel)) (by decide)
theorem wd_1338 : Cond.code yX12_in cX12_in 3 (some .boolean) ∈ tb := tb_in (List.mem_of_getElem? (i := 1338) (by decide +kernel)) (by decide)
theorem wd_1351 : Cond.methodLink RX12 151 yX12_types ∈ tb := tb_in (List.mem_of_getElem? (i := 1351) (by decide +kernel)) (by decide)
theorem wd_1353 : Cond.instanceMethod yX12_types ∈ tb := tb_in (List.mem_of_getElem? (i := 1353) (by decide +kernel)) (by decide)
theorem wd_1354 : Cond.code yX12_types cX12_types 3 none ∈ tb := tb_in (List.mem_of_getElem? (i := 1354) (by decide +kernel)) (by decide)
theorem wd_1359 : Cond.methodLink RX12 239 yX12_beginsText ∈ tb := tb_in (List.mem_of_getElem? (i := 1359) (by decide +kernel)) (by decide)
theorem wd_1361 : Cond.instanceMethod yX12_beginsText ∈ tb := tb_in (List.mem_of_getElem? (i := 1361) (by decide +kernel)) (by decide)
theorem wd_1362 : Cond.code yX12_beginsText cX12_beginsText 2 none ∈ tb := tb_in (List.mem_of_getElem? (i := 1362) (by decide +kernel)) (by decide)
theorem wd_1363 : Cond.methodLink RX12 242 yX12_readsRule ∈ tb := tb_in (List.mem_of_getElem? (i := 1363) (by decide +kernel)) (by decide)
theorem wd_1365 : Cond.instanceMethod yX12_readsRule ∈ tb := tb_in (List.mem_of_getElem? (i := 1365) (by decide +kernel)) (by decide)
theorem wd_1366 : Cond.code yX12_readsRule cX12_readsRule 2 (some .boolean) ∈ tb := tb_in (List.mem_of_getElem? (i := 1366) (by decide +kernel)) (by decide)
theorem wd_1367 : Cond.methodLink RX12 161 yX12_here ∈ tb := tb_in (List.mem_of_getElem? (i := 1367) (by decide +kernel)) (by decide)
theorem wd_1369 : Cond.instanceMethod yX12_here ∈ tb := tb_in (List.mem_of_getElem? (i := 1369) (by decide +kernel)) (by decide)
theorem wd_1370 : Cond.code yX12_here cX12_here 1 (some .int) ∈ tb := tb_in (List.mem_of_getElem? (i := 1370) (by decide +kernel)) (by decide)
theorem wd_1371 : Cond.methodLink RX12 168 yX12_wrongAt ∈ tb := tb_in (List.mem_of_getElem? (i := 1371) (by decide +kernel)) (by decide)
theorem wd_1373 : Cond.instanceMethod yX12_wrongAt ∈ tb := tb_in (List.mem_of_getElem? (i := 1373) (by decide +kernel)) (by decide)
theorem wd_1374 : Cond.code yX12_wrongAt cX12_wrongAt 3 (some .boolean) ∈ tb := tb_in (List.mem_of_getElem? (i := 1374) (by decide +kernel)) (by decide)
theorem wd_1375 : Cond.methodLink RX12 218 yX12_readsSum ∈ tb := tb_in (List.mem_of_getElem? (i := 1375) (by decide +kernel)) (by decide)
theorem wd_1377 : Cond.instanceMethod yX12_readsSum ∈ tb := tb_in (List.mem_of_getElem? (i := 1377) (by decide +kernel)) (by decide)
theorem wd_1378 : Cond.code yX12_readsSum cX12_readsSum 3 (some .boolean) ∈ tb := tb_in (List.mem_of_getElem? (i := 1378) (by decide +kernel)) (by decide)
theorem wd_1379 : Cond.methodLink RX12 205 yX12_readsFactor ∈ tb := tb_in (List.mem_of_getElem? (i := 1379) (by decide +kernel)) (by decide)
theorem wd_1381 : Cond.instanceMethod yX12_readsFactor ∈ tb := tb_in (List.mem_of_getElem? (i := 1381) (by decide +kernel)) (by decide)
theorem wd_1382 : Cond.code yX12_readsFactor cX12_readsFactor 2 (some .boolean) ∈ tb := tb_in (List.mem_of_getElem? (i := 1382) (by decide +kernel)) (by decide)
theorem wd_1383 : Cond.methodLink RX12 195 yX12_opens ∈ tb := tb_in (List.mem_of_getElem? (i := 1383) (by decide +kernel)) (by decide)
theorem wd_1385 : Cond.instanceMethod yX12_opens ∈ tb := tb_in (List.mem_of_getElem? (i := 1385) (by decide +kernel)) (by decide)
theorem wd_1386 : Cond.code yX12_opens cX12_opens 2 (some .boolean) ∈ tb := tb_in (List.mem_of_getElem? (i := 1386) (by decide +kernel)) (by decide)
theorem wd_1387 : Cond.constant RX12 181 (1048576) ∈ tb := tb_in (List.mem_of_getElem? (i := 1387) (by decide +kernel)) (by decide)
theorem wd_1388 : Cond.methodLink RX12 174 yX12_isDigit ∈ tb := tb_in (List.mem_of_getElem? (i := 1388) (by decide +kernel)) (by decide)
theorem wd_1390 : Cond.instanceMethod yX12_isDigit ∈ tb := tb_in (List.mem_of_getElem? (i := 1390) (by decide +kernel)) (by decide)
theorem wd_1391 : Cond.code yX12_isDigit cX12_isDigit 1 (some .boolean) ∈ tb := tb_in (List.mem_of_getElem? (i := 1391) (by decide +kernel)) (by decide)
theorem wd_1392 : Cond.methodLink RX12 199 yX12_readsNumber ∈ tb := tb_in (List.mem_of_getElem? (i := 1392) (by decide +kernel)) (by decide)
theorem wd_1394 : Cond.instanceMethod yX12_readsNumber ∈ tb := tb_in (List.mem_of_getElem? (i := 1394) (by decide +kernel)) (by decide)
theorem wd_1395 : Cond.code yX12_readsNumber cX12_readsNumber 2 (some .boolean) ∈ tb := tb_in (List.mem_of_getElem? (i := 1395) (by decide +kernel)) (by decide)
theorem wd_1396 : Cond.methodLink RX12 191 yX12_notes ∈ tb := tb_in (List.mem_of_getElem? (i := 1396) (by decide +kernel)) (by decide)
theorem wd_1398 : Cond.instanceMethod yX12_notes ∈ tb := tb_in (List.mem_of_getElem? (i := 1398) (by decide +kernel)) (by decide)
theorem wd_1399 : Cond.code yX12_notes cX12_notes 3 none ∈ tb := tb_in (List.mem_of_getElem? (i := 1399) (by decide +kernel)) (by decide)
theorem wd_1400 : Cond.methodLink RX12 202 yX12_factOf ∈ tb := tb_in (List.mem_of_getElem? (i := 1400) (by decide +kernel)) (by decide)
theorem wd_1401 : Cond.static yX12_factOf ∈ tb := tb_in (List.mem_of_getElem? (i := 1401) (by decide +kernel)) (by decide)
theorem wd_1402 : Cond.code yX12_factOf cX12_factOf 1 (some .int) ∈ tb := tb_in (List.mem_of_getElem? (i := 1402) (by decide +kernel)) (by decide)
theorem wd_1403 : Cond.methodLink RX12 208 yX12_sumSign ∈ tb := tb_in (List.mem_of_getElem? (i := 1403) (by decide +kernel)) (by decide)
theorem wd_1404 : Cond.static yX12_sumSign ∈ tb := tb_in (List.mem_of_getElem? (i := 1404) (by decide +kernel)) (by decide)
theorem wd_1405 : Cond.code yX12_sumSign cX12_sumSign 1 (some .int) ∈ tb := tb_in (List.mem_of_getElem? (i := 1405) (by decide +kernel)) (by decide)
theorem wd_1406 : Cond.methodLink RX12 211 yX12_closesSums ∈ tb := tb_in (List.mem_of_getElem? (i := 1406) (by decide +kernel)) (by decide)
theorem wd_1408 : Cond.instanceMethod yX12_closesSums ∈ tb := tb_in (List.mem_of_getElem? (i := 1408) (by decide +kernel)) (by decide)
theorem wd_1409 : Cond.code yX12_closesSums cX12_closesSums 2 none ∈ tb := tb_in (List.mem_of_getElem? (i := 1409) (by decide +kernel)) (by decide)
theorem wd_1410 : Cond.methodLink RX12 188 yX12_waitTop ∈ tb := tb_in (List.mem_of_getElem? (i := 1410) (by decide +kernel)) (by decide)
theorem wd_1412 : Cond.instanceMethod yX12_waitTop ∈ tb := tb_in (List.mem_of_getElem? (i := 1412) (by decide +kernel)) (by decide)
theorem wd_1413 : Cond.code yX12_waitTop cX12_waitTop 1 (some .int) ∈ tb := tb_in (List.mem_of_getElem? (i := 1413) (by decide +kernel)) (by decide)
theorem wd_1414 : Cond.methodLink RX12 215 yX12_hasOpenSum ∈ tb := tb_in (List.mem_of_getElem? (i := 1414) (by decide +kernel)) (by decide)
theorem wd_1416 : Cond.instanceMethod yX12_hasOpenSum ∈ tb := tb_in (List.mem_of_getElem? (i := 1416) (by decide +kernel)) (by decide)
theorem wd_1417 : Cond.code yX12_hasOpenSum cX12_hasOpenSum 3 (some .boolean) ∈ tb := tb_in (List.mem_of_getElem? (i := 1417) (by decide +kernel)) (by decide)
theorem wd_1418 : Cond.methodLink RX12 236 yX12_readsCondition ∈ tb := tb_in (List.mem_of_getElem? (i := 1418) (by decide +kernel)) (by decide)
theorem wd_1420 : Cond.instanceMethod yX12_readsCondition ∈ tb := tb_in (List.mem_of_getElem? (i := 1420) (by decide +kernel)) (by decide)
theorem wd_1421 : Cond.code yX12_readsCondition cX12_readsCondition 1 (some .boolean) ∈ tb := tb_in (List.mem_of_getElem? (i := 1421) (by decide +kernel)) (by decide)
theorem wd_1422 : Cond.methodLink RX12 224 yX12_readsCompared ∈ tb := tb_in (List.mem_of_getElem? (i := 1422) (by decide +kernel)) (by decide)
theorem wd_1424 : Cond.instanceMethod yX12_readsCompared ∈ tb := tb_in (List.mem_of_getElem? (i := 1424) (by decide +kernel)) (by decide)
theorem wd_1425 : Cond.code yX12_readsCompared cX12_readsCompared 2 (some .boolean) ∈ tb := tb_in (List.mem_of_getElem? (i := 1425) (by decide +kernel)) (by decide)
theorem wd_1426 : Cond.methodLink RX12 221 yX12_endsPiece ∈ tb := tb_in (List.mem_of_getElem? (i := 1426) (by decide +kernel)) (by decide)
theorem wd_1428 : Cond.instanceMethod yX12_endsPiece ∈ tb := tb_in (List.mem_of_getElem? (i := 1428) (by decide +kernel)) (by decide)
theorem wd_1429 : Cond.code yX12_endsPiece cX12_endsPiece 1 none ∈ tb := tb_in (List.mem_of_getElem? (i := 1429) (by decide +kernel)) (by decide)
theorem wd_1430 : Cond.methodLink RX12 227 yX12_lands ∈ tb := tb_in (List.mem_of_getElem? (i := 1430) (by decide +kernel)) (by decide)
theorem wd_1432 : Cond.instanceMethod yX12_lands ∈ tb := tb_in (List.mem_of_getElem? (i := 1432) (by decide +kernel)) (by decide)
theorem wd_1433 : Cond.code yX12_lands cX12_lands 3 none ∈ tb := tb_in (List.mem_of_getElem? (i := 1433) (by decide +kernel)) (by decide)
theorem wd_1434 : Cond.methodLink RX12 230 yX12_jumps ∈ tb := tb_in (List.mem_of_getElem? (i := 1434) (by decide +kernel)) (by decide)
theorem wd_1436 : Cond.instanceMethod yX12_jumps ∈ tb := tb_in (List.mem_of_getElem? (i := 1436) (by decide +kernel)) (by decide)
theorem wd_1437 : Cond.code yX12_jumps cX12_jumps 2 none ∈ tb := tb_in (List.mem_of_getElem? (i := 1437) (by decide +kernel)) (by decide)
theorem wd_1438 : Cond.methodLink RX12 245 yX12_takes ∈ tb := tb_in (List.mem_of_getElem? (i := 1438) (by decide +kernel)) (by decide)
theorem wd_1440 : Cond.instanceMethod yX12_takes ∈ tb := tb_in (List.mem_of_getElem? (i := 1440) (by decide +kernel)) (by decide)
theorem wd_1441 : Cond.code yX12_takes cX12_takes 2 (some .boolean) ∈ tb := tb_in (List.mem_of_getElem? (i := 1441) (by decide +kernel)) (by decide)
theorem wd_1446 : Cond.methodLink RX12 291 yX12_copies ∈ tb := tb_in (List.mem_of_getElem? (i := 1446) (by decide +kernel)) (by decide)
theorem wd_1447 : Cond.static yX12_copies ∈ tb := tb_in (List.mem_of_getElem? (i := 1447) (by decide +kernel)) (by decide)
theorem wd_1448 : Cond.code yX12_copies cX12_copies 3 none ∈ tb := tb_in (List.mem_of_getElem? (i := 1448) (by decide +kernel)) (by decide)
theorem wd_1449 : Cond.methodLink RX12 295 yX12_readsLine ∈ tb := tb_in (List.mem_of_getElem? (i := 1449) (by decide +kernel)) (by decide)
theorem wd_1451 : Cond.instanceMethod yX12_readsLine ∈ tb := tb_in (List.mem_of_getElem? (i := 1451) (by decide +kernel)) (by decide)
theorem wd_1452 : Cond.code yX12_readsLine cX12_readsLine 2 (some .boolean) ∈ tb := tb_in (List.mem_of_getElem? (i := 1452) (by decide +kernel)) (by decide)
theorem wd_1453 : Cond.methodLink RX12 273 yX12_readsPlace ∈ tb := tb_in (List.mem_of_getElem? (i := 1453) (by decide +kernel)) (by decide)
theorem wd_1455 : Cond.instanceMethod yX12_readsPlace ∈ tb := tb_in (List.mem_of_getElem? (i := 1455) (by decide +kernel)) (by decide)
theorem wd_1456 : Cond.code yX12_readsPlace cX12_readsPlace 1 (some .boolean) ∈ tb := tb_in (List.mem_of_getElem? (i := 1456) (by decide +kernel)) (by decide)
theorem wd_1457 : Cond.methodLink RX12 285 yX12_isThere ∈ tb := tb_in (List.mem_of_getElem? (i := 1457) (by decide +kernel)) (by decide)
theorem wd_1459 : Cond.instanceMethod yX12_isThere ∈ tb := tb_in (List.mem_of_getElem? (i := 1459) (by decide +kernel)) (by decide)
theorem wd_1460 : Cond.code yX12_isThere cX12_isThere 3 (some .boolean) ∈ tb := tb_in (List.mem_of_getElem? (i := 1460) (by decide +kernel)) (by decide)
theorem wd_1461 : Cond.methodLink RX12 288 yX12_readsDeed ∈ tb := tb_in (List.mem_of_getElem? (i := 1461) (by decide +kernel)) (by decide)
theorem wd_1463 : Cond.instanceMethod yX12_readsDeed ∈ tb := tb_in (List.mem_of_getElem? (i := 1463) (by decide +kernel)) (by decide)
theorem wd_1464 : Cond.code yX12_readsDeed cX12_readsDeed 4 (some .boolean) ∈ tb := tb_in (List.mem_of_getElem? (i := 1464) (by decide +kernel)) (by decide)
theorem wd_1465 : Cond.methodLink RX12 267 yX12_readsAmount ∈ tb := tb_in (List.mem_of_getElem? (i := 1465) (by decide +kernel)) (by decide)
theorem wd_1467 : Cond.instanceMethod yX12_readsAmount ∈ tb := tb_in (List.mem_of_getElem? (i := 1467) (by decide +kernel)) (by decide)
theorem wd_1468 : Cond.code yX12_readsAmount cX12_readsAmount 2 (some .boolean) ∈ tb := tb_in (List.mem_of_getElem? (i := 1468) (by decide +kernel)) (by decide)
theorem wd_1469 : Cond.methodLink RX12 270 yX12_min ∈ tb := tb_in (List.mem_of_getElem? (i := 1469) (by decide +kernel)) (by decide)
theorem wd_1470 : Cond.static yX12_min ∈ tb := tb_in (List.mem_of_getElem? (i := 1470) (by decide +kernel)) (by decide)
theorem wd_1471 : Cond.code yX12_min cX12_min 2 (some .int) ∈ tb := tb_in (List.mem_of_getElem? (i := 1471) (by decide +kernel)) (by decide)
theorem wd_1472 : Cond.methodLink RX12 276 yX12_changes ∈ tb := tb_in (List.mem_of_getElem? (i := 1472) (by decide +kernel)) (by decide)
theorem wd_1474 : Cond.instanceMethod yX12_changes ∈ tb := tb_in (List.mem_of_getElem? (i := 1474) (by decide +kernel)) (by decide)
theorem wd_1475 : Cond.code yX12_changes cX12_changes 3 none ∈ tb := tb_in (List.mem_of_getElem? (i := 1475) (by decide +kernel)) (by decide)
theorem wd_1476 : Cond.methodLink RX12 264 yX12_swaps ∈ tb := tb_in (List.mem_of_getElem? (i := 1476) (by decide +kernel)) (by decide)
theorem wd_1478 : Cond.instanceMethod yX12_swaps ∈ tb := tb_in (List.mem_of_getElem? (i := 1478) (by decide +kernel)) (by decide)
theorem wd_1479 : Cond.code yX12_swaps cX12_swaps 4 none ∈ tb := tb_in (List.mem_of_getElem? (i := 1479) (by decide +kernel)) (by decide)
theorem wd_1480 : Cond.methodLink RX12 279 yX12_comesOut ∈ tb := tb_in (List.mem_of_getElem? (i := 1480) (by decide +kernel)) (by decide)
theorem wd_1482 : Cond.instanceMethod yX12_comesOut ∈ tb := tb_in (List.mem_of_getElem? (i := 1482) (by decide +kernel)) (by decide)
theorem wd_1483 : Cond.code yX12_comesOut cX12_comesOut 2 none ∈ tb := tb_in (List.mem_of_getElem? (i := 1483) (by decide +kernel)) (by decide)
theorem wd_1488 : Cond.methodLink RX12 316 yX12_readsItem ∈ tb := tb_in (List.mem_of_getElem? (i := 1488) (by decide +kernel)) (by decide)
theorem wd_1490 : Cond.instanceMethod yX12_readsItem ∈ tb := tb_in (List.mem_of_getElem? (i := 1490) (by decide +kernel)) (by decide)
theorem wd_1491 : Cond.code yX12_readsItem cX12_readsItem 4 (some .boolean) ∈ tb := tb_in (List.mem_of_getElem? (i := 1491) (by decide +kernel)) (by decide)
theorem wd_1492 : Cond.methodLink RX12 307 yX12_readsTimes ∈ tb := tb_in (List.mem_of_getElem? (i := 1492) (by decide +kernel)) (by decide)
theorem wd_1494 : Cond.instanceMethod yX12_readsTimes ∈ tb := tb_in (List.mem_of_getElem? (i := 1494) (by decide +kernel)) (by decide)
theorem wd_1495 : Cond.code yX12_readsTimes cX12_readsTimes 1 none ∈ tb := tb_in (List.mem_of_getElem? (i := 1495) (by decide +kernel)) (by decide)
theorem wd_1496 : Cond.methodLink RX12 313 yX12_repeats ∈ tb := tb_in (List.mem_of_getElem? (i := 1496) (by decide +kernel)) (by decide)
theorem wd_1498 : Cond.instanceMethod yX12_repeats ∈ tb := tb_in (List.mem_of_getElem? (i := 1498) (by decide +kernel)) (by decide)
theorem wd_1499 : Cond.code yX12_repeats cX12_repeats 6 (some .boolean) ∈ tb := tb_in (List.mem_of_getElem? (i := 1499) (by decide +kernel)) (by decide)
theorem wd_1504 : Cond.methodLink RX12 368 yX12_watchesGo ∈ tb := tb_in (List.mem_of_getElem? (i := 1504) (by decide +kernel)) (by decide)
theorem wd_1506 : Cond.instanceMethod yX12_watchesGo ∈ tb := tb_in (List.mem_of_getElem? (i := 1506) (by decide +kernel)) (by decide)
theorem wd_1507 : Cond.code yX12_watchesGo cX12_watchesGo 3 none ∈ tb := tb_in (List.mem_of_getElem? (i := 1507) (by decide +kernel)) (by decide)
theorem wd_1508 : Cond.methodLink RX12 365 yX12_watchGoes ∈ tb := tb_in (List.mem_of_getElem? (i := 1508) (by decide +kernel)) (by decide)
theorem wd_1510 : Cond.instanceMethod yX12_watchGoes ∈ tb := tb_in (List.mem_of_getElem? (i := 1510) (by decide +kernel)) (by decide)
theorem wd_1511 : Cond.code yX12_watchGoes cX12_watchGoes 4 none ∈ tb := tb_in (List.mem_of_getElem? (i := 1511) (by decide +kernel)) (by decide)
theorem wd_1512 : Cond.methodLink RX12 356 yX12_outside ∈ tb := tb_in (List.mem_of_getElem? (i := 1512) (by decide +kernel)) (by decide)
theorem wd_1514 : Cond.instanceMethod yX12_outside ∈ tb := tb_in (List.mem_of_getElem? (i := 1514) (by decide +kernel)) (by decide)
theorem wd_1515 : Cond.code yX12_outside cX12_outside 2 (some .int) ∈ tb := tb_in (List.mem_of_getElem? (i := 1515) (by decide +kernel)) (by decide)
theorem wd_1516 : Cond.methodLink RX12 137 yX12_setOf ∈ tb := tb_in (List.mem_of_getElem? (i := 1516) (by decide +kernel)) (by decide)
theorem wd_1518 : Cond.instanceMethod yX12_setOf ∈ tb := tb_in (List.mem_of_getElem? (i := 1518) (by decide +kernel)) (by decide)
theorem wd_1519 : Cond.code yX12_setOf cX12_setOf 6 (some .int) ∈ tb := tb_in (List.mem_of_getElem? (i := 1519) (by decide +kernel)) (by decide)
theorem wd_1520 : Cond.methodLink RX12 359 yX12_sitsIn ∈ tb := tb_in (List.mem_of_getElem? (i := 1520) (by decide +kernel)) (by decide)
theorem wd_1522 : Cond.instanceMethod yX12_sitsIn ∈ tb := tb_in (List.mem_of_getElem? (i := 1522) (by decide +kernel)) (by decide)
theorem wd_1523 : Cond.code yX12_sitsIn cX12_sitsIn 2 (some .boolean) ∈ tb := tb_in (List.mem_of_getElem? (i := 1523) (by decide +kernel)) (by decide)
theorem wd_1524 : Cond.methodLink RX12 362 yX12_turnOf ∈ tb := tb_in (List.mem_of_getElem? (i := 1524) (by decide +kernel)) (by decide)
theorem wd_1526 : Cond.instanceMethod yX12_turnOf ∈ tb := tb_in (List.mem_of_getElem? (i := 1526) (by decide +kernel)) (by decide)
theorem wd_1527 : Cond.code yX12_turnOf cX12_turnOf 6 none ∈ tb := tb_in (List.mem_of_getElem? (i := 1527) (by decide +kernel)) (by decide)
theorem wd_1528 : Cond.methodLink RX12 332 yX12_feels ∈ tb := tb_in (List.mem_of_getElem? (i := 1528) (by decide +kernel)) (by decide)
theorem wd_1530 : Cond.instanceMethod yX12_feels ∈ tb := tb_in (List.mem_of_getElem? (i := 1530) (by decide +kernel)) (by decide)
theorem wd_1531 : Cond.code yX12_feels cX12_feels 3 none ∈ tb := tb_in (List.mem_of_getElem? (i := 1531) (by decide +kernel)) (by decide)
theorem wd_1532 : Cond.methodLink RX12 258 yX12_bits ∈ tb := tb_in (List.mem_of_getElem? (i := 1532) (by decide +kernel)) (by decide)
theorem wd_1533 : Cond.static yX12_bits ∈ tb := tb_in (List.mem_of_getElem? (i := 1533) (by decide +kernel)) (by decide)
theorem wd_1534 : Cond.code yX12_bits cX12_bits 3 (some .int) ∈ tb := tb_in (List.mem_of_getElem? (i := 1534) (by decide +kernel)) (by decide)
theorem wd_1535 : Cond.methodLink RX12 261 yX12_seenBy ∈ tb := tb_in (List.mem_of_getElem? (i := 1535) (by decide +kernel)) (by decide)
theorem wd_1537 : Cond.instanceMethod yX12_seenBy ∈ tb := tb_in (List.mem_of_getElem? (i := 1537) (by decide +kernel)) (by decide)
theorem wd_1538 : Cond.code yX12_seenBy cX12_seenBy 7 (some .int) ∈ tb := tb_in (List.mem_of_getElem? (i := 1538) (by decide +kernel)) (by decide)
theorem wd_1539 : Cond.methodLink RX12 141 yX12_has ∈ tb := tb_in (List.mem_of_getElem? (i := 1539) (by decide +kernel)) (by decide)
theorem wd_1540 : Cond.static yX12_has ∈ tb := tb_in (List.mem_of_getElem? (i := 1540) (by decide +kernel)) (by decide)
theorem wd_1541 : Cond.code yX12_has cX12_has 2 (some .boolean) ∈ tb := tb_in (List.mem_of_getElem? (i := 1541) (by decide +kernel)) (by decide)
theorem wd_1542 : Cond.methodLink RX12 144 yX12_seesOne ∈ tb := tb_in (List.mem_of_getElem? (i := 1542) (by decide +kernel)) (by decide)
theorem wd_1544 : Cond.instanceMethod yX12_seesOne ∈ tb := tb_in (List.mem_of_getElem? (i := 1544) (by decide +kernel)) (by decide)
theorem wd_1545 : Cond.code yX12_seesOne cX12_seesOne 3 (some .boolean) ∈ tb := tb_in (List.mem_of_getElem? (i := 1545) (by decide +kernel)) (by decide)
theorem wd_1546 : Cond.methodLink RX12 130 yX12_eyeOf ∈ tb := tb_in (List.mem_of_getElem? (i := 1546) (by decide +kernel)) (by decide)
theorem wd_1548 : Cond.instanceMethod yX12_eyeOf ∈ tb := tb_in (List.mem_of_getElem? (i := 1548) (by decide +kernel)) (by decide)
theorem wd_1549 : Cond.code yX12_eyeOf cX12_eyeOf 2 (some .int) ∈ tb := tb_in (List.mem_of_getElem? (i := 1549) (by decide +kernel)) (by decide)
theorem wd_1550 : Cond.methodLink RX12 134 yX12_seesOver ∈ tb := tb_in (List.mem_of_getElem? (i := 1550) (by decide +kernel)) (by decide)
theorem wd_1552 : Cond.instanceMethod yX12_seesOver ∈ tb := tb_in (List.mem_of_getElem? (i := 1552) (by decide +kernel)) (by decide)
theorem wd_1553 : Cond.code yX12_seesOver cX12_seesOver 5 (some .boolean) ∈ tb := tb_in (List.mem_of_getElem? (i := 1553) (by decide +kernel)) (by decide)
theorem wd_1554 : Cond.methodLink RX12 335 yX12_byLaw ∈ tb := tb_in (List.mem_of_getElem? (i := 1554) (by decide +kernel)) (by decide)
theorem wd_1556 : Cond.instanceMethod yX12_byLaw ∈ tb := tb_in (List.mem_of_getElem? (i := 1556) (by decide +kernel)) (by decide)
theorem wd_1557 : Cond.code yX12_byLaw cX12_byLaw 5 (some .int) ∈ tb := tb_in (List.mem_of_getElem? (i := 1557) (by decide +kernel)) (by decide)
theorem wd_1558 : Cond.methodLink RX12 255 yX12_comesTo ∈ tb := tb_in (List.mem_of_getElem? (i := 1558) (by decide +kernel)) (by decide)
theorem wd_1560 : Cond.instanceMethod yX12_comesTo ∈ tb := tb_in (List.mem_of_getElem? (i := 1560) (by decide +kernel)) (by decide)
theorem wd_1561 : Cond.code yX12_comesTo cX12_comesTo 8 (some .int) ∈ tb := tb_in (List.mem_of_getElem? (i := 1561) (by decide +kernel)) (by decide)
theorem wd_1562 : Cond.methodLink RX12 251 yX12_reckon ∈ tb := tb_in (List.mem_of_getElem? (i := 1562) (by decide +kernel)) (by decide)
theorem wd_1563 : Cond.static yX12_reckon ∈ tb := tb_in (List.mem_of_getElem? (i := 1563) (by decide +kernel)) (by decide)
theorem wd_1564 : Cond.code yX12_reckon cX12_reckon 3 (some .int) ∈ tb := tb_in (List.mem_of_getElem? (i := 1564) (by decide +kernel)) (by decide)
theorem wd_1565 : Cond.methodLink RX12 338 yX12_max ∈ tb := tb_in (List.mem_of_getElem? (i := 1565) (by decide +kernel)) (by decide)
theorem wd_1566 : Cond.static yX12_max ∈ tb := tb_in (List.mem_of_getElem? (i := 1566) (by decide +kernel)) (by decide)
theorem wd_1567 : Cond.code yX12_max cX12_max 2 (some .int) ∈ tb := tb_in (List.mem_of_getElem? (i := 1567) (by decide +kernel)) (by decide)
theorem wd_1568 : Cond.methodLink RX12 344 yX12_holdsAny ∈ tb := tb_in (List.mem_of_getElem? (i := 1568) (by decide +kernel)) (by decide)
theorem wd_1570 : Cond.instanceMethod yX12_holdsAny ∈ tb := tb_in (List.mem_of_getElem? (i := 1570) (by decide +kernel)) (by decide)
theorem wd_1571 : Cond.code yX12_holdsAny cX12_holdsAny 3 (some .boolean) ∈ tb := tb_in (List.mem_of_getElem? (i := 1571) (by decide +kernel)) (by decide)
theorem wd_1572 : Cond.methodLink RX12 347 yX12_goesIn ∈ tb := tb_in (List.mem_of_getElem? (i := 1572) (by decide +kernel)) (by decide)
theorem wd_1574 : Cond.instanceMethod yX12_goesIn ∈ tb := tb_in (List.mem_of_getElem? (i := 1574) (by decide +kernel)) (by decide)
theorem wd_1575 : Cond.code yX12_goesIn cX12_goesIn 2 none ∈ tb := tb_in (List.mem_of_getElem? (i := 1575) (by decide +kernel)) (by decide)
theorem wd_1576 : Cond.methodLink RX12 350 yX12_draws ∈ tb := tb_in (List.mem_of_getElem? (i := 1576) (by decide +kernel)) (by decide)
theorem wd_1578 : Cond.instanceMethod yX12_draws ∈ tb := tb_in (List.mem_of_getElem? (i := 1578) (by decide +kernel)) (by decide)
theorem wd_1579 : Cond.code yX12_draws cX12_draws 1 none ∈ tb := tb_in (List.mem_of_getElem? (i := 1579) (by decide +kernel)) (by decide)
theorem wd_1580 : Cond.constant RX12 331 (65536) ∈ tb := tb_in (List.mem_of_getElem? (i := 1580) (by decide +kernel)) (by decide)
theorem wd_1585 : Cond.methodLink RX12 371 yX12_triesWatches ∈ tb := tb_in (List.mem_of_getElem? (i := 1585) (by decide +kernel)) (by decide)
theorem wd_1587 : Cond.instanceMethod yX12_triesWatches ∈ tb := tb_in (List.mem_of_getElem? (i := 1587) (by decide +kernel)) (by decide)
theorem wd_1588 : Cond.code yX12_triesWatches cX12_triesWatches 2 none ∈ tb := tb_in (List.mem_of_getElem? (i := 1588) (by decide +kernel)) (by decide)
theorem wd_1605 : Cond.methodLink RX12 374 yX12_twosWithout ∈ tb := tb_in (List.mem_of_getElem? (i := 1605) (by decide +kernel)) (by decide)
theorem wd_1607 : Cond.instanceMethod yX12_twosWithout ∈ tb := tb_in (List.mem_of_getElem? (i := 1607) (by decide +kernel)) (by decide)
theorem wd_1608 : Cond.code yX12_twosWithout cX12_twosWithout 5 (some .int) ∈ tb := tb_in (List.mem_of_getElem? (i := 1608) (by decide +kernel)) (by decide)
theorem wd_1609 : Cond.methodLink RX12 377 yX12_twosOver ∈ tb := tb_in (List.mem_of_getElem? (i := 1609) (by decide +kernel)) (by decide)
theorem wd_1611 : Cond.instanceMethod yX12_twosOver ∈ tb := tb_in (List.mem_of_getElem? (i := 1611) (by decide +kernel)) (by decide)
theorem wd_1612 : Cond.code yX12_twosOver cX12_twosOver 4 (some .int) ∈ tb := tb_in (List.mem_of_getElem? (i := 1612) (by decide +kernel)) (by decide)
theorem wd_1617 : Cond.constant RX12 380 (1000000) ∈ tb := tb_in (List.mem_of_getElem? (i := 1617) (by decide +kernel)) (by decide)
theorem wd_1638 : Cond.methodLink RX12 381 yX12_lastsWith ∈ tb := tb_in (List.mem_of_getElem? (i := 1638) (by decide +kernel)) (by decide)
theorem wd_1640 : Cond.instanceMethod yX12_lastsWith ∈ tb := tb_in (List.mem_of_getElem? (i := 1640) (by decide +kernel)) (by decide)
theorem wd_1641 : Cond.code yX12_lastsWith cX12_lastsWith 8 (some .boolean) ∈ tb := tb_in (List.mem_of_getElem? (i := 1641) (by decide +kernel)) (by decide)
theorem wd_1646 : Cond.methodLink RX12 387 yX12_laysGlasses ∈ tb := tb_in (List.mem_of_getElem? (i := 1646) (by decide +kernel)) (by decide)
theorem wd_1648 : Cond.instanceMethod yX12_laysGlasses ∈ tb := tb_in (List.mem_of_getElem? (i := 1648) (by decide +kernel)) (by decide)
theorem wd_1649 : Cond.code yX12_laysGlasses cX12_laysGlasses 7 none ∈ tb := tb_in (List.mem_of_getElem? (i := 1649) (by decide +kernel)) (by decide)
theorem wd_1650 : Cond.methodLink RX12 384 yX12_size ∈ tb := tb_in (List.mem_of_getElem? (i := 1650) (by decide +kernel)) (by decide)
theorem wd_1651 : Cond.static yX12_size ∈ tb := tb_in (List.mem_of_getElem? (i := 1651) (by decide +kernel)) (by decide)
theorem wd_1652 : Cond.code yX12_size cX12_size 1 (some .int) ∈ tb := tb_in (List.mem_of_getElem? (i := 1652) (by decide +kernel)) (by decide)
theorem wd_1669 : Cond.methodLink RX12 390 yX12_laysCommon ∈ tb := tb_in (List.mem_of_getElem? (i := 1669) (by decide +kernel)) (by decide)
theorem wd_1671 : Cond.instanceMethod yX12_laysCommon ∈ tb := tb_in (List.mem_of_getElem? (i := 1671) (by decide +kernel)) (by decide)
theorem wd_1672 : Cond.code yX12_laysCommon cX12_laysCommon 4 none ∈ tb := tb_in (List.mem_of_getElem? (i := 1672) (by decide +kernel)) (by decide)
theorem wd_1673 : Cond.methodLink RX12 393 yX12_nextOf ∈ tb := tb_in (List.mem_of_getElem? (i := 1673) (by decide +kernel)) (by decide)
theorem wd_1675 : Cond.instanceMethod yX12_nextOf ∈ tb := tb_in (List.mem_of_getElem? (i := 1675) (by decide +kernel)) (by decide)
theorem wd_1676 : Cond.code yX12_nextOf cX12_nextOf 5 (some .int) ∈ tb := tb_in (List.mem_of_getElem? (i := 1676) (by decide +kernel)) (by decide)
theorem wd_1681 : Cond.methodLink RX12 396 yX12_isBeat ∈ tb := tb_in (List.mem_of_getElem? (i := 1681) (by decide +kernel)) (by decide)
theorem wd_1683 : Cond.instanceMethod yX12_isBeat ∈ tb := tb_in (List.mem_of_getElem? (i := 1683) (by decide +kernel)) (by decide)
theorem wd_1684 : Cond.code yX12_isBeat cX12_isBeat 4 (some .boolean) ∈ tb := tb_in (List.mem_of_getElem? (i := 1684) (by decide +kernel)) (by decide)
theorem wd_1693 : Cond.methodLink RX12 402 yX12_octet ∈ tb := tb_in (List.mem_of_getElem? (i := 1693) (by decide +kernel)) (by decide)
theorem wd_1695 : Cond.instanceMethod yX12_octet ∈ tb := tb_in (List.mem_of_getElem? (i := 1695) (by decide +kernel)) (by decide)
theorem wd_1696 : Cond.code yX12_octet cX12_octet 2 (some .int) ∈ tb := tb_in (List.mem_of_getElem? (i := 1696) (by decide +kernel)) (by decide)
theorem wd_1697 : Cond.methodLink RX12 433 yX12_playsOut ∈ tb := tb_in (List.mem_of_getElem? (i := 1697) (by decide +kernel)) (by decide)
theorem wd_1699 : Cond.instanceMethod yX12_playsOut ∈ tb := tb_in (List.mem_of_getElem? (i := 1699) (by decide +kernel)) (by decide)
theorem wd_1700 : Cond.code yX12_playsOut cX12_playsOut 9 none ∈ tb := tb_in (List.mem_of_getElem? (i := 1700) (by decide +kernel)) (by decide)
theorem wd_1701 : Cond.methodLink RX12 420 yX12_begins ∈ tb := tb_in (List.mem_of_getElem? (i := 1701) (by decide +kernel)) (by decide)
theorem wd_1703 : Cond.instanceMethod yX12_begins ∈ tb := tb_in (List.mem_of_getElem? (i := 1703) (by decide +kernel)) (by decide)
theorem wd_1704 : Cond.code yX12_begins cX12_begins 4 none ∈ tb := tb_in (List.mem_of_getElem? (i := 1704) (by decide +kernel)) (by decide)
theorem wd_1705 : Cond.methodLink RX12 424 yX12_mayPlay ∈ tb := tb_in (List.mem_of_getElem? (i := 1705) (by decide +kernel)) (by decide)
theorem wd_1707 : Cond.instanceMethod yX12_mayPlay ∈ tb := tb_in (List.mem_of_getElem? (i := 1707) (by decide +kernel)) (by decide)
theorem wd_1708 : Cond.code yX12_mayPlay cX12_mayPlay 6 (some .boolean) ∈ tb := tb_in (List.mem_of_getElem? (i := 1708) (by decide +kernel)) (by decide)
theorem wd_1709 : Cond.methodLink RX12 408 yX12_isAway ∈ tb := tb_in (List.mem_of_getElem? (i := 1709) (by decide +kernel)) (by decide)
theorem wd_1711 : Cond.instanceMethod yX12_isAway ∈ tb := tb_in (List.mem_of_getElem? (i := 1711) (by decide +kernel)) (by decide)
theorem wd_1712 : Cond.code yX12_isAway cX12_isAway 3 (some .boolean) ∈ tb := tb_in (List.mem_of_getElem? (i := 1712) (by decide +kernel)) (by decide)
theorem wd_1713 : Cond.methodLink RX12 411 yX12_cardOf ∈ tb := tb_in (List.mem_of_getElem? (i := 1713) (by decide +kernel)) (by decide)
theorem wd_1715 : Cond.instanceMethod yX12_cardOf ∈ tb := tb_in (List.mem_of_getElem? (i := 1715) (by decide +kernel)) (by decide)
theorem wd_1716 : Cond.code yX12_cardOf cX12_cardOf 3 (some .int) ∈ tb := tb_in (List.mem_of_getElem? (i := 1716) (by decide +kernel)) (by decide)
theorem wd_1717 : Cond.methodLink RX12 427 yX12_mayBeBest ∈ tb := tb_in (List.mem_of_getElem? (i := 1717) (by decide +kernel)) (by decide)
theorem wd_1719 : Cond.instanceMethod yX12_mayBeBest ∈ tb := tb_in (List.mem_of_getElem? (i := 1719) (by decide +kernel)) (by decide)
theorem wd_1720 : Cond.code yX12_mayBeBest cX12_mayBeBest 6 none ∈ tb := tb_in (List.mem_of_getElem? (i := 1720) (by decide +kernel)) (by decide)
theorem wd_1721 : Cond.methodLink RX12 430 yX12_takerOf ∈ tb := tb_in (List.mem_of_getElem? (i := 1721) (by decide +kernel)) (by decide)
theorem wd_1723 : Cond.instanceMethod yX12_takerOf ∈ tb := tb_in (List.mem_of_getElem? (i := 1723) (by decide +kernel)) (by decide)
theorem wd_1724 : Cond.code yX12_takerOf cX12_takerOf 5 (some .int) ∈ tb := tb_in (List.mem_of_getElem? (i := 1724) (by decide +kernel)) (by decide)
theorem wd_1725 : Cond.methodLink RX12 417 yX12_isHigher ∈ tb := tb_in (List.mem_of_getElem? (i := 1725) (by decide +kernel)) (by decide)
theorem wd_1727 : Cond.instanceMethod yX12_isHigher ∈ tb := tb_in (List.mem_of_getElem? (i := 1727) (by decide +kernel)) (by decide)
theorem wd_1728 : Cond.code yX12_isHigher cX12_isHigher 3 (some .boolean) ∈ tb := tb_in (List.mem_of_getElem? (i := 1728) (by decide +kernel)) (by decide)
theorem wd_1733 : Cond.methodLink RX12 436 yX12_gcd ∈ tb := tb_in (List.mem_of_getElem? (i := 1733) (by decide +kernel)) (by decide)
theorem wd_1734 : Cond.static yX12_gcd ∈ tb := tb_in (List.mem_of_getElem? (i := 1734) (by decide +kernel)) (by decide)
theorem wd_1735 : Cond.code yX12_gcd cX12_gcd 5 (some .int) ∈ tb := tb_in (List.mem_of_getElem? (i := 1735) (by decide +kernel)) (by decide)
theorem wd_1744 : Cond.constant RX12 439 (65535) ∈ tb := tb_in (List.mem_of_getElem? (i := 1744) (by decide +kernel)) (by decide)
theorem inX0 : ∀ x ∈ u_ws RX0 TX0 5, x ∈ tb := by
  intro x hx
  have h1 : u_ws RX0 TX0 5 = [350, 352, 354, 356, 358].filterMap (fun i => lw_tbl[i]?) := by decide +kernel
  have h2 : (u_ws RX0 TX0 5).all goodWord = true := by decide +kernel
  have hg := List.all_eq_true.mp h2 x hx
  rw [h1] at hx
  obtain ⟨i, -, hi⟩ := List.mem_filterMap.mp hx
  exact tb_in (List.mem_of_getElem? hi) hg
theorem inX1 : ∀ x ∈ u_ws RX1 TX1 1, x ∈ tb := by
  intro x hx
  have h1 : u_ws RX1 TX1 1 = [314].filterMap (fun i => lw_tbl[i]?) := by decide +kernel
  have h2 : (u_ws RX1 TX1 1).all goodWord = true := by decide +kernel
  have hg := List.all_eq_true.mp h2 x hx
  rw [h1] at hx
  obtain ⟨i, -, hi⟩ := List.mem_filterMap.mp hx
  exact tb_in (List.mem_of_getElem? hi) hg
theorem inX2 : ∀ x ∈ u_ws RX2 TX2 7, x ∈ tb := by
  intro x hx
  have h1 : u_ws RX2 TX2 7 = [275, 277, 279, 281, 283, 285, 287].filterMap (fun i => lw_tbl[i]?) := by decide +kernel
  have h2 : (u_ws RX2 TX2 7).all goodWord = true := by decide +kernel
  have hg := List.all_eq_true.mp h2 x hx
  rw [h1] at hx
  obtain ⟨i, -, hi⟩ := List.mem_filterMap.mp hx
  exact tb_in (List.mem_of_getElem? hi) hg
theorem inX3 : ∀ x ∈ u_ws RX3 TX3 4, x ∈ tb := by
  intro x hx
  have h1 : u_ws RX3 TX3 4 = [328, 330, 332, 334].filterMap (fun i => lw_tbl[i]?) := by decide +kernel
  have h2 : (u_ws RX3 TX3 4).all goodWord = true := by decide +kernel
  have hg := List.all_eq_true.mp h2 x hx
  rw [h1] at hx
  obtain ⟨i, -, hi⟩ := List.mem_filterMap.mp hx
  exact tb_in (List.mem_of_getElem? hi) hg
theorem inX4 : ∀ x ∈ u_ws RX4 TX4 11, x ∈ tb := by
  intro x hx
  have h1 : u_ws RX4 TX4 11 = [386, 388, 390, 392, 394, 396, 398, 400, 402, 404, 406].filterMap (fun i => lw_tbl[i]?) := by decide +kernel
  have h2 : (u_ws RX4 TX4 11).all goodWord = true := by decide +kernel
  have hg := List.all_eq_true.mp h2 x hx
  rw [h1] at hx
  obtain ⟨i, -, hi⟩ := List.mem_filterMap.mp hx
  exact tb_in (List.mem_of_getElem? hi) hg
theorem inX5 : ∀ x ∈ u_ws RX5 TX5 2, x ∈ tb := by
  intro x hx
  have h1 : u_ws RX5 TX5 2 = [417, 419].filterMap (fun i => lw_tbl[i]?) := by decide +kernel
  have h2 : (u_ws RX5 TX5 2).all goodWord = true := by decide +kernel
  have hg := List.all_eq_true.mp h2 x hx
  rw [h1] at hx
  obtain ⟨i, -, hi⟩ := List.mem_filterMap.mp hx
  exact tb_in (List.mem_of_getElem? hi) hg
theorem inX6 : ∀ x ∈ u_ws RX6 TX6 2, x ∈ tb := by
  intro x hx
  have h1 : u_ws RX6 TX6 2 = [251, 253].filterMap (fun i => lw_tbl[i]?) := by decide +kernel
  have h2 : (u_ws RX6 TX6 2).all goodWord = true := by decide +kernel
  have hg := List.all_eq_true.mp h2 x hx
  rw [h1] at hx
  obtain ⟨i, -, hi⟩ := List.mem_filterMap.mp hx
  exact tb_in (List.mem_of_getElem? hi) hg
theorem inX7 : ∀ x ∈ u_ws RX7 TX7 2, x ∈ tb := by
  intro x hx
  have h1 : u_ws RX7 TX7 2 = [302, 304].filterMap (fun i => lw_tbl[i]?) := by decide +kernel
  have h2 : (u_ws RX7 TX7 2).all goodWord = true := by decide +kernel
  have hg := List.all_eq_true.mp h2 x hx
  rw [h1] at hx
  obtain ⟨i, -, hi⟩ := List.mem_filterMap.mp hx
  exact tb_in (List.mem_of_getElem? hi) hg
theorem inX8 : ∀ x ∈ u_ws RX8 TX8 5, x ∈ tb := by
  intro x hx
  have h1 : u_ws RX8 TX8 5 = [231, 233, 235, 237, 239].filterMap (fun i => lw_tbl[i]?) := by decide +kernel
  have h2 : (u_ws RX8 TX8 5).all goodWord = true := by decide +kernel
  have hg := List.all_eq_true.mp h2 x hx
  rw [h1] at hx
  obtain ⟨i, -, hi⟩ := List.mem_filterMap.mp hx
  exact tb_in (List.mem_of_getElem? hi) hg
theorem inX9 : ∀ x ∈ u_ws RX9 TX9 3, x ∈ tb := by
  intro x hx
  have h1 : u_ws RX9 TX9 3 = [208, 210, 212].filterMap (fun i => lw_tbl[i]?) := by decide +kernel
  have h2 : (u_ws RX9 TX9 3).all goodWord = true := by decide +kernel
  have hg := List.all_eq_true.mp h2 x hx
  rw [h1] at hx
  obtain ⟨i, -, hi⟩ := List.mem_filterMap.mp hx
  exact tb_in (List.mem_of_getElem? hi) hg
theorem inX10 : ∀ x ∈ u_ws RX10 TX10 9, x ∈ tb := by
  intro x hx
  have h1 : u_ws RX10 TX10 9 = [175, 177, 179, 181, 183, 185, 187, 189, 191].filterMap (fun i => lw_tbl[i]?) := by decide +kernel
  have h2 : (u_ws RX10 TX10 9).all goodWord = true := by decide +kernel
  have hg := List.all_eq_true.mp h2 x hx
  rw [h1] at hx
  obtain ⟨i, -, hi⟩ := List.mem_filterMap.mp hx
  exact tb_in (List.mem_of_getElem? hi) hg
theorem inX11 : ∀ x ∈ u_ws RX11 TX11 18, x ∈ tb := by
  intro x hx
  have h1 : u_ws RX11 TX11 18 = [440, 442, 444, 446, 448, 450, 452, 454, 456, 458, 460, 462, 464, 466, 468, 470, 472, 474].filterMap (fun i => lw_tbl[i]?) := by decide +kernel
  have h2 : (u_ws RX11 TX11 18).all goodWord = true := by decide +kernel
  have hg := List.all_eq_true.mp h2 x hx
  rw [h1] at hx
  obtain ⟨i, -, hi⟩ := List.mem_filterMap.mp hx
  exact tb_in (List.mem_of_getElem? hi) hg
theorem inX12 : ∀ x ∈ u_ws RX12 TX12 62, x ∈ tb := by
  intro x hx
  have h1 : u_ws RX12 TX12 62 = [1204, 1206, 1208, 1210, 1212, 1214, 1216, 1218, 1220, 1222, 1224, 1226, 1228, 1230, 1232, 1234, 1236, 1238, 1240, 1242, 1244, 1246, 1248, 1250, 1252, 1254, 1256, 1258, 1260, 1262, 1264, 1266, 1268, 1270, 1272, 1274, 1276, 1278, 1280, 1282, 1284, 1286, 1288, 1290, 1292, 1294, 1296, 1298, 1300, 1302, 1304, 1306, 1308, 1310, 1312, 1314, 1316, 1318, 1320, 1322, 1324, 1326].filterMap (fun i => lw_tbl[i]?) := by decide +kernel
  have h2 : (u_ws RX12 TX12 62).all goodWord = true := by decide +kernel
  have hg := List.all_eq_true.mp h2 x hx
  rw [h1] at hx
  obtain ⟨i, -, hi⟩ := List.mem_filterMap.mp hx
  exact tb_in (List.mem_of_getElem? hi) hg
theorem fo_X0_11 : FOk RX0 11 0 0 5 := ⟨RX0, TX0, tyX0, rfl, by decide, wd_343, inX0, tyX0_ok, nmX0⟩
theorem fo_X0_15 : FOk RX0 15 0 1 5 := ⟨RX0, TX0, tyX0, rfl, by decide, wd_344, inX0, tyX0_ok, nmX0⟩
theorem fo_X0_19 : FOk RX0 19 0 2 5 := ⟨RX0, TX0, tyX0, rfl, by decide, wd_345, inX0, tyX0_ok, nmX0⟩
theorem fo_X0_22 : FOk RX0 22 0 3 5 := ⟨RX0, TX0, tyX0, rfl, by decide, wd_346, inX0, tyX0_ok, nmX0⟩
theorem fo_X0_25 : FOk RX0 25 0 4 5 := ⟨RX0, TX0, tyX0, rfl, by decide, wd_348, inX0, tyX0_ok, nmX0⟩
theorem fo_X10_15 : FOk RX10 15 10 1 9 := ⟨RX10, TX10, tyX10, rfl, by decide, wd_146, inX10, tyX10_ok, nmX10⟩
theorem fo_X10_18 : FOk RX10 18 10 2 9 := ⟨RX10, TX10, tyX10, rfl, by decide, wd_150, inX10, tyX10_ok, nmX10⟩
theorem fo_X10_21 : FOk RX10 21 10 3 9 := ⟨RX10, TX10, tyX10, rfl, by decide, wd_154, inX10, tyX10_ok, nmX10⟩
theorem fo_X10_24 : FOk RX10 24 10 4 9 := ⟨RX10, TX10, tyX10, rfl, by decide, wd_159, inX10, tyX10_ok, nmX10⟩
theorem fo_X10_27 : FOk RX10 27 10 5 9 := ⟨RX10, TX10, tyX10, rfl, by decide, wd_164, inX10, tyX10_ok, nmX10⟩
theorem fo_X10_31 : FOk RX10 31 10 6 9 := ⟨RX10, TX10, tyX10, rfl, by decide, wd_167, inX10, tyX10_ok, nmX10⟩
theorem fo_X10_34 : FOk RX10 34 10 7 9 := ⟨RX10, TX10, tyX10, rfl, by decide, wd_170, inX10, tyX10_ok, nmX10⟩
theorem fo_X10_37 : FOk RX10 37 10 8 9 := ⟨RX10, TX10, tyX10, rfl, by decide, wd_172, inX10, tyX10_ok, nmX10⟩
theorem fo_X10_9 : FOk RX10 9 10 0 9 := ⟨RX10, TX10, tyX10, rfl, by decide, wd_143, inX10, tyX10_ok, nmX10⟩
theorem fo_X11_10 : FOk RX11 10 11 0 18 := ⟨RX11, TX11, tyX11, rfl, by decide, wd_422, inX11, tyX11_ok, nmX11⟩
theorem fo_X11_107 : FOk RX11 107 11 16 18 := ⟨RX11, TX11, tyX11, rfl, by decide, wd_438, inX11, tyX11_ok, nmX11⟩
theorem fo_X11_111 : FOk RX11 111 11 17 18 := ⟨RX11, TX11, tyX11, rfl, by decide, wd_439, inX11, tyX11_ok, nmX11⟩
theorem fo_X11_127 : FOk RX11 127 10 8 9 := ⟨RX10, TX10, tyX10, rfl, by decide, wd_173, inX10, tyX10_ok, nmX10⟩
theorem fo_X11_135 : FOk RX11 135 9 1 3 := ⟨RX9, TX9, tyX9, rfl, by decide, wd_204, inX9, tyX9_ok, nmX9⟩
theorem fo_X11_138 : FOk RX11 138 9 0 3 := ⟨RX9, TX9, tyX9, rfl, by decide, wd_202, inX9, tyX9_ok, nmX9⟩
theorem fo_X11_148 : FOk RX11 148 8 1 5 := ⟨RX8, TX8, tyX8, rfl, by decide, wd_223, inX8, tyX8_ok, nmX8⟩
theorem fo_X11_16 : FOk RX11 16 11 1 18 := ⟨RX11, TX11, tyX11, rfl, by decide, wd_423, inX11, tyX11_ok, nmX11⟩
theorem fo_X11_161 : FOk RX11 161 8 4 5 := ⟨RX8, TX8, tyX8, rfl, by decide, wd_230, inX8, tyX8_ok, nmX8⟩
theorem fo_X11_164 : FOk RX11 164 4 8 11 := ⟨RX4, TX4, tyX4, rfl, by decide, wd_382, inX4, tyX4_ok, nmX4⟩
theorem fo_X11_173 : FOk RX11 173 6 1 2 := ⟨RX6, TX6, tyX6, rfl, by decide, wd_250, inX6, tyX6_ok, nmX6⟩
theorem fo_X11_187 : FOk RX11 187 7 1 2 := ⟨RX7, TX7, tyX7, rfl, by decide, wd_301, inX7, tyX7_ok, nmX7⟩
theorem fo_X11_19 : FOk RX11 19 11 2 18 := ⟨RX11, TX11, tyX11, rfl, by decide, wd_424, inX11, tyX11_ok, nmX11⟩
theorem fo_X11_192 : FOk RX11 192 2 2 7 := ⟨RX2, TX2, tyX2, rfl, by decide, wd_266, inX2, tyX2_ok, nmX2⟩
theorem fo_X11_198 : FOk RX11 198 10 4 9 := ⟨RX10, TX10, tyX10, rfl, by decide, wd_163, inX10, tyX10_ok, nmX10⟩
theorem fo_X11_201 : FOk RX11 201 10 1 9 := ⟨RX10, TX10, tyX10, rfl, by decide, wd_149, inX10, tyX10_ok, nmX10⟩
theorem fo_X11_204 : FOk RX11 204 2 3 7 := ⟨RX2, TX2, tyX2, rfl, by decide, wd_268, inX2, tyX2_ok, nmX2⟩
theorem fo_X11_207 : FOk RX11 207 2 4 7 := ⟨RX2, TX2, tyX2, rfl, by decide, wd_270, inX2, tyX2_ok, nmX2⟩
theorem fo_X11_213 : FOk RX11 213 10 0 9 := ⟨RX10, TX10, tyX10, rfl, by decide, wd_145, inX10, tyX10_ok, nmX10⟩
theorem fo_X11_216 : FOk RX11 216 10 2 9 := ⟨RX10, TX10, tyX10, rfl, by decide, wd_153, inX10, tyX10_ok, nmX10⟩
theorem fo_X11_219 : FOk RX11 219 10 3 9 := ⟨RX10, TX10, tyX10, rfl, by decide, wd_158, inX10, tyX10_ok, nmX10⟩
theorem fo_X11_225 : FOk RX11 225 9 2 3 := ⟨RX9, TX9, tyX9, rfl, by decide, wd_207, inX9, tyX9_ok, nmX9⟩
theorem fo_X11_25 : FOk RX11 25 11 3 18 := ⟨RX11, TX11, tyX11, rfl, by decide, wd_425, inX11, tyX11_ok, nmX11⟩
theorem fo_X11_255 : FOk RX11 255 10 5 9 := ⟨RX10, TX10, tyX10, rfl, by decide, wd_166, inX10, tyX10_ok, nmX10⟩
theorem fo_X11_258 : FOk RX11 258 2 1 7 := ⟨RX2, TX2, tyX2, rfl, by decide, wd_264, inX2, tyX2_ok, nmX2⟩
theorem fo_X11_261 : FOk RX11 261 2 5 7 := ⟨RX2, TX2, tyX2, rfl, by decide, wd_272, inX2, tyX2_ok, nmX2⟩
theorem fo_X11_264 : FOk RX11 264 2 6 7 := ⟨RX2, TX2, tyX2, rfl, by decide, wd_274, inX2, tyX2_ok, nmX2⟩
theorem fo_X11_281 : FOk RX11 281 3 1 4 := ⟨RX3, TX3, tyX3, rfl, by decide, wd_325, inX3, tyX3_ok, nmX3⟩
theorem fo_X11_295 : FOk RX11 295 7 0 2 := ⟨RX7, TX7, tyX7, rfl, by decide, wd_298, inX7, tyX7_ok, nmX7⟩
theorem fo_X11_32 : FOk RX11 32 11 4 18 := ⟨RX11, TX11, tyX11, rfl, by decide, wd_426, inX11, tyX11_ok, nmX11⟩
theorem fo_X11_322 : FOk RX11 322 0 3 5 := ⟨RX0, TX0, tyX0, rfl, by decide, wd_347, inX0, tyX0_ok, nmX0⟩
theorem fo_X11_325 : FOk RX11 325 0 4 5 := ⟨RX0, TX0, tyX0, rfl, by decide, wd_349, inX0, tyX0_ok, nmX0⟩
theorem fo_X11_338 : FOk RX11 338 10 7 9 := ⟨RX10, TX10, tyX10, rfl, by decide, wd_171, inX10, tyX10_ok, nmX10⟩
theorem fo_X11_341 : FOk RX11 341 10 6 9 := ⟨RX10, TX10, tyX10, rfl, by decide, wd_169, inX10, tyX10_ok, nmX10⟩
theorem fo_X11_41 : FOk RX11 41 11 5 18 := ⟨RX11, TX11, tyX11, rfl, by decide, wd_427, inX11, tyX11_ok, nmX11⟩
theorem fo_X11_50 : FOk RX11 50 11 6 18 := ⟨RX11, TX11, tyX11, rfl, by decide, wd_428, inX11, tyX11_ok, nmX11⟩
theorem fo_X11_57 : FOk RX11 57 11 7 18 := ⟨RX11, TX11, tyX11, rfl, by decide, wd_429, inX11, tyX11_ok, nmX11⟩
theorem fo_X11_61 : FOk RX11 61 11 8 18 := ⟨RX11, TX11, tyX11, rfl, by decide, wd_430, inX11, tyX11_ok, nmX11⟩
theorem fo_X11_64 : FOk RX11 64 11 9 18 := ⟨RX11, TX11, tyX11, rfl, by decide, wd_431, inX11, tyX11_ok, nmX11⟩
theorem fo_X11_70 : FOk RX11 70 11 10 18 := ⟨RX11, TX11, tyX11, rfl, by decide, wd_432, inX11, tyX11_ok, nmX11⟩
theorem fo_X11_77 : FOk RX11 77 11 11 18 := ⟨RX11, TX11, tyX11, rfl, by decide, wd_433, inX11, tyX11_ok, nmX11⟩
theorem fo_X11_84 : FOk RX11 84 11 12 18 := ⟨RX11, TX11, tyX11, rfl, by decide, wd_434, inX11, tyX11_ok, nmX11⟩
theorem fo_X11_88 : FOk RX11 88 11 13 18 := ⟨RX11, TX11, tyX11, rfl, by decide, wd_435, inX11, tyX11_ok, nmX11⟩
theorem fo_X11_95 : FOk RX11 95 11 14 18 := ⟨RX11, TX11, tyX11, rfl, by decide, wd_436, inX11, tyX11_ok, nmX11⟩
theorem fo_X11_99 : FOk RX11 99 11 15 18 := ⟨RX11, TX11, tyX11, rfl, by decide, wd_437, inX11, tyX11_ok, nmX11⟩
theorem fo_X12_101 : FOk RX12 101 12 51 62 := ⟨RX12, TX12, tyX12, rfl, by decide, wd_1193, inX12, tyX12_ok, nmX12⟩
theorem fo_X12_104 : FOk RX12 104 12 52 62 := ⟨RX12, TX12, tyX12, rfl, by decide, wd_1194, inX12, tyX12_ok, nmX12⟩
theorem fo_X12_107 : FOk RX12 107 12 53 62 := ⟨RX12, TX12, tyX12, rfl, by decide, wd_1195, inX12, tyX12_ok, nmX12⟩
theorem fo_X12_110 : FOk RX12 110 12 54 62 := ⟨RX12, TX12, tyX12, rfl, by decide, wd_1196, inX12, tyX12_ok, nmX12⟩
theorem fo_X12_113 : FOk RX12 113 12 55 62 := ⟨RX12, TX12, tyX12, rfl, by decide, wd_1197, inX12, tyX12_ok, nmX12⟩
theorem fo_X12_116 : FOk RX12 116 12 59 62 := ⟨RX12, TX12, tyX12, rfl, by decide, wd_1201, inX12, tyX12_ok, nmX12⟩
theorem fo_X12_119 : FOk RX12 119 12 60 62 := ⟨RX12, TX12, tyX12, rfl, by decide, wd_1202, inX12, tyX12_ok, nmX12⟩
theorem fo_X12_13 : FOk RX12 13 12 1 62 := ⟨RX12, TX12, tyX12, rfl, by decide, wd_1143, inX12, tyX12_ok, nmX12⟩
theorem fo_X12_147 : FOk RX12 147 12 6 62 := ⟨RX12, TX12, tyX12, rfl, by decide, wd_1148, inX12, tyX12_ok, nmX12⟩
theorem fo_X12_155 : FOk RX12 155 12 7 62 := ⟨RX12, TX12, tyX12, rfl, by decide, wd_1149, inX12, tyX12_ok, nmX12⟩
theorem fo_X12_158 : FOk RX12 158 12 8 62 := ⟨RX12, TX12, tyX12, rfl, by decide, wd_1150, inX12, tyX12_ok, nmX12⟩
theorem fo_X12_16 : FOk RX12 16 12 2 62 := ⟨RX12, TX12, tyX12, rfl, by decide, wd_1144, inX12, tyX12_ok, nmX12⟩
theorem fo_X12_165 : FOk RX12 165 12 9 62 := ⟨RX12, TX12, tyX12, rfl, by decide, wd_1151, inX12, tyX12_ok, nmX12⟩
theorem fo_X12_171 : FOk RX12 171 12 10 62 := ⟨RX12, TX12, tyX12, rfl, by decide, wd_1152, inX12, tyX12_ok, nmX12⟩
theorem fo_X12_178 : FOk RX12 178 12 12 62 := ⟨RX12, TX12, tyX12, rfl, by decide, wd_1154, inX12, tyX12_ok, nmX12⟩
theorem fo_X12_182 : FOk RX12 182 12 11 62 := ⟨RX12, TX12, tyX12, rfl, by decide, wd_1153, inX12, tyX12_ok, nmX12⟩
theorem fo_X12_185 : FOk RX12 185 12 13 62 := ⟨RX12, TX12, tyX12, rfl, by decide, wd_1155, inX12, tyX12_ok, nmX12⟩
theorem fo_X12_19 : FOk RX12 19 12 3 62 := ⟨RX12, TX12, tyX12, rfl, by decide, wd_1145, inX12, tyX12_ok, nmX12⟩
theorem fo_X12_22 : FOk RX12 22 12 4 62 := ⟨RX12, TX12, tyX12, rfl, by decide, wd_1146, inX12, tyX12_ok, nmX12⟩
theorem fo_X12_233 : FOk RX12 233 12 14 62 := ⟨RX12, TX12, tyX12, rfl, by decide, wd_1156, inX12, tyX12_ok, nmX12⟩
theorem fo_X12_248 : FOk RX12 248 12 15 62 := ⟨RX12, TX12, tyX12, rfl, by decide, wd_1157, inX12, tyX12_ok, nmX12⟩
theorem fo_X12_25 : FOk RX12 25 12 5 62 := ⟨RX12, TX12, tyX12, rfl, by decide, wd_1147, inX12, tyX12_ok, nmX12⟩
theorem fo_X12_282 : FOk RX12 282 12 29 62 := ⟨RX12, TX12, tyX12, rfl, by decide, wd_1171, inX12, tyX12_ok, nmX12⟩
theorem fo_X12_29 : FOk RX12 29 12 16 62 := ⟨RX12, TX12, tyX12, rfl, by decide, wd_1158, inX12, tyX12_ok, nmX12⟩
theorem fo_X12_298 : FOk RX12 298 12 36 62 := ⟨RX12, TX12, tyX12, rfl, by decide, wd_1178, inX12, tyX12_ok, nmX12⟩
theorem fo_X12_301 : FOk RX12 301 12 38 62 := ⟨RX12, TX12, tyX12, rfl, by decide, wd_1180, inX12, tyX12_ok, nmX12⟩
theorem fo_X12_304 : FOk RX12 304 12 39 62 := ⟨RX12, TX12, tyX12, rfl, by decide, wd_1181, inX12, tyX12_ok, nmX12⟩
theorem fo_X12_310 : FOk RX12 310 12 37 62 := ⟨RX12, TX12, tyX12, rfl, by decide, wd_1179, inX12, tyX12_ok, nmX12⟩
theorem fo_X12_319 : FOk RX12 319 12 40 62 := ⟨RX12, TX12, tyX12, rfl, by decide, wd_1182, inX12, tyX12_ok, nmX12⟩
theorem fo_X12_32 : FOk RX12 32 12 17 62 := ⟨RX12, TX12, tyX12, rfl, by decide, wd_1159, inX12, tyX12_ok, nmX12⟩
theorem fo_X12_322 : FOk RX12 322 12 45 62 := ⟨RX12, TX12, tyX12, rfl, by decide, wd_1187, inX12, tyX12_ok, nmX12⟩
theorem fo_X12_325 : FOk RX12 325 12 43 62 := ⟨RX12, TX12, tyX12, rfl, by decide, wd_1185, inX12, tyX12_ok, nmX12⟩
theorem fo_X12_328 : FOk RX12 328 12 44 62 := ⟨RX12, TX12, tyX12, rfl, by decide, wd_1186, inX12, tyX12_ok, nmX12⟩
theorem fo_X12_341 : FOk RX12 341 12 42 62 := ⟨RX12, TX12, tyX12, rfl, by decide, wd_1184, inX12, tyX12_ok, nmX12⟩
theorem fo_X12_35 : FOk RX12 35 12 18 62 := ⟨RX12, TX12, tyX12, rfl, by decide, wd_1160, inX12, tyX12_ok, nmX12⟩
theorem fo_X12_353 : FOk RX12 353 12 41 62 := ⟨RX12, TX12, tyX12, rfl, by decide, wd_1183, inX12, tyX12_ok, nmX12⟩
theorem fo_X12_38 : FOk RX12 38 12 19 62 := ⟨RX12, TX12, tyX12, rfl, by decide, wd_1161, inX12, tyX12_ok, nmX12⟩
theorem fo_X12_399 : FOk RX12 399 12 56 62 := ⟨RX12, TX12, tyX12, rfl, by decide, wd_1198, inX12, tyX12_ok, nmX12⟩
theorem fo_X12_405 : FOk RX12 405 12 58 62 := ⟨RX12, TX12, tyX12, rfl, by decide, wd_1200, inX12, tyX12_ok, nmX12⟩
theorem fo_X12_41 : FOk RX12 41 12 20 62 := ⟨RX12, TX12, tyX12, rfl, by decide, wd_1162, inX12, tyX12_ok, nmX12⟩
theorem fo_X12_414 : FOk RX12 414 12 57 62 := ⟨RX12, TX12, tyX12, rfl, by decide, wd_1199, inX12, tyX12_ok, nmX12⟩
theorem fo_X12_44 : FOk RX12 44 12 21 62 := ⟨RX12, TX12, tyX12, rfl, by decide, wd_1163, inX12, tyX12_ok, nmX12⟩
theorem fo_X12_440 : FOk RX12 440 12 61 62 := ⟨RX12, TX12, tyX12, rfl, by decide, wd_1203, inX12, tyX12_ok, nmX12⟩
theorem fo_X12_47 : FOk RX12 47 12 22 62 := ⟨RX12, TX12, tyX12, rfl, by decide, wd_1164, inX12, tyX12_ok, nmX12⟩
theorem fo_X12_50 : FOk RX12 50 12 23 62 := ⟨RX12, TX12, tyX12, rfl, by decide, wd_1165, inX12, tyX12_ok, nmX12⟩
theorem fo_X12_53 : FOk RX12 53 12 24 62 := ⟨RX12, TX12, tyX12, rfl, by decide, wd_1166, inX12, tyX12_ok, nmX12⟩
theorem fo_X12_56 : FOk RX12 56 12 25 62 := ⟨RX12, TX12, tyX12, rfl, by decide, wd_1167, inX12, tyX12_ok, nmX12⟩
theorem fo_X12_59 : FOk RX12 59 12 26 62 := ⟨RX12, TX12, tyX12, rfl, by decide, wd_1168, inX12, tyX12_ok, nmX12⟩
theorem fo_X12_62 : FOk RX12 62 12 27 62 := ⟨RX12, TX12, tyX12, rfl, by decide, wd_1169, inX12, tyX12_ok, nmX12⟩
theorem fo_X12_65 : FOk RX12 65 12 28 62 := ⟨RX12, TX12, tyX12, rfl, by decide, wd_1170, inX12, tyX12_ok, nmX12⟩
theorem fo_X12_68 : FOk RX12 68 12 30 62 := ⟨RX12, TX12, tyX12, rfl, by decide, wd_1172, inX12, tyX12_ok, nmX12⟩
theorem fo_X12_7 : FOk RX12 7 12 0 62 := ⟨RX12, TX12, tyX12, rfl, by decide, wd_1142, inX12, tyX12_ok, nmX12⟩
theorem fo_X12_71 : FOk RX12 71 12 31 62 := ⟨RX12, TX12, tyX12, rfl, by decide, wd_1173, inX12, tyX12_ok, nmX12⟩
theorem fo_X12_74 : FOk RX12 74 12 32 62 := ⟨RX12, TX12, tyX12, rfl, by decide, wd_1174, inX12, tyX12_ok, nmX12⟩
theorem fo_X12_77 : FOk RX12 77 12 33 62 := ⟨RX12, TX12, tyX12, rfl, by decide, wd_1175, inX12, tyX12_ok, nmX12⟩
theorem fo_X12_80 : FOk RX12 80 12 34 62 := ⟨RX12, TX12, tyX12, rfl, by decide, wd_1176, inX12, tyX12_ok, nmX12⟩
theorem fo_X12_83 : FOk RX12 83 12 35 62 := ⟨RX12, TX12, tyX12, rfl, by decide, wd_1177, inX12, tyX12_ok, nmX12⟩
theorem fo_X12_86 : FOk RX12 86 12 46 62 := ⟨RX12, TX12, tyX12, rfl, by decide, wd_1188, inX12, tyX12_ok, nmX12⟩
theorem fo_X12_89 : FOk RX12 89 12 47 62 := ⟨RX12, TX12, tyX12, rfl, by decide, wd_1189, inX12, tyX12_ok, nmX12⟩
theorem fo_X12_92 : FOk RX12 92 12 48 62 := ⟨RX12, TX12, tyX12, rfl, by decide, wd_1190, inX12, tyX12_ok, nmX12⟩
theorem fo_X12_95 : FOk RX12 95 12 49 62 := ⟨RX12, TX12, tyX12, rfl, by decide, wd_1191, inX12, tyX12_ok, nmX12⟩
theorem fo_X12_98 : FOk RX12 98 12 50 62 := ⟨RX12, TX12, tyX12, rfl, by decide, wd_1192, inX12, tyX12_ok, nmX12⟩
theorem fo_X1_13 : FOk RX1 13 1 0 1 := ⟨RX1, TX1, tyX1, rfl, by decide, wd_313, inX1, tyX1_ok, nmX1⟩
theorem fo_X1_17 : FOk RX1 17 7 1 2 := ⟨RX7, TX7, tyX7, rfl, by decide, wd_300, inX7, tyX7_ok, nmX7⟩
theorem fo_X1_25 : FOk RX1 25 7 0 2 := ⟨RX7, TX7, tyX7, rfl, by decide, wd_297, inX7, tyX7_ok, nmX7⟩
theorem fo_X2_106 : FOk RX2 106 4 6 11 := ⟨RX4, TX4, tyX4, rfl, by decide, wd_378, inX4, tyX4_ok, nmX4⟩
theorem fo_X2_109 : FOk RX2 109 10 0 9 := ⟨RX10, TX10, tyX10, rfl, by decide, wd_144, inX10, tyX10_ok, nmX10⟩
theorem fo_X2_112 : FOk RX2 112 10 3 9 := ⟨RX10, TX10, tyX10, rfl, by decide, wd_157, inX10, tyX10_ok, nmX10⟩
theorem fo_X2_121 : FOk RX2 121 9 2 3 := ⟨RX9, TX9, tyX9, rfl, by decide, wd_206, inX9, tyX9_ok, nmX9⟩
theorem fo_X2_124 : FOk RX2 124 10 5 9 := ⟨RX10, TX10, tyX10, rfl, by decide, wd_165, inX10, tyX10_ok, nmX10⟩
theorem fo_X2_127 : FOk RX2 127 10 6 9 := ⟨RX10, TX10, tyX10, rfl, by decide, wd_168, inX10, tyX10_ok, nmX10⟩
theorem fo_X2_15 : FOk RX2 15 2 2 7 := ⟨RX2, TX2, tyX2, rfl, by decide, wd_265, inX2, tyX2_ok, nmX2⟩
theorem fo_X2_19 : FOk RX2 19 2 3 7 := ⟨RX2, TX2, tyX2, rfl, by decide, wd_267, inX2, tyX2_ok, nmX2⟩
theorem fo_X2_22 : FOk RX2 22 2 4 7 := ⟨RX2, TX2, tyX2, rfl, by decide, wd_269, inX2, tyX2_ok, nmX2⟩
theorem fo_X2_25 : FOk RX2 25 2 5 7 := ⟨RX2, TX2, tyX2, rfl, by decide, wd_271, inX2, tyX2_ok, nmX2⟩
theorem fo_X2_28 : FOk RX2 28 2 6 7 := ⟨RX2, TX2, tyX2, rfl, by decide, wd_273, inX2, tyX2_ok, nmX2⟩
theorem fo_X2_31 : FOk RX2 31 2 0 7 := ⟨RX2, TX2, tyX2, rfl, by decide, wd_262, inX2, tyX2_ok, nmX2⟩
theorem fo_X2_61 : FOk RX2 61 10 4 9 := ⟨RX10, TX10, tyX10, rfl, by decide, wd_160, inX10, tyX10_ok, nmX10⟩
theorem fo_X2_71 : FOk RX2 71 10 8 9 := ⟨RX10, TX10, tyX10, rfl, by decide, wd_174, inX10, tyX10_ok, nmX10⟩
theorem fo_X2_80 : FOk RX2 80 10 1 9 := ⟨RX10, TX10, tyX10, rfl, by decide, wd_148, inX10, tyX10_ok, nmX10⟩
theorem fo_X2_83 : FOk RX2 83 10 2 9 := ⟨RX10, TX10, tyX10, rfl, by decide, wd_151, inX10, tyX10_ok, nmX10⟩
theorem fo_X2_9 : FOk RX2 9 2 1 7 := ⟨RX2, TX2, tyX2, rfl, by decide, wd_263, inX2, tyX2_ok, nmX2⟩
theorem fo_X3_11 : FOk RX3 11 3 0 4 := ⟨RX3, TX3, tyX3, rfl, by decide, wd_323, inX3, tyX3_ok, nmX3⟩
theorem fo_X3_15 : FOk RX3 15 3 1 4 := ⟨RX3, TX3, tyX3, rfl, by decide, wd_324, inX3, tyX3_ok, nmX3⟩
theorem fo_X3_18 : FOk RX3 18 3 2 4 := ⟨RX3, TX3, tyX3, rfl, by decide, wd_326, inX3, tyX3_ok, nmX3⟩
theorem fo_X3_22 : FOk RX3 22 3 3 4 := ⟨RX3, TX3, tyX3, rfl, by decide, wd_327, inX3, tyX3_ok, nmX3⟩
theorem fo_X4_13 : FOk RX4 13 4 1 11 := ⟨RX4, TX4, tyX4, rfl, by decide, wd_368, inX4, tyX4_ok, nmX4⟩
theorem fo_X4_16 : FOk RX4 16 4 2 11 := ⟨RX4, TX4, tyX4, rfl, by decide, wd_369, inX4, tyX4_ok, nmX4⟩
theorem fo_X4_19 : FOk RX4 19 4 3 11 := ⟨RX4, TX4, tyX4, rfl, by decide, wd_371, inX4, tyX4_ok, nmX4⟩
theorem fo_X4_22 : FOk RX4 22 4 4 11 := ⟨RX4, TX4, tyX4, rfl, by decide, wd_373, inX4, tyX4_ok, nmX4⟩
theorem fo_X4_25 : FOk RX4 25 4 5 11 := ⟨RX4, TX4, tyX4, rfl, by decide, wd_375, inX4, tyX4_ok, nmX4⟩
theorem fo_X4_28 : FOk RX4 28 4 6 11 := ⟨RX4, TX4, tyX4, rfl, by decide, wd_377, inX4, tyX4_ok, nmX4⟩
theorem fo_X4_31 : FOk RX4 31 4 7 11 := ⟨RX4, TX4, tyX4, rfl, by decide, wd_379, inX4, tyX4_ok, nmX4⟩
theorem fo_X4_34 : FOk RX4 34 4 8 11 := ⟨RX4, TX4, tyX4, rfl, by decide, wd_380, inX4, tyX4_ok, nmX4⟩
theorem fo_X4_38 : FOk RX4 38 4 9 11 := ⟨RX4, TX4, tyX4, rfl, by decide, wd_383, inX4, tyX4_ok, nmX4⟩
theorem fo_X4_41 : FOk RX4 41 4 10 11 := ⟨RX4, TX4, tyX4, rfl, by decide, wd_385, inX4, tyX4_ok, nmX4⟩
theorem fo_X4_9 : FOk RX4 9 4 0 11 := ⟨RX4, TX4, tyX4, rfl, by decide, wd_367, inX4, tyX4_ok, nmX4⟩
theorem fo_X5_15 : FOk RX5 15 5 1 2 := ⟨RX5, TX5, tyX5, rfl, by decide, wd_416, inX5, tyX5_ok, nmX5⟩
theorem fo_X5_44 : FOk RX5 44 8 3 5 := ⟨RX8, TX8, tyX8, rfl, by decide, wd_227, inX8, tyX8_ok, nmX8⟩
theorem fo_X5_48 : FOk RX5 48 4 2 11 := ⟨RX4, TX4, tyX4, rfl, by decide, wd_370, inX4, tyX4_ok, nmX4⟩
theorem fo_X5_52 : FOk RX5 52 4 3 11 := ⟨RX4, TX4, tyX4, rfl, by decide, wd_372, inX4, tyX4_ok, nmX4⟩
theorem fo_X5_55 : FOk RX5 55 4 9 11 := ⟨RX4, TX4, tyX4, rfl, by decide, wd_384, inX4, tyX4_ok, nmX4⟩
theorem fo_X5_61 : FOk RX5 61 4 4 11 := ⟨RX4, TX4, tyX4, rfl, by decide, wd_374, inX4, tyX4_ok, nmX4⟩
theorem fo_X5_70 : FOk RX5 70 4 5 11 := ⟨RX4, TX4, tyX4, rfl, by decide, wd_376, inX4, tyX4_ok, nmX4⟩
theorem fo_X5_73 : FOk RX5 73 4 8 11 := ⟨RX4, TX4, tyX4, rfl, by decide, wd_381, inX4, tyX4_ok, nmX4⟩
theorem fo_X5_9 : FOk RX5 9 5 0 2 := ⟨RX5, TX5, tyX5, rfl, by decide, wd_415, inX5, tyX5_ok, nmX5⟩
theorem fo_X6_15 : FOk RX6 15 6 0 2 := ⟨RX6, TX6, tyX6, rfl, by decide, wd_248, inX6, tyX6_ok, nmX6⟩
theorem fo_X6_33 : FOk RX6 33 8 3 5 := ⟨RX8, TX8, tyX8, rfl, by decide, wd_226, inX8, tyX8_ok, nmX8⟩
theorem fo_X6_50 : FOk RX6 50 10 4 9 := ⟨RX10, TX10, tyX10, rfl, by decide, wd_161, inX10, tyX10_ok, nmX10⟩
theorem fo_X6_63 : FOk RX6 63 10 1 9 := ⟨RX10, TX10, tyX10, rfl, by decide, wd_147, inX10, tyX10_ok, nmX10⟩
theorem fo_X6_70 : FOk RX6 70 10 2 9 := ⟨RX10, TX10, tyX10, rfl, by decide, wd_152, inX10, tyX10_ok, nmX10⟩
theorem fo_X6_83 : FOk RX6 83 10 3 9 := ⟨RX10, TX10, tyX10, rfl, by decide, wd_156, inX10, tyX10_ok, nmX10⟩
theorem fo_X6_9 : FOk RX6 9 6 1 2 := ⟨RX6, TX6, tyX6, rfl, by decide, wd_249, inX6, tyX6_ok, nmX6⟩
theorem fo_X7_11 : FOk RX7 11 7 0 2 := ⟨RX7, TX7, tyX7, rfl, by decide, wd_296, inX7, tyX7_ok, nmX7⟩
theorem fo_X7_15 : FOk RX7 15 7 1 2 := ⟨RX7, TX7, tyX7, rfl, by decide, wd_299, inX7, tyX7_ok, nmX7⟩
theorem fo_X7_46 : FOk RX7 46 8 3 5 := ⟨RX8, TX8, tyX8, rfl, by decide, wd_228, inX8, tyX8_ok, nmX8⟩
theorem fo_X8_15 : FOk RX8 15 8 1 5 := ⟨RX8, TX8, tyX8, rfl, by decide, wd_222, inX8, tyX8_ok, nmX8⟩
theorem fo_X8_19 : FOk RX8 19 8 2 5 := ⟨RX8, TX8, tyX8, rfl, by decide, wd_224, inX8, tyX8_ok, nmX8⟩
theorem fo_X8_22 : FOk RX8 22 8 3 5 := ⟨RX8, TX8, tyX8, rfl, by decide, wd_225, inX8, tyX8_ok, nmX8⟩
theorem fo_X8_25 : FOk RX8 25 8 4 5 := ⟨RX8, TX8, tyX8, rfl, by decide, wd_229, inX8, tyX8_ok, nmX8⟩
theorem fo_X8_9 : FOk RX8 9 8 0 5 := ⟨RX8, TX8, tyX8, rfl, by decide, wd_221, inX8, tyX8_ok, nmX8⟩
theorem fo_X9_15 : FOk RX9 15 9 1 3 := ⟨RX9, TX9, tyX9, rfl, by decide, wd_203, inX9, tyX9_ok, nmX9⟩
theorem fo_X9_18 : FOk RX9 18 9 2 3 := ⟨RX9, TX9, tyX9, rfl, by decide, wd_205, inX9, tyX9_ok, nmX9⟩
theorem fo_X9_21 : FOk RX9 21 10 3 9 := ⟨RX10, TX10, tyX10, rfl, by decide, wd_155, inX10, tyX10_ok, nmX10⟩
theorem fo_X9_40 : FOk RX9 40 10 4 9 := ⟨RX10, TX10, tyX10, rfl, by decide, wd_162, inX10, tyX10_ok, nmX10⟩
theorem fo_X9_9 : FOk RX9 9 9 0 3 := ⟨RX9, TX9, tyX9, rfl, by decide, wd_201, inX9, tyX9_ok, nmX9⟩
theorem pf_0_1 : PFk 0 1 .int := fun C T n h => by cases h; exact ⟨rfl, by decide +kernel⟩
theorem pf_0_2 : PFk 0 2 .int := fun C T n h => by cases h; exact ⟨rfl, by decide +kernel⟩
theorem pf_0_3 : PFk 0 3 .int := fun C T n h => by cases h; exact ⟨rfl, by decide +kernel⟩
theorem pf_0_4 : PFk 0 4 .int := fun C T n h => by cases h; exact ⟨rfl, by decide +kernel⟩
theorem pf_2_2 : PFk 2 2 .int := fun C T n h => by cases h; exact ⟨rfl, by decide +kernel⟩
theorem pf_2_3 : PFk 2 3 .int := fun C T n h => by cases h; exact ⟨rfl, by decide +kernel⟩
theorem pf_2_4 : PFk 2 4 .int := fun C T n h => by cases h; exact ⟨rfl, by decide +kernel⟩
theorem pf_2_5 : PFk 2 5 .int := fun C T n h => by cases h; exact ⟨rfl, by decide +kernel⟩
theorem pf_2_6 : PFk 2 6 .int := fun C T n h => by cases h; exact ⟨rfl, by decide +kernel⟩
theorem pf_3_2 : PFk 3 2 .int := fun C T n h => by cases h; exact ⟨rfl, by decide +kernel⟩
theorem pf_3_3 : PFk 3 3 .int := fun C T n h => by cases h; exact ⟨rfl, by decide +kernel⟩
theorem pf_4_8 : PFk 4 8 .int := fun C T n h => by cases h; exact ⟨rfl, by decide +kernel⟩
theorem pf_4_9 : PFk 4 9 .int := fun C T n h => by cases h; exact ⟨rfl, by decide +kernel⟩
theorem pf_4_10 : PFk 4 10 .boolean := fun C T n h => by cases h; exact ⟨rfl, by decide +kernel⟩
theorem pf_5_1 : PFk 5 1 (.object "VerandaWar$Law") := fun C T n h => by cases h; exact ⟨rfl, by decide +kernel⟩
theorem pf_6_1 : PFk 6 1 .int := fun C T n h => by cases h; exact ⟨rfl, by decide +kernel⟩
theorem pf_7_1 : PFk 7 1 .int := fun C T n h => by cases h; exact ⟨rfl, by decide +kernel⟩
theorem pf_8_1 : PFk 8 1 .int := fun C T n h => by cases h; exact ⟨rfl, by decide +kernel⟩
theorem pf_8_2 : PFk 8 2 .int := fun C T n h => by cases h; exact ⟨rfl, by decide +kernel⟩
theorem pf_8_3 : PFk 8 3 .int := fun C T n h => by cases h; exact ⟨rfl, by decide +kernel⟩
theorem pf_8_4 : PFk 8 4 .int := fun C T n h => by cases h; exact ⟨rfl, by decide +kernel⟩
theorem pf_10_5 : PFk 10 5 .int := fun C T n h => by cases h; exact ⟨rfl, by decide +kernel⟩
theorem pf_10_6 : PFk 10 6 .int := fun C T n h => by cases h; exact ⟨rfl, by decide +kernel⟩
theorem pf_10_7 : PFk 10 7 .int := fun C T n h => by cases h; exact ⟨rfl, by decide +kernel⟩
theorem pf_10_8 : PFk 10 8 .int := fun C T n h => by cases h; exact ⟨rfl, by decide +kernel⟩
theorem pf_11_14 : PFk 11 14 (.object "VerandaWar$Law") := fun C T n h => by cases h; exact ⟨rfl, by decide +kernel⟩
theorem pf_11_15 : PFk 11 15 (.object "VerandaWar$Law") := fun C T n h => by cases h; exact ⟨rfl, by decide +kernel⟩
theorem pf_11_17 : PFk 11 17 .boolean := fun C T n h => by cases h; exact ⟨rfl, by decide +kernel⟩
theorem pf_12_6 : PFk 12 6 .int := fun C T n h => by cases h; exact ⟨rfl, by decide +kernel⟩
theorem pf_12_7 : PFk 12 7 .int := fun C T n h => by cases h; exact ⟨rfl, by decide +kernel⟩
theorem pf_12_8 : PFk 12 8 .int := fun C T n h => by cases h; exact ⟨rfl, by decide +kernel⟩
theorem pf_12_9 : PFk 12 9 .int := fun C T n h => by cases h; exact ⟨rfl, by decide +kernel⟩
theorem pf_12_10 : PFk 12 10 .int := fun C T n h => by cases h; exact ⟨rfl, by decide +kernel⟩
theorem pf_12_11 : PFk 12 11 .int := fun C T n h => by cases h; exact ⟨rfl, by decide +kernel⟩
theorem pf_12_12 : PFk 12 12 .int := fun C T n h => by cases h; exact ⟨rfl, by decide +kernel⟩
theorem pf_12_13 : PFk 12 13 .int := fun C T n h => by cases h; exact ⟨rfl, by decide +kernel⟩
theorem pf_12_14 : PFk 12 14 .int := fun C T n h => by cases h; exact ⟨rfl, by decide +kernel⟩
theorem pf_12_15 : PFk 12 15 .int := fun C T n h => by cases h; exact ⟨rfl, by decide +kernel⟩
theorem pf_12_29 : PFk 12 29 .int := fun C T n h => by cases h; exact ⟨rfl, by decide +kernel⟩
theorem pf_12_36 : PFk 12 36 .int := fun C T n h => by cases h; exact ⟨rfl, by decide +kernel⟩
theorem pf_12_37 : PFk 12 37 .int := fun C T n h => by cases h; exact ⟨rfl, by decide +kernel⟩
theorem pf_12_38 : PFk 12 38 .int := fun C T n h => by cases h; exact ⟨rfl, by decide +kernel⟩
theorem pf_12_39 : PFk 12 39 .int := fun C T n h => by cases h; exact ⟨rfl, by decide +kernel⟩
theorem pf_12_40 : PFk 12 40 .int := fun C T n h => by cases h; exact ⟨rfl, by decide +kernel⟩
theorem pf_12_41 : PFk 12 41 .int := fun C T n h => by cases h; exact ⟨rfl, by decide +kernel⟩
theorem pf_12_42 : PFk 12 42 .int := fun C T n h => by cases h; exact ⟨rfl, by decide +kernel⟩
theorem pf_12_43 : PFk 12 43 .int := fun C T n h => by cases h; exact ⟨rfl, by decide +kernel⟩
theorem pf_12_44 : PFk 12 44 .int := fun C T n h => by cases h; exact ⟨rfl, by decide +kernel⟩
theorem pf_12_45 : PFk 12 45 .int := fun C T n h => by cases h; exact ⟨rfl, by decide +kernel⟩
theorem pf_12_56 : PFk 12 56 .int := fun C T n h => by cases h; exact ⟨rfl, by decide +kernel⟩
theorem pf_12_57 : PFk 12 57 .int := fun C T n h => by cases h; exact ⟨rfl, by decide +kernel⟩
theorem pf_12_58 : PFk 12 58 .int := fun C T n h => by cases h; exact ⟨rfl, by decide +kernel⟩
theorem pf_12_61 : PFk 12 61 .boolean := fun C T n h => by cases h; exact ⟨rfl, by decide +kernel⟩
theorem mo_X0_58 : MOk RX0 58 Lib.Math.max.name Lib.Math.max.code 2 := ⟨wd_1088, wd_615, wd_120, wd_616⟩
theorem mo_X11_290 : MOk RX11 290 Lib.Math.min.name Lib.Math.min.code 2 := ⟨wd_998, wd_618, wd_120, wd_619⟩
theorem mo_X11_350 : MOk RX11 350 Lib.Math.max.name Lib.Math.max.code 2 := ⟨wd_993, wd_615, wd_120, wd_616⟩
theorem mo_X1_28 : MOk RX1 28 Lib.Math.max.name Lib.Math.max.code 2 := ⟨wd_1011, wd_615, wd_120, wd_616⟩
theorem mo_X1_44 : MOk RX1 44 Lib.Math.min.name Lib.Math.min.code 2 := ⟨wd_1029, wd_618, wd_120, wd_619⟩
theorem mo_X2_98 : MOk RX2 98 Lib.Math.min.name Lib.Math.min.code 2 := ⟨wd_854, wd_618, wd_120, wd_619⟩
theorem mo_X3_38 : MOk RX3 38 Lib.Math.min.name Lib.Math.min.code 2 := ⟨wd_961, wd_618, wd_120, wd_619⟩
theorem mo_X3_51 : MOk RX3 51 Lib.Math.abs.name Lib.Math.abs.code 1 := ⟨wd_962, wd_963, wd_120, wd_964⟩
theorem mo_X4_49 : MOk RX4 49 Lib.Math.min.name Lib.Math.min.code 2 := ⟨wd_852, wd_618, wd_120, wd_619⟩
theorem mo_X4_54 : MOk RX4 54 Lib.Math.max.name Lib.Math.max.code 2 := ⟨wd_853, wd_615, wd_120, wd_616⟩
theorem mo_X6_73 : MOk RX6 73 Lib.Math.min.name Lib.Math.min.code 2 := ⟨wd_726, wd_618, wd_120, wd_619⟩
theorem ao_X10_46 : AOk RX10 46 := ⟨wd_705, wd_707, wd_706, wd_124⟩
theorem ao_X7_19 : AOk RX7 19 := ⟨wd_775, wd_707, wd_706, wd_124⟩
theorem no_V_within : NOk yX11_within cX11_within 3 (some .boolean) 3 := ⟨wd_488, wd_104, wd_489, by decide +kernel, by decide⟩
theorem so_X0_34 : SOk RX0 34 yX0_isLeft cX0_isLeft 2 (some .boolean) 2 := ⟨wd_1062, wd_1063, wd_114, wd_1064, by decide +kernel, by decide⟩
theorem so_X0_42 : SOk RX0 42 yX0_isBetter cX0_isBetter 3 (some .boolean) 3 := ⟨wd_1085, wd_1086, wd_114, wd_1087, by decide +kernel, by decide⟩
theorem so_X10_52 : SOk RX10 52 yX10_turn cX10_turn 4 none 3 := ⟨wd_736, wd_737, wd_105, wd_738, by decide +kernel, by decide⟩
theorem so_X11_115 : SOk RX11 115 yX11_isChair cX11_isChair 2 (some .boolean) 2 := ⟨wd_481, wd_482, wd_104, wd_483, by decide +kernel, by decide⟩
theorem so_X11_119 : SOk RX11 119 yX11_within cX11_within 3 (some .boolean) 3 := ⟨wd_487, wd_488, wd_104, wd_489, by decide +kernel, by decide⟩
theorem so_X11_131 : SOk RX11 131 yX11_isSide cX11_isSide 1 (some .boolean) 1 := ⟨wd_484, wd_485, wd_104, wd_486, by decide +kernel, by decide⟩
theorem so_X11_250 : SOk RX11 250 yJ6_bitCount_0f7a4 cJ6_bitCount_0f7a4 1 (some .int) 1 := ⟨wd_917, wd_827, wd_125, wd_828, by decide +kernel, by decide⟩
theorem so_X11_331 : SOk RX11 331 yX11_commonDivisor cX11_commonDivisor 6 (some .int) 2 := ⟨wd_1099, wd_1100, wd_104, wd_1101, by decide +kernel, by decide⟩
theorem so_X11_353 : SOk RX11 353 yJ7_fill_53178 cJ7_fill_53178 4 none 2 := ⟨wd_1097, wd_141, wd_106, wd_142, by decide +kernel, by decide⟩
theorem so_X12_122 : SOk RX12 122 yX12_in cX12_in 3 (some .boolean) 3 := ⟨wd_1336, wd_1337, wd_117, wd_1338, by decide +kernel, by decide⟩
theorem so_X12_126 : SOk RX12 126 yX12_isChair cX12_isChair 2 (some .boolean) 2 := ⟨wd_1333, wd_1334, wd_117, wd_1335, by decide +kernel, by decide⟩
theorem so_X12_141 : SOk RX12 141 yX12_has cX12_has 2 (some .boolean) 2 := ⟨wd_1539, wd_1540, wd_117, wd_1541, by decide +kernel, by decide⟩
theorem so_X12_202 : SOk RX12 202 yX12_factOf cX12_factOf 1 (some .int) 1 := ⟨wd_1400, wd_1401, wd_117, wd_1402, by decide +kernel, by decide⟩
theorem so_X12_208 : SOk RX12 208 yX12_sumSign cX12_sumSign 1 (some .int) 1 := ⟨wd_1403, wd_1404, wd_117, wd_1405, by decide +kernel, by decide⟩
theorem so_X12_251 : SOk RX12 251 yX12_reckon cX12_reckon 3 (some .int) 3 := ⟨wd_1562, wd_1563, wd_117, wd_1564, by decide +kernel, by decide⟩
theorem so_X12_258 : SOk RX12 258 yX12_bits cX12_bits 3 (some .int) 1 := ⟨wd_1532, wd_1533, wd_117, wd_1534, by decide +kernel, by decide⟩
theorem so_X12_270 : SOk RX12 270 yX12_min cX12_min 2 (some .int) 2 := ⟨wd_1469, wd_1470, wd_117, wd_1471, by decide +kernel, by decide⟩
theorem so_X12_291 : SOk RX12 291 yX12_copies cX12_copies 3 none 2 := ⟨wd_1446, wd_1447, wd_117, wd_1448, by decide +kernel, by decide⟩
theorem so_X12_338 : SOk RX12 338 yX12_max cX12_max 2 (some .int) 2 := ⟨wd_1565, wd_1566, wd_117, wd_1567, by decide +kernel, by decide⟩
theorem so_X12_384 : SOk RX12 384 yX12_size cX12_size 1 (some .int) 1 := ⟨wd_1650, wd_1651, wd_117, wd_1652, by decide +kernel, by decide⟩
theorem so_X12_436 : SOk RX12 436 yX12_gcd cX12_gcd 5 (some .int) 2 := ⟨wd_1733, wd_1734, wd_117, wd_1735, by decide +kernel, by decide⟩
theorem so_X2_115 : SOk RX2 115 yJ6_bitCount_0f7a4 cJ6_bitCount_0f7a4 1 (some .int) 1 := ⟨wd_826, wd_827, wd_125, wd_828, by decide +kernel, by decide⟩
theorem so_X2_35 : SOk RX2 35 yJ7_fill_53178 cJ7_fill_53178 4 none 2 := ⟨wd_784, wd_141, wd_106, wd_142, by decide +kernel, by decide⟩
theorem so_X3_32 : SOk RX3 32 yJ6_bitCount_0f7a4 cJ6_bitCount_0f7a4 1 (some .int) 1 := ⟨wd_960, wd_827, wd_125, wd_828, by decide +kernel, by decide⟩
theorem so_X3_43 : SOk RX3 43 yX3_mayPass cX3_mayPass 3 (some .boolean) 3 := ⟨wd_954, wd_955, wd_113, wd_956, by decide +kernel, by decide⟩
theorem so_X3_47 : SOk RX3 47 yX3_sits cX3_sits 2 (some .boolean) 2 := ⟨wd_957, wd_958, wd_113, wd_959, by decide +kernel, by decide⟩
theorem so_X9_34 : SOk RX9 34 yJ7_fill_53178 cJ7_fill_53178 4 none 2 := ⟨wd_789, wd_141, wd_106, wd_142, by decide +kernel, by decide⟩
theorem vo_X0_28 : VOk RX0 28 yX8_byteAt cX8_byteAt 2 (some .int) 1 := ⟨wd_1054, wd_1055, wd_1056, wd_108, wd_1057, by decide +kernel, by decide⟩
theorem vo_X0_38 : VOk RX0 38 yX0_lay cX0_lay 11 (some .int) 5 := ⟨wd_1065, wd_1067, wd_32, wd_114, wd_1068, by decide +kernel, by decide⟩
theorem vo_X0_46 : VOk RX0 46 yX0_beats cX0_beats 3 (some .boolean) 2 := ⟨wd_1069, wd_1071, wd_33, wd_114, wd_1072, by decide +kernel, by decide⟩
theorem vo_X0_49 : VOk RX0 49 yX0_playBest cX0_playBest 10 (some .int) 5 := ⟨wd_1077, wd_1079, wd_35, wd_114, wd_1080, by decide +kernel, by decide⟩
theorem vo_X0_52 : VOk RX0 52 yX0_suit cX0_suit 2 (some .int) 1 := ⟨wd_1073, wd_1075, wd_34, wd_114, wd_1076, by decide +kernel, by decide⟩
theorem vo_X0_55 : VOk RX0 55 yX0_hasSuit cX0_hasSuit 5 (some .boolean) 3 := ⟨wd_1081, wd_1083, wd_36, wd_114, wd_1084, by decide +kernel, by decide⟩
theorem vo_X10_56 : VOk RX10 56 yX10_bits cX10_bits 5 (some .int) 2 := ⟨wd_1135, wd_823, wd_824, wd_105, wd_825, by decide +kernel, by decide⟩
theorem vo_X11_123 : VOk RX11 123 yX10_seat cX10_seat 5 none 4 := ⟨wd_490, wd_491, wd_492, wd_105, wd_493, by decide +kernel, by decide⟩
theorem vo_X11_141 : VOk RX11 141 yX8_hasRoom cX8_hasRoom 2 (some .boolean) 1 := ⟨wd_506, wd_507, wd_508, wd_108, wd_509, by decide +kernel, by decide⟩
theorem vo_X11_144 : VOk RX11 144 yX8_add cX8_add 3 none 1 := ⟨wd_510, wd_511, wd_512, wd_108, wd_513, by decide +kernel, by decide⟩
theorem vo_X11_151 : VOk RX11 151 yX8_has cX8_has 2 (some .boolean) 1 := ⟨wd_518, wd_519, wd_520, wd_108, wd_521, by decide +kernel, by decide⟩
theorem vo_X11_154 : VOk RX11 154 yX5_readInto cX5_readInto 5 (some .boolean) 2 := ⟨wd_522, wd_523, wd_524, wd_116, wd_525, by decide +kernel, by decide⟩
theorem vo_X11_158 : VOk RX11 158 yX8_clear cX8_clear 1 none 0 := ⟨wd_692, wd_693, wd_694, wd_108, wd_695, by decide +kernel, by decide⟩
theorem vo_X11_165 : VOk RX11 165 yX10_copy cX10_copy 2 none 1 := ⟨wd_701, wd_702, wd_703, wd_105, wd_704, by decide +kernel, by decide⟩
theorem vo_X11_169 : VOk RX11 169 yX6_readOnto cX6_readOnto 4 (some .boolean) 2 := ⟨wd_708, wd_709, wd_710, wd_109, wd_711, by decide +kernel, by decide⟩
theorem vo_X11_176 : VOk RX11 176 yX7_readFrom cX7_readFrom 3 (some .boolean) 2 := ⟨wd_744, wd_745, wd_746, wd_111, wd_747, by decide +kernel, by decide⟩
theorem vo_X11_180 : VOk RX11 180 yX11_signalsOf cX11_signalsOf 2 (some (.object "VerandaWar$Signals")) 1 := ⟨wd_767, wd_769, wd_15, wd_104, wd_770, by decide +kernel, by decide⟩
theorem vo_X11_184 : VOk RX11 184 yX7_copy cX7_copy 2 none 1 := ⟨wd_771, wd_772, wd_773, wd_111, wd_774, by decide +kernel, by decide⟩
theorem vo_X11_188 : VOk RX11 188 yX2_run cX2_run 5 none 3 := ⟨wd_780, wd_781, wd_782, wd_110, wd_783, by decide +kernel, by decide⟩
theorem vo_X11_195 : VOk RX11 195 yX11_tryWatches cX11_tryWatches 2 none 1 := ⟨wd_876, wd_878, wd_24, wd_104, wd_879, by decide +kernel, by decide⟩
theorem vo_X11_210 : VOk RX11 210 yX11_isGentleman cX11_isGentleman 3 (some .boolean) 2 := ⟨wd_884, wd_886, wd_25, wd_104, wd_887, by decide +kernel, by decide⟩
theorem vo_X11_222 : VOk RX11 222 yX9_lookAround cX9_lookAround 5 none 1 := ⟨wd_888, wd_786, wd_787, wd_107, wd_788, by decide +kernel, by decide⟩
theorem vo_X11_228 : VOk RX11 228 yX10_bits cX10_bits 5 (some .int) 2 := ⟨wd_889, wd_823, wd_824, wd_105, wd_825, by decide +kernel, by decide⟩
theorem vo_X11_232 : VOk RX11 232 yX9_eye cX9_eye 3 (some .int) 2 := ⟨wd_890, wd_795, wd_796, wd_107, wd_797, by decide +kernel, by decide⟩
theorem vo_X11_235 : VOk RX11 235 yX9_sighted cX9_sighted 4 (some .boolean) 3 := ⟨wd_895, wd_791, wd_792, wd_107, wd_793, by decide +kernel, by decide⟩
theorem vo_X11_239 : VOk RX11 239 yX9_isFree cX9_isFree 6 (some .boolean) 3 := ⟨wd_900, wd_799, wd_800, wd_107, wd_801, by decide +kernel, by decide⟩
theorem vo_X11_242 : VOk RX11 242 yX9_twos cX9_twos 7 (some .int) 2 := ⟨wd_905, wd_906, wd_907, wd_107, wd_908, by decide +kernel, by decide⟩
theorem vo_X11_246 : VOk RX11 246 yX9_seenBy cX9_seenBy 4 (some .int) 1 := ⟨wd_913, wd_914, wd_915, wd_107, wd_916, by decide +kernel, by decide⟩
theorem vo_X11_267 : VOk RX11 267 yX2_outlasts cX2_outlasts 6 (some .boolean) 4 := ⟨wd_938, wd_939, wd_940, wd_110, wd_941, by decide +kernel, by decide⟩
theorem vo_X11_271 : VOk RX11 271 yX3_carry cX3_carry 5 none 2 := ⟨wd_946, wd_947, wd_948, wd_113, wd_949, by decide +kernel, by decide⟩
theorem vo_X11_275 : VOk RX11 275 yX3_apart cX3_apart 1 (some .int) 0 := ⟨wd_969, wd_970, wd_971, wd_113, wd_972, by decide +kernel, by decide⟩
theorem vo_X11_279 : VOk RX11 279 yX3_twos cX3_twos 1 (some .int) 0 := ⟨wd_973, wd_974, wd_975, wd_113, wd_976, by decide +kernel, by decide⟩
theorem vo_X11_284 : VOk RX11 284 yX11_crests cX11_crests 4 (some .int) 0 := ⟨wd_985, wd_987, wd_28, wd_104, wd_988, by decide +kernel, by decide⟩
theorem vo_X11_287 : VOk RX11 287 yX11_longestRise cX11_longestRise 4 (some .int) 0 := ⟨wd_989, wd_991, wd_29, wd_104, wd_992, by decide +kernel, by decide⟩
theorem vo_X11_298 : VOk RX11 298 yX1_compare cX1_compare 5 none 2 := ⟨wd_1003, wd_1004, wd_1005, wd_112, wd_1006, by decide +kernel, by decide⟩
theorem vo_X11_302 : VOk RX11 302 yX1_length cX1_length 1 (some .int) 0 := ⟨wd_1012, wd_1013, wd_1014, wd_112, wd_1015, by decide +kernel, by decide⟩
theorem vo_X11_305 : VOk RX11 305 yX1_lampAt cX1_lampAt 8 (some .int) 3 := ⟨wd_1016, wd_1017, wd_1018, wd_112, wd_1019, by decide +kernel, by decide⟩
theorem vo_X11_309 : VOk RX11 309 yX7_repeatsAfter cX7_repeatsAfter 3 (some .boolean) 1 := ⟨wd_1034, wd_1035, wd_1036, wd_111, wd_1037, by decide +kernel, by decide⟩
theorem vo_X11_312 : VOk RX11 312 yX7_howOften cX7_howOften 4 (some .int) 1 := ⟨wd_1042, wd_1043, wd_1044, wd_111, wd_1045, by decide +kernel, by decide⟩
theorem vo_X11_315 : VOk RX11 315 yX0_deal cX0_deal 9 (some .boolean) 3 := ⟨wd_1050, wd_1051, wd_1052, wd_114, wd_1053, by decide +kernel, by decide⟩
theorem vo_X11_319 : VOk RX11 319 yX0_playFrom cX0_playFrom 5 none 1 := ⟨wd_1058, wd_1059, wd_1060, wd_114, wd_1061, by decide +kernel, by decide⟩
theorem vo_X11_328 : VOk RX11 328 yX11_reckonArrivals cX11_reckonArrivals 5 (some .boolean) 1 := ⟨wd_1093, wd_1095, wd_37, wd_104, wd_1096, by decide +kernel, by decide⟩
theorem vo_X11_334 : VOk RX11 334 yX8_byteAt cX8_byteAt 2 (some .int) 1 := ⟨wd_1098, wd_1055, wd_1056, wd_108, wd_1057, by decide +kernel, by decide⟩
theorem vo_X11_344 : VOk RX11 344 yX11_countOfSide cX11_countOfSide 3 (some .int) 2 := ⟨wd_1127, wd_1129, wd_38, wd_104, wd_1130, by decide +kernel, by decide⟩
theorem vo_X11_347 : VOk RX11 347 yX10_gentlemen cX10_gentlemen 2 (some .int) 1 := ⟨wd_1131, wd_1132, wd_1133, wd_105, wd_1134, by decide +kernel, by decide⟩
theorem vo_X12_130 : VOk RX12 130 yX12_eyeOf cX12_eyeOf 2 (some .int) 1 := ⟨wd_1546, wd_1548, wd_79, wd_117, wd_1549, by decide +kernel, by decide⟩
theorem vo_X12_134 : VOk RX12 134 yX12_seesOver cX12_seesOver 5 (some .boolean) 3 := ⟨wd_1550, wd_1552, wd_80, wd_117, wd_1553, by decide +kernel, by decide⟩
theorem vo_X12_137 : VOk RX12 137 yX12_setOf cX12_setOf 6 (some .int) 2 := ⟨wd_1516, wd_1518, wd_73, wd_117, wd_1519, by decide +kernel, by decide⟩
theorem vo_X12_144 : VOk RX12 144 yX12_seesOne cX12_seesOne 3 (some .boolean) 2 := ⟨wd_1542, wd_1544, wd_78, wd_117, wd_1545, by decide +kernel, by decide⟩
theorem vo_X12_151 : VOk RX12 151 yX12_types cX12_types 3 none 1 := ⟨wd_1351, wd_1353, wd_39, wd_117, wd_1354, by decide +kernel, by decide⟩
theorem vo_X12_161 : VOk RX12 161 yX12_here cX12_here 1 (some .int) 0 := ⟨wd_1367, wd_1369, wd_42, wd_117, wd_1370, by decide +kernel, by decide⟩
theorem vo_X12_168 : VOk RX12 168 yX12_wrongAt cX12_wrongAt 3 (some .boolean) 2 := ⟨wd_1371, wd_1373, wd_43, wd_117, wd_1374, by decide +kernel, by decide⟩
theorem vo_X12_174 : VOk RX12 174 yX12_isDigit cX12_isDigit 1 (some .boolean) 0 := ⟨wd_1388, wd_1390, wd_47, wd_117, wd_1391, by decide +kernel, by decide⟩
theorem vo_X12_188 : VOk RX12 188 yX12_waitTop cX12_waitTop 1 (some .int) 0 := ⟨wd_1410, wd_1412, wd_51, wd_117, wd_1413, by decide +kernel, by decide⟩
theorem vo_X12_191 : VOk RX12 191 yX12_notes cX12_notes 3 none 2 := ⟨wd_1396, wd_1398, wd_49, wd_117, wd_1399, by decide +kernel, by decide⟩
theorem vo_X12_195 : VOk RX12 195 yX12_opens cX12_opens 2 (some .boolean) 1 := ⟨wd_1383, wd_1385, wd_46, wd_117, wd_1386, by decide +kernel, by decide⟩
theorem vo_X12_199 : VOk RX12 199 yX12_readsNumber cX12_readsNumber 2 (some .boolean) 0 := ⟨wd_1392, wd_1394, wd_48, wd_117, wd_1395, by decide +kernel, by decide⟩
theorem vo_X12_205 : VOk RX12 205 yX12_readsFactor cX12_readsFactor 2 (some .boolean) 0 := ⟨wd_1379, wd_1381, wd_45, wd_117, wd_1382, by decide +kernel, by decide⟩
theorem vo_X12_211 : VOk RX12 211 yX12_closesSums cX12_closesSums 2 none 1 := ⟨wd_1406, wd_1408, wd_50, wd_117, wd_1409, by decide +kernel, by decide⟩
theorem vo_X12_215 : VOk RX12 215 yX12_hasOpenSum cX12_hasOpenSum 3 (some .boolean) 1 := ⟨wd_1414, wd_1416, wd_52, wd_117, wd_1417, by decide +kernel, by decide⟩
theorem vo_X12_218 : VOk RX12 218 yX12_readsSum cX12_readsSum 3 (some .boolean) 0 := ⟨wd_1375, wd_1377, wd_44, wd_117, wd_1378, by decide +kernel, by decide⟩
theorem vo_X12_221 : VOk RX12 221 yX12_endsPiece cX12_endsPiece 1 none 0 := ⟨wd_1426, wd_1428, wd_55, wd_117, wd_1429, by decide +kernel, by decide⟩
theorem vo_X12_224 : VOk RX12 224 yX12_readsCompared cX12_readsCompared 2 (some .boolean) 0 := ⟨wd_1422, wd_1424, wd_54, wd_117, wd_1425, by decide +kernel, by decide⟩
theorem vo_X12_227 : VOk RX12 227 yX12_lands cX12_lands 3 none 1 := ⟨wd_1430, wd_1432, wd_56, wd_117, wd_1433, by decide +kernel, by decide⟩
theorem vo_X12_230 : VOk RX12 230 yX12_jumps cX12_jumps 2 none 1 := ⟨wd_1434, wd_1436, wd_57, wd_117, wd_1437, by decide +kernel, by decide⟩
theorem vo_X12_236 : VOk RX12 236 yX12_readsCondition cX12_readsCondition 1 (some .boolean) 0 := ⟨wd_1418, wd_1420, wd_53, wd_117, wd_1421, by decide +kernel, by decide⟩
theorem vo_X12_239 : VOk RX12 239 yX12_beginsText cX12_beginsText 2 none 1 := ⟨wd_1359, wd_1361, wd_40, wd_117, wd_1362, by decide +kernel, by decide⟩
theorem vo_X12_242 : VOk RX12 242 yX12_readsRule cX12_readsRule 2 (some .boolean) 0 := ⟨wd_1363, wd_1365, wd_41, wd_117, wd_1366, by decide +kernel, by decide⟩
theorem vo_X12_245 : VOk RX12 245 yX12_takes cX12_takes 2 (some .boolean) 1 := ⟨wd_1438, wd_1440, wd_58, wd_117, wd_1441, by decide +kernel, by decide⟩
theorem vo_X12_255 : VOk RX12 255 yX12_comesTo cX12_comesTo 8 (some .int) 2 := ⟨wd_1558, wd_1560, wd_82, wd_117, wd_1561, by decide +kernel, by decide⟩
theorem vo_X12_261 : VOk RX12 261 yX12_seenBy cX12_seenBy 7 (some .int) 1 := ⟨wd_1535, wd_1537, wd_77, wd_117, wd_1538, by decide +kernel, by decide⟩
theorem vo_X12_264 : VOk RX12 264 yX12_swaps cX12_swaps 4 none 2 := ⟨wd_1476, wd_1478, wd_65, wd_117, wd_1479, by decide +kernel, by decide⟩
theorem vo_X12_267 : VOk RX12 267 yX12_readsAmount cX12_readsAmount 2 (some .boolean) 0 := ⟨wd_1465, wd_1467, wd_63, wd_117, wd_1468, by decide +kernel, by decide⟩
theorem vo_X12_273 : VOk RX12 273 yX12_readsPlace cX12_readsPlace 1 (some .boolean) 0 := ⟨wd_1453, wd_1455, wd_60, wd_117, wd_1456, by decide +kernel, by decide⟩
theorem vo_X12_276 : VOk RX12 276 yX12_changes cX12_changes 3 none 2 := ⟨wd_1472, wd_1474, wd_64, wd_117, wd_1475, by decide +kernel, by decide⟩
theorem vo_X12_279 : VOk RX12 279 yX12_comesOut cX12_comesOut 2 none 1 := ⟨wd_1480, wd_1482, wd_66, wd_117, wd_1483, by decide +kernel, by decide⟩
theorem vo_X12_285 : VOk RX12 285 yX12_isThere cX12_isThere 3 (some .boolean) 2 := ⟨wd_1457, wd_1459, wd_61, wd_117, wd_1460, by decide +kernel, by decide⟩
theorem vo_X12_288 : VOk RX12 288 yX12_readsDeed cX12_readsDeed 4 (some .boolean) 1 := ⟨wd_1461, wd_1463, wd_62, wd_117, wd_1464, by decide +kernel, by decide⟩
theorem vo_X12_295 : VOk RX12 295 yX12_readsLine cX12_readsLine 2 (some .boolean) 0 := ⟨wd_1449, wd_1451, wd_59, wd_117, wd_1452, by decide +kernel, by decide⟩
theorem vo_X12_307 : VOk RX12 307 yX12_readsTimes cX12_readsTimes 1 none 0 := ⟨wd_1492, wd_1494, wd_68, wd_117, wd_1495, by decide +kernel, by decide⟩
theorem vo_X12_313 : VOk RX12 313 yX12_repeats cX12_repeats 6 (some .boolean) 3 := ⟨wd_1496, wd_1498, wd_69, wd_117, wd_1499, by decide +kernel, by decide⟩
theorem vo_X12_316 : VOk RX12 316 yX12_readsItem cX12_readsItem 4 (some .boolean) 0 := ⟨wd_1488, wd_1490, wd_67, wd_117, wd_1491, by decide +kernel, by decide⟩
theorem vo_X12_332 : VOk RX12 332 yX12_feels cX12_feels 3 none 1 := ⟨wd_1528, wd_1530, wd_76, wd_117, wd_1531, by decide +kernel, by decide⟩
theorem vo_X12_335 : VOk RX12 335 yX12_byLaw cX12_byLaw 5 (some .int) 2 := ⟨wd_1554, wd_1556, wd_81, wd_117, wd_1557, by decide +kernel, by decide⟩
theorem vo_X12_344 : VOk RX12 344 yX12_holdsAny cX12_holdsAny 3 (some .boolean) 1 := ⟨wd_1568, wd_1570, wd_83, wd_117, wd_1571, by decide +kernel, by decide⟩
theorem vo_X12_347 : VOk RX12 347 yX12_goesIn cX12_goesIn 2 none 1 := ⟨wd_1572, wd_1574, wd_84, wd_117, wd_1575, by decide +kernel, by decide⟩
theorem vo_X12_350 : VOk RX12 350 yX12_draws cX12_draws 1 none 0 := ⟨wd_1576, wd_1578, wd_85, wd_117, wd_1579, by decide +kernel, by decide⟩
theorem vo_X12_356 : VOk RX12 356 yX12_outside cX12_outside 2 (some .int) 1 := ⟨wd_1512, wd_1514, wd_72, wd_117, wd_1515, by decide +kernel, by decide⟩
theorem vo_X12_359 : VOk RX12 359 yX12_sitsIn cX12_sitsIn 2 (some .boolean) 1 := ⟨wd_1520, wd_1522, wd_74, wd_117, wd_1523, by decide +kernel, by decide⟩
theorem vo_X12_362 : VOk RX12 362 yX12_turnOf cX12_turnOf 6 none 1 := ⟨wd_1524, wd_1526, wd_75, wd_117, wd_1527, by decide +kernel, by decide⟩
theorem vo_X12_365 : VOk RX12 365 yX12_watchGoes cX12_watchGoes 4 none 0 := ⟨wd_1508, wd_1510, wd_71, wd_117, wd_1511, by decide +kernel, by decide⟩
theorem vo_X12_368 : VOk RX12 368 yX12_watchesGo cX12_watchesGo 3 none 1 := ⟨wd_1504, wd_1506, wd_70, wd_117, wd_1507, by decide +kernel, by decide⟩
theorem vo_X12_371 : VOk RX12 371 yX12_triesWatches cX12_triesWatches 2 none 1 := ⟨wd_1585, wd_1587, wd_86, wd_117, wd_1588, by decide +kernel, by decide⟩
theorem vo_X12_374 : VOk RX12 374 yX12_twosWithout cX12_twosWithout 5 (some .int) 1 := ⟨wd_1605, wd_1607, wd_87, wd_117, wd_1608, by decide +kernel, by decide⟩
theorem vo_X12_377 : VOk RX12 377 yX12_twosOver cX12_twosOver 4 (some .int) 1 := ⟨wd_1609, wd_1611, wd_88, wd_117, wd_1612, by decide +kernel, by decide⟩
theorem vo_X12_381 : VOk RX12 381 yX12_lastsWith cX12_lastsWith 8 (some .boolean) 3 := ⟨wd_1638, wd_1640, wd_89, wd_117, wd_1641, by decide +kernel, by decide⟩
theorem vo_X12_387 : VOk RX12 387 yX12_laysGlasses cX12_laysGlasses 7 none 2 := ⟨wd_1646, wd_1648, wd_90, wd_117, wd_1649, by decide +kernel, by decide⟩
theorem vo_X12_390 : VOk RX12 390 yX12_laysCommon cX12_laysCommon 4 none 0 := ⟨wd_1669, wd_1671, wd_91, wd_117, wd_1672, by decide +kernel, by decide⟩
theorem vo_X12_393 : VOk RX12 393 yX12_nextOf cX12_nextOf 5 (some .int) 3 := ⟨wd_1673, wd_1675, wd_92, wd_117, wd_1676, by decide +kernel, by decide⟩
theorem vo_X12_396 : VOk RX12 396 yX12_isBeat cX12_isBeat 4 (some .boolean) 2 := ⟨wd_1681, wd_1683, wd_93, wd_117, wd_1684, by decide +kernel, by decide⟩
theorem vo_X12_402 : VOk RX12 402 yX12_octet cX12_octet 2 (some .int) 1 := ⟨wd_1693, wd_1695, wd_94, wd_117, wd_1696, by decide +kernel, by decide⟩
theorem vo_X12_408 : VOk RX12 408 yX12_isAway cX12_isAway 3 (some .boolean) 2 := ⟨wd_1709, wd_1711, wd_98, wd_117, wd_1712, by decide +kernel, by decide⟩
theorem vo_X12_411 : VOk RX12 411 yX12_cardOf cX12_cardOf 3 (some .int) 2 := ⟨wd_1713, wd_1715, wd_99, wd_117, wd_1716, by decide +kernel, by decide⟩
theorem vo_X12_417 : VOk RX12 417 yX12_isHigher cX12_isHigher 3 (some .boolean) 2 := ⟨wd_1725, wd_1727, wd_102, wd_117, wd_1728, by decide +kernel, by decide⟩
theorem vo_X12_420 : VOk RX12 420 yX12_begins cX12_begins 4 none 3 := ⟨wd_1701, wd_1703, wd_96, wd_117, wd_1704, by decide +kernel, by decide⟩
theorem vo_X12_424 : VOk RX12 424 yX12_mayPlay cX12_mayPlay 6 (some .boolean) 3 := ⟨wd_1705, wd_1707, wd_97, wd_117, wd_1708, by decide +kernel, by decide⟩
theorem vo_X12_427 : VOk RX12 427 yX12_mayBeBest cX12_mayBeBest 6 none 3 := ⟨wd_1717, wd_1719, wd_100, wd_117, wd_1720, by decide +kernel, by decide⟩
theorem vo_X12_430 : VOk RX12 430 yX12_takerOf cX12_takerOf 5 (some .int) 1 := ⟨wd_1721, wd_1723, wd_101, wd_117, wd_1724, by decide +kernel, by decide⟩
theorem vo_X12_433 : VOk RX12 433 yX12_playsOut cX12_playsOut 9 none 1 := ⟨wd_1697, wd_1699, wd_95, wd_117, wd_1700, by decide +kernel, by decide⟩
theorem vo_X1_21 : VOk RX1 21 yX1_reckon cX1_reckon 5 (some .int) 4 := ⟨wd_1007, wd_1009, wd_30, wd_112, wd_1010, by decide +kernel, by decide⟩
theorem vo_X1_34 : VOk RX1 34 yX1_length cX1_length 1 (some .int) 0 := ⟨wd_1020, wd_1013, wd_1014, wd_112, wd_1015, by decide +kernel, by decide⟩
theorem vo_X1_38 : VOk RX1 38 yX1_leastSign cX1_leastSign 8 (some .int) 4 := ⟨wd_1021, wd_1023, wd_31, wd_112, wd_1024, by decide +kernel, by decide⟩
theorem vo_X1_41 : VOk RX1 41 yX7_next cX7_next 4 (some .int) 2 := ⟨wd_1025, wd_1026, wd_1027, wd_111, wd_1028, by decide +kernel, by decide⟩
theorem vo_X2_103 : VOk RX2 103 yX10_bits cX10_bits 5 (some .int) 2 := ⟨wd_822, wd_823, wd_824, wd_105, wd_825, by decide +kernel, by decide⟩
theorem vo_X2_41 : VOk RX2 41 yX9_lookAround cX9_lookAround 5 none 1 := ⟨wd_785, wd_786, wd_787, wd_107, wd_788, by decide +kernel, by decide⟩
theorem vo_X2_47 : VOk RX2 47 yX10_goesOn cX10_goesOn 1 (some .boolean) 0 := ⟨wd_802, wd_803, wd_804, wd_105, wd_805, by decide +kernel, by decide⟩
theorem vo_X2_53 : VOk RX2 53 yX2_passWatch cX2_passWatch 6 none 3 := ⟨wd_806, wd_808, wd_16, wd_110, wd_809, by decide +kernel, by decide⟩
theorem vo_X2_57 : VOk RX2 57 yX10_sidesOut cX10_sidesOut 3 (some .int) 0 := ⟨wd_810, wd_811, wd_812, wd_105, wd_813, by decide +kernel, by decide⟩
theorem vo_X2_64 : VOk RX2 64 yX2_drinkAndYawn cX2_drinkAndYawn 6 none 3 := ⟨wd_814, wd_816, wd_17, wd_110, wd_817, by decide +kernel, by decide⟩
theorem vo_X2_67 : VOk RX2 67 yX2_stayOrGo cX2_stayOrGo 5 none 4 := ⟨wd_855, wd_857, wd_23, wd_110, wd_858, by decide +kernel, by decide⟩
theorem vo_X2_74 : VOk RX2 74 yX10_nextWatch cX10_nextWatch 1 none 0 := ⟨wd_868, wd_869, wd_870, wd_105, wd_871, by decide +kernel, by decide⟩
theorem vo_X2_77 : VOk RX2 77 yX2_look cX2_look 7 none 3 := ⟨wd_818, wd_820, wd_18, wd_110, wd_821, by decide +kernel, by decide⟩
theorem vo_X2_86 : VOk RX2 86 yX4_sendsIn cX4_sendsIn 2 (some .boolean) 0 := ⟨wd_859, wd_860, wd_861, wd_115, wd_862, by decide +kernel, by decide⟩
theorem vo_X2_91 : VOk RX2 91 yX10_draw cX10_draw 1 (some .int) 0 := ⟨wd_863, wd_864, wd_865, wd_105, wd_866, by decide +kernel, by decide⟩
theorem vo_X2_94 : VOk RX2 94 yX4_amount cX4_amount 5 (some .int) 2 := ⟨wd_832, wd_833, wd_834, wd_115, wd_835, by decide +kernel, by decide⟩
theorem vo_X3_25 : VOk RX3 25 yX3_leastWay cX3_leastWay 4 (some .int) 2 := ⟨wd_950, wd_952, wd_26, wd_113, wd_953, by decide +kernel, by decide⟩
theorem vo_X3_29 : VOk RX3 29 yX3_leastPartner cX3_leastPartner 4 (some .int) 2 := ⟨wd_965, wd_967, wd_27, wd_113, wd_968, by decide +kernel, by decide⟩
theorem vo_X4_45 : VOk RX4 45 yX4_reckon cX4_reckon 8 (some .int) 2 := ⟨wd_836, wd_838, wd_19, wd_115, wd_839, by decide +kernel, by decide⟩
theorem vo_X4_57 : VOk RX4 57 yX4_valueOf cX4_valueOf 2 (some .int) 1 := ⟨wd_840, wd_842, wd_20, wd_115, wd_843, by decide +kernel, by decide⟩
theorem vo_X4_61 : VOk RX4 61 yX4_push cX4_push 3 (some .int) 2 := ⟨wd_844, wd_846, wd_21, wd_115, wd_847, by decide +kernel, by decide⟩
theorem vo_X4_64 : VOk RX4 64 yX4_combine cX4_combine 4 (some .int) 3 := ⟨wd_848, wd_850, wd_22, wd_115, wd_851, by decide +kernel, by decide⟩
theorem vo_X5_101 : VOk RX5 101 yX8_number cX8_number 4 (some .int) 1 := ⟨wd_575, wd_576, wd_577, wd_108, wd_578, by decide +kernel, by decide⟩
theorem vo_X5_19 : VOk RX5 19 yX4_begin cX4_begin 1 none 0 := ⟨wd_526, wd_527, wd_528, wd_115, wd_529, by decide +kernel, by decide⟩
theorem vo_X5_24 : VOk RX5 24 yX8_begin cX8_begin 2 none 1 := ⟨wd_530, wd_531, wd_532, wd_108, wd_533, by decide +kernel, by decide⟩
theorem vo_X5_29 : VOk RX5 29 yX8_here cX8_here 1 (some .int) 0 := ⟨wd_534, wd_535, wd_536, wd_108, wd_537, by decide +kernel, by decide⟩
theorem vo_X5_33 : VOk RX5 33 yX8_refuse cX8_refuse 2 (some .boolean) 1 := ⟨wd_538, wd_539, wd_540, wd_108, wd_541, by decide +kernel, by decide⟩
theorem vo_X5_37 : VOk RX5 37 yX5_readRule cX5_readRule 3 (some .boolean) 2 := ⟨wd_546, wd_548, wd_0, wd_116, wd_549, by decide +kernel, by decide⟩
theorem vo_X5_41 : VOk RX5 41 yX8_takes cX8_takes 2 (some .boolean) 1 := ⟨wd_566, wd_567, wd_568, wd_108, wd_569, by decide +kernel, by decide⟩
theorem vo_X5_58 : VOk RX5 58 yX5_readAmount cX5_readAmount 4 (some .boolean) 1 := ⟨wd_550, wd_552, wd_1, wd_116, wd_553, by decide +kernel, by decide⟩
theorem vo_X5_64 : VOk RX5 64 yX5_readChoice cX5_readChoice 4 (some .boolean) 1 := ⟨wd_672, wd_674, wd_5, wd_116, wd_675, by decide +kernel, by decide⟩
theorem vo_X5_67 : VOk RX5 67 yX5_readClosing cX5_readClosing 2 (some .boolean) 1 := ⟨wd_562, wd_564, wd_4, wd_116, wd_565, by decide +kernel, by decide⟩
theorem vo_X5_76 : VOk RX5 76 yX5_readPart cX5_readPart 4 (some .boolean) 1 := ⟨wd_676, wd_678, wd_6, wd_116, wd_679, by decide +kernel, by decide⟩
theorem vo_X5_79 : VOk RX5 79 yX4_add cX4_add 3 (some .int) 2 := ⟨wd_581, wd_582, wd_583, wd_115, wd_584, by decide +kernel, by decide⟩
theorem vo_X5_83 : VOk RX5 83 yX4_jumpHere cX4_jumpHere 2 none 1 := ⟨wd_688, wd_689, wd_690, wd_115, wd_691, by decide +kernel, by decide⟩
theorem vo_X5_86 : VOk RX5 86 yX5_readTest cX5_readTest 3 (some .boolean) 1 := ⟨wd_680, wd_682, wd_7, wd_116, wd_683, by decide +kernel, by decide⟩
theorem vo_X5_89 : VOk RX5 89 yX5_readOpened cX5_readOpened 2 (some .boolean) 1 := ⟨wd_684, wd_686, wd_8, wd_116, wd_687, by decide +kernel, by decide⟩
theorem vo_X5_92 : VOk RX5 92 yX5_readTerm cX5_readTerm 4 (some .boolean) 1 := ⟨wd_554, wd_556, wd_2, wd_116, wd_557, by decide +kernel, by decide⟩
theorem vo_X5_95 : VOk RX5 95 yX5_readFactor cX5_readFactor 3 (some .boolean) 1 := ⟨wd_558, wd_560, wd_3, wd_116, wd_561, by decide +kernel, by decide⟩
theorem vo_X5_98 : VOk RX5 98 yX8_digit cX8_digit 2 (some .int) 0 := ⟨wd_571, wd_572, wd_573, wd_108, wd_574, by decide +kernel, by decide⟩
theorem vo_X6_19 : VOk RX6 19 yX8_begin cX8_begin 2 none 1 := ⟨wd_712, wd_531, wd_532, wd_108, wd_533, by decide +kernel, by decide⟩
theorem vo_X6_25 : VOk RX6 25 yX8_here cX8_here 1 (some .int) 0 := ⟨wd_713, wd_535, wd_536, wd_108, wd_537, by decide +kernel, by decide⟩
theorem vo_X6_29 : VOk RX6 29 yX8_refuse cX8_refuse 2 (some .boolean) 1 := ⟨wd_714, wd_539, wd_540, wd_108, wd_541, by decide +kernel, by decide⟩
theorem vo_X6_36 : VOk RX6 36 yX6_readLine cX6_readLine 6 (some .boolean) 2 := ⟨wd_715, wd_717, wd_9, wd_109, wd_718, by decide +kernel, by decide⟩
theorem vo_X6_40 : VOk RX6 40 yX8_takes cX8_takes 2 (some .boolean) 1 := ⟨wd_739, wd_567, wd_568, wd_108, wd_569, by decide +kernel, by decide⟩
theorem vo_X6_43 : VOk RX6 43 yX8_digit cX8_digit 2 (some .int) 0 := ⟨wd_719, wd_572, wd_573, wd_108, wd_574, by decide +kernel, by decide⟩
theorem vo_X6_56 : VOk RX6 56 yX6_readGift cX6_readGift 6 (some .boolean) 3 := ⟨wd_721, wd_723, wd_10, wd_109, wd_724, by decide +kernel, by decide⟩
theorem vo_X6_60 : VOk RX6 60 yX6_readChange cX6_readChange 5 (some .boolean) 2 := ⟨wd_728, wd_730, wd_11, wd_109, wd_731, by decide +kernel, by decide⟩
theorem vo_X6_66 : VOk RX6 66 yX8_number cX8_number 4 (some .int) 1 := ⟨wd_725, wd_576, wd_577, wd_108, wd_578, by decide +kernel, by decide⟩
theorem vo_X6_79 : VOk RX6 79 yX8_refuseAt cX8_refuseAt 3 (some .boolean) 2 := ⟨wd_727, wd_543, wd_544, wd_108, wd_545, by decide +kernel, by decide⟩
theorem vo_X6_86 : VOk RX6 86 yX10_change cX10_change 3 none 2 := ⟨wd_732, wd_733, wd_734, wd_105, wd_735, by decide +kernel, by decide⟩
theorem vo_X7_25 : VOk RX7 25 yX8_begin cX8_begin 2 none 1 := ⟨wd_748, wd_531, wd_532, wd_108, wd_533, by decide +kernel, by decide⟩
theorem vo_X7_31 : VOk RX7 31 yX7_readLamps cX7_readLamps 4 (some .boolean) 2 := ⟨wd_749, wd_751, wd_12, wd_111, wd_752, by decide +kernel, by decide⟩
theorem vo_X7_35 : VOk RX7 35 yX8_here cX8_here 1 (some .int) 0 := ⟨wd_758, wd_535, wd_536, wd_108, wd_537, by decide +kernel, by decide⟩
theorem vo_X7_39 : VOk RX7 39 yX8_refuse cX8_refuse 2 (some .boolean) 1 := ⟨wd_759, wd_539, wd_540, wd_108, wd_541, by decide +kernel, by decide⟩
theorem vo_X7_43 : VOk RX7 43 yX7_readItem cX7_readItem 7 (some .boolean) 2 := ⟨wd_753, wd_755, wd_13, wd_111, wd_756, by decide +kernel, by decide⟩
theorem vo_X7_49 : VOk RX7 49 yX8_digit cX8_digit 2 (some .int) 0 := ⟨wd_757, wd_572, wd_573, wd_108, wd_574, by decide +kernel, by decide⟩
theorem vo_X7_52 : VOk RX7 52 yX8_takes cX8_takes 2 (some .boolean) 1 := ⟨wd_760, wd_567, wd_568, wd_108, wd_569, by decide +kernel, by decide⟩
theorem vo_X7_55 : VOk RX7 55 yX7_repeat cX7_repeat 6 (some .boolean) 2 := ⟨wd_761, wd_763, wd_14, wd_111, wd_764, by decide +kernel, by decide⟩
theorem vo_X7_59 : VOk RX7 59 yX8_refuseAt cX8_refuseAt 3 (some .boolean) 2 := ⟨wd_765, wd_543, wd_544, wd_108, wd_545, by decide +kernel, by decide⟩
theorem vo_X8_28 : VOk RX8 28 yX8_here cX8_here 1 (some .int) 0 := ⟨wd_570, wd_535, wd_536, wd_108, wd_537, by decide +kernel, by decide⟩
theorem vo_X8_32 : VOk RX8 32 yX8_digit cX8_digit 2 (some .int) 0 := ⟨wd_579, wd_572, wd_573, wd_108, wd_574, by decide +kernel, by decide⟩
theorem vo_X8_35 : VOk RX8 35 yX8_refuse cX8_refuse 2 (some .boolean) 1 := ⟨wd_580, wd_539, wd_540, wd_108, wd_541, by decide +kernel, by decide⟩
theorem vo_X8_39 : VOk RX8 39 yX8_refuseAt cX8_refuseAt 3 (some .boolean) 2 := ⟨wd_542, wd_543, wd_544, wd_108, wd_545, by decide +kernel, by decide⟩
theorem vo_X9_26 : VOk RX9 26 yX9_eye cX9_eye 3 (some .int) 2 := ⟨wd_794, wd_795, wd_796, wd_107, wd_797, by decide +kernel, by decide⟩
theorem vo_X9_30 : VOk RX9 30 yX9_isFree cX9_isFree 6 (some .boolean) 3 := ⟨wd_798, wd_799, wd_800, wd_107, wd_801, by decide +kernel, by decide⟩
theorem vo_X9_43 : VOk RX9 43 yX9_sighted cX9_sighted 4 (some .boolean) 3 := ⟨wd_790, wd_791, wd_792, wd_107, wd_793, by decide +kernel, by decide⟩
theorem cb_m4 : (Int8.ofInt (-4)).toInt32 = (-4 : Int32) := by decide
theorem cb_m2 : (Int8.ofInt (-2)).toInt32 = (-2 : Int32) := by decide
theorem cb_6 : (Int8.ofInt (6)).toInt32 = (6 : Int32) := by decide
theorem cb_7 : (Int8.ofInt (7)).toInt32 = (7 : Int32) := by decide
theorem cb_8 : (Int8.ofInt (8)).toInt32 = (8 : Int32) := by decide
theorem cb_9 : (Int8.ofInt (9)).toInt32 = (9 : Int32) := by decide
theorem cb_10 : (Int8.ofInt (10)).toInt32 = (10 : Int32) := by decide
theorem cb_11 : (Int8.ofInt (11)).toInt32 = (11 : Int32) := by decide
theorem cb_12 : (Int8.ofInt (12)).toInt32 = (12 : Int32) := by decide
theorem cb_13 : (Int8.ofInt (13)).toInt32 = (13 : Int32) := by decide
theorem cb_14 : (Int8.ofInt (14)).toInt32 = (14 : Int32) := by decide
theorem cb_15 : (Int8.ofInt (15)).toInt32 = (15 : Int32) := by decide
theorem cb_16 : (Int8.ofInt (16)).toInt32 = (16 : Int32) := by decide
theorem cb_17 : (Int8.ofInt (17)).toInt32 = (17 : Int32) := by decide
theorem cb_20 : (Int8.ofInt (20)).toInt32 = (20 : Int32) := by decide
theorem cb_23 : (Int8.ofInt (23)).toInt32 = (23 : Int32) := by decide
theorem cb_24 : (Int8.ofInt (24)).toInt32 = (24 : Int32) := by decide
theorem cb_25 : (Int8.ofInt (25)).toInt32 = (25 : Int32) := by decide
theorem cb_27 : (Int8.ofInt (27)).toInt32 = (27 : Int32) := by decide
theorem cb_32 : (Int8.ofInt (32)).toInt32 = (32 : Int32) := by decide
theorem cb_33 : (Int8.ofInt (33)).toInt32 = (33 : Int32) := by decide
theorem cb_37 : (Int8.ofInt (37)).toInt32 = (37 : Int32) := by decide
theorem cb_38 : (Int8.ofInt (38)).toInt32 = (38 : Int32) := by decide
theorem cb_40 : (Int8.ofInt (40)).toInt32 = (40 : Int32) := by decide
theorem cb_41 : (Int8.ofInt (41)).toInt32 = (41 : Int32) := by decide
theorem cb_42 : (Int8.ofInt (42)).toInt32 = (42 : Int32) := by decide
theorem cb_43 : (Int8.ofInt (43)).toInt32 = (43 : Int32) := by decide
theorem cb_45 : (Int8.ofInt (45)).toInt32 = (45 : Int32) := by decide
theorem cb_46 : (Int8.ofInt (46)).toInt32 = (46 : Int32) := by decide
theorem cb_47 : (Int8.ofInt (47)).toInt32 = (47 : Int32) := by decide
theorem cb_48 : (Int8.ofInt (48)).toInt32 = (48 : Int32) := by decide
theorem cb_50 : (Int8.ofInt (50)).toInt32 = (50 : Int32) := by decide
theorem cb_51 : (Int8.ofInt (51)).toInt32 = (51 : Int32) := by decide
theorem cb_55 : (Int8.ofInt (55)).toInt32 = (55 : Int32) := by decide
theorem cb_57 : (Int8.ofInt (57)).toInt32 = (57 : Int32) := by decide
theorem cb_59 : (Int8.ofInt (59)).toInt32 = (59 : Int32) := by decide
theorem cb_60 : (Int8.ofInt (60)).toInt32 = (60 : Int32) := by decide
theorem cb_61 : (Int8.ofInt (61)).toInt32 = (61 : Int32) := by decide
theorem cb_62 : (Int8.ofInt (62)).toInt32 = (62 : Int32) := by decide
theorem cb_63 : (Int8.ofInt (63)).toInt32 = (63 : Int32) := by decide
theorem cb_64 : (Int8.ofInt (64)).toInt32 = (64 : Int32) := by decide
theorem cb_67 : (Int8.ofInt (67)).toInt32 = (67 : Int32) := by decide
theorem cb_71 : (Int8.ofInt (71)).toInt32 = (71 : Int32) := by decide
theorem cb_73 : (Int8.ofInt (73)).toInt32 = (73 : Int32) := by decide
theorem cb_76 : (Int8.ofInt (76)).toInt32 = (76 : Int32) := by decide
theorem cb_79 : (Int8.ofInt (79)).toInt32 = (79 : Int32) := by decide
theorem cb_80 : (Int8.ofInt (80)).toInt32 = (80 : Int32) := by decide
theorem cb_91 : (Int8.ofInt (91)).toInt32 = (91 : Int32) := by decide
theorem cb_93 : (Int8.ofInt (93)).toInt32 = (93 : Int32) := by decide
theorem cb_96 : (Int8.ofInt (96)).toInt32 = (96 : Int32) := by decide
theorem cb_97 : (Int8.ofInt (97)).toInt32 = (97 : Int32) := by decide
theorem cb_98 : (Int8.ofInt (98)).toInt32 = (98 : Int32) := by decide
theorem cb_99 : (Int8.ofInt (99)).toInt32 = (99 : Int32) := by decide
theorem cb_100 : (Int8.ofInt (100)).toInt32 = (100 : Int32) := by decide
theorem cb_101 : (Int8.ofInt (101)).toInt32 = (101 : Int32) := by decide
theorem cb_108 : (Int8.ofInt (108)).toInt32 = (108 : Int32) := by decide
theorem cb_110 : (Int8.ofInt (110)).toInt32 = (110 : Int32) := by decide
theorem cb_116 : (Int8.ofInt (116)).toInt32 = (116 : Int32) := by decide
theorem cb_119 : (Int8.ofInt (119)).toInt32 = (119 : Int32) := by decide
theorem cb_120 : (Int8.ofInt (120)).toInt32 = (120 : Int32) := by decide
theorem cb_123 : (Int8.ofInt (123)).toInt32 = (123 : Int32) := by decide
theorem cb_124 : (Int8.ofInt (124)).toInt32 = (124 : Int32) := by decide
theorem ci_m8 : Int32.ofInt (-8) = (-8 : Int32) := by decide
theorem ci_m1 : Int32.ofInt (-1) = (-1 : Int32) := by decide
theorem ci_0 : Int32.ofInt (0) = (0 : Int32) := by decide
theorem ci_1 : Int32.ofInt (1) = (1 : Int32) := by decide
theorem ci_2 : Int32.ofInt (2) = (2 : Int32) := by decide
theorem ci_3 : Int32.ofInt (3) = (3 : Int32) := by decide
theorem ci_4 : Int32.ofInt (4) = (4 : Int32) := by decide
theorem ci_5 : Int32.ofInt (5) = (5 : Int32) := by decide
theorem cs_m1000 : (Int16.ofInt (-1000)).toInt32 = (-1000 : Int32) := by decide
theorem cs_199 : (Int16.ofInt (199)).toInt32 = (199 : Int32) := by decide
theorem cs_240 : (Int16.ofInt (240)).toInt32 = (240 : Int32) := by decide
theorem cs_255 : (Int16.ofInt (255)).toInt32 = (255 : Int32) := by decide
theorem cs_256 : (Int16.ofInt (256)).toInt32 = (256 : Int32) := by decide
theorem cs_260 : (Int16.ofInt (260)).toInt32 = (260 : Int32) := by decide
theorem cs_1000 : (Int16.ofInt (1000)).toInt32 = (1000 : Int32) := by decide
theorem cs_2048 : (Int16.ofInt (2048)).toInt32 = (2048 : Int32) := by decide
theorem cs_9999 : (Int16.ofInt (9999)).toInt32 = (9999 : Int32) := by decide
theorem cs_13849 : (Int16.ofInt (13849)).toInt32 = (13849 : Int32) := by decide
theorem cs_25173 : (Int16.ofInt (25173)).toInt32 = (25173 : Int32) := by decide
theorem lsw_dflt {z : Int} (h : z ≠ 42 ∧ z ≠ 43 ∧ z ≠ 45 ∧ z ≠ 60 ∧ z ≠ 61 ∧ z ≠ 62) : Op.lookupswitch.offset [(42, 67), (43, 59), (45, 63), (60, 71), (61, 93), (62, 82)] 104 z = 104 := by
  obtain ⟨h1, h2, h3, h4, h5, h6⟩ := h
  simp [Op.lookupswitch.offset, List.find?, Ne.symm h1, Ne.symm h2, Ne.symm h3, Ne.symm h4, Ne.symm h5, Ne.symm h6, h1, h2, h3, h4, h5, h6]
/-- the place of a letter in "sckalunovhd" -/
def sidx (x : Int32) : Int32 := if x = 115 then 0 else if x = 99 then 1 else if x = 107 then 2 else if x = 97 then 3 else if x = 108 then 4 else if x = 117 then 5 else if x = 110 then 6 else if x = 111 then 7 else if x = 118 then 8 else if x = 104 then 9 else if x = 100 then 10 else -1
/-- the call of String.indexOf on the constant text, as a row (proved where the world is made) -/
def IXC (v : ZV) : Prop := ∀ (p : Program) (l : Launch) (e : Env) (R : Room) (s : State) (m : MethodId) (args : Array Value) (below : List Frame) (meth : Method) (c : Code) (Q : State → Prop) (cc : ByteArray) (nL d pc : Nat) (lv : List (Nat × Value)) (st : List Value) (σ : Hp) (x : Int32), Cx wC v p R s m args c 0 0 cc nL RX5 d → 12 ≤ d → (st.map fun x => x.category).sum ≤ 8 → decode cc pc = .ok (.invokevirtual 107, 3) → Go wC v p l e R s m args below meth c 0 0 Q nL (pc + 3) lv (.int (sidx x) :: st) σ → Go wC v p l e R s m args below meth c 0 0 Q nL pc lv (.int x :: .ref 61 :: st) σ
def NXC (v : ZV) : Prop := (∀ U, zX v U → va_Nw (.methodLinkNest RX6 46 yX11_within "VerandaWar") U) ∧ (∀ U, zX v U → va_Nw (.methodLinkNest RX7 62 yX11_within "VerandaWar") U) ∧ (∀ U, zX v U → vk_R RX5 105 "sckalunovhd" (v.1 61) U) ∧ IXC v
def NXM (_ : ZV) : Prop := True
theorem go_ldcS {w : ZS} {v : ZV} {p : Program} {l : Launch} {e : Env} {R : Room} {s : State} {m : MethodId} {args : Array Value} {below : List Frame} {meth : Method} {c : Code} {cells slots : Nat} {Q : State → Prop} {cc : ByteArray} {nL : Nat} {own : String} {d : Nat} {pc : Nat} {lv : List (Nat × Value)} {st : List Value} {σ : Hp} {ix q : Nat} {tx : String} (X : Cx w v p R s m args c cells slots cc nL own d) (hq : ∀ U, zX v U → vk_R own ix tx (v.1 q) U) (hd : decode cc pc = .ok (.ldc ix, 2)) (k : Go w v p l e R s m args below meth c cells slots Q nL (pc + 2) lv (.ref q :: st) σ) : Go w v p l e R s m args below meth c cells slots Q nL pc lv st σ := fun H locs ls hP hS hl => va_ldcS X.1 X.2.1 X.2.2.2.1 (hq s X.2.2.2.2.2.2.2.2.1) hd (k H locs ls hP hS hl)
