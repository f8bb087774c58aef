-- the law's machine: reckon against comesTo
theorem op_110 : opM 110 = nI 0 := by decide
theorem ne_110_108 : ¬ (110 : Int32) = 108 := by decide
theorem ne_110_33 : ¬ (110 : Int32) = 33 := by decide
theorem ne_110_38 : ¬ (110 : Int32) = 38 := by decide
theorem ne_110_124 : ¬ (110 : Int32) = 124 := by decide
theorem ne_110_42 : ¬ (110 : Int32) = 42 := by decide
theorem ne_110_43 : ¬ (110 : Int32) = 43 := by decide
theorem ne_110_45 : ¬ (110 : Int32) = 45 := by decide
theorem ne_110_60 : ¬ (110 : Int32) = 60 := by decide
theorem ne_110_61 : ¬ (110 : Int32) = 61 := by decide
theorem ne_110_62 : ¬ (110 : Int32) = 62 := by decide
theorem ne_110_47 : ¬ (110 : Int32) = 47 := by decide
theorem op_108 : opM 108 = nI 1 := by decide
theorem ne_108_110 : ¬ (108 : Int32) = 110 := by decide
theorem ne_108_33 : ¬ (108 : Int32) = 33 := by decide
theorem ne_108_38 : ¬ (108 : Int32) = 38 := by decide
theorem ne_108_124 : ¬ (108 : Int32) = 124 := by decide
theorem ne_108_42 : ¬ (108 : Int32) = 42 := by decide
theorem ne_108_43 : ¬ (108 : Int32) = 43 := by decide
theorem ne_108_45 : ¬ (108 : Int32) = 45 := by decide
theorem ne_108_60 : ¬ (108 : Int32) = 60 := by decide
theorem ne_108_61 : ¬ (108 : Int32) = 61 := by decide
theorem ne_108_62 : ¬ (108 : Int32) = 62 := by decide
theorem ne_108_47 : ¬ (108 : Int32) = 47 := by decide
theorem op_43 : opM 43 = nI 2 := by decide
theorem ne_43_110 : ¬ (43 : Int32) = 110 := by decide
theorem ne_43_108 : ¬ (43 : Int32) = 108 := by decide
theorem ne_43_33 : ¬ (43 : Int32) = 33 := by decide
theorem ne_43_38 : ¬ (43 : Int32) = 38 := by decide
theorem ne_43_124 : ¬ (43 : Int32) = 124 := by decide
theorem ne_43_42 : ¬ (43 : Int32) = 42 := by decide
theorem ne_43_45 : ¬ (43 : Int32) = 45 := by decide
theorem ne_43_60 : ¬ (43 : Int32) = 60 := by decide
theorem ne_43_61 : ¬ (43 : Int32) = 61 := by decide
theorem ne_43_62 : ¬ (43 : Int32) = 62 := by decide
theorem ne_43_47 : ¬ (43 : Int32) = 47 := by decide
theorem op_45 : opM 45 = nI 3 := by decide
theorem ne_45_110 : ¬ (45 : Int32) = 110 := by decide
theorem ne_45_108 : ¬ (45 : Int32) = 108 := by decide
theorem ne_45_33 : ¬ (45 : Int32) = 33 := by decide
theorem ne_45_38 : ¬ (45 : Int32) = 38 := by decide
theorem ne_45_124 : ¬ (45 : Int32) = 124 := by decide
theorem ne_45_42 : ¬ (45 : Int32) = 42 := by decide
theorem ne_45_43 : ¬ (45 : Int32) = 43 := by decide
theorem ne_45_60 : ¬ (45 : Int32) = 60 := by decide
theorem ne_45_61 : ¬ (45 : Int32) = 61 := by decide
theorem ne_45_62 : ¬ (45 : Int32) = 62 := by decide
theorem ne_45_47 : ¬ (45 : Int32) = 47 := by decide
theorem op_42 : opM 42 = nI 4 := by decide
theorem ne_42_110 : ¬ (42 : Int32) = 110 := by decide
theorem ne_42_108 : ¬ (42 : Int32) = 108 := by decide
theorem ne_42_33 : ¬ (42 : Int32) = 33 := by decide
theorem ne_42_38 : ¬ (42 : Int32) = 38 := by decide
theorem ne_42_124 : ¬ (42 : Int32) = 124 := by decide
theorem ne_42_43 : ¬ (42 : Int32) = 43 := by decide
theorem ne_42_45 : ¬ (42 : Int32) = 45 := by decide
theorem ne_42_60 : ¬ (42 : Int32) = 60 := by decide
theorem ne_42_61 : ¬ (42 : Int32) = 61 := by decide
theorem ne_42_62 : ¬ (42 : Int32) = 62 := by decide
theorem ne_42_47 : ¬ (42 : Int32) = 47 := by decide
theorem op_47 : opM 47 = nI 5 := by decide
theorem ne_47_110 : ¬ (47 : Int32) = 110 := by decide
theorem ne_47_108 : ¬ (47 : Int32) = 108 := by decide
theorem ne_47_33 : ¬ (47 : Int32) = 33 := by decide
theorem ne_47_38 : ¬ (47 : Int32) = 38 := by decide
theorem ne_47_124 : ¬ (47 : Int32) = 124 := by decide
theorem ne_47_42 : ¬ (47 : Int32) = 42 := by decide
theorem ne_47_43 : ¬ (47 : Int32) = 43 := by decide
theorem ne_47_45 : ¬ (47 : Int32) = 45 := by decide
theorem ne_47_60 : ¬ (47 : Int32) = 60 := by decide
theorem ne_47_61 : ¬ (47 : Int32) = 61 := by decide
theorem ne_47_62 : ¬ (47 : Int32) = 62 := by decide
theorem op_37 : opM 37 = nI 6 := by decide
theorem ne_37_110 : ¬ (37 : Int32) = 110 := by decide
theorem ne_37_108 : ¬ (37 : Int32) = 108 := by decide
theorem ne_37_33 : ¬ (37 : Int32) = 33 := by decide
theorem ne_37_38 : ¬ (37 : Int32) = 38 := by decide
theorem ne_37_124 : ¬ (37 : Int32) = 124 := by decide
theorem ne_37_42 : ¬ (37 : Int32) = 42 := by decide
theorem ne_37_43 : ¬ (37 : Int32) = 43 := by decide
theorem ne_37_45 : ¬ (37 : Int32) = 45 := by decide
theorem ne_37_60 : ¬ (37 : Int32) = 60 := by decide
theorem ne_37_61 : ¬ (37 : Int32) = 61 := by decide
theorem ne_37_62 : ¬ (37 : Int32) = 62 := by decide
theorem ne_37_47 : ¬ (37 : Int32) = 47 := by decide
theorem op_60 : opM 60 = nI 7 := by decide
theorem ne_60_110 : ¬ (60 : Int32) = 110 := by decide
theorem ne_60_108 : ¬ (60 : Int32) = 108 := by decide
theorem ne_60_33 : ¬ (60 : Int32) = 33 := by decide
theorem ne_60_38 : ¬ (60 : Int32) = 38 := by decide
theorem ne_60_124 : ¬ (60 : Int32) = 124 := by decide
theorem ne_60_42 : ¬ (60 : Int32) = 42 := by decide
theorem ne_60_43 : ¬ (60 : Int32) = 43 := by decide
theorem ne_60_45 : ¬ (60 : Int32) = 45 := by decide
theorem ne_60_61 : ¬ (60 : Int32) = 61 := by decide
theorem ne_60_62 : ¬ (60 : Int32) = 62 := by decide
theorem ne_60_47 : ¬ (60 : Int32) = 47 := by decide
theorem op_62 : opM 62 = nI 8 := by decide
theorem ne_62_110 : ¬ (62 : Int32) = 110 := by decide
theorem ne_62_108 : ¬ (62 : Int32) = 108 := by decide
theorem ne_62_33 : ¬ (62 : Int32) = 33 := by decide
theorem ne_62_38 : ¬ (62 : Int32) = 38 := by decide
theorem ne_62_124 : ¬ (62 : Int32) = 124 := by decide
theorem ne_62_42 : ¬ (62 : Int32) = 42 := by decide
theorem ne_62_43 : ¬ (62 : Int32) = 43 := by decide
theorem ne_62_45 : ¬ (62 : Int32) = 45 := by decide
theorem ne_62_60 : ¬ (62 : Int32) = 60 := by decide
theorem ne_62_61 : ¬ (62 : Int32) = 61 := by decide
theorem ne_62_47 : ¬ (62 : Int32) = 47 := by decide
theorem op_61 : opM 61 = nI 9 := by decide
theorem ne_61_110 : ¬ (61 : Int32) = 110 := by decide
theorem ne_61_108 : ¬ (61 : Int32) = 108 := by decide
theorem ne_61_33 : ¬ (61 : Int32) = 33 := by decide
theorem ne_61_38 : ¬ (61 : Int32) = 38 := by decide
theorem ne_61_124 : ¬ (61 : Int32) = 124 := by decide
theorem ne_61_42 : ¬ (61 : Int32) = 42 := by decide
theorem ne_61_43 : ¬ (61 : Int32) = 43 := by decide
theorem ne_61_45 : ¬ (61 : Int32) = 45 := by decide
theorem ne_61_60 : ¬ (61 : Int32) = 60 := by decide
theorem ne_61_62 : ¬ (61 : Int32) = 62 := by decide
theorem ne_61_47 : ¬ (61 : Int32) = 47 := by decide
theorem op_33 : opM 33 = nI 10 := by decide
theorem ne_33_110 : ¬ (33 : Int32) = 110 := by decide
theorem ne_33_108 : ¬ (33 : Int32) = 108 := by decide
theorem ne_33_38 : ¬ (33 : Int32) = 38 := by decide
theorem ne_33_124 : ¬ (33 : Int32) = 124 := by decide
theorem ne_33_42 : ¬ (33 : Int32) = 42 := by decide
theorem ne_33_43 : ¬ (33 : Int32) = 43 := by decide
theorem ne_33_45 : ¬ (33 : Int32) = 45 := by decide
theorem ne_33_60 : ¬ (33 : Int32) = 60 := by decide
theorem ne_33_61 : ¬ (33 : Int32) = 61 := by decide
theorem ne_33_62 : ¬ (33 : Int32) = 62 := by decide
theorem ne_33_47 : ¬ (33 : Int32) = 47 := by decide
theorem op_38 : opM 38 = nI 11 := by decide
theorem ne_38_110 : ¬ (38 : Int32) = 110 := by decide
theorem ne_38_108 : ¬ (38 : Int32) = 108 := by decide
theorem ne_38_33 : ¬ (38 : Int32) = 33 := by decide
theorem ne_38_124 : ¬ (38 : Int32) = 124 := by decide
theorem ne_38_42 : ¬ (38 : Int32) = 42 := by decide
theorem ne_38_43 : ¬ (38 : Int32) = 43 := by decide
theorem ne_38_45 : ¬ (38 : Int32) = 45 := by decide
theorem ne_38_60 : ¬ (38 : Int32) = 60 := by decide
theorem ne_38_61 : ¬ (38 : Int32) = 61 := by decide
theorem ne_38_62 : ¬ (38 : Int32) = 62 := by decide
theorem ne_38_47 : ¬ (38 : Int32) = 47 := by decide
theorem op_124 : opM 124 = nI 12 := by decide
theorem ne_124_110 : ¬ (124 : Int32) = 110 := by decide
theorem ne_124_108 : ¬ (124 : Int32) = 108 := by decide
theorem ne_124_33 : ¬ (124 : Int32) = 33 := by decide
theorem ne_124_38 : ¬ (124 : Int32) = 38 := by decide
theorem ne_124_42 : ¬ (124 : Int32) = 42 := by decide
theorem ne_124_43 : ¬ (124 : Int32) = 43 := by decide
theorem ne_124_45 : ¬ (124 : Int32) = 45 := by decide
theorem ne_124_60 : ¬ (124 : Int32) = 60 := by decide
theorem ne_124_61 : ¬ (124 : Int32) = 61 := by decide
theorem ne_124_62 : ¬ (124 : Int32) = 62 := by decide
theorem ne_124_47 : ¬ (124 : Int32) = 47 := by decide
theorem yo_0_0 : nI 0 = (0 : Int32) := rfl
theorem no_0_1 : ¬ nI 0 = (1 : Int32) := by decide
theorem no_0_10 : ¬ nI 0 = (10 : Int32) := by decide
theorem no_0_11 : ¬ nI 0 = (11 : Int32) := by decide
theorem no_0_12 : ¬ nI 0 = (12 : Int32) := by decide
theorem no_0_5 : ¬ nI 0 = (5 : Int32) := by decide
theorem no_0_6 : ¬ nI 0 = (6 : Int32) := by decide
theorem no_0_2 : ¬ nI 0 = (2 : Int32) := by decide
theorem no_0_3 : ¬ nI 0 = (3 : Int32) := by decide
theorem no_0_4 : ¬ nI 0 = (4 : Int32) := by decide
theorem no_0_7 : ¬ nI 0 = (7 : Int32) := by decide
theorem no_0_8 : ¬ nI 0 = (8 : Int32) := by decide
theorem no_1_0 : ¬ nI 1 = (0 : Int32) := by decide
theorem yo_1_1 : nI 1 = (1 : Int32) := rfl
theorem no_1_10 : ¬ nI 1 = (10 : Int32) := by decide
theorem no_1_11 : ¬ nI 1 = (11 : Int32) := by decide
theorem no_1_12 : ¬ nI 1 = (12 : Int32) := by decide
theorem no_1_5 : ¬ nI 1 = (5 : Int32) := by decide
theorem no_1_6 : ¬ nI 1 = (6 : Int32) := by decide
theorem no_1_2 : ¬ nI 1 = (2 : Int32) := by decide
theorem no_1_3 : ¬ nI 1 = (3 : Int32) := by decide
theorem no_1_4 : ¬ nI 1 = (4 : Int32) := by decide
theorem no_1_7 : ¬ nI 1 = (7 : Int32) := by decide
theorem no_1_8 : ¬ nI 1 = (8 : Int32) := by decide
theorem no_2_0 : ¬ nI 2 = (0 : Int32) := by decide
theorem no_2_1 : ¬ nI 2 = (1 : Int32) := by decide
theorem no_2_10 : ¬ nI 2 = (10 : Int32) := by decide
theorem no_2_11 : ¬ nI 2 = (11 : Int32) := by decide
theorem no_2_12 : ¬ nI 2 = (12 : Int32) := by decide
theorem no_2_5 : ¬ nI 2 = (5 : Int32) := by decide
theorem no_2_6 : ¬ nI 2 = (6 : Int32) := by decide
theorem yo_2_2 : nI 2 = (2 : Int32) := rfl
theorem no_2_3 : ¬ nI 2 = (3 : Int32) := by decide
theorem no_2_4 : ¬ nI 2 = (4 : Int32) := by decide
theorem no_2_7 : ¬ nI 2 = (7 : Int32) := by decide
theorem no_2_8 : ¬ nI 2 = (8 : Int32) := by decide
theorem no_3_0 : ¬ nI 3 = (0 : Int32) := by decide
theorem no_3_1 : ¬ nI 3 = (1 : Int32) := by decide
theorem no_3_10 : ¬ nI 3 = (10 : Int32) := by decide
theorem no_3_11 : ¬ nI 3 = (11 : Int32) := by decide
theorem no_3_12 : ¬ nI 3 = (12 : Int32) := by decide
theorem no_3_5 : ¬ nI 3 = (5 : Int32) := by decide
theorem no_3_6 : ¬ nI 3 = (6 : Int32) := by decide
theorem no_3_2 : ¬ nI 3 = (2 : Int32) := by decide
theorem yo_3_3 : nI 3 = (3 : Int32) := rfl
theorem no_3_4 : ¬ nI 3 = (4 : Int32) := by decide
theorem no_3_7 : ¬ nI 3 = (7 : Int32) := by decide
theorem no_3_8 : ¬ nI 3 = (8 : Int32) := by decide
theorem no_4_0 : ¬ nI 4 = (0 : Int32) := by decide
theorem no_4_1 : ¬ nI 4 = (1 : Int32) := by decide
theorem no_4_10 : ¬ nI 4 = (10 : Int32) := by decide
theorem no_4_11 : ¬ nI 4 = (11 : Int32) := by decide
theorem no_4_12 : ¬ nI 4 = (12 : Int32) := by decide
theorem no_4_5 : ¬ nI 4 = (5 : Int32) := by decide
theorem no_4_6 : ¬ nI 4 = (6 : Int32) := by decide
theorem no_4_2 : ¬ nI 4 = (2 : Int32) := by decide
theorem no_4_3 : ¬ nI 4 = (3 : Int32) := by decide
theorem yo_4_4 : nI 4 = (4 : Int32) := rfl
theorem no_4_7 : ¬ nI 4 = (7 : Int32) := by decide
theorem no_4_8 : ¬ nI 4 = (8 : Int32) := by decide
theorem no_5_0 : ¬ nI 5 = (0 : Int32) := by decide
theorem no_5_1 : ¬ nI 5 = (1 : Int32) := by decide
theorem no_5_10 : ¬ nI 5 = (10 : Int32) := by decide
theorem no_5_11 : ¬ nI 5 = (11 : Int32) := by decide
theorem no_5_12 : ¬ nI 5 = (12 : Int32) := by decide
theorem yo_5_5 : nI 5 = (5 : Int32) := rfl
theorem no_5_6 : ¬ nI 5 = (6 : Int32) := by decide
theorem no_5_2 : ¬ nI 5 = (2 : Int32) := by decide
theorem no_5_3 : ¬ nI 5 = (3 : Int32) := by decide
theorem no_5_4 : ¬ nI 5 = (4 : Int32) := by decide
theorem no_5_7 : ¬ nI 5 = (7 : Int32) := by decide
theorem no_5_8 : ¬ nI 5 = (8 : Int32) := by decide
theorem no_6_0 : ¬ nI 6 = (0 : Int32) := by decide
theorem no_6_1 : ¬ nI 6 = (1 : Int32) := by decide
theorem no_6_10 : ¬ nI 6 = (10 : Int32) := by decide
theorem no_6_11 : ¬ nI 6 = (11 : Int32) := by decide
theorem no_6_12 : ¬ nI 6 = (12 : Int32) := by decide
theorem no_6_5 : ¬ nI 6 = (5 : Int32) := by decide
theorem yo_6_6 : nI 6 = (6 : Int32) := rfl
theorem no_6_2 : ¬ nI 6 = (2 : Int32) := by decide
theorem no_6_3 : ¬ nI 6 = (3 : Int32) := by decide
theorem no_6_4 : ¬ nI 6 = (4 : Int32) := by decide
theorem no_6_7 : ¬ nI 6 = (7 : Int32) := by decide
theorem no_6_8 : ¬ nI 6 = (8 : Int32) := by decide
theorem no_7_0 : ¬ nI 7 = (0 : Int32) := by decide
theorem no_7_1 : ¬ nI 7 = (1 : Int32) := by decide
theorem no_7_10 : ¬ nI 7 = (10 : Int32) := by decide
theorem no_7_11 : ¬ nI 7 = (11 : Int32) := by decide
theorem no_7_12 : ¬ nI 7 = (12 : Int32) := by decide
theorem no_7_5 : ¬ nI 7 = (5 : Int32) := by decide
theorem no_7_6 : ¬ nI 7 = (6 : Int32) := by decide
theorem no_7_2 : ¬ nI 7 = (2 : Int32) := by decide
theorem no_7_3 : ¬ nI 7 = (3 : Int32) := by decide
theorem no_7_4 : ¬ nI 7 = (4 : Int32) := by decide
theorem yo_7_7 : nI 7 = (7 : Int32) := rfl
theorem no_7_8 : ¬ nI 7 = (8 : Int32) := by decide
theorem no_8_0 : ¬ nI 8 = (0 : Int32) := by decide
theorem no_8_1 : ¬ nI 8 = (1 : Int32) := by decide
theorem no_8_10 : ¬ nI 8 = (10 : Int32) := by decide
theorem no_8_11 : ¬ nI 8 = (11 : Int32) := by decide
theorem no_8_12 : ¬ nI 8 = (12 : Int32) := by decide
theorem no_8_5 : ¬ nI 8 = (5 : Int32) := by decide
theorem no_8_6 : ¬ nI 8 = (6 : Int32) := by decide
theorem no_8_2 : ¬ nI 8 = (2 : Int32) := by decide
theorem no_8_3 : ¬ nI 8 = (3 : Int32) := by decide
theorem no_8_4 : ¬ nI 8 = (4 : Int32) := by decide
theorem no_8_7 : ¬ nI 8 = (7 : Int32) := by decide
theorem yo_8_8 : nI 8 = (8 : Int32) := rfl
theorem no_9_0 : ¬ nI 9 = (0 : Int32) := by decide
theorem no_9_1 : ¬ nI 9 = (1 : Int32) := by decide
theorem no_9_10 : ¬ nI 9 = (10 : Int32) := by decide
theorem no_9_11 : ¬ nI 9 = (11 : Int32) := by decide
theorem no_9_12 : ¬ nI 9 = (12 : Int32) := by decide
theorem no_9_5 : ¬ nI 9 = (5 : Int32) := by decide
theorem no_9_6 : ¬ nI 9 = (6 : Int32) := by decide
theorem no_9_2 : ¬ nI 9 = (2 : Int32) := by decide
theorem no_9_3 : ¬ nI 9 = (3 : Int32) := by decide
theorem no_9_4 : ¬ nI 9 = (4 : Int32) := by decide
theorem no_9_7 : ¬ nI 9 = (7 : Int32) := by decide
theorem no_9_8 : ¬ nI 9 = (8 : Int32) := by decide
theorem no_10_0 : ¬ nI 10 = (0 : Int32) := by decide
theorem no_10_1 : ¬ nI 10 = (1 : Int32) := by decide
theorem yo_10_10 : nI 10 = (10 : Int32) := rfl
theorem no_10_11 : ¬ nI 10 = (11 : Int32) := by decide
theorem no_10_12 : ¬ nI 10 = (12 : Int32) := by decide
theorem no_10_5 : ¬ nI 10 = (5 : Int32) := by decide
theorem no_10_6 : ¬ nI 10 = (6 : Int32) := by decide
theorem no_10_2 : ¬ nI 10 = (2 : Int32) := by decide
theorem no_10_3 : ¬ nI 10 = (3 : Int32) := by decide
theorem no_10_4 : ¬ nI 10 = (4 : Int32) := by decide
theorem no_10_7 : ¬ nI 10 = (7 : Int32) := by decide
theorem no_10_8 : ¬ nI 10 = (8 : Int32) := by decide
theorem no_11_0 : ¬ nI 11 = (0 : Int32) := by decide
theorem no_11_1 : ¬ nI 11 = (1 : Int32) := by decide
theorem no_11_10 : ¬ nI 11 = (10 : Int32) := by decide
theorem yo_11_11 : nI 11 = (11 : Int32) := rfl
theorem no_11_12 : ¬ nI 11 = (12 : Int32) := by decide
theorem no_11_5 : ¬ nI 11 = (5 : Int32) := by decide
theorem no_11_6 : ¬ nI 11 = (6 : Int32) := by decide
theorem no_11_2 : ¬ nI 11 = (2 : Int32) := by decide
theorem no_11_3 : ¬ nI 11 = (3 : Int32) := by decide
theorem no_11_4 : ¬ nI 11 = (4 : Int32) := by decide
theorem no_11_7 : ¬ nI 11 = (7 : Int32) := by decide
theorem no_11_8 : ¬ nI 11 = (8 : Int32) := by decide
theorem no_12_0 : ¬ nI 12 = (0 : Int32) := by decide
theorem no_12_1 : ¬ nI 12 = (1 : Int32) := by decide
theorem no_12_10 : ¬ nI 12 = (10 : Int32) := by decide
theorem no_12_11 : ¬ nI 12 = (11 : Int32) := by decide
theorem yo_12_12 : nI 12 = (12 : Int32) := rfl
theorem no_12_5 : ¬ nI 12 = (5 : Int32) := by decide
theorem no_12_6 : ¬ nI 12 = (6 : Int32) := by decide
theorem no_12_2 : ¬ nI 12 = (2 : Int32) := by decide
theorem no_12_3 : ¬ nI 12 = (3 : Int32) := by decide
theorem no_12_4 : ¬ nI 12 = (4 : Int32) := by decide
theorem no_12_7 : ¬ nI 12 = (7 : Int32) := by decide
theorem no_12_8 : ¬ nI 12 = (8 : Int32) := by decide
/-- a heap that differs from another in the law's stack and in whether it refused -/
def FrC (L : Nat) (σ σ' : Hp) : Prop := (∀ k, k ≠ L → k ≠ L + 8 → σ' k = σ k) ∧ ∀ j, j ≠ 10 → σ' L j = σ L j
theorem FrC.rf {L : Nat} {σ : Hp} : FrC L σ σ := ⟨fun _ _ _ => rfl, fun _ _ => rfl⟩
theorem FrC.tr {L : Nat} {a b c : Hp} (h : FrC L a b) (g : FrC L b c) : FrC L a c := ⟨fun k h1 h2 => (g.1 k h1 h2).trans (h.1 k h1 h2), fun j hj => (g.2 j hj).trans (h.2 j hj)⟩
theorem FrC.st {L : Nat} {a b : Hp} (h : FrC L a b) (i : Nat) (x : Int32) : FrC L a (zu b (L + 8) i x) := by
  refine ⟨fun k h1 h2 => ?_, fun j hj => ?_⟩
  · rw [zu_ne _ _ _ h2]; exact h.1 k h1 h2
  · rw [zu_ne _ _ _ (by omega)]; exact h.2 j hj
theorem FrC.rfu {L : Nat} {a b : Hp} (h : FrC L a b) (x : Int32) : FrC L a (zu b L 10 x) := by
  refine ⟨fun k h1 h2 => ?_, fun j hj => ?_⟩
  · rw [zu_ne _ _ _ h1]; exact h.1 k h1 h2
  · rw [zu_self, upd_ap, if_neg hj]; exact h.2 j hj
/-- truth values on a stack are 0 or 1 -/
def StkT (st : Nat → Int32) : List Bool → Prop
  | [] => True
  | b :: r => (b = true → st r.length = 0 ∨ st r.length = 1) ∧ StkT st r
theorem StkT.congr {st st' : Nat → Int32} : ∀ {l : List Bool}, StkT st l → (∀ i, i < l.length → st' i = st i) → StkT st' l := by
  intro l
  induction l with
  | nil => intro _ _; trivial
  | cons b r ih =>
    intro h e
    refine ⟨fun hb => ?_, ih h.2 (fun i hi => e i (by simp; omega))⟩
    rw [e r.length (by simp)]
    exact h.1 hb
theorem rk_un (K) (N r0 : Nat) (a b c d : Int32) (σ : Hp) : L_X4_reckon_13 K (N + 1) r0 a b c d σ = B_X4_reckon_13 K (fun r0 x2 x3 x4 x5 σ => L_X4_reckon_13 K N r0 x2 x3 x4 x5 σ) r0 a b c d σ := rfl
theorem cm_un (N : Nat) (a b c d : Int32) (σ : Hp) : L_M_comesTo_16 (N + 1) a b c d σ = B_M_comesTo_16 (fun x2 x3 x4 x5 σ => L_M_comesTo_16 N x2 x3 x4 x5 σ) a b c d σ := rfl
/-- what both come to -/
def ReQ (L : Nat) (b : Bool) (σ τ : Hp) (r r' : Option (Int32 × Hp)) : Prop := ∃ v σ' τ', r = some (v, σ') ∧ r' = some (v, τ') ∧ FrC L σ σ' ∧ Ag [18] τ τ' ∧ ((σ' L 10 = 0 ∧ (b = true → v = 0 ∨ v = 1)) ∨ (σ' L 10 = 1 ∧ v = 0))
/-- the two machines stand at the same code -/
def RkS (L e : Nat) (ty : Nat → List Bool) (σ0 τ0 : Hp) (k : Nat) (σ τ : Hp) : Prop := FrC L σ0 σ ∧ Ag [18] τ0 τ ∧ σ L 10 = 0 ∧ (∀ i, i < (ty k).length → σ (L + 8) i = τ 18 i) ∧ StkT (σ (L + 8)) (ty k)
theorem tp_s (d : Nat) : nI (d + 1) - 1 = nI d := nI_pred d
/-- the code of the reference, taken apart -/
theorem code_M {o v : Nat} (ho : o ≤ 12) (hv : v ≤ 99999) : (1048576 * nI o + nI v) / 1048576 = nI o ∧ jrem (1048576 * nI o + nI v) 1048576 = nI v := by
  have e : (1048576 : Int32) * nI o + nI v = nI (1048576 * o + v) := by rw [show (1048576 : Int32) = nI 1048576 from rfl, pk_mul, nI_add]
  rw [e]
  constructor
  · rw [show (1048576 : Int32) = nI 1048576 from rfl, pk_div (by omega) (by omega) (by omega)]
    congr 1; omega
  · rw [show (1048576 : Int32) = nI 1048576 from rfl, jrem_nI (by omega) (by omega) (by omega)]
    congr 1; omega
/-- one code of the class, its guards done -/
theorem rk_g {L e k j N : Nat} {x3 : Int32} {σ : Hp} (hk : k < e) (he : e ≤ 240) (hj : j ≤ k) (hr : σ L 10 = 0) (K) : L_X4_reckon_13 K (N + 1) L (nI e) x3 (nI k) (nI j) σ = (if σ (L + 1) k = 110 then J_X4_reckon_73 (fun r0 x2 x3 x4 x5 σ => L_X4_reckon_13 K N r0 x2 x3 x4 x5 σ) L (nI e) x3 (nI k) (nI j) (σ (L + 1) k) 0 σ else if σ (L + 1) k = 108 then J_X4_reckon_73 (fun r0 x2 x3 x4 x5 σ => L_X4_reckon_13 K N r0 x2 x3 x4 x5 σ) L (nI e) x3 (nI k) (nI j) (σ (L + 1) k) 0 σ else if 0 ≤ x3 then (if σ (L + 1) k = 33 then gd (inb x3 64) (gd (inb x3 64) (J_X4_reckon_241 (fun r0 x2 x3 x4 x5 σ => L_X4_reckon_13 K N r0 x2 x3 x4 x5 σ) L (nI e) x3 (nI k) (nI j) 0 (zu σ (L + 8) x3.toNatClampNeg (1 - σ (L + 8) x3.toNatClampNeg)))) else if σ (L + 1) k = 38 then J_X4_reckon_154 (fun r0 x2 x3 x4 x5 σ => L_X4_reckon_13 K N r0 x2 x3 x4 x5 σ) L (nI e) x3 (nI k) (nI j) (σ (L + 1) k) σ else if σ (L + 1) k = 124 then J_X4_reckon_154 (fun r0 x2 x3 x4 x5 σ => L_X4_reckon_13 K N r0 x2 x3 x4 x5 σ) L (nI e) x3 (nI k) (nI j) (σ (L + 1) k) σ else if x3 ≤ 0 then J_X4_reckon_241 (fun r0 x2 x3 x4 x5 σ => L_X4_reckon_13 K N r0 x2 x3 x4 x5 σ) L (nI e) x3 (nI k) (nI j) 0 σ else gd (inb (x3 - 1) 64) (gd (inb x3 64) ((F_X4_combine L (σ (L + 1) k) (σ (L + 8) (x3 - 1).toNatClampNeg) (σ (L + 8) x3.toNatClampNeg) σ).bind fun q234 => gd (inb (x3 - 1) 64) (J_X4_reckon_241 (fun r0 x2 x3 x4 x5 σ => L_X4_reckon_13 K N r0 x2 x3 x4 x5 σ) L (nI e) (x3 + -1) (nI k) (nI j) 0 (zu q234.2 (L + 8) (x3 - 1).toNatClampNeg q234.1))))) else some (0, σ)) := by
  rw [rk_un]
  unfold B_X4_reckon_13
  rw [if_neg (show ¬ (240 : Int32) ≤ nI j from nI_ge (b := 240) (by omega) (by omega)), if_neg (nI_pos (show k < 2 ^ 31 by omega)), if_neg (nI_ge hk (by omega)), if_neg (show ¬ (240 : Int32) ≤ nI k from nI_ge (b := 240) (by omega) (by omega)), if_pos hr, gd_true (inbT (show k < 240 by omega) (by omega)), nI_clamp (show k < 2 ^ 31 by omega)]
/-- one code of the reference, taken apart -/
theorem cm_g {e k N o v : Nat} {x3 x4 : Int32} {τ : Hp} (hk : k < e) (he : e ≤ 240) (ho : o ≤ 12) (hv : v ≤ 99999) (hm : τ 13 k = 1048576 * nI o + nI v) : L_M_comesTo_16 (N + 1) (nI e) x3 x4 (nI k) τ = (if nI o = 0 then J_M_comesTo_63 (fun x2 x3 x4 x5 σ => L_M_comesTo_16 N x2 x3 x4 x5 σ) (nI e) x3 x4 (nI (k + 1)) (nI o) (nI v) τ else if nI o = 1 then J_M_comesTo_63 (fun x2 x3 x4 x5 σ => L_M_comesTo_16 N x2 x3 x4 x5 σ) (nI e) x3 x4 (nI (k + 1)) (nI o) (nI v) τ else if nI o = 10 then gd (inb (x3 - 1) 260) (gd (inb (x3 - 1) 260) (L_M_comesTo_16 N (nI e) x3 x4 (nI (k + 1)) (zu τ 18 (x3 - 1).toNatClampNeg (1 - τ 18 (x3 - 1).toNatClampNeg)))) else if nI o = 11 then J_M_comesTo_135 (fun x2 x3 x4 x5 σ => L_M_comesTo_16 N x2 x3 x4 x5 σ) (nI e) x3 x4 (nI (k + 1)) (nI o) (nI v) τ else if nI o = 12 then J_M_comesTo_135 (fun x2 x3 x4 x5 σ => L_M_comesTo_16 N x2 x3 x4 x5 σ) (nI e) x3 x4 (nI (k + 1)) (nI o) (nI v) τ else if nI o = 5 then J_M_comesTo_192 (fun x2 x3 x4 x5 σ => L_M_comesTo_16 N x2 x3 x4 x5 σ) (nI e) (x3 - 1) x4 (nI (k + 1)) (nI o) τ else if nI o = 6 then J_M_comesTo_192 (fun x2 x3 x4 x5 σ => L_M_comesTo_16 N x2 x3 x4 x5 σ) (nI e) (x3 - 1) x4 (nI (k + 1)) (nI o) τ else J_M_comesTo_203 (fun x2 x3 x4 x5 σ => L_M_comesTo_16 N x2 x3 x4 x5 σ) (nI e) (x3 - 1) x4 (nI (k + 1)) (nI o) τ) := by
  rw [cm_un]
  unfold B_M_comesTo_16
  rw [if_neg (nI_ge hk (by omega)), gd_true (inbT (show k < 260 by omega) (by omega)), gd_true (inbT (show k < 260 by omega) (by omega)), nI_clamp (show k < 2 ^ 31 by omega), hm, (code_M ho hv).1, (code_M ho hv).2, nI_1]
/-- numbers and letters: one more on both stacks -/
theorem rk_push {L e k j N1 N2 d v : Nat} {σ τ : Hp} (hk : k < e) (he : e ≤ 240) (hj : j ≤ k) (hr : σ L 10 = 0) (hd : d ≤ 40) (hv : v ≤ 99999) (hw : σ (L + 2) k = nI v) (hval : ∀ i, i < 11 → σ (L + 7) i = τ 19 i) (K)
    (hc : (σ (L + 1) k = 110 ∧ τ 13 k = 1048576 * nI 0 + nI v) ∨ (σ (L + 1) k = 108 ∧ v < 11 ∧ τ 13 k = 1048576 * nI 1 + nI v)) :
    ∃ x, L_X4_reckon_13 K (N1 + 1) L (nI e) (nI d - 1) (nI k) (nI j) σ = L_X4_reckon_13 K N1 L (nI e) (nI (d + 1) - 1) (nI (k + 1)) (nI (j + 1)) (zu σ (L + 8) d x) ∧ L_M_comesTo_16 (N2 + 1) (nI e) (nI d) (nI 0) (nI k) τ = L_M_comesTo_16 N2 (nI e) (nI (d + 1)) (nI 0) (nI (k + 1)) (zu τ 18 d x) := by
  have ep : nI d - 1 + 1 = nI d := by
    rw [Int32.sub_add_cancel]
  have pu : ∀ x s, F_X4_push L (nI d - 1) x s = some (nI d, zu s (L + 8) d x) := fun x s => by
    unfold F_X4_push
    rw [ep, if_pos (show nI d < Int32.ofNat 64 from nI_lt (b := 64) (by omega) (by omega)), gd_true (inbT (show d < 64 by omega) (by omega)), nI_clamp (by omega)]
  rw [rk_g hk he hj hr]
  rcases hc with ⟨hc, hm⟩ | ⟨hc, hv11, hm⟩
  · rw [cm_g hk he (show 0 ≤ 12 by omega) hv hm, hc, if_pos rfl, if_pos yo_0_0]
    unfold J_X4_reckon_73 J_M_comesTo_63 J_X4_reckon_103 J_M_comesTo_85 J_X4_reckon_241
    rw [if_pos rfl, if_pos yo_0_0, gd_true (inbT (show k < 240 by omega) (by omega)), nI_clamp (show k < 2 ^ 31 by omega), hw, pu, ob, if_pos rfl, gd_true (inbT (show d < 260 by omega) (by omega)), nI_clamp (show d < 2 ^ 31 by omega)]
    dsimp only
    rw [nI_1, nI_1, nI_1, tp_s]
    exact ⟨nI v, rfl, rfl⟩
  · have vo : F_X4_valueOf L (nI v) σ = some (τ 19 v, σ) := by
      unfold F_X4_valueOf
      rw [if_neg (nI_pos (by omega)), if_neg (show ¬ (11 : Int32) ≤ nI v from nI_ge (b := 11) hv11 (by omega)), gd_true (inbT hv11 (by omega)), nI_clamp (by omega), hval v hv11]
    rw [cm_g hk he (show 1 ≤ 12 by omega) hv hm, hc, if_neg ne_108_110, if_pos rfl, if_neg no_1_0, if_pos yo_1_1]
    unfold J_X4_reckon_73 J_M_comesTo_63 J_X4_reckon_103 J_M_comesTo_85 J_X4_reckon_241
    rw [if_neg ne_108_110, if_neg no_1_0, gd_true (inbT (show k < 240 by omega) (by omega)), nI_clamp (show k < 2 ^ 31 by omega), hw, vo, ob]
    dsimp only
    rw [pu, ob, if_pos rfl, gd_true (inbT hv11 (by omega)), nI_clamp (show v < 2 ^ 31 by omega), gd_true (inbT (show d < 260 by omega) (by omega)), nI_clamp (show d < 2 ^ 31 by omega)]
    dsimp only
    rw [nI_1, nI_1, nI_1, tp_s]
    exact ⟨τ 19 v, rfl, rfl⟩
/-- NOT -/
theorem rk_not {L e k j N1 N2 q v : Nat} {σ τ : Hp} (hk : k < e) (he : e ≤ 240) (hj : j ≤ k) (hr : σ L 10 = 0) (hd : q + 1 ≤ 40) (hv : v ≤ 99999) (hst : σ (L + 8) q = τ 18 q) (K) (hc : σ (L + 1) k = 33) (hm : τ 13 k = 1048576 * nI 10 + nI v) :
    L_X4_reckon_13 K (N1 + 1) L (nI e) (nI (q + 1) - 1) (nI k) (nI j) σ = L_X4_reckon_13 K N1 L (nI e) (nI (q + 1) - 1) (nI (k + 1)) (nI (j + 1)) (zu σ (L + 8) q (1 - τ 18 q)) ∧ L_M_comesTo_16 (N2 + 1) (nI e) (nI (q + 1)) (nI 0) (nI k) τ = L_M_comesTo_16 N2 (nI e) (nI (q + 1)) (nI 0) (nI (k + 1)) (zu τ 18 q (1 - τ 18 q)) := by
  rw [rk_g hk he hj hr, cm_g hk he (show 10 ≤ 12 by omega) hv hm, hc, if_neg ne_33_110, if_neg ne_33_108, if_pos rfl, if_neg no_10_0, if_neg no_10_1, if_pos yo_10_10, tp_s, if_pos (nI_pos' (show q < 2 ^ 31 by omega))]
  unfold J_X4_reckon_241
  rw [if_pos rfl, gd_true (inbT (show q < 64 by omega) (by omega)), gd_true (inbT (show q < 64 by omega) (by omega)), gd_true (inbT (show q < 260 by omega) (by omega)), gd_true (inbT (show q < 260 by omega) (by omega)), nI_clamp (show q < 2 ^ 31 by omega), hst, nI_1, nI_1]
  exact ⟨rfl, rfl⟩
/-- AND, OR: the value stays and the code jumps, or it goes -/
theorem rk_jump {L e k j N1 N2 q t : Nat} {σ τ : Hp} (hk : k < e) (he : e ≤ 240) (hj : j ≤ k) (hr : σ L 10 = 0) (hd : q + 1 ≤ 40) (ht : t ≤ 240) (hw : σ (L + 2) k = nI t) (hst : σ (L + 8) q = τ 18 q) (hb : σ (L + 8) q = 0 ∨ σ (L + 8) q = 1) (K)
    (hc : (σ (L + 1) k = 38 ∧ τ 13 k = 1048576 * nI 11 + nI t) ∨ (σ (L + 1) k = 124 ∧ τ 13 k = 1048576 * nI 12 + nI t)) :
    (L_X4_reckon_13 K (N1 + 1) L (nI e) (nI (q + 1) - 1) (nI k) (nI j) σ = L_X4_reckon_13 K N1 L (nI e) (nI (q + 1) - 1) (nI t) (nI (j + 1)) σ ∧ L_M_comesTo_16 (N2 + 1) (nI e) (nI (q + 1)) (nI 0) (nI k) τ = L_M_comesTo_16 N2 (nI e) (nI (q + 1)) (nI 0) (nI t) τ) ∨ (L_X4_reckon_13 K (N1 + 1) L (nI e) (nI (q + 1) - 1) (nI k) (nI j) σ = L_X4_reckon_13 K N1 L (nI e) (nI q - 1) (nI (k + 1)) (nI (j + 1)) σ ∧ L_M_comesTo_16 (N2 + 1) (nI e) (nI (q + 1)) (nI 0) (nI k) τ = L_M_comesTo_16 N2 (nI e) (nI q) (nI 0) (nI (k + 1)) τ) := by
  have e0 : nI 0 + nI t = nI t := by rw [nI_add, Nat.zero_add]
  have n10 : ¬ (1 : Int32) = 0 := by decide
  have n01 : ¬ (0 : Int32) = 1 := by decide
  rcases hc with ⟨hc, hm⟩ | ⟨hc, hm⟩
  · rw [rk_g hk he hj hr, cm_g hk he (show 11 ≤ 12 by omega) (show t ≤ 99999 by omega) hm, hc, if_neg ne_38_110, if_neg ne_38_108, if_neg ne_38_33, if_pos rfl, if_neg no_11_0, if_neg no_11_1, if_neg no_11_10, if_pos yo_11_11, tp_s, if_pos (nI_pos' (show q < 2 ^ 31 by omega))]
    unfold J_X4_reckon_154 J_X4_reckon_168 J_X4_reckon_180 J_X4_reckon_188 J_X4_reckon_202 J_X4_reckon_241 J_M_comesTo_135 J_M_comesTo_155
    rw [tp_s, gd_true (inbT (show q < 64 by omega) (by omega)), gd_true (inbT (show q < 260 by omega) (by omega)), nI_clamp (show q < 2 ^ 31 by omega), hst, if_neg ne_38_124, if_neg ne_38_124, if_neg no_11_12, gd_true (inbT (show k < 240 by omega) (by omega)), nI_clamp (show k < 2 ^ 31 by omega), hw, nI_1, nI_1, e0]
    rw [hst] at hb
    rcases hb with hb | hb
    · left
      rw [hb]
      constructor <;> simp (disch := omega) only [if_true, if_neg n10, if_neg n01, inb_nI, gd_tt]
    · right
      rw [hb]
      constructor <;> simp (disch := omega) only [if_true, if_neg n10, if_neg n01, inb_nI, gd_tt]
  · rw [rk_g hk he hj hr, cm_g hk he (show 12 ≤ 12 by omega) (show t ≤ 99999 by omega) hm, hc, if_neg ne_124_110, if_neg ne_124_108, if_neg ne_124_33, if_neg ne_124_38, if_pos rfl, if_neg no_12_0, if_neg no_12_1, if_neg no_12_10, if_neg no_12_11, if_pos yo_12_12, tp_s, if_pos (nI_pos' (show q < 2 ^ 31 by omega))]
    unfold J_X4_reckon_154 J_X4_reckon_168 J_X4_reckon_180 J_X4_reckon_188 J_X4_reckon_202 J_X4_reckon_241 J_M_comesTo_135 J_M_comesTo_155
    rw [tp_s, gd_true (inbT (show q < 64 by omega) (by omega)), gd_true (inbT (show q < 260 by omega) (by omega)), nI_clamp (show q < 2 ^ 31 by omega), hst, if_pos (show (124 : Int32) = 124 from rfl), if_pos (show (124 : Int32) = 124 from rfl), if_pos yo_12_12, gd_true (inbT (show k < 240 by omega) (by omega)), nI_clamp (show k < 2 ^ 31 by omega), hw, nI_1, nI_1, e0]
    rw [hst] at hb
    rcases hb with hb | hb
    · right
      rw [hb]
      constructor <;> simp (disch := omega) only [if_true, if_neg n10, if_neg n01, inb_nI, gd_tt]
    · left
      rw [hb]
      constructor <;> simp (disch := omega) only [if_true, if_neg n10, if_neg n01, inb_nI, gd_tt]
/-- two values to one: what both reckon -/
def BinQ (L : Nat) (c : Int32) (o : Nat) (cmp : Bool) (x y : Int32) (σ τ : Hp) : Prop := (∃ v σ1, F_X4_combine L c x y σ = some (v, σ1) ∧ FrC L σ σ1 ∧ σ1 L 10 = 0 ∧ σ1 (L + 8) = σ (L + 8) ∧ F_M_reckon (nI o) x y τ = some (v, τ) ∧ (cmp = true → v = 0 ∨ v = 1) ∧ ((o = 5 ∨ o = 6) → ¬ y = 0)) ∨ ((o = 5 ∨ o = 6) ∧ y = 0 ∧ ∃ σ1, F_X4_combine L c x y σ = some (0, σ1) ∧ FrC L σ σ1 ∧ σ1 L 10 = 1)
theorem bin_43 (L : Nat) (x y : Int32) (σ τ : Hp) (hr : σ L 10 = 0) : BinQ L 43 2 false x y σ τ := by
  refine Or.inl ⟨x + y, σ, ?_, FrC.rf, hr, rfl, ?_, fun h => absurd h (by decide), by omega⟩
  · unfold F_X4_combine
    rw [if_neg ne_43_42, if_pos rfl]
  · unfold F_M_reckon
    rw [if_pos yo_2_2]
theorem bin_45 (L : Nat) (x y : Int32) (σ τ : Hp) (hr : σ L 10 = 0) : BinQ L 45 3 false x y σ τ := by
  refine Or.inl ⟨x - y, σ, ?_, FrC.rf, hr, rfl, ?_, fun h => absurd h (by decide), by omega⟩
  · unfold F_X4_combine
    rw [if_neg ne_45_42, if_neg ne_45_43, if_pos rfl]
  · unfold F_M_reckon
    rw [if_neg no_3_2, if_pos yo_3_3]
theorem bin_42 (L : Nat) (x y : Int32) (σ τ : Hp) (hr : σ L 10 = 0) : BinQ L 42 4 false x y σ τ := by
  refine Or.inl ⟨x * y, σ, ?_, FrC.rf, hr, rfl, ?_, fun h => absurd h (by decide), by omega⟩
  · unfold F_X4_combine
    rw [if_pos rfl]
  · unfold F_M_reckon
    rw [if_neg no_4_2, if_neg no_4_3, if_pos yo_4_4]
theorem bin_60 (L : Nat) (x y : Int32) (σ τ : Hp) (hr : σ L 10 = 0) : BinQ L 60 7 true x y σ τ := by
  by_cases h : y ≤ x
  · refine Or.inl ⟨0, σ, ?_, FrC.rf, hr, rfl, ?_, fun _ => by decide, by omega⟩
    · unfold F_X4_combine
      rw [if_neg ne_60_42, if_neg ne_60_43, if_neg ne_60_45, if_pos rfl, if_pos h]
    · unfold F_M_reckon
      rw [if_neg no_7_2, if_neg no_7_3, if_neg no_7_4, if_neg no_7_5, if_neg no_7_6, if_pos yo_7_7, if_pos h]
  · refine Or.inl ⟨1, σ, ?_, FrC.rf, hr, rfl, ?_, fun _ => by decide, by omega⟩
    · unfold F_X4_combine
      rw [if_neg ne_60_42, if_neg ne_60_43, if_neg ne_60_45, if_pos rfl, if_neg h]
    · unfold F_M_reckon
      rw [if_neg no_7_2, if_neg no_7_3, if_neg no_7_4, if_neg no_7_5, if_neg no_7_6, if_pos yo_7_7, if_neg h]
theorem bin_62 (L : Nat) (x y : Int32) (σ τ : Hp) (hr : σ L 10 = 0) : BinQ L 62 8 true x y σ τ := by
  by_cases h : x ≤ y
  · refine Or.inl ⟨0, σ, ?_, FrC.rf, hr, rfl, ?_, fun _ => by decide, by omega⟩
    · unfold F_X4_combine
      rw [if_neg ne_62_42, if_neg ne_62_43, if_neg ne_62_45, if_neg ne_62_60, if_neg ne_62_61, if_pos rfl, if_pos h]
    · unfold F_M_reckon
      rw [if_neg no_8_2, if_neg no_8_3, if_neg no_8_4, if_neg no_8_5, if_neg no_8_6, if_neg no_8_7, if_pos yo_8_8, if_pos h]
  · refine Or.inl ⟨1, σ, ?_, FrC.rf, hr, rfl, ?_, fun _ => by decide, by omega⟩
    · unfold F_X4_combine
      rw [if_neg ne_62_42, if_neg ne_62_43, if_neg ne_62_45, if_neg ne_62_60, if_neg ne_62_61, if_pos rfl, if_neg h]
    · unfold F_M_reckon
      rw [if_neg no_8_2, if_neg no_8_3, if_neg no_8_4, if_neg no_8_5, if_neg no_8_6, if_neg no_8_7, if_pos yo_8_8, if_neg h]
theorem bin_61 (L : Nat) (x y : Int32) (σ τ : Hp) (hr : σ L 10 = 0) : BinQ L 61 9 true x y σ τ := by
  by_cases h : x = y
  · refine Or.inl ⟨1, σ, ?_, FrC.rf, hr, rfl, ?_, fun _ => by decide, by omega⟩
    · unfold F_X4_combine
      rw [if_neg ne_61_42, if_neg ne_61_43, if_neg ne_61_45, if_neg ne_61_60, if_pos rfl, if_pos h]
    · unfold F_M_reckon
      rw [if_neg no_9_2, if_neg no_9_3, if_neg no_9_4, if_neg no_9_5, if_neg no_9_6, if_neg no_9_7, if_neg no_9_8, if_pos h]
  · refine Or.inl ⟨0, σ, ?_, FrC.rf, hr, rfl, ?_, fun _ => by decide, by omega⟩
    · unfold F_X4_combine
      rw [if_neg ne_61_42, if_neg ne_61_43, if_neg ne_61_45, if_neg ne_61_60, if_pos rfl, if_neg h]
    · unfold F_M_reckon
      rw [if_neg no_9_2, if_neg no_9_3, if_neg no_9_4, if_neg no_9_5, if_neg no_9_6, if_neg no_9_7, if_neg no_9_8, if_neg h]
theorem bin_47 (L : Nat) (x y : Int32) (σ τ : Hp) (hr : σ L 10 = 0) : BinQ L 47 5 false x y σ τ := by
  by_cases h : y = 0
  · refine Or.inr ⟨by omega, h, zu σ L 10 1, ?_, FrC.rf.rfu 1, by rw [zu_self, upd_ap, if_pos rfl]⟩
    unfold F_X4_combine J_X4_combine_115
    rw [if_neg ne_47_42, if_neg ne_47_43, if_neg ne_47_45, if_neg ne_47_60, if_neg ne_47_61, if_neg ne_47_62, if_pos h, gd_true (by decide), zu_self, upd_ap, if_pos rfl, if_neg (show ¬ (1 : Int32) = 0 by decide)]
  · have hz : nz y = true := by unfold nz; simp [h]
    refine Or.inl ⟨x / y, zu σ L 10 0, ?_, FrC.rf.rfu 0, by rw [zu_self, upd_ap, if_pos rfl], zu_ne _ _ _ (by omega), ?_, fun h => absurd h (by decide), fun _ => h⟩
    · unfold F_X4_combine J_X4_combine_115
      rw [if_neg ne_47_42, if_neg ne_47_43, if_neg ne_47_45, if_neg ne_47_60, if_neg ne_47_61, if_neg ne_47_62, if_neg h, gd_true (by decide), zu_self, upd_ap, if_pos rfl, if_pos rfl, if_pos rfl, gd_true hz]
    · unfold F_M_reckon
      rw [if_neg no_5_2, if_neg no_5_3, if_neg no_5_4, if_pos yo_5_5, gd_true hz]
theorem bin_37 (L : Nat) (x y : Int32) (σ τ : Hp) (hr : σ L 10 = 0) : BinQ L 37 6 false x y σ τ := by
  by_cases h : y = 0
  · refine Or.inr ⟨by omega, h, zu σ L 10 1, ?_, FrC.rf.rfu 1, by rw [zu_self, upd_ap, if_pos rfl]⟩
    unfold F_X4_combine J_X4_combine_115
    rw [if_neg ne_37_42, if_neg ne_37_43, if_neg ne_37_45, if_neg ne_37_60, if_neg ne_37_61, if_neg ne_37_62, if_pos h, gd_true (by decide), zu_self, upd_ap, if_pos rfl, if_neg (show ¬ (1 : Int32) = 0 by decide)]
  · have hz : nz y = true := by unfold nz; simp [h]
    refine Or.inl ⟨jrem x y, zu σ L 10 0, ?_, FrC.rf.rfu 0, by rw [zu_self, upd_ap, if_pos rfl], zu_ne _ _ _ (by omega), ?_, fun h => absurd h (by decide), fun _ => h⟩
    · unfold F_X4_combine J_X4_combine_115
      rw [if_neg ne_37_42, if_neg ne_37_43, if_neg ne_37_45, if_neg ne_37_60, if_neg ne_37_61, if_neg ne_37_62, if_neg h, gd_true (by decide), zu_self, upd_ap, if_pos rfl, if_pos rfl, if_neg ne_37_47, gd_true hz]
    · unfold F_M_reckon
      rw [if_neg no_6_2, if_neg no_6_3, if_neg no_6_4, if_neg no_6_5, if_pos yo_6_6, gd_true hz]
theorem rk_bin {L e k j N1 N2 q v o : Nat} {c : Int32} {cmp : Bool} {σ τ : Hp} (hk : k < e) (he : e ≤ 240) (hj : j ≤ k) (hr : σ L 10 = 0) (hd : q + 2 ≤ 40) (hv : v ≤ 99999) (ho : o ≤ 9) (ho2 : 2 ≤ o) (h0 : σ (L + 8) q = τ 18 q) (h1 : σ (L + 8) (q + 1) = τ 18 (q + 1)) (hc : σ (L + 1) k = c) (hm : τ 13 k = 1048576 * nI o + nI v) (c1 : ¬ c = 110) (c2 : ¬ c = 108) (c3 : ¬ c = 33) (c4 : ¬ c = 38) (c5 : ¬ c = 124) (hb : BinQ L c o cmp (τ 18 q) (τ 18 (q + 1)) σ τ) (K) :
    (∃ x σ1, FrC L σ σ1 ∧ σ1 L 10 = 0 ∧ σ1 (L + 8) = σ (L + 8) ∧ (cmp = true → x = 0 ∨ x = 1) ∧ L_X4_reckon_13 K (N1 + 1) L (nI e) (nI (q + 2) - 1) (nI k) (nI j) σ = L_X4_reckon_13 K N1 L (nI e) (nI (q + 1) - 1) (nI (k + 1)) (nI (j + 1)) (zu σ1 (L + 8) q x) ∧ L_M_comesTo_16 (N2 + 1) (nI e) (nI (q + 2)) (nI 0) (nI k) τ = L_M_comesTo_16 N2 (nI e) (nI (q + 1)) (nI 0) (nI (k + 1)) (zu τ 18 q x)) ∨ (∃ σ1, FrC L σ σ1 ∧ σ1 L 10 = 1 ∧ L_X4_reckon_13 K (N1 + 1) L (nI e) (nI (q + 2) - 1) (nI k) (nI j) σ = L_X4_reckon_13 K N1 L (nI e) (nI (q + 1) - 1) (nI (k + 1)) (nI (j + 1)) (zu σ1 (L + 8) q 0) ∧ L_M_comesTo_16 (N2 + 1) (nI e) (nI (q + 2)) (nI 0) (nI k) τ = some (0, τ)) := by
  have ea : nI (q + 2) - 1 = nI (q + 1) := tp_s (q + 1)
  have eb : nI (q + 1) - 1 = nI q := tp_s q
  have ec : nI (q + 1) + -1 = nI q := pk_m1 q
  have n0 : ¬ nI o = 0 := by rw [nI_eq0 (by omega)]; omega
  have n1 : ¬ nI o = 1 := by rw [nI_eq1 (by omega)]; omega
  have n10 : ¬ nI o = 10 := fun h => by have := (nI_eq (b := 10) (by omega) (by omega)).mp h; omega
  have n11 : ¬ nI o = 11 := fun h => by have := (nI_eq (b := 11) (by omega) (by omega)).mp h; omega
  have n12 : ¬ nI o = 12 := fun h => by have := (nI_eq (b := 12) (by omega) (by omega)).mp h; omega
  have gC : ∀ (v : Int32) (σ1 : Hp), F_X4_combine L c (τ 18 q) (τ 18 (q + 1)) σ = some (v, σ1) → L_X4_reckon_13 K (N1 + 1) L (nI e) (nI (q + 2) - 1) (nI k) (nI j) σ = L_X4_reckon_13 K N1 L (nI e) (nI (q + 1) - 1) (nI (k + 1)) (nI (j + 1)) (zu σ1 (L + 8) q v) := by
    intro v σ1 hcomb
    rw [rk_g hk he hj hr, hc, if_neg c1, if_neg c2, if_neg c3, if_neg c4, if_neg c5, ea, eb, if_pos (nI_pos' (show q + 1 < 2 ^ 31 by omega)), if_neg (nI_nle (show 0 < q + 1 by omega) (by omega)), gd_true (inbT (show q < 64 by omega) (by omega)), gd_true (inbT (show q + 1 < 64 by omega) (by omega)), nI_clamp (show q < 2 ^ 31 by omega), nI_clamp (show q + 1 < 2 ^ 31 by omega), h0, h1, hcomb, ob, gd_true (inbT (show q < 64 by omega) (by omega)), ec]
    unfold J_X4_reckon_241
    rw [if_pos rfl, nI_1, nI_1]
  have gM : ∀ x : Int32, F_M_reckon (nI o) (τ 18 q) (τ 18 (q + 1)) τ = some (x, τ) → ((o = 5 ∨ o = 6) → ¬ τ 18 (q + 1) = 0) → L_M_comesTo_16 (N2 + 1) (nI e) (nI (q + 2)) (nI 0) (nI k) τ = L_M_comesTo_16 N2 (nI e) (nI (q + 1)) (nI 0) (nI (k + 1)) (zu τ 18 q x) := by
    intro x hx hnz
    have h203 : J_M_comesTo_203 (fun x2 x3 x4 x5 σ => L_M_comesTo_16 N2 x2 x3 x4 x5 σ) (nI e) (nI (q + 1)) (nI 0) (nI (k + 1)) (nI o) τ = L_M_comesTo_16 N2 (nI e) (nI (q + 1)) (nI 0) (nI (k + 1)) (zu τ 18 q x) := by
      unfold J_M_comesTo_203
      rw [eb, gd_true (inbT (show q < 260 by omega) (by omega)), gd_true (inbT (show q + 1 < 260 by omega) (by omega)), nI_clamp (show q < 2 ^ 31 by omega), nI_clamp (show q + 1 < 2 ^ 31 by omega), hx, ob, gd_true (inbT (show q < 260 by omega) (by omega))]
    rw [cm_g hk he (by omega) hv hm, if_neg n0, if_neg n1, if_neg n10, if_neg n11, if_neg n12, ea]
    by_cases h5 : nI o = 5
    · have : o = 5 := (nI_eq (b := 5) (by omega) (by omega)).mp h5
      rw [if_pos h5]
      unfold J_M_comesTo_192
      rw [gd_true (inbT (show q + 1 < 260 by omega) (by omega)), nI_clamp (show q + 1 < 2 ^ 31 by omega), if_neg (hnz (Or.inl this)), h203]
    · rw [if_neg h5]
      by_cases h6 : nI o = 6
      · have : o = 6 := (nI_eq (b := 6) (by omega) (by omega)).mp h6
        rw [if_pos h6]
        unfold J_M_comesTo_192
        rw [gd_true (inbT (show q + 1 < 260 by omega) (by omega)), nI_clamp (show q + 1 < 2 ^ 31 by omega), if_neg (hnz (Or.inr this)), h203]
      · rw [if_neg h6, h203]
  rcases hb with ⟨x, σ1, b1, b2, b3, b4, b5, b6, b7⟩ | ⟨b0, by0, σ1, b1, b2, b3⟩
  · exact Or.inl ⟨x, σ1, b2, b3, b4, b6, gC x σ1 b1, gM x b5 b7⟩
  · refine Or.inr ⟨σ1, b2, b3, gC 0 σ1 b1, ?_⟩
    rw [cm_g hk he (by omega) hv hm, if_neg n0, if_neg n1, if_neg n10, if_neg n11, if_neg n12, ea]
    have z : J_M_comesTo_192 (fun x2 x3 x4 x5 σ => L_M_comesTo_16 N2 x2 x3 x4 x5 σ) (nI e) (nI (q + 1)) (nI 0) (nI (k + 1)) (nI o) τ = some (0, τ) := by
      unfold J_M_comesTo_192
      rw [gd_true (inbT (show q + 1 < 260 by omega) (by omega)), nI_clamp (show q + 1 < 2 ^ 31 by omega), if_pos by0]
    rcases b0 with rfl | rfl
    · rw [if_pos yo_5_5, z]
    · rw [if_neg no_6_5, if_pos yo_6_6, z]
/-- a refused reckoning ends with 0 -/
theorem rk_ref {L e k j N q : Nat} {σ : Hp} (hq : q < 64) (hk : k ≤ e) (he : e ≤ 240) (hr : σ L 10 = 1) (hz : σ (L + 8) q = 0) : L_X4_reckon_13 J_X4_reckon_268 (N + 1) L (nI e) (nI (q + 1) - 1) (nI k) (nI j) σ = some (0, σ) := by
  have f : J_X4_reckon_268 L (nI q) σ = some (0, σ) := by
    unfold J_X4_reckon_268
    rw [if_neg (nI_pos (by omega)), gd_true (inbT hq (by omega)), nI_clamp (by omega), hz]
  rw [rk_un]
  unfold B_X4_reckon_13
  rw [tp_s, f, if_neg (show ¬ σ L 10 = 0 by rw [hr]; decide)]
  simp only [ite_self]
theorem StkT.push {st st' : Nat → Int32} {l : List Bool} {b : Bool} (h : StkT st l) (e : ∀ i, i < l.length → st' i = st i) (hb : b = true → st' l.length = 0 ∨ st' l.length = 1) : StkT st' (b :: l) := ⟨hb, h.congr e⟩
theorem rk_run {L e : Nat} {b : Bool} {ty : Nat → List Bool} {σ0 τ0 : Hp} (he : e ≤ 240) (hend : ty e = [b]) (a : Nat) (hs : ∀ k, a ≤ k → k < e → sOk (σ0 (L + 1)) (σ0 (L + 2)) ty e k) (hc : ∀ k, a ≤ k → k < e → cRel (σ0 (L + 1) k) (σ0 (L + 2) k) (τ0 13 k)) (hval : ∀ i, i < 11 → σ0 (L + 7) i = τ0 19 i) :
    ∀ (m k j N1 N2 : Nat) (σ τ : Hp), e - k = m → a ≤ k → k ≤ e → j ≤ k → m + 1 < N1 → m < N2 → RkS L e ty σ0 τ0 k σ τ →
    ReQ L b σ0 τ0 (L_X4_reckon_13 J_X4_reckon_268 N1 L (nI e) (nI (ty k).length - 1) (nI k) (nI j) σ) (L_M_comesTo_16 N2 (nI e) (nI (ty k).length) (nI 0) (nI k) τ) := by
  intro m
  induction m using Nat.strongRecOn with
  | ind m ih =>
    intro k j N1 N2 σ τ hm ha hke hj h1 h2 ⟨f1, f2, f3, f4, f5⟩
    obtain ⟨N1, rfl⟩ : ∃ M, N1 = M + 1 := ⟨N1 - 1, by omega⟩
    obtain ⟨N2, rfl⟩ : ∃ M, N2 = M + 1 := ⟨N2 - 1, by omega⟩
    by_cases hk : k = e
    · subst hk
      rw [hend]
      have s0 : σ (L + 8) 0 = τ 18 0 := f4 0 (by rw [hend]; simp)
      have f : J_X4_reckon_268 L (nI 0) σ = some (τ 18 0, σ) := by
        unfold J_X4_reckon_268
        rw [if_neg (nI_pos (by omega)), gd_true (inbT (show 0 < 64 by omega) (by omega)), nI_clamp (by omega), s0]
      rw [rk_un, cm_un]
      unfold B_X4_reckon_13 B_M_comesTo_16
      rw [show [b].length = 0 + 1 from rfl, tp_s, f, if_pos (nI_le (Nat.le_refl k) (by omega)), if_pos (nI_le (Nat.le_refl k) (by omega)), gd_true (by decide), show Int32.toNatClampNeg 0 = 0 from rfl]
      simp only [ite_self]
      refine ⟨τ 18 0, σ, τ, rfl, rfl, f1, f2, Or.inl ⟨f3, fun hb => ?_⟩⟩
      rw [hend] at f5
      have := f5.1 hb
      rw [show ([] : List Bool).length = 0 from rfl, s0] at this
      exact this
    · have hk : k < e := by omega
      have cc : σ (L + 1) = σ0 (L + 1) := f1.1 _ (by omega) (by omega)
      have cw : σ (L + 2) = σ0 (L + 2) := f1.1 _ (by omega) (by omega)
      have cv : σ (L + 7) = σ0 (L + 7) := f1.1 _ (by omega) (by omega)
      have c13 : τ 13 = τ0 13 := f2 13 (by decide)
      have c19 : τ 19 = τ0 19 := f2 19 (by decide)
      obtain ⟨hl, hcase⟩ := hs k ha hk
      obtain ⟨v, hv, hw, hM, hkind⟩ := hc k ha hk
      rw [← cw] at hw
      rw [← cc] at hcase hM hkind
      rw [← cw] at hcase
      rw [← c13] at hM
      have hval' : ∀ i, i < 11 → σ (L + 7) i = τ 19 i := by rw [cv, c19]; exact hval
      rcases hcase with ⟨hc1, hty⟩ | ⟨hc1, r, hty, hty2⟩ | ⟨hc1, r, hty, hty2⟩ | ⟨hc1, r, hty, hty2⟩ | ⟨hc1, r, hty, hty2, t, ht, htk, hte, hty3⟩
      · -- a number or a letter
        have hcm : (σ (L + 1) k = 110 ∧ τ 13 k = 1048576 * nI 0 + nI v) ∨ (σ (L + 1) k = 108 ∧ v < 11 ∧ τ 13 k = 1048576 * nI 1 + nI v) := by
          rcases hc1 with h | h
          · left; rw [h] at hM; exact ⟨h, by rw [hM, op_110]⟩
          · right
            rw [h] at hM hkind
            refine ⟨h, ?_, by rw [hM, op_108]⟩
            rcases hkind with q | q | q | q | q
            · exact absurd q ne_108_110
            · exact q.2
            · rcases q.1 with q | q | q | q | q | q | q | q | q <;> exact absurd q (by decide)
            · exact absurd q ne_108_38
            · exact absurd q ne_108_124
        obtain ⟨x, e1, e2⟩ := rk_push (N1 := N1) (N2 := N2) hk he hj f3 hl hv hw hval' J_X4_reckon_268 hcm
        rw [e1, e2]
        have hlen : (ty (k + 1)).length = (ty k).length + 1 := by rw [hty]; rfl
        rw [← hlen]
        refine ih (e - (k + 1)) (by omega) (k + 1) (j + 1) N1 N2 _ _ rfl (by omega) (by omega) (by omega) (by omega) (by omega) ⟨f1.st _ _, f2.zu (by decide), by rw [zu_ne _ _ _ (by omega)]; exact f3, fun i hi => ?_, ?_⟩
        · rw [zu_self, upd_ap, zu_self, upd_ap]
          by_cases q : i = (ty k).length
          · rw [if_pos q, if_pos q]
          · rw [if_neg q, if_neg q]; exact f4 i (by omega)
        · rw [hty]
          refine f5.push (fun i hi => ?_) (fun h => absurd h (by decide))
          rw [zu_self, upd_ap, if_neg (by omega)]
      · -- sums
        have hlen : (ty k).length = r.length + 2 := by rw [hty]; rfl
        have hlen2 : (ty (k + 1)).length = r.length + 1 := by rw [hty2]; rfl
        have g0 := f4 r.length (by omega)
        have g1 := f4 (r.length + 1) (by omega)
        have key : ∃ o, 2 ≤ o ∧ o ≤ 9 ∧ τ 13 k = 1048576 * nI o + nI v ∧ BinQ L (σ (L + 1) k) o false (τ 18 r.length) (τ 18 (r.length + 1)) σ τ ∧ ¬ σ (L + 1) k = 110 ∧ ¬ σ (L + 1) k = 108 ∧ ¬ σ (L + 1) k = 33 ∧ ¬ σ (L + 1) k = 38 ∧ ¬ σ (L + 1) k = 124 := by
          rcases hc1 with h | h | h | h | h <;> rw [h] at hM ⊢
          · exact ⟨2, by omega, by omega, by rw [hM, op_43], bin_43 L _ _ σ τ f3, ne_43_110, ne_43_108, ne_43_33, ne_43_38, ne_43_124⟩
          · exact ⟨3, by omega, by omega, by rw [hM, op_45], bin_45 L _ _ σ τ f3, ne_45_110, ne_45_108, ne_45_33, ne_45_38, ne_45_124⟩
          · exact ⟨4, by omega, by omega, by rw [hM, op_42], bin_42 L _ _ σ τ f3, ne_42_110, ne_42_108, ne_42_33, ne_42_38, ne_42_124⟩
          · exact ⟨5, by omega, by omega, by rw [hM, op_47], bin_47 L _ _ σ τ f3, ne_47_110, ne_47_108, ne_47_33, ne_47_38, ne_47_124⟩
          · exact ⟨6, by omega, by omega, by rw [hM, op_37], bin_37 L _ _ σ τ f3, ne_37_110, ne_37_108, ne_37_33, ne_37_38, ne_37_124⟩
        obtain ⟨o, o1, o2, o3, o4, c1, c2, c3, c4, c5⟩ := key
        rw [hlen]
        rcases rk_bin (N1 := N1) (N2 := N2) hk he hj f3 (by omega) hv o2 o1 g0 g1 rfl o3 c1 c2 c3 c4 c5 o4 J_X4_reckon_268 with ⟨x, σ1, u1, u2, u3, -, e1, e2⟩ | ⟨σ1, u1, u2, e1, e2⟩
        · rw [e1, e2, ← hlen2]
          refine ih (e - (k + 1)) (by omega) (k + 1) (j + 1) N1 N2 _ _ rfl (by omega) (by omega) (by omega) (by omega) (by omega) ⟨(f1.tr u1).st _ _, f2.zu (by decide), by rw [zu_ne _ _ _ (by omega)]; exact u2, fun i hi => ?_, ?_⟩
          · rw [zu_self, upd_ap, zu_self, upd_ap]
            by_cases q : i = r.length
            · rw [if_pos q, if_pos q]
            · rw [if_neg q, if_neg q, u3]; exact f4 i (by omega)
          · rw [hty2]
            rw [hty] at f5
            refine f5.2.2.push (fun i hi => ?_) (fun h => absurd h (by decide))
            rw [zu_self, upd_ap, if_neg (by omega), u3]
        · rw [e1, e2]
          obtain ⟨N1, rfl⟩ : ∃ M, N1 = M + 1 := ⟨N1 - 1, by omega⟩
          rw [rk_ref (by omega) (by omega) he (by rw [zu_ne _ _ _ (by omega)]; exact u2) (by rw [zu_self, upd_ap, if_pos rfl])]
          exact ⟨0, _, τ, rfl, rfl, (f1.tr u1).st _ _, f2, Or.inr ⟨by rw [zu_ne _ _ _ (by omega)]; exact u2, rfl⟩⟩
      · -- comparisons
        have hlen : (ty k).length = r.length + 2 := by rw [hty]; rfl
        have hlen2 : (ty (k + 1)).length = r.length + 1 := by rw [hty2]; rfl
        have g0 := f4 r.length (by omega)
        have g1 := f4 (r.length + 1) (by omega)
        have key : ∃ o, 2 ≤ o ∧ o ≤ 9 ∧ τ 13 k = 1048576 * nI o + nI v ∧ BinQ L (σ (L + 1) k) o true (τ 18 r.length) (τ 18 (r.length + 1)) σ τ ∧ ¬ σ (L + 1) k = 110 ∧ ¬ σ (L + 1) k = 108 ∧ ¬ σ (L + 1) k = 33 ∧ ¬ σ (L + 1) k = 38 ∧ ¬ σ (L + 1) k = 124 := by
          rcases hc1 with h | h | h <;> rw [h] at hM ⊢
          · exact ⟨7, by omega, by omega, by rw [hM, op_60], bin_60 L _ _ σ τ f3, ne_60_110, ne_60_108, ne_60_33, ne_60_38, ne_60_124⟩
          · exact ⟨8, by omega, by omega, by rw [hM, op_62], bin_62 L _ _ σ τ f3, ne_62_110, ne_62_108, ne_62_33, ne_62_38, ne_62_124⟩
          · exact ⟨9, by omega, by omega, by rw [hM, op_61], bin_61 L _ _ σ τ f3, ne_61_110, ne_61_108, ne_61_33, ne_61_38, ne_61_124⟩
        obtain ⟨o, o1, o2, o3, o4, c1, c2, c3, c4, c5⟩ := key
        rw [hlen]
        rcases rk_bin (N1 := N1) (N2 := N2) hk he hj f3 (by omega) hv o2 o1 g0 g1 rfl o3 c1 c2 c3 c4 c5 o4 J_X4_reckon_268 with ⟨x, σ1, u1, u2, u3, ux, e1, e2⟩ | ⟨σ1, u1, u2, e1, e2⟩
        · rw [e1, e2, ← hlen2]
          refine ih (e - (k + 1)) (by omega) (k + 1) (j + 1) N1 N2 _ _ rfl (by omega) (by omega) (by omega) (by omega) (by omega) ⟨(f1.tr u1).st _ _, f2.zu (by decide), by rw [zu_ne _ _ _ (by omega)]; exact u2, fun i hi => ?_, ?_⟩
          · rw [zu_self, upd_ap, zu_self, upd_ap]
            by_cases q : i = r.length
            · rw [if_pos q, if_pos q]
            · rw [if_neg q, if_neg q, u3]; exact f4 i (by omega)
          · rw [hty2]
            rw [hty] at f5
            refine f5.2.2.push (fun i hi => ?_) (fun _ => ?_)
            · rw [zu_self, upd_ap, if_neg (by omega), u3]
            · rw [zu_self, upd_ap, if_pos rfl]; exact ux rfl
        · rw [e1, e2]
          obtain ⟨N1, rfl⟩ : ∃ M, N1 = M + 1 := ⟨N1 - 1, by omega⟩
          rw [rk_ref (by omega) (by omega) he (by rw [zu_ne _ _ _ (by omega)]; exact u2) (by rw [zu_self, upd_ap, if_pos rfl])]
          exact ⟨0, _, τ, rfl, rfl, (f1.tr u1).st _ _, f2, Or.inr ⟨by rw [zu_ne _ _ _ (by omega)]; exact u2, rfl⟩⟩
      · -- NOT
        have hlen : (ty k).length = r.length + 1 := by rw [hty]; rfl
        have hlen2 : (ty (k + 1)).length = r.length + 1 := by rw [hty2]; rfl
        have g0 := f4 r.length (by omega)
        rw [hc1] at hM
        rw [op_33] at hM
        obtain ⟨e1, e2⟩ := rk_not (N1 := N1) (N2 := N2) hk he hj f3 (by omega) hv g0 J_X4_reckon_268 hc1 hM
        rw [hlen, e1, e2, ← hlen2]
        rw [hty] at f5
        refine ih (e - (k + 1)) (by omega) (k + 1) (j + 1) N1 N2 _ _ rfl (by omega) (by omega) (by omega) (by omega) (by omega) ⟨f1.st _ _, f2.zu (by decide), by rw [zu_ne _ _ _ (by omega)]; exact f3, fun i hi => ?_, ?_⟩
        · rw [zu_self, upd_ap, zu_self, upd_ap]
          by_cases q : i = r.length
          · rw [if_pos q, if_pos q]
          · rw [if_neg q, if_neg q]; exact f4 i (by omega)
        · rw [hty2]
          refine f5.2.push (fun i hi => ?_) (fun _ => ?_)
          · rw [zu_self, upd_ap, if_neg (by omega)]
          · rw [zu_self, upd_ap, if_pos rfl]
            have := f5.1 rfl
            rw [g0] at this
            rcases this with q | q <;> rw [q] <;> decide
      · -- AND, OR
        have hlen : (ty k).length = r.length + 1 := by rw [hty]; rfl
        have hlen2 : (ty (k + 1)).length = r.length := by rw [hty2]
        have hlen3 : (ty t).length = r.length + 1 := by rw [hty3]; rfl
        have g0 := f4 r.length (by omega)
        rw [hty] at f5
        have hcm : (σ (L + 1) k = 38 ∧ τ 13 k = 1048576 * nI 11 + nI t) ∨ (σ (L + 1) k = 124 ∧ τ 13 k = 1048576 * nI 12 + nI t) := by
          rw [← hw, ht] at hM
          rcases hc1 with h | h
          · left; rw [h] at hM; exact ⟨h, by rw [hM, op_38]⟩
          · right; rw [h] at hM; exact ⟨h, by rw [hM, op_124]⟩
        rcases rk_jump (N1 := N1) (N2 := N2) hk he hj f3 (by omega) (by omega) ht g0 (f5.1 rfl) J_X4_reckon_268 hcm with ⟨e1, e2⟩ | ⟨e1, e2⟩
        · rw [hlen, e1, e2, ← hlen3]
          refine ih (e - t) (by omega) t (j + 1) N1 N2 _ _ rfl (by omega) (by omega) (by omega) (by omega) (by omega) ⟨f1, f2, f3, fun i hi => f4 i (by omega), ?_⟩
          rw [hty3]; exact f5
        · rw [hlen, e1, e2, ← hlen2]
          refine ih (e - (k + 1)) (by omega) (k + 1) (j + 1) N1 N2 _ _ rfl (by omega) (by omega) (by omega) (by omega) (by omega) ⟨f1, f2, f3, fun i hi => f4 i (by omega), ?_⟩
          rw [hty2]; exact f5.2
/-- a piece of the law, reckoned -/
theorem reck_eq {L a e : Nat} {b : Bool} {σ τ : Hp} (he : e ≤ 240) (hs : Seg (σ (L + 1)) (σ (L + 2)) a e [] [b]) (hc : ∀ k, a ≤ k → k < e → cRel (σ (L + 1) k) (σ (L + 2) k) (τ 13 k)) (hval : ∀ i, i < 11 → σ (L + 7) i = τ 19 i) : ReQ L b σ τ (F_X4_reckon L (nI a) (nI e) σ) (F_M_comesTo (nI a) (nI e) τ) := by
  obtain ⟨hae, ty, t1, t2, t3⟩ := hs
  unfold F_X4_reckon F_M_comesTo
  have e260 : (260 : Int32) * (nI a / 260) = nI 0 := by
    rw [show (260 : Int32) = nI 260 from rfl, pk_div (by omega) (by omega) (by omega), pk_mul]
    congr 1
    have : a / 260 = 0 := by omega
    rw [this]
  rw [gd_true (by decide), e260]
  have hf : FrC L σ (zu σ L 10 0) := FrC.rf.rfu 0
  have := rk_run (L := L) (e := e) (b := b) (ty := ty) (σ0 := σ) (τ0 := τ) he t2 a t3 hc hval (e - a) a 0 FU FU (zu σ L 10 0) τ rfl (Nat.le_refl a) hae (by omega) (FU_lt (by omega)) (FU_lt (by omega)) ⟨hf, Ag.rf, by rw [zu_self, upd_ap, if_pos rfl], fun i hi => absurd hi (by rw [t1]; simp), by rw [t1]; trivial⟩
  rw [t1] at this
  exact this
