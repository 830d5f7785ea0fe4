theorem kb_6 : (Int8.ofInt (6)).toInt32 = (6 : Int32) := by decide +kernel
theorem kb_7 : (Int8.ofInt (7)).toInt32 = (7 : Int32) := by decide +kernel
theorem kb_8 : (Int8.ofInt (8)).toInt32 = (8 : Int32) := by decide +kernel
theorem kb_9 : (Int8.ofInt (9)).toInt32 = (9 : Int32) := by decide +kernel
theorem kb_10 : (Int8.ofInt (10)).toInt32 = (10 : Int32) := by decide +kernel
theorem kb_11 : (Int8.ofInt (11)).toInt32 = (11 : Int32) := by decide +kernel
theorem kb_12 : (Int8.ofInt (12)).toInt32 = (12 : Int32) := by decide +kernel
theorem kb_13 : (Int8.ofInt (13)).toInt32 = (13 : Int32) := by decide +kernel
theorem kb_14 : (Int8.ofInt (14)).toInt32 = (14 : Int32) := by decide +kernel
theorem kb_15 : (Int8.ofInt (15)).toInt32 = (15 : Int32) := by decide +kernel
theorem kb_16 : (Int8.ofInt (16)).toInt32 = (16 : Int32) := by decide +kernel
theorem kb_17 : (Int8.ofInt (17)).toInt32 = (17 : Int32) := by decide +kernel
theorem kb_18 : (Int8.ofInt (18)).toInt32 = (18 : Int32) := by decide +kernel
theorem kb_19 : (Int8.ofInt (19)).toInt32 = (19 : Int32) := by decide +kernel
theorem kb_20 : (Int8.ofInt (20)).toInt32 = (20 : Int32) := by decide +kernel
theorem kb_21 : (Int8.ofInt (21)).toInt32 = (21 : Int32) := by decide +kernel
theorem kb_22 : (Int8.ofInt (22)).toInt32 = (22 : Int32) := by decide +kernel
theorem kb_23 : (Int8.ofInt (23)).toInt32 = (23 : Int32) := by decide +kernel
theorem kb_24 : (Int8.ofInt (24)).toInt32 = (24 : Int32) := by decide +kernel
theorem kb_25 : (Int8.ofInt (25)).toInt32 = (25 : Int32) := by decide +kernel
theorem kb_26 : (Int8.ofInt (26)).toInt32 = (26 : Int32) := by decide +kernel
theorem kb_27 : (Int8.ofInt (27)).toInt32 = (27 : Int32) := by decide +kernel
theorem kb_28 : (Int8.ofInt (28)).toInt32 = (28 : Int32) := by decide +kernel
theorem kb_29 : (Int8.ofInt (29)).toInt32 = (29 : Int32) := by decide +kernel
theorem kb_30 : (Int8.ofInt (30)).toInt32 = (30 : Int32) := by decide +kernel
theorem kb_31 : (Int8.ofInt (31)).toInt32 = (31 : Int32) := by decide +kernel
theorem kb_32 : (Int8.ofInt (32)).toInt32 = (32 : Int32) := by decide +kernel
theorem kb_33 : (Int8.ofInt (33)).toInt32 = (33 : Int32) := by decide +kernel
theorem kb_34 : (Int8.ofInt (34)).toInt32 = (34 : Int32) := by decide +kernel
theorem kb_35 : (Int8.ofInt (35)).toInt32 = (35 : Int32) := by decide +kernel
theorem kb_36 : (Int8.ofInt (36)).toInt32 = (36 : Int32) := by decide +kernel
theorem kb_37 : (Int8.ofInt (37)).toInt32 = (37 : Int32) := by decide +kernel
theorem kb_38 : (Int8.ofInt (38)).toInt32 = (38 : Int32) := by decide +kernel
theorem kb_39 : (Int8.ofInt (39)).toInt32 = (39 : Int32) := by decide +kernel
theorem kb_40 : (Int8.ofInt (40)).toInt32 = (40 : Int32) := by decide +kernel
theorem kb_41 : (Int8.ofInt (41)).toInt32 = (41 : Int32) := by decide +kernel
theorem kb_42 : (Int8.ofInt (42)).toInt32 = (42 : Int32) := by decide +kernel
theorem kb_43 : (Int8.ofInt (43)).toInt32 = (43 : Int32) := by decide +kernel
theorem kb_44 : (Int8.ofInt (44)).toInt32 = (44 : Int32) := by decide +kernel
theorem kb_45 : (Int8.ofInt (45)).toInt32 = (45 : Int32) := by decide +kernel
theorem kb_46 : (Int8.ofInt (46)).toInt32 = (46 : Int32) := by decide +kernel
theorem kb_47 : (Int8.ofInt (47)).toInt32 = (47 : Int32) := by decide +kernel
theorem kb_48 : (Int8.ofInt (48)).toInt32 = (48 : Int32) := by decide +kernel
theorem kb_49 : (Int8.ofInt (49)).toInt32 = (49 : Int32) := by decide +kernel
theorem kb_50 : (Int8.ofInt (50)).toInt32 = (50 : Int32) := by decide +kernel
theorem kb_51 : (Int8.ofInt (51)).toInt32 = (51 : Int32) := by decide +kernel
theorem kb_52 : (Int8.ofInt (52)).toInt32 = (52 : Int32) := by decide +kernel
theorem kb_53 : (Int8.ofInt (53)).toInt32 = (53 : Int32) := by decide +kernel
theorem kb_54 : (Int8.ofInt (54)).toInt32 = (54 : Int32) := by decide +kernel
theorem kb_55 : (Int8.ofInt (55)).toInt32 = (55 : Int32) := by decide +kernel
theorem kb_56 : (Int8.ofInt (56)).toInt32 = (56 : Int32) := by decide +kernel
theorem kb_57 : (Int8.ofInt (57)).toInt32 = (57 : Int32) := by decide +kernel
theorem kb_58 : (Int8.ofInt (58)).toInt32 = (58 : Int32) := by decide +kernel
theorem kb_59 : (Int8.ofInt (59)).toInt32 = (59 : Int32) := by decide +kernel
theorem kb_60 : (Int8.ofInt (60)).toInt32 = (60 : Int32) := by decide +kernel
theorem kb_100 : (Int8.ofInt (100)).toInt32 = (100 : Int32) := by decide +kernel
theorem ki_m1 : Int32.ofInt (-1) = (-1 : Int32) := by decide +kernel
theorem ki_0 : Int32.ofInt (0) = (0 : Int32) := by decide +kernel
theorem ki_1 : Int32.ofInt (1) = (1 : Int32) := by decide +kernel
theorem ki_2 : Int32.ofInt (2) = (2 : Int32) := by decide +kernel
theorem ki_3 : Int32.ofInt (3) = (3 : Int32) := by decide +kernel
theorem ki_4 : Int32.ofInt (4) = (4 : Int32) := by decide +kernel
theorem ki_5 : Int32.ofInt (5) = (5 : Int32) := by decide +kernel
theorem ks_100 : (Int16.ofInt (100)).toInt32 = (100 : Int32) := by decide +kernel
theorem ks_128 : (Int16.ofInt (128)).toInt32 = (128 : Int32) := by decide +kernel
theorem ks_200 : (Int16.ofInt (200)).toInt32 = (200 : Int32) := by decide +kernel
theorem ks_250 : (Int16.ofInt (250)).toInt32 = (250 : Int32) := by decide +kernel
theorem ks_255 : (Int16.ofInt (255)).toInt32 = (255 : Int32) := by decide +kernel
theorem fk_1_0 : (1 ≤ 1 ∧ 1 ≤ 11) ∧ 0 < rs_nf 1 ∧ rs_rf 1 0 = 7 ∧ 7 ≠ 0 := by decide
theorem fk_1_1 : (1 ≤ 1 ∧ 1 ≤ 11) ∧ 1 < rs_nf 1 ∧ rs_rf 1 1 = 24 ∧ 24 ≠ 0 := by decide
theorem fk_1_2 : (1 ≤ 1 ∧ 1 ≤ 11) ∧ 2 < rs_nf 1 ∧ rs_rf 1 2 = 8 ∧ 8 ≠ 0 := by decide
theorem fk_1_3 : (1 ≤ 1 ∧ 1 ≤ 11) ∧ 3 < rs_nf 1 ∧ rs_rf 1 3 = 10 ∧ 10 ≠ 0 := by decide
theorem fk_1_4 : (1 ≤ 1 ∧ 1 ≤ 11) ∧ 4 < rs_nf 1 ∧ rs_rf 1 4 = 2 ∧ 2 ≠ 0 := by decide
theorem fk_1_5 : (1 ≤ 1 ∧ 1 ≤ 11) ∧ 5 < rs_nf 1 ∧ rs_rf 1 5 = 4 ∧ 4 ≠ 0 := by decide
theorem fk_2_0 : (1 ≤ 2 ∧ 2 ≤ 11) ∧ 0 < rs_nf 2 ∧ rs_rf 2 0 = 26 ∧ 26 ≠ 0 := by decide
theorem fk_2_1 : (1 ≤ 2 ∧ 2 ≤ 11) ∧ 1 < rs_nf 2 ∧ rs_rf 2 1 = 20 ∧ 20 ≠ 0 := by decide
theorem fk_2_2 : (1 ≤ 2 ∧ 2 ≤ 11) ∧ 2 < rs_nf 2 ∧ rs_rf 2 2 = 21 ∧ 21 ≠ 0 := by decide
theorem fk_3_0 : (1 ≤ 3 ∧ 3 ≤ 11) ∧ 0 < rs_nf 3 ∧ rs_rf 3 0 = 25 ∧ 25 ≠ 0 := by decide
theorem fk_3_1 : (1 ≤ 3 ∧ 3 ≤ 11) ∧ 1 < rs_nf 3 ∧ rs_rf 3 1 = 21 ∧ 21 ≠ 0 := by decide
theorem fk_3_2 : (1 ≤ 3 ∧ 3 ≤ 11) ∧ 2 < rs_nf 3 ∧ rs_rf 3 2 = 21 ∧ 21 ≠ 0 := by decide
theorem fk_3_3 : (1 ≤ 3 ∧ 3 ≤ 11) ∧ 3 < rs_nf 3 ∧ rs_rf 3 3 = 23 ∧ 23 ≠ 0 := by decide
theorem fk_4_0 : (1 ≤ 4 ∧ 4 ≤ 11) ∧ 0 < rs_nf 4 ∧ rs_rf 4 0 = 20 ∧ 20 ≠ 0 := by decide
theorem fk_4_1 : (1 ≤ 4 ∧ 4 ≤ 11) ∧ 1 < rs_nf 4 ∧ rs_rf 4 1 = 0 := by decide
theorem fk_4_2 : (1 ≤ 4 ∧ 4 ≤ 11) ∧ 2 < rs_nf 4 ∧ rs_rf 4 2 = 0 := by decide
theorem fk_4_3 : (1 ≤ 4 ∧ 4 ≤ 11) ∧ 3 < rs_nf 4 ∧ rs_rf 4 3 = 0 := by decide
theorem fk_5_0 : (1 ≤ 5 ∧ 5 ≤ 11) ∧ 0 < rs_nf 5 ∧ rs_rf 5 0 = 20 ∧ 20 ≠ 0 := by decide
theorem fk_5_1 : (1 ≤ 5 ∧ 5 ≤ 11) ∧ 1 < rs_nf 5 ∧ rs_rf 5 1 = 0 := by decide
theorem fk_5_2 : (1 ≤ 5 ∧ 5 ≤ 11) ∧ 2 < rs_nf 5 ∧ rs_rf 5 2 = 0 := by decide
theorem fk_6_0 : (1 ≤ 6 ∧ 6 ≤ 11) ∧ 0 < rs_nf 6 ∧ rs_rf 6 0 = 0 := by decide
theorem fk_6_1 : (1 ≤ 6 ∧ 6 ≤ 11) ∧ 1 < rs_nf 6 ∧ rs_rf 6 1 = 0 := by decide
theorem fk_6_2 : (1 ≤ 6 ∧ 6 ≤ 11) ∧ 2 < rs_nf 6 ∧ rs_rf 6 2 = 0 := by decide
theorem fk_6_3 : (1 ≤ 6 ∧ 6 ≤ 11) ∧ 3 < rs_nf 6 ∧ rs_rf 6 3 = 0 := by decide
theorem fk_6_4 : (1 ≤ 6 ∧ 6 ≤ 11) ∧ 4 < rs_nf 6 ∧ rs_rf 6 4 = 0 := by decide
theorem fk_6_5 : (1 ≤ 6 ∧ 6 ≤ 11) ∧ 5 < rs_nf 6 ∧ rs_rf 6 5 = 9 ∧ 9 ≠ 0 := by decide
theorem fk_6_6 : (1 ≤ 6 ∧ 6 ≤ 11) ∧ 6 < rs_nf 6 ∧ rs_rf 6 6 = 0 := by decide
theorem fk_6_7 : (1 ≤ 6 ∧ 6 ≤ 11) ∧ 7 < rs_nf 6 ∧ rs_rf 6 7 = 0 := by decide
theorem fk_6_8 : (1 ≤ 6 ∧ 6 ≤ 11) ∧ 8 < rs_nf 6 ∧ rs_rf 6 8 = 0 := by decide
theorem fk_6_9 : (1 ≤ 6 ∧ 6 ≤ 11) ∧ 9 < rs_nf 6 ∧ rs_rf 6 9 = 0 := by decide
theorem fk_6_10 : (1 ≤ 6 ∧ 6 ≤ 11) ∧ 10 < rs_nf 6 ∧ rs_rf 6 10 = 0 := by decide
theorem fk_6_11 : (1 ≤ 6 ∧ 6 ≤ 11) ∧ 11 < rs_nf 6 ∧ rs_rf 6 11 = 0 := by decide
theorem fk_6_12 : (1 ≤ 6 ∧ 6 ≤ 11) ∧ 12 < rs_nf 6 ∧ rs_rf 6 12 = 20 ∧ 20 ≠ 0 := by decide
theorem fk_6_13 : (1 ≤ 6 ∧ 6 ≤ 11) ∧ 13 < rs_nf 6 ∧ rs_rf 6 13 = 5 ∧ 5 ≠ 0 := by decide
theorem fk_6_14 : (1 ≤ 6 ∧ 6 ≤ 11) ∧ 14 < rs_nf 6 ∧ rs_rf 6 14 = 20 ∧ 20 ≠ 0 := by decide
theorem fk_6_15 : (1 ≤ 6 ∧ 6 ≤ 11) ∧ 15 < rs_nf 6 ∧ rs_rf 6 15 = 3 ∧ 3 ≠ 0 := by decide
theorem fk_6_16 : (1 ≤ 6 ∧ 6 ≤ 11) ∧ 16 < rs_nf 6 ∧ rs_rf 6 16 = 26 ∧ 26 ≠ 0 := by decide
theorem fk_7_0 : (1 ≤ 7 ∧ 7 ≤ 11) ∧ 0 < rs_nf 7 ∧ rs_rf 7 0 = 20 ∧ 20 ≠ 0 := by decide
theorem fk_7_1 : (1 ≤ 7 ∧ 7 ≤ 11) ∧ 1 < rs_nf 7 ∧ rs_rf 7 1 = 20 ∧ 20 ≠ 0 := by decide
theorem fk_7_2 : (1 ≤ 7 ∧ 7 ≤ 11) ∧ 2 < rs_nf 7 ∧ rs_rf 7 2 = 21 ∧ 21 ≠ 0 := by decide
theorem fk_7_3 : (1 ≤ 7 ∧ 7 ≤ 11) ∧ 3 < rs_nf 7 ∧ rs_rf 7 3 = 0 := by decide
theorem fk_8_0 : (1 ≤ 8 ∧ 8 ≤ 11) ∧ 0 < rs_nf 8 ∧ rs_rf 8 0 = 0 := by decide
theorem fk_8_1 : (1 ≤ 8 ∧ 8 ≤ 11) ∧ 1 < rs_nf 8 ∧ rs_rf 8 1 = 0 := by decide
theorem fk_8_2 : (1 ≤ 8 ∧ 8 ≤ 11) ∧ 2 < rs_nf 8 ∧ rs_rf 8 2 = 20 ∧ 20 ≠ 0 := by decide
theorem fk_8_3 : (1 ≤ 8 ∧ 8 ≤ 11) ∧ 3 < rs_nf 8 ∧ rs_rf 8 3 = 0 := by decide
theorem fk_8_4 : (1 ≤ 8 ∧ 8 ≤ 11) ∧ 4 < rs_nf 8 ∧ rs_rf 8 4 = 0 := by decide
theorem fk_8_5 : (1 ≤ 8 ∧ 8 ≤ 11) ∧ 5 < rs_nf 8 ∧ rs_rf 8 5 = 0 := by decide
theorem fk_8_6 : (1 ≤ 8 ∧ 8 ≤ 11) ∧ 6 < rs_nf 8 ∧ rs_rf 8 6 = 0 := by decide
theorem fk_8_7 : (1 ≤ 8 ∧ 8 ≤ 11) ∧ 7 < rs_nf 8 ∧ rs_rf 8 7 = 0 := by decide
theorem fk_8_8 : (1 ≤ 8 ∧ 8 ≤ 11) ∧ 8 < rs_nf 8 ∧ rs_rf 8 8 = 20 ∧ 20 ≠ 0 := by decide
theorem fk_9_0 : (1 ≤ 9 ∧ 9 ≤ 11) ∧ 0 < rs_nf 9 ∧ rs_rf 9 0 = 20 ∧ 20 ≠ 0 := by decide
theorem fk_9_1 : (1 ≤ 9 ∧ 9 ≤ 11) ∧ 1 < rs_nf 9 ∧ rs_rf 9 1 = 20 ∧ 20 ≠ 0 := by decide
theorem fk_9_2 : (1 ≤ 9 ∧ 9 ≤ 11) ∧ 2 < rs_nf 9 ∧ rs_rf 9 2 = 20 ∧ 20 ≠ 0 := by decide
theorem fk_9_3 : (1 ≤ 9 ∧ 9 ≤ 11) ∧ 3 < rs_nf 9 ∧ rs_rf 9 3 = 0 := by decide
theorem fk_10_0 : (1 ≤ 10 ∧ 10 ≤ 11) ∧ 0 < rs_nf 10 ∧ rs_rf 10 0 = 8 ∧ 8 ≠ 0 := by decide
theorem fk_10_1 : (1 ≤ 10 ∧ 10 ≤ 11) ∧ 1 < rs_nf 10 ∧ rs_rf 10 1 = 21 ∧ 21 ≠ 0 := by decide
theorem fk_10_2 : (1 ≤ 10 ∧ 10 ≤ 11) ∧ 2 < rs_nf 10 ∧ rs_rf 10 2 = 20 ∧ 20 ≠ 0 := by decide
theorem fk_10_3 : (1 ≤ 10 ∧ 10 ≤ 11) ∧ 3 < rs_nf 10 ∧ rs_rf 10 3 = 0 := by decide
theorem fk_10_4 : (1 ≤ 10 ∧ 10 ≤ 11) ∧ 4 < rs_nf 10 ∧ rs_rf 10 4 = 0 := by decide
theorem fk_10_5 : (1 ≤ 10 ∧ 10 ≤ 11) ∧ 5 < rs_nf 10 ∧ rs_rf 10 5 = 0 := by decide
theorem fk_10_6 : (1 ≤ 10 ∧ 10 ≤ 11) ∧ 6 < rs_nf 10 ∧ rs_rf 10 6 = 0 := by decide
theorem fk_10_7 : (1 ≤ 10 ∧ 10 ≤ 11) ∧ 7 < rs_nf 10 ∧ rs_rf 10 7 = 0 := by decide
theorem fk_11_0 : (1 ≤ 11 ∧ 11 ≤ 11) ∧ 0 < rs_nf 11 ∧ rs_rf 11 0 = 0 := by decide
theorem fk_11_1 : (1 ≤ 11 ∧ 11 ≤ 11) ∧ 1 < rs_nf 11 ∧ rs_rf 11 1 = 20 ∧ 20 ≠ 0 := by decide
theorem fk_11_2 : (1 ≤ 11 ∧ 11 ≤ 11) ∧ 2 < rs_nf 11 ∧ rs_rf 11 2 = 20 ∧ 20 ≠ 0 := by decide
theorem fk_11_3 : (1 ≤ 11 ∧ 11 ≤ 11) ∧ 3 < rs_nf 11 ∧ rs_rf 11 3 = 20 ∧ 20 ≠ 0 := by decide
theorem fk_11_4 : (1 ≤ 11 ∧ 11 ≤ 11) ∧ 4 < rs_nf 11 ∧ rs_rf 11 4 = 20 ∧ 20 ≠ 0 := by decide
theorem fk_11_5 : (1 ≤ 11 ∧ 11 ≤ 11) ∧ 5 < rs_nf 11 ∧ rs_rf 11 5 = 20 ∧ 20 ≠ 0 := by decide
theorem fk_11_6 : (1 ≤ 11 ∧ 11 ≤ 11) ∧ 6 < rs_nf 11 ∧ rs_rf 11 6 = 20 ∧ 20 ≠ 0 := by decide
theorem fk_11_7 : (1 ≤ 11 ∧ 11 ≤ 11) ∧ 7 < rs_nf 11 ∧ rs_rf 11 7 = 20 ∧ 20 ≠ 0 := by decide
theorem fk_11_8 : (1 ≤ 11 ∧ 11 ≤ 11) ∧ 8 < rs_nf 11 ∧ rs_rf 11 8 = 20 ∧ 20 ≠ 0 := by decide
theorem fk_11_9 : (1 ≤ 11 ∧ 11 ≤ 11) ∧ 9 < rs_nf 11 ∧ rs_rf 11 9 = 20 ∧ 20 ≠ 0 := by decide
theorem fk_11_10 : (1 ≤ 11 ∧ 11 ≤ 11) ∧ 10 < rs_nf 11 ∧ rs_rf 11 10 = 20 ∧ 20 ≠ 0 := by decide
theorem fk_11_11 : (1 ≤ 11 ∧ 11 ≤ 11) ∧ 11 < rs_nf 11 ∧ rs_rf 11 11 = 20 ∧ 20 ≠ 0 := by decide
theorem fk_11_12 : (1 ≤ 11 ∧ 11 ≤ 11) ∧ 12 < rs_nf 11 ∧ rs_rf 11 12 = 20 ∧ 20 ≠ 0 := by decide
theorem fk_11_13 : (1 ≤ 11 ∧ 11 ≤ 11) ∧ 13 < rs_nf 11 ∧ rs_rf 11 13 = 20 ∧ 20 ≠ 0 := by decide
theorem fk_11_14 : (1 ≤ 11 ∧ 11 ≤ 11) ∧ 14 < rs_nf 11 ∧ rs_rf 11 14 = 20 ∧ 20 ≠ 0 := by decide
theorem fk_11_15 : (1 ≤ 11 ∧ 11 ≤ 11) ∧ 15 < rs_nf 11 ∧ rs_rf 11 15 = 20 ∧ 20 ≠ 0 := by decide
theorem fk_11_16 : (1 ≤ 11 ∧ 11 ≤ 11) ∧ 16 < rs_nf 11 ∧ rs_rf 11 16 = 20 ∧ 20 ≠ 0 := by decide
theorem fk_11_17 : (1 ≤ 11 ∧ 11 ≤ 11) ∧ 17 < rs_nf 11 ∧ rs_rf 11 17 = 20 ∧ 20 ≠ 0 := by decide
theorem fk_11_18 : (1 ≤ 11 ∧ 11 ≤ 11) ∧ 18 < rs_nf 11 ∧ rs_rf 11 18 = 20 ∧ 20 ≠ 0 := by decide
theorem fk_11_19 : (1 ≤ 11 ∧ 11 ≤ 11) ∧ 19 < rs_nf 11 ∧ rs_rf 11 19 = 20 ∧ 20 ≠ 0 := by decide
theorem fk_11_20 : (1 ≤ 11 ∧ 11 ≤ 11) ∧ 20 < rs_nf 11 ∧ rs_rf 11 20 = 0 := by decide
theorem fk_11_21 : (1 ≤ 11 ∧ 11 ≤ 11) ∧ 21 < rs_nf 11 ∧ rs_rf 11 21 = 0 := by decide
theorem fk_11_22 : (1 ≤ 11 ∧ 11 ≤ 11) ∧ 22 < rs_nf 11 ∧ rs_rf 11 22 = 20 ∧ 20 ≠ 0 := by decide
theorem fk_11_23 : (1 ≤ 11 ∧ 11 ≤ 11) ∧ 23 < rs_nf 11 ∧ rs_rf 11 23 = 20 ∧ 20 ≠ 0 := by decide
theorem fk_11_24 : (1 ≤ 11 ∧ 11 ≤ 11) ∧ 24 < rs_nf 11 ∧ rs_rf 11 24 = 21 ∧ 21 ≠ 0 := by decide
theorem fk_11_25 : (1 ≤ 11 ∧ 11 ≤ 11) ∧ 25 < rs_nf 11 ∧ rs_rf 11 25 = 20 ∧ 20 ≠ 0 := by decide
theorem fk_11_26 : (1 ≤ 11 ∧ 11 ≤ 11) ∧ 26 < rs_nf 11 ∧ rs_rf 11 26 = 20 ∧ 20 ≠ 0 := by decide
theorem fk_11_27 : (1 ≤ 11 ∧ 11 ≤ 11) ∧ 27 < rs_nf 11 ∧ rs_rf 11 27 = 20 ∧ 20 ≠ 0 := by decide
theorem fk_11_28 : (1 ≤ 11 ∧ 11 ≤ 11) ∧ 28 < rs_nf 11 ∧ rs_rf 11 28 = 20 ∧ 20 ≠ 0 := by decide
theorem fk_11_29 : (1 ≤ 11 ∧ 11 ≤ 11) ∧ 29 < rs_nf 11 ∧ rs_rf 11 29 = 20 ∧ 20 ≠ 0 := by decide
theorem fk_11_30 : (1 ≤ 11 ∧ 11 ≤ 11) ∧ 30 < rs_nf 11 ∧ rs_rf 11 30 = 20 ∧ 20 ≠ 0 := by decide
theorem fk_11_31 : (1 ≤ 11 ∧ 11 ≤ 11) ∧ 31 < rs_nf 11 ∧ rs_rf 11 31 = 20 ∧ 20 ≠ 0 := by decide
theorem fk_11_32 : (1 ≤ 11 ∧ 11 ≤ 11) ∧ 32 < rs_nf 11 ∧ rs_rf 11 32 = 20 ∧ 20 ≠ 0 := by decide
theorem fk_11_33 : (1 ≤ 11 ∧ 11 ≤ 11) ∧ 33 < rs_nf 11 ∧ rs_rf 11 33 = 20 ∧ 20 ≠ 0 := by decide
theorem fk_11_34 : (1 ≤ 11 ∧ 11 ≤ 11) ∧ 34 < rs_nf 11 ∧ rs_rf 11 34 = 23 ∧ 23 ≠ 0 := by decide
theorem fk_11_35 : (1 ≤ 11 ∧ 11 ≤ 11) ∧ 35 < rs_nf 11 ∧ rs_rf 11 35 = 21 ∧ 21 ≠ 0 := by decide
theorem fk_11_36 : (1 ≤ 11 ∧ 11 ≤ 11) ∧ 36 < rs_nf 11 ∧ rs_rf 11 36 = 20 ∧ 20 ≠ 0 := by decide
theorem fk_11_37 : (1 ≤ 11 ∧ 11 ≤ 11) ∧ 37 < rs_nf 11 ∧ rs_rf 11 37 = 20 ∧ 20 ≠ 0 := by decide
theorem fk_11_38 : (1 ≤ 11 ∧ 11 ≤ 11) ∧ 38 < rs_nf 11 ∧ rs_rf 11 38 = 20 ∧ 20 ≠ 0 := by decide
theorem fk_11_39 : (1 ≤ 11 ∧ 11 ≤ 11) ∧ 39 < rs_nf 11 ∧ rs_rf 11 39 = 20 ∧ 20 ≠ 0 := by decide
theorem fk_11_40 : (1 ≤ 11 ∧ 11 ≤ 11) ∧ 40 < rs_nf 11 ∧ rs_rf 11 40 = 21 ∧ 21 ≠ 0 := by decide
theorem ak_24 : (24 ≤ 24 ∧ 24 ≤ 26) ∧ rs_ae 24 = 6 ∧ (rs_et 24).isReference = true := by decide
theorem ak_25 : (24 ≤ 25 ∧ 25 ≤ 26) ∧ rs_ae 25 = 8 ∧ (rs_et 25).isReference = true := by decide
theorem ak_26 : (24 ≤ 26 ∧ 26 ≤ 26) ∧ rs_ae 26 = 20 ∧ (rs_et 26).isReference = true := by decide
theorem nw_0 : ("RouteSpeaker$Rules", 25, ({ cls := "RouteSpeaker", name := "isWithin", desc := "(IIII)Z" } : Jvm.MethodName), "RouteSpeaker") ∈ rs_NW := List.mem_of_getElem? (i := 0) rfl
theorem nw_1 : ("RouteSpeaker$Peer", 57, ({ cls := "RouteSpeaker", name := "isWithin", desc := "(IIII)Z" } : Jvm.MethodName), "RouteSpeaker") ∈ rs_NW := List.mem_of_getElem? (i := 1) rfl
theorem nw_2 : ("RouteSpeaker$Peer", 127, ({ cls := "RouteSpeaker", name := "isNumber", desc := "(I)Z" } : Jvm.MethodName), "RouteSpeaker") ∈ rs_NW := List.mem_of_getElem? (i := 2) rfl
theorem nw_3 : ("RouteSpeaker$Update", 111, ({ cls := "RouteSpeaker", name := "isNumber", desc := "(I)Z" } : Jvm.MethodName), "RouteSpeaker") ∈ rs_NW := List.mem_of_getElem? (i := 3) rfl
theorem nw_4 : ("RouteSpeaker$Update", 130, ({ cls := "RouteSpeaker", name := "isPrefix", desc := "(II)Z" } : Jvm.MethodName), "RouteSpeaker") ∈ rs_NW := List.mem_of_getElem? (i := 4) rfl
theorem mw_min : Cond.code Lib.Math.min.name Lib.Math.min.code 2 (some .int) ∈ rs_W := tw_717
theorem rs_sw_0_6 (x : Int32) : (x.toInt < 0 ∨ 6 < x.toInt) ∨ x = 0 ∨ x = 1 ∨ x = 2 ∨ x = 3 ∨ x = 4 ∨ x = 5 ∨ x = 6 := by
  by_cases h : x.toInt < 0 ∨ 6 < x.toInt
  · exact Or.inl h
  · refine Or.inr ?_
    have e : x.toInt = 0 ∨ x.toInt = 1 ∨ x.toInt = 2 ∨ x.toInt = 3 ∨ x.toInt = 4 ∨ x.toInt = 5 ∨ x.toInt = 6 := by omega
    rcases e with e | e | e | e | e | e | e
    · exact Or.inl (Int32.toInt_inj.mp (e.trans (by decide +kernel : (0 : Int) = (0 : Int32).toInt)))
    · exact Or.inr (Or.inl (Int32.toInt_inj.mp (e.trans (by decide +kernel : (1 : Int) = (1 : Int32).toInt))))
    · exact Or.inr (Or.inr (Or.inl (Int32.toInt_inj.mp (e.trans (by decide +kernel : (2 : Int) = (2 : Int32).toInt)))))
    · exact Or.inr (Or.inr (Or.inr (Or.inl (Int32.toInt_inj.mp (e.trans (by decide +kernel : (3 : Int) = (3 : Int32).toInt))))))
    · exact Or.inr (Or.inr (Or.inr (Or.inr (Or.inl (Int32.toInt_inj.mp (e.trans (by decide +kernel : (4 : Int) = (4 : Int32).toInt)))))))
    · exact Or.inr (Or.inr (Or.inr (Or.inr (Or.inr (Or.inl (Int32.toInt_inj.mp (e.trans (by decide +kernel : (5 : Int) = (5 : Int32).toInt))))))))
    · exact Or.inr (Or.inr (Or.inr (Or.inr (Or.inr (Or.inr ((Int32.toInt_inj.mp (e.trans (by decide +kernel : (6 : Int) = (6 : Int32).toInt)))))))))
theorem rs_sw_1_3 (x : Int32) : (x.toInt < 1 ∨ 3 < x.toInt) ∨ x = 1 ∨ x = 2 ∨ x = 3 := by
  by_cases h : x.toInt < 1 ∨ 3 < x.toInt
  · exact Or.inl h
  · refine Or.inr ?_
    have e : x.toInt = 1 ∨ x.toInt = 2 ∨ x.toInt = 3 := by omega
    rcases e with e | e | e
    · exact Or.inl (Int32.toInt_inj.mp (e.trans (by decide +kernel : (1 : Int) = (1 : Int32).toInt)))
    · exact Or.inr (Or.inl (Int32.toInt_inj.mp (e.trans (by decide +kernel : (2 : Int) = (2 : Int32).toInt))))
    · exact Or.inr (Or.inr ((Int32.toInt_inj.mp (e.trans (by decide +kernel : (3 : Int) = (3 : Int32).toInt)))))
theorem rs_sw_1_5 (x : Int32) : (x.toInt < 1 ∨ 5 < x.toInt) ∨ x = 1 ∨ x = 2 ∨ x = 3 ∨ x = 4 ∨ x = 5 := by
  by_cases h : x.toInt < 1 ∨ 5 < x.toInt
  · exact Or.inl h
  · refine Or.inr ?_
    have e : x.toInt = 1 ∨ x.toInt = 2 ∨ x.toInt = 3 ∨ x.toInt = 4 ∨ x.toInt = 5 := by omega
    rcases e with e | e | e | e | e
    · exact Or.inl (Int32.toInt_inj.mp (e.trans (by decide +kernel : (1 : Int) = (1 : Int32).toInt)))
    · exact Or.inr (Or.inl (Int32.toInt_inj.mp (e.trans (by decide +kernel : (2 : Int) = (2 : Int32).toInt))))
    · exact Or.inr (Or.inr (Or.inl (Int32.toInt_inj.mp (e.trans (by decide +kernel : (3 : Int) = (3 : Int32).toInt)))))
    · exact Or.inr (Or.inr (Or.inr (Or.inl (Int32.toInt_inj.mp (e.trans (by decide +kernel : (4 : Int) = (4 : Int32).toInt))))))
    · exact Or.inr (Or.inr (Or.inr (Or.inr ((Int32.toInt_inj.mp (e.trans (by decide +kernel : (5 : Int) = (5 : Int32).toInt)))))))
theorem rs_sw_1_10 (x : Int32) : (x.toInt < 1 ∨ 10 < x.toInt) ∨ x = 1 ∨ x = 2 ∨ x = 3 ∨ x = 4 ∨ x = 5 ∨ x = 6 ∨ x = 7 ∨ x = 8 ∨ x = 9 ∨ x = 10 := by
  by_cases h : x.toInt < 1 ∨ 10 < x.toInt
  · exact Or.inl h
  · refine Or.inr ?_
    have e : x.toInt = 1 ∨ x.toInt = 2 ∨ x.toInt = 3 ∨ x.toInt = 4 ∨ x.toInt = 5 ∨ x.toInt = 6 ∨ x.toInt = 7 ∨ x.toInt = 8 ∨ x.toInt = 9 ∨ x.toInt = 10 := by omega
    rcases e with e | e | e | e | e | e | e | e | e | e
    · exact Or.inl (Int32.toInt_inj.mp (e.trans (by decide +kernel : (1 : Int) = (1 : Int32).toInt)))
    · exact Or.inr (Or.inl (Int32.toInt_inj.mp (e.trans (by decide +kernel : (2 : Int) = (2 : Int32).toInt))))
    · exact Or.inr (Or.inr (Or.inl (Int32.toInt_inj.mp (e.trans (by decide +kernel : (3 : Int) = (3 : Int32).toInt)))))
    · exact Or.inr (Or.inr (Or.inr (Or.inl (Int32.toInt_inj.mp (e.trans (by decide +kernel : (4 : Int) = (4 : Int32).toInt))))))
    · exact Or.inr (Or.inr (Or.inr (Or.inr (Or.inl (Int32.toInt_inj.mp (e.trans (by decide +kernel : (5 : Int) = (5 : Int32).toInt)))))))
    · exact Or.inr (Or.inr (Or.inr (Or.inr (Or.inr (Or.inl (Int32.toInt_inj.mp (e.trans (by decide +kernel : (6 : Int) = (6 : Int32).toInt))))))))
    · exact Or.inr (Or.inr (Or.inr (Or.inr (Or.inr (Or.inr (Or.inl (Int32.toInt_inj.mp (e.trans (by decide +kernel : (7 : Int) = (7 : Int32).toInt)))))))))
    · exact Or.inr (Or.inr (Or.inr (Or.inr (Or.inr (Or.inr (Or.inr (Or.inl (Int32.toInt_inj.mp (e.trans (by decide +kernel : (8 : Int) = (8 : Int32).toInt))))))))))
    · exact Or.inr (Or.inr (Or.inr (Or.inr (Or.inr (Or.inr (Or.inr (Or.inr (Or.inl (Int32.toInt_inj.mp (e.trans (by decide +kernel : (9 : Int) = (9 : Int32).toInt)))))))))))
    · exact Or.inr (Or.inr (Or.inr (Or.inr (Or.inr (Or.inr (Or.inr (Or.inr (Or.inr ((Int32.toInt_inj.mp (e.trans (by decide +kernel : (10 : Int) = (10 : Int32).toInt))))))))))))
theorem rs_sw_2_7 (x : Int32) : (x.toInt < 2 ∨ 7 < x.toInt) ∨ x = 2 ∨ x = 3 ∨ x = 4 ∨ x = 5 ∨ x = 6 ∨ x = 7 := by
  by_cases h : x.toInt < 2 ∨ 7 < x.toInt
  · exact Or.inl h
  · refine Or.inr ?_
    have e : x.toInt = 2 ∨ x.toInt = 3 ∨ x.toInt = 4 ∨ x.toInt = 5 ∨ x.toInt = 6 ∨ x.toInt = 7 := by omega
    rcases e with e | e | e | e | e | e
    · exact Or.inl (Int32.toInt_inj.mp (e.trans (by decide +kernel : (2 : Int) = (2 : Int32).toInt)))
    · exact Or.inr (Or.inl (Int32.toInt_inj.mp (e.trans (by decide +kernel : (3 : Int) = (3 : Int32).toInt))))
    · exact Or.inr (Or.inr (Or.inl (Int32.toInt_inj.mp (e.trans (by decide +kernel : (4 : Int) = (4 : Int32).toInt)))))
    · exact Or.inr (Or.inr (Or.inr (Or.inl (Int32.toInt_inj.mp (e.trans (by decide +kernel : (5 : Int) = (5 : Int32).toInt))))))
    · exact Or.inr (Or.inr (Or.inr (Or.inr (Or.inl (Int32.toInt_inj.mp (e.trans (by decide +kernel : (6 : Int) = (6 : Int32).toInt)))))))
    · exact Or.inr (Or.inr (Or.inr (Or.inr (Or.inr ((Int32.toInt_inj.mp (e.trans (by decide +kernel : (7 : Int) = (7 : Int32).toInt))))))))
/-- the memory behind System.arraycopy of the first n ints -/
def rs_cp (σ : rs_Mem) (a b n : Nat) : rs_Mem := (fun u j => if u = b ∧ j < n then σ.1 a j else σ.1 u j, σ.2)
theorem rs_nn (z : Int32) (hz : ¬ z < 0) : z.toInt = (z.toNatClampNeg : Int) := by
  have h0 : (0 : Int) ≤ z.toInt := by
    have := Int32.not_lt.mp hz
    simpa using Int32.le_iff_toInt_le.mp this
  show z.toInt = ((z.toInt.toNat : Nat) : Int)
  omega
theorem rs_copy {p : Program} {l : Launch} {e : Env} {R : Room} {s : State} {m : MethodId} {args : Array Value} {below : List Frame} {meth : Method} {c : Code} {H : Heap} {locs : List Loc} {cells slots : Nat} {Q : State → Prop} {cc : ByteArray} {pc : Nat} {ls : Array Slot} {rest : List Value} {G : rs_G} {Bm : Nat} {S : rs_Shp} {σ : rs_Mem} {own : String} {nL : Nat} {ret : Option FieldType} {H0 : Heap} {lv : List (Nat × Value)}
    (C : rs_C own cc nL ret G p s m meth c args) (hH : rs_H G Bm S σ H) (hT : rs_T S σ) (hS : va_S (rs_A Bm) H0 H locs) (hl : lv_has ls nL lv) {a b index : Nat} (ha : rs_Ok S 20 a) (hb2 : rs_Ok S 20 b) {n : Int32} (g : ¬ n < 0 ∧ n.toNatClampNeg ≤ S.2.2 a ∧ n.toNatClampNeg ≤ S.2.2 b ∧ a ≠ b)
    (hlink : Cond.methodLink own index arraycopyName ∈ rs_W) (hnat : Cond.native arraycopyName ∈ rs_W) (hstat : Cond.static arraycopyName ∈ rs_W) (hini : Cond.initialized "java/lang/System" ∈ rs_W)
    (hR : 1 ≤ R.frames ∧ (rest.map fun v => v.category).sum + (nativeFrameWords "java/lang/System" "arraycopy" 5 + 11) ≤ R.locals) (hdg : decode cc pc = .ok (.invokestatic index, 3))
    (kk : ∀ (σ1 : rs_Mem) (H1 : Heap) (locs1 : List Loc), σ1 = rs_cp σ a b n.toNatClampNeg → rs_H G Bm S σ1 H1 → rs_T S σ1 → va_S (rs_A Bm) H0 H1 locs1 → W p l e R s m args below meth c H1 locs1 cells slots Q (F0 m (pc + 3) ls rest)) : W p l e R s m args below meth c H locs cells slots Q (F0 m pc ls (.int n :: .int 0 :: .ref (Bm + b) :: .int 0 :: .ref (Bm + a) :: rest)) := by
  obtain ⟨hx, hb, hml, -, hown, hts, hK, -⟩ := C
  obtain ⟨g1, g2, g3, g4⟩ := g
  have hca := rs_arr hH ha (by omega) (by omega)
  have hcb := rs_arr hH hb2 (by omega) (by omega)
  have z0 : ¬ (0 : Int32) < 0 := by decide
  have z1 : (0 : Int32).toInt = 0 := by decide
  have z2 : (0 : Int32).toNatClampNeg = 0 := by decide
  intro T hT' X
  obtain ⟨-, k0, hk0, cm0, hkk0⟩ := (hK.2.1 20 (by omega) (by omega)).1 (S.2.2 a) (rs_av Bm σ a 20)
  obtain ⟨-, k1, hk1, cm1, hkk1⟩ := (hK.2.1 20 (by omega) (by omega)).1 (S.2.2 b) (rs_av Bm σ b 20)
  have av : ∀ u, rs_av Bm σ u 20 = fun j => .int (rs_I σ u j) := fun u => by funext j; simp [rs_av]
  obtain ⟨vm', X', step⟩ := X.arraycopy hx hown (hts _ hlink) (hts _ hnat) (hts _ hstat) (hts _ hini) (src := Bm + a) (dst := Bm + b) (cs := arrV (G.2 20) (S.2.2 a) (rs_av Bm σ a 20)) (cd := arrV (G.2 20) (S.2.2 b) (rs_av Bm σ b 20)) (srcPos := 0) (destPos := 0) (n := n) (by rw [hT']; exact hca) (by rw [hT']; exact hcb)
    (fun _ h => by cases h) (fun _ h => by cases h) (fun h => by cases h) (fun h => by cases h) hk0 hk1 hkk0 hkk1 (by decide) z0 z0 g1
    (by rw [z1, rs_nn n g1, arrV_size]; omega) (by rw [z1, rs_nn n g1, arrV_size]; omega)
    (fun vm₁ _ i hi => by
      have e : (arrV (G.2 20) (S.2.2 a) (rs_av Bm σ a 20)).slots.getD ((0 : Int32).toNatClampNeg + i) .null = .int (rs_I σ a i) := by
        rw [z2, Nat.zero_add, Array.getD_eq_getD_getElem?, arrV_read _ _ (by omega), av]
        rfl
      rw [e]
      exact ⟨rfl, trivial⟩)
    (g := F0 m pc ls (.int n :: .int 0 :: .ref (Bm + b) :: .int 0 :: .ref (Bm + a) :: rest)) rfl (by rw [hml]; exact hl.1) (rest := rest) rfl (by rw [hb]; exact hdg) hR.1 (by show 2 * 0 + _ + _ ≤ _; have := hR.2; omega)
  have e1 : copied (arrV (G.2 20) (S.2.2 a) (rs_av Bm σ a 20)) (arrV (G.2 20) (S.2.2 b) (rs_av Bm σ b 20)) 0 0 n = arrV (G.2 20) (S.2.2 b) (fun j => .int (va_cpy (rs_I σ a) (rs_I σ b) (0 : Int32).toNatClampNeg (0 : Int32).toNatClampNeg n.toNatClampNeg j)) := by
    rw [av, av]
    exact va_copied (fun z => .int z) _ _ _ _ (by rw [z2]; omega)
  rw [e1] at X' step
  have hlb : Bm + b < H.size := (Array.getElem?_eq_some_iff.mp hcb).1
  have oq : ∀ (q : Nat) (x : Cell), q ≠ Bm + b → (H.setIfInBounds (Bm + b) x)[q]? = H[q]? := fun q x hq => by simp [Array.getElem?_setIfInBounds, Ne.symm hq]
  have hA : rs_A Bm (Bm + b) := by show Bm < Bm + b; have := hb2.1; omega
  have hT1 : rs_T S (rs_cp σ a b n.toNatClampNeg) := hT
  have hoff : rs_off σ (rs_cp σ a b n.toNatClampNeg) b := fun u hu j => ⟨by simp [rs_I, rs_cp, hu], rfl, rfl, rfl⟩
  have hH1 : rs_H G Bm S (rs_cp σ a b n.toNatClampNeg) (H.setIfInBounds (Bm + b) (arrV (G.2 20) (S.2.2 b) (fun j => .int (va_cpy (rs_I σ a) (rs_I σ b) (0 : Int32).toNatClampNeg (0 : Int32).toNatClampNeg n.toNatClampNeg j)))) := by
    refine hH.put hoff (by simp) (fun q hq => oq q _ hq) ?_
    obtain ⟨p1, p2, p3⟩ := hb2
    refine ⟨fun _ h => by omega, fun _ _ => ?_⟩
    rw [p3]
    have e2 : rs_av Bm (rs_cp σ a b n.toNatClampNeg) b 20 = fun j => .int (va_cpy (rs_I σ a) (rs_I σ b) (0 : Int32).toNatClampNeg (0 : Int32).toNatClampNeg n.toNatClampNeg j) := by
      funext j
      simp [rs_av, rs_I, rs_cp, va_cpy, z2]
    rw [e2]
    simp [Array.getElem?_setIfInBounds, hlb]
  obtain ⟨t, a1, b1⟩ := kk _ _ _ rfl hH1 hT1 ⟨by simp; exact hS.1, fun q g1 g2 => by
      rw [oq q _ (fun e => g2 (by rw [e]; exact hA))]
      exact hS.2.1 q g1 g2, fun q hq => by
      rcases List.mem_append.mp hq with h | h
      · exact hS.2.2 q h
      · obtain ⟨z, -, hz⟩ := List.mem_map.mp h
        rw [← hz]
        exact hA⟩ _ (by rw [← hT']; rfl) X'
  exact ⟨t, step t a1, b1⟩
