/-! light calls: what follows for the law -/
theorem ke_0 : okW 0 0 [] [] = true := (and_tt kb_0).1
theorem ke_1 : okW 0 1 [rX 0 0] [] = true := (and_tt (and_tt kb_0).2).1
theorem ke_2 : okW 0 2 [] [] = true := (and_tt (and_tt (and_tt kb_0).2).2).1
theorem ke_3 : okW 0 3 [rX 0 1] [] = true := (and_tt (and_tt (and_tt (and_tt kb_0).2).2).2).1
theorem ke_4 : okW 0 3 [rT 0 1, rX 0 5] [] = true := (and_tt (and_tt (and_tt (and_tt (and_tt kb_0).2).2).2).2).1
theorem ke_5 : okW 0 3 [rI 0 2, rI 0 6] [] = true := (and_tt (and_tt (and_tt (and_tt (and_tt (and_tt kb_0).2).2).2).2).2).1
theorem ke_6 : okW 0 4 [rX 0 5] [] = true := (and_tt (and_tt (and_tt (and_tt (and_tt (and_tt (and_tt kb_0).2).2).2).2).2).2).1
theorem ke_7 : okW 0 4 [rI 0 6] [] = true := (and_tt (and_tt (and_tt (and_tt (and_tt (and_tt (and_tt (and_tt kb_0).2).2).2).2).2).2).2).1
theorem ke_8 : okW 0 5 [rX 0 95] [] = true := (and_tt (and_tt (and_tt (and_tt (and_tt (and_tt (and_tt (and_tt (and_tt kb_0).2).2).2).2).2).2).2).2).1
theorem ke_9 : okW 0 5 [rI 0 96] [] = true := (and_tt (and_tt (and_tt (and_tt (and_tt (and_tt (and_tt (and_tt (and_tt (and_tt kb_0).2).2).2).2).2).2).2).2).2).1
theorem ke_10 : okW 0 7 [rX 0 1] [] = true := (and_tt (and_tt (and_tt (and_tt (and_tt (and_tt (and_tt (and_tt (and_tt (and_tt (and_tt kb_0).2).2).2).2).2).2).2).2).2).2).1
theorem ke_11 : okW 0 7 [rT 0 1, rX 0 23] [] = true := (and_tt (and_tt (and_tt (and_tt (and_tt (and_tt (and_tt (and_tt (and_tt (and_tt (and_tt (and_tt kb_0).2).2).2).2).2).2).2).2).2).2).2).1
theorem ke_12 : okW 0 7 [rT 0 1, rT 0 23, rX 0 3] [] = true := (and_tt (and_tt (and_tt (and_tt (and_tt (and_tt (and_tt (and_tt (and_tt (and_tt (and_tt (and_tt (and_tt kb_0).2).2).2).2).2).2).2).2).2).2).2).2).1
theorem ke_13 : okW 0 7 [rI 0 2, rI 0 24, rT 0 3] [] = true := (and_tt (and_tt (and_tt (and_tt (and_tt (and_tt (and_tt (and_tt (and_tt (and_tt (and_tt (and_tt (and_tt (and_tt kb_0).2).2).2).2).2).2).2).2).2).2).2).2).2).1
theorem ke_14 : okW 0 8 [rX 0 1] [] = true := (and_tt (and_tt (and_tt (and_tt (and_tt (and_tt (and_tt (and_tt (and_tt (and_tt (and_tt (and_tt (and_tt (and_tt (and_tt kb_0).2).2).2).2).2).2).2).2).2).2).2).2).2).2).1
theorem ke_15 : okW 0 8 [rT 0 1, rX 0 95] [] = true := (and_tt (and_tt (and_tt (and_tt (and_tt (and_tt (and_tt (and_tt (and_tt (and_tt (and_tt (and_tt (and_tt (and_tt (and_tt (and_tt kb_0).2).2).2).2).2).2).2).2).2).2).2).2).2).2).2).1
theorem ke_16 : okW 0 8 [rT 0 1, rT 0 95, rX 0 3] [] = true := (and_tt (and_tt (and_tt (and_tt (and_tt (and_tt (and_tt (and_tt (and_tt (and_tt (and_tt (and_tt (and_tt (and_tt (and_tt (and_tt (and_tt kb_0).2).2).2).2).2).2).2).2).2).2).2).2).2).2).2).2).1
theorem ke_17 : okW 0 8 [rI 0 2, rI 0 96, rT 0 3] [] = true := (and_tt (and_tt (and_tt (and_tt (and_tt (and_tt (and_tt (and_tt (and_tt (and_tt (and_tt (and_tt (and_tt (and_tt (and_tt (and_tt (and_tt (and_tt kb_0).2).2).2).2).2).2).2).2).2).2).2).2).2).2).2).2).2).1
theorem ke_18 : okW 0 9 [rX 0 1] [] = true := (and_tt (and_tt (and_tt (and_tt (and_tt (and_tt (and_tt (and_tt (and_tt (and_tt (and_tt (and_tt (and_tt (and_tt (and_tt (and_tt (and_tt (and_tt (and_tt kb_0).2).2).2).2).2).2).2).2).2).2).2).2).2).2).2).2).2).2).1
theorem ke_19 : okW 0 9 [rT 0 1, rX 0 95] [] = true := (and_tt (and_tt (and_tt (and_tt (and_tt (and_tt (and_tt (and_tt (and_tt (and_tt (and_tt (and_tt (and_tt (and_tt (and_tt (and_tt (and_tt (and_tt (and_tt (and_tt kb_0).2).2).2).2).2).2).2).2).2).2).2).2).2).2).2).2).2).2).2).1
theorem ke_20 : okW 0 9 [rI 0 2, rI 0 96] [] = true := (and_tt (and_tt (and_tt (and_tt (and_tt (and_tt (and_tt (and_tt (and_tt (and_tt (and_tt (and_tt (and_tt (and_tt (and_tt (and_tt (and_tt (and_tt (and_tt (and_tt (and_tt kb_0).2).2).2).2).2).2).2).2).2).2).2).2).2).2).2).2).2).2).2).2).1
theorem ke_21 : okW 0 10 [rX 0 1] [] = true := (and_tt (and_tt (and_tt (and_tt (and_tt (and_tt (and_tt (and_tt (and_tt (and_tt (and_tt (and_tt (and_tt (and_tt (and_tt (and_tt (and_tt (and_tt (and_tt (and_tt (and_tt (and_tt kb_0).2).2).2).2).2).2).2).2).2).2).2).2).2).2).2).2).2).2).2).2).2).1
theorem ke_22 : okW 0 10 [rT 0 1, rX 0 95] [] = true := (and_tt kb_1).1
theorem ke_23 : okW 0 11 [rX 0 1] [] = true := (and_tt (and_tt kb_1).2).1
theorem ke_24 : okW 0 11 [rT 0 1, rX 0 5] [] = true := (and_tt (and_tt (and_tt kb_1).2).2).1
theorem ke_25 : okW 0 12 [rX 0 5] [] = true := (and_tt (and_tt (and_tt (and_tt kb_1).2).2).2).1
theorem ke_26 : okW 0 13 [rX 0 95] [] = true := (and_tt (and_tt (and_tt (and_tt (and_tt kb_1).2).2).2).2).1
theorem ke_27 : okW 0 15 [rX 0 1] [] = true := (and_tt (and_tt (and_tt (and_tt (and_tt (and_tt kb_1).2).2).2).2).2).1
theorem ke_28 : okW 0 15 [rT 0 1, rX 0 95] [] = true := (and_tt (and_tt (and_tt (and_tt (and_tt (and_tt (and_tt kb_1).2).2).2).2).2).2).1
theorem ke_29 : okW 0 17 [rX 0 1] [] = true := (and_tt (and_tt (and_tt (and_tt (and_tt (and_tt (and_tt (and_tt kb_1).2).2).2).2).2).2).2).1
theorem ke_30 : okW 0 18 [rX 0 1] [] = true := (and_tt (and_tt (and_tt (and_tt (and_tt (and_tt (and_tt (and_tt (and_tt kb_1).2).2).2).2).2).2).2).2).1
theorem ke_31 : okW 0 19 [rX 0 1] [] = true := (and_tt (and_tt (and_tt (and_tt (and_tt (and_tt (and_tt (and_tt (and_tt (and_tt kb_1).2).2).2).2).2).2).2).2).2).1
theorem ke_32 : okW 0 21 [] [] = true := (and_tt (and_tt (and_tt (and_tt (and_tt (and_tt (and_tt (and_tt (and_tt (and_tt (and_tt kb_1).2).2).2).2).2).2).2).2).2).2).1
theorem ke_33 : okW 0 23 [rX 0 1] [] = true := (and_tt (and_tt (and_tt (and_tt (and_tt (and_tt (and_tt (and_tt (and_tt (and_tt (and_tt (and_tt kb_1).2).2).2).2).2).2).2).2).2).2).2).1
theorem ke_34 : okW 0 26 [rX 0 99] [] = true := (and_tt (and_tt (and_tt (and_tt (and_tt (and_tt (and_tt (and_tt (and_tt (and_tt (and_tt (and_tt (and_tt kb_1).2).2).2).2).2).2).2).2).2).2).2).2).1
theorem ke_35 : okW 0 26 [rT 0 99, rX 0 99] [] = true := (and_tt (and_tt (and_tt (and_tt (and_tt (and_tt (and_tt (and_tt (and_tt (and_tt (and_tt (and_tt (and_tt (and_tt kb_1).2).2).2).2).2).2).2).2).2).2).2).2).2).1
theorem ke_36 : okW 0 26 [rT 0 99, rT 0 99, rX 0 1] [] = true := (and_tt (and_tt (and_tt (and_tt (and_tt (and_tt (and_tt (and_tt (and_tt (and_tt (and_tt (and_tt (and_tt (and_tt (and_tt kb_1).2).2).2).2).2).2).2).2).2).2).2).2).2).2).1
theorem ke_37 : okW 0 26 [rT 0 99, rT 0 99, rI 0 2] [] = true := (and_tt (and_tt (and_tt (and_tt (and_tt (and_tt (and_tt (and_tt (and_tt (and_tt (and_tt (and_tt (and_tt (and_tt (and_tt (and_tt kb_1).2).2).2).2).2).2).2).2).2).2).2).2).2).2).2).1
theorem ke_38 : okW 0 27 [rX 0 23] [] = true := (and_tt (and_tt (and_tt (and_tt (and_tt (and_tt (and_tt (and_tt (and_tt (and_tt (and_tt (and_tt (and_tt (and_tt (and_tt (and_tt (and_tt kb_1).2).2).2).2).2).2).2).2).2).2).2).2).2).2).2).2).1
theorem ke_39 : okW 0 27 [rT 0 23, rX 0 99] [] = true := (and_tt (and_tt (and_tt (and_tt (and_tt (and_tt (and_tt (and_tt (and_tt (and_tt (and_tt (and_tt (and_tt (and_tt (and_tt (and_tt (and_tt (and_tt kb_1).2).2).2).2).2).2).2).2).2).2).2).2).2).2).2).2).2).1
theorem ke_40 : okW 0 27 [rI 0 24, rT 0 99] [] = true := (and_tt (and_tt (and_tt (and_tt (and_tt (and_tt (and_tt (and_tt (and_tt (and_tt (and_tt (and_tt (and_tt (and_tt (and_tt (and_tt (and_tt (and_tt (and_tt kb_1).2).2).2).2).2).2).2).2).2).2).2).2).2).2).2).2).2).2).1
theorem ke_41 : okW 0 28 [] [] = true := (and_tt (and_tt (and_tt (and_tt (and_tt (and_tt (and_tt (and_tt (and_tt (and_tt (and_tt (and_tt (and_tt (and_tt (and_tt (and_tt (and_tt (and_tt (and_tt (and_tt kb_1).2).2).2).2).2).2).2).2).2).2).2).2).2).2).2).2).2).2).2).1
theorem ke_42 : okW 0 29 [rX 0 2] [] = true := (and_tt (and_tt (and_tt (and_tt (and_tt (and_tt (and_tt (and_tt (and_tt (and_tt (and_tt (and_tt (and_tt (and_tt (and_tt (and_tt (and_tt (and_tt (and_tt (and_tt (and_tt kb_1).2).2).2).2).2).2).2).2).2).2).2).2).2).2).2).2).2).2).2).2).1
theorem ke_43 : okW 0 30 [rX 0 1] [] = true := (and_tt (and_tt (and_tt (and_tt (and_tt (and_tt (and_tt (and_tt (and_tt (and_tt (and_tt (and_tt (and_tt (and_tt (and_tt (and_tt (and_tt (and_tt (and_tt (and_tt (and_tt (and_tt kb_1).2).2).2).2).2).2).2).2).2).2).2).2).2).2).2).2).2).2).2).2).2).1
theorem ke_44 : okW 0 30 [rT 0 1, rX 0 8] [] = true := (and_tt kb_2).1
theorem ke_45 : okW 0 31 [rX 0 9] [] = true := (and_tt (and_tt kb_2).2).1
theorem ke_46 : okW 0 31 [rT 0 9, rX 0 9] [] = true := (and_tt (and_tt (and_tt kb_2).2).2).1
theorem ke_47 : okW 0 31 [rT 0 9, rT 0 9, rX 0 2] [] = true := (and_tt (and_tt (and_tt (and_tt kb_2).2).2).2).1
theorem ke_48 : okW 0 32 [rX 0 1] [] = true := (and_tt (and_tt (and_tt (and_tt (and_tt kb_2).2).2).2).2).1
theorem ke_49 : okW 0 33 [rX 0 1] [] = true := (and_tt (and_tt (and_tt (and_tt (and_tt (and_tt kb_2).2).2).2).2).2).1
theorem ke_50 : okW 0 33 [rT 0 1, rX 1 9999] [] = true := (and_tt (and_tt (and_tt (and_tt (and_tt (and_tt (and_tt kb_2).2).2).2).2).2).2).1
theorem ke_51 : okW 0 34 [rX 0 1] [] = true := (and_tt (and_tt (and_tt (and_tt (and_tt (and_tt (and_tt (and_tt kb_2).2).2).2).2).2).2).2).1
theorem ke_52 : okW 0 34 [rT 0 1, rX 0 23] [] = true := (and_tt (and_tt (and_tt (and_tt (and_tt (and_tt (and_tt (and_tt (and_tt kb_2).2).2).2).2).2).2).2).2).1
theorem ke_53 : okW 0 35 [rX 0 1] [] = true := (and_tt (and_tt (and_tt (and_tt (and_tt (and_tt (and_tt (and_tt (and_tt (and_tt kb_2).2).2).2).2).2).2).2).2).2).1
theorem ke_54 : okW 0 35 [rT 0 1, rX 1 30] [] = true := (and_tt (and_tt (and_tt (and_tt (and_tt (and_tt (and_tt (and_tt (and_tt (and_tt (and_tt kb_2).2).2).2).2).2).2).2).2).2).2).1
theorem ke_55 : okW 0 35 [rT 0 1, rT 1 30, rX 0 2] [] = true := (and_tt (and_tt (and_tt (and_tt (and_tt (and_tt (and_tt (and_tt (and_tt (and_tt (and_tt (and_tt kb_2).2).2).2).2).2).2).2).2).2).2).2).1
theorem ke_56 : okW 0 36 [rX 0 1] [] = true := (and_tt (and_tt (and_tt (and_tt (and_tt (and_tt (and_tt (and_tt (and_tt (and_tt (and_tt (and_tt (and_tt kb_2).2).2).2).2).2).2).2).2).2).2).2).2).1
theorem ke_57 : okW 0 37 [rX 0 40] [] = true := (and_tt (and_tt (and_tt (and_tt (and_tt (and_tt (and_tt (and_tt (and_tt (and_tt (and_tt (and_tt (and_tt (and_tt kb_2).2).2).2).2).2).2).2).2).2).2).2).2).2).1
theorem ke_58 : okW 0 38 [rX 0 1] [] = true := (and_tt (and_tt (and_tt (and_tt (and_tt (and_tt (and_tt (and_tt (and_tt (and_tt (and_tt (and_tt (and_tt (and_tt (and_tt kb_2).2).2).2).2).2).2).2).2).2).2).2).2).2).2).1
theorem ke_59 : okW 0 39 [] [] = true := (and_tt (and_tt (and_tt (and_tt (and_tt (and_tt (and_tt (and_tt (and_tt (and_tt (and_tt (and_tt (and_tt (and_tt (and_tt (and_tt kb_2).2).2).2).2).2).2).2).2).2).2).2).2).2).2).2).1
theorem ke_60 : okW 0 40 [] [] = true := (and_tt (and_tt (and_tt (and_tt (and_tt (and_tt (and_tt (and_tt (and_tt (and_tt (and_tt (and_tt (and_tt (and_tt (and_tt (and_tt (and_tt kb_2).2).2).2).2).2).2).2).2).2).2).2).2).2).2).2).2).1
theorem ke_61 : okW 0 41 [rX 0 2] [] = true := (and_tt (and_tt (and_tt (and_tt (and_tt (and_tt (and_tt (and_tt (and_tt (and_tt (and_tt (and_tt (and_tt (and_tt (and_tt (and_tt (and_tt (and_tt kb_2).2).2).2).2).2).2).2).2).2).2).2).2).2).2).2).2).2).1
theorem ke_62 : okW 0 41 [rI 0 3] [] = true := (and_tt (and_tt (and_tt (and_tt (and_tt (and_tt (and_tt (and_tt (and_tt (and_tt (and_tt (and_tt (and_tt (and_tt (and_tt (and_tt (and_tt (and_tt (and_tt kb_2).2).2).2).2).2).2).2).2).2).2).2).2).2).2).2).2).2).2).1
theorem ke_63 : okW 0 42 [rX 0 1] [] = true := (and_tt (and_tt (and_tt (and_tt (and_tt (and_tt (and_tt (and_tt (and_tt (and_tt (and_tt (and_tt (and_tt (and_tt (and_tt (and_tt (and_tt (and_tt (and_tt (and_tt kb_2).2).2).2).2).2).2).2).2).2).2).2).2).2).2).2).2).2).2).2).1
theorem ke_64 : okW 0 42 [rI 0 2] [] = true := (and_tt (and_tt (and_tt (and_tt (and_tt (and_tt (and_tt (and_tt (and_tt (and_tt (and_tt (and_tt (and_tt (and_tt (and_tt (and_tt (and_tt (and_tt (and_tt (and_tt (and_tt kb_2).2).2).2).2).2).2).2).2).2).2).2).2).2).2).2).2).2).2).2).2).1
theorem ke_65 : okW 0 43 [] [] = true := (and_tt (and_tt (and_tt (and_tt (and_tt (and_tt (and_tt (and_tt (and_tt (and_tt (and_tt (and_tt (and_tt (and_tt (and_tt (and_tt (and_tt (and_tt (and_tt (and_tt (and_tt (and_tt kb_2).2).2).2).2).2).2).2).2).2).2).2).2).2).2).2).2).2).2).2).2).2).1
theorem ke_66 : okW 0 44 [] [] = true := (and_tt kb_3).1
theorem ke_67 : okW 0 45 [] [] = true := (and_tt (and_tt kb_3).2).1
theorem ke_68 : okW 0 46 [] [] = true := (and_tt (and_tt (and_tt kb_3).2).2).1
theorem ke_69 : okW 0 47 [] [] = true := (and_tt (and_tt (and_tt (and_tt kb_3).2).2).2).1
theorem ke_70 : okW 0 48 [] [] = true := (and_tt (and_tt (and_tt (and_tt (and_tt kb_3).2).2).2).2).1
theorem ke_71 : okW 0 49 [] [] = true := (and_tt (and_tt (and_tt (and_tt (and_tt (and_tt kb_3).2).2).2).2).2).1
theorem ke_72 : okW 0 50 [] [] = true := (and_tt (and_tt (and_tt (and_tt (and_tt (and_tt (and_tt kb_3).2).2).2).2).2).2).1
theorem ke_73 : okW 0 51 [] [] = true := (and_tt (and_tt (and_tt (and_tt (and_tt (and_tt (and_tt (and_tt kb_3).2).2).2).2).2).2).2).1
theorem ke_74 : okW 0 52 [] [] = true := (and_tt (and_tt (and_tt (and_tt (and_tt (and_tt (and_tt (and_tt (and_tt kb_3).2).2).2).2).2).2).2).2).1
theorem ke_75 : okW 0 53 [] [] = true := (and_tt (and_tt (and_tt (and_tt (and_tt (and_tt (and_tt (and_tt (and_tt (and_tt kb_3).2).2).2).2).2).2).2).2).2).1
theorem ke_76 : okW 0 54 [] [] = true := (and_tt (and_tt (and_tt (and_tt (and_tt (and_tt (and_tt (and_tt (and_tt (and_tt (and_tt kb_3).2).2).2).2).2).2).2).2).2).2).1
theorem ke_77 : okW 0 55 [] [] = true := (and_tt (and_tt (and_tt (and_tt (and_tt (and_tt (and_tt (and_tt (and_tt (and_tt (and_tt (and_tt kb_3).2).2).2).2).2).2).2).2).2).2).2).1
theorem ke_78 : okW 0 56 [] [] = true := (and_tt (and_tt (and_tt (and_tt (and_tt (and_tt (and_tt (and_tt (and_tt (and_tt (and_tt (and_tt (and_tt kb_3).2).2).2).2).2).2).2).2).2).2).2).2).1
theorem ke_79 : okW 0 57 [] [] = true := (and_tt (and_tt (and_tt (and_tt (and_tt (and_tt (and_tt (and_tt (and_tt (and_tt (and_tt (and_tt (and_tt (and_tt kb_3).2).2).2).2).2).2).2).2).2).2).2).2).2).1
theorem ke_80 : okW 0 58 [] [] = true := (and_tt (and_tt (and_tt (and_tt (and_tt (and_tt (and_tt (and_tt (and_tt (and_tt (and_tt (and_tt (and_tt (and_tt (and_tt kb_3).2).2).2).2).2).2).2).2).2).2).2).2).2).2).1
theorem ke_81 : okW 0 59 [] [] = true := (and_tt (and_tt (and_tt (and_tt (and_tt (and_tt (and_tt (and_tt (and_tt (and_tt (and_tt (and_tt (and_tt (and_tt (and_tt (and_tt kb_3).2).2).2).2).2).2).2).2).2).2).2).2).2).2).2).1
theorem ke_82 : okW 0 60 [] [] = true := (and_tt (and_tt (and_tt (and_tt (and_tt (and_tt (and_tt (and_tt (and_tt (and_tt (and_tt (and_tt (and_tt (and_tt (and_tt (and_tt (and_tt kb_3).2).2).2).2).2).2).2).2).2).2).2).2).2).2).2).2).1
theorem ke_83 : okW 0 61 [] [] = true := (and_tt (and_tt (and_tt (and_tt (and_tt (and_tt (and_tt (and_tt (and_tt (and_tt (and_tt (and_tt (and_tt (and_tt (and_tt (and_tt (and_tt (and_tt kb_3).2).2).2).2).2).2).2).2).2).2).2).2).2).2).2).2).2).1
theorem ke_84 : okW 0 62 [] [] = true := (and_tt (and_tt (and_tt (and_tt (and_tt (and_tt (and_tt (and_tt (and_tt (and_tt (and_tt (and_tt (and_tt (and_tt (and_tt (and_tt (and_tt (and_tt (and_tt kb_3).2).2).2).2).2).2).2).2).2).2).2).2).2).2).2).2).2).2).1
theorem ke_85 : okW 0 63 [] [] = true := (and_tt (and_tt (and_tt (and_tt (and_tt (and_tt (and_tt (and_tt (and_tt (and_tt (and_tt (and_tt (and_tt (and_tt (and_tt (and_tt (and_tt (and_tt (and_tt (and_tt kb_3).2).2).2).2).2).2).2).2).2).2).2).2).2).2).2).2).2).2).2).1
theorem ke_86 : okW 0 6 [rH 0] [] = true := (and_tt (and_tt (and_tt (and_tt (and_tt (and_tt (and_tt (and_tt (and_tt (and_tt (and_tt (and_tt (and_tt (and_tt (and_tt (and_tt (and_tt (and_tt (and_tt (and_tt (and_tt kb_3).2).2).2).2).2).2).2).2).2).2).2).2).2).2).2).2).2).2).2).2).1
section Lt
variable {scX : Nat → Int}
theorem g_0 (hI : ∀ j, -2147483648 ≤ scX j ∧ scX j ≤ 2147483647) (hop : b32 (fun p q => p &&& q) (scX 0) 63 = 0) : Good scX := by
  exact okW_run hI (by decide) hop rfl _ _ ke_0 trivial trivial
theorem g_1_no (hI : ∀ j, -2147483648 ≤ scX j ∧ scX j ≤ 2147483647) (hop : b32 (fun p q => p &&& q) (scX 0) 63 = 1) (hx : ¬ ((0 ≤ scX 1 ∧ scX 1 ≤ 0))) : Good scX := by
  by_cases c1 : 0 ≤ scX 1 ∧ scX 1 ≤ 0
  rotate_left
  · exact okW_run hI (by decide) hop rfl _ _ ke_1 ⟨cov_X (hI 1) c1, trivial⟩ trivial
  exact absurd c1 hx
theorem g_2 (hI : ∀ j, -2147483648 ≤ scX j ∧ scX j ≤ 2147483647) (hop : b32 (fun p q => p &&& q) (scX 0) 63 = 2) : Good scX := by
  exact okW_run hI (by decide) hop rfl _ _ ke_2 trivial trivial
theorem g_3 (hI : ∀ j, -2147483648 ≤ scX j ∧ scX j ≤ 2147483647) (hop : b32 (fun p q => p &&& q) (scX 0) 63 = 3) : Good scX := by
  by_cases c1 : 0 ≤ scX 1 ∧ scX 1 ≤ 1
  rotate_left
  · exact okW_run hI (by decide) hop rfl _ _ ke_3 ⟨cov_X (hI 1) c1, trivial⟩ trivial
  by_cases c2 : 0 ≤ scX 2 ∧ scX 2 ≤ 5
  rotate_left
  · exact okW_run hI (by decide) hop rfl _ _ ke_4 ⟨cov_T c1, cov_X (hI 2) c2, trivial⟩ trivial
  exact okW_run hI (by decide) hop rfl _ _ ke_5 ⟨cov_I (hi := 1) (by decide) c1, cov_I (hi := 5) (by decide) c2, trivial⟩ trivial
theorem g_4 (hI : ∀ j, -2147483648 ≤ scX j ∧ scX j ≤ 2147483647) (hop : b32 (fun p q => p &&& q) (scX 0) 63 = 4) : Good scX := by
  by_cases c1 : 0 ≤ scX 1 ∧ scX 1 ≤ 5
  rotate_left
  · exact okW_run hI (by decide) hop rfl _ _ ke_6 ⟨cov_X (hI 1) c1, trivial⟩ trivial
  exact okW_run hI (by decide) hop rfl _ _ ke_7 ⟨cov_I (hi := 5) (by decide) c1, trivial⟩ trivial
theorem g_5 (hI : ∀ j, -2147483648 ≤ scX j ∧ scX j ≤ 2147483647) (hop : b32 (fun p q => p &&& q) (scX 0) 63 = 5) : Good scX := by
  by_cases c1 : 0 ≤ scX 1 ∧ scX 1 ≤ 95
  rotate_left
  · exact okW_run hI (by decide) hop rfl _ _ ke_8 ⟨cov_X (hI 1) c1, trivial⟩ trivial
  exact okW_run hI (by decide) hop rfl _ _ ke_9 ⟨cov_I (hi := 95) (by decide) c1, trivial⟩ trivial
theorem g_7 (hI : ∀ j, -2147483648 ≤ scX j ∧ scX j ≤ 2147483647) (hop : b32 (fun p q => p &&& q) (scX 0) 63 = 7) : Good scX := by
  by_cases c1 : 0 ≤ scX 1 ∧ scX 1 ≤ 1
  rotate_left
  · exact okW_run hI (by decide) hop rfl _ _ ke_10 ⟨cov_X (hI 1) c1, trivial⟩ trivial
  by_cases c2 : 0 ≤ scX 2 ∧ scX 2 ≤ 23
  rotate_left
  · exact okW_run hI (by decide) hop rfl _ _ ke_11 ⟨cov_T c1, cov_X (hI 2) c2, trivial⟩ trivial
  by_cases c3 : 0 ≤ scX 3 ∧ scX 3 ≤ 3
  rotate_left
  · exact okW_run hI (by decide) hop rfl _ _ ke_12 ⟨cov_T c1, cov_T c2, cov_X (hI 3) c3, trivial⟩ trivial
  exact okW_run hI (by decide) hop rfl _ _ ke_13 ⟨cov_I (hi := 1) (by decide) c1, cov_I (hi := 23) (by decide) c2, cov_T c3, trivial⟩ trivial
theorem g_8 (hI : ∀ j, -2147483648 ≤ scX j ∧ scX j ≤ 2147483647) (hop : b32 (fun p q => p &&& q) (scX 0) 63 = 8) : Good scX := by
  by_cases c1 : 0 ≤ scX 1 ∧ scX 1 ≤ 1
  rotate_left
  · exact okW_run hI (by decide) hop rfl _ _ ke_14 ⟨cov_X (hI 1) c1, trivial⟩ trivial
  by_cases c2 : 0 ≤ scX 2 ∧ scX 2 ≤ 95
  rotate_left
  · exact okW_run hI (by decide) hop rfl _ _ ke_15 ⟨cov_T c1, cov_X (hI 2) c2, trivial⟩ trivial
  by_cases c3 : 0 ≤ scX 3 ∧ scX 3 ≤ 3
  rotate_left
  · exact okW_run hI (by decide) hop rfl _ _ ke_16 ⟨cov_T c1, cov_T c2, cov_X (hI 3) c3, trivial⟩ trivial
  exact okW_run hI (by decide) hop rfl _ _ ke_17 ⟨cov_I (hi := 1) (by decide) c1, cov_I (hi := 95) (by decide) c2, cov_T c3, trivial⟩ trivial
theorem g_9 (hI : ∀ j, -2147483648 ≤ scX j ∧ scX j ≤ 2147483647) (hop : b32 (fun p q => p &&& q) (scX 0) 63 = 9) : Good scX := by
  by_cases c1 : 0 ≤ scX 1 ∧ scX 1 ≤ 1
  rotate_left
  · exact okW_run hI (by decide) hop rfl _ _ ke_18 ⟨cov_X (hI 1) c1, trivial⟩ trivial
  by_cases c2 : 0 ≤ scX 2 ∧ scX 2 ≤ 95
  rotate_left
  · exact okW_run hI (by decide) hop rfl _ _ ke_19 ⟨cov_T c1, cov_X (hI 2) c2, trivial⟩ trivial
  exact okW_run hI (by decide) hop rfl _ _ ke_20 ⟨cov_I (hi := 1) (by decide) c1, cov_I (hi := 95) (by decide) c2, trivial⟩ trivial
theorem g_10_no (hI : ∀ j, -2147483648 ≤ scX j ∧ scX j ≤ 2147483647) (hop : b32 (fun p q => p &&& q) (scX 0) 63 = 10) (hx : ¬ ((0 ≤ scX 1 ∧ scX 1 ≤ 1) ∧ (0 ≤ scX 2 ∧ scX 2 ≤ 95))) : Good scX := by
  by_cases c1 : 0 ≤ scX 1 ∧ scX 1 ≤ 1
  rotate_left
  · exact okW_run hI (by decide) hop rfl _ _ ke_21 ⟨cov_X (hI 1) c1, trivial⟩ trivial
  by_cases c2 : 0 ≤ scX 2 ∧ scX 2 ≤ 95
  rotate_left
  · exact okW_run hI (by decide) hop rfl _ _ ke_22 ⟨cov_T c1, cov_X (hI 2) c2, trivial⟩ trivial
  exact absurd ⟨c1, c2⟩ hx
theorem g_11_no (hI : ∀ j, -2147483648 ≤ scX j ∧ scX j ≤ 2147483647) (hop : b32 (fun p q => p &&& q) (scX 0) 63 = 11) (hx : ¬ ((0 ≤ scX 1 ∧ scX 1 ≤ 1) ∧ (0 ≤ scX 2 ∧ scX 2 ≤ 5))) : Good scX := by
  by_cases c1 : 0 ≤ scX 1 ∧ scX 1 ≤ 1
  rotate_left
  · exact okW_run hI (by decide) hop rfl _ _ ke_23 ⟨cov_X (hI 1) c1, trivial⟩ trivial
  by_cases c2 : 0 ≤ scX 2 ∧ scX 2 ≤ 5
  rotate_left
  · exact okW_run hI (by decide) hop rfl _ _ ke_24 ⟨cov_T c1, cov_X (hI 2) c2, trivial⟩ trivial
  exact absurd ⟨c1, c2⟩ hx
theorem g_12_no (hI : ∀ j, -2147483648 ≤ scX j ∧ scX j ≤ 2147483647) (hop : b32 (fun p q => p &&& q) (scX 0) 63 = 12) (hx : ¬ ((0 ≤ scX 1 ∧ scX 1 ≤ 5))) : Good scX := by
  by_cases c1 : 0 ≤ scX 1 ∧ scX 1 ≤ 5
  rotate_left
  · exact okW_run hI (by decide) hop rfl _ _ ke_25 ⟨cov_X (hI 1) c1, trivial⟩ trivial
  exact absurd c1 hx
theorem g_13_no (hI : ∀ j, -2147483648 ≤ scX j ∧ scX j ≤ 2147483647) (hop : b32 (fun p q => p &&& q) (scX 0) 63 = 13) (hx : ¬ ((0 ≤ scX 1 ∧ scX 1 ≤ 95))) : Good scX := by
  by_cases c1 : 0 ≤ scX 1 ∧ scX 1 ≤ 95
  rotate_left
  · exact okW_run hI (by decide) hop rfl _ _ ke_26 ⟨cov_X (hI 1) c1, trivial⟩ trivial
  exact absurd c1 hx
theorem g_15_no (hI : ∀ j, -2147483648 ≤ scX j ∧ scX j ≤ 2147483647) (hop : b32 (fun p q => p &&& q) (scX 0) 63 = 15) (hx : ¬ ((0 ≤ scX 1 ∧ scX 1 ≤ 1) ∧ (0 ≤ scX 2 ∧ scX 2 ≤ 95))) : Good scX := by
  by_cases c1 : 0 ≤ scX 1 ∧ scX 1 ≤ 1
  rotate_left
  · exact okW_run hI (by decide) hop rfl _ _ ke_27 ⟨cov_X (hI 1) c1, trivial⟩ trivial
  by_cases c2 : 0 ≤ scX 2 ∧ scX 2 ≤ 95
  rotate_left
  · exact okW_run hI (by decide) hop rfl _ _ ke_28 ⟨cov_T c1, cov_X (hI 2) c2, trivial⟩ trivial
  exact absurd ⟨c1, c2⟩ hx
theorem g_17_no (hI : ∀ j, -2147483648 ≤ scX j ∧ scX j ≤ 2147483647) (hop : b32 (fun p q => p &&& q) (scX 0) 63 = 17) (hx : ¬ ((0 ≤ scX 1 ∧ scX 1 ≤ 1))) : Good scX := by
  by_cases c1 : 0 ≤ scX 1 ∧ scX 1 ≤ 1
  rotate_left
  · exact okW_run hI (by decide) hop rfl _ _ ke_29 ⟨cov_X (hI 1) c1, trivial⟩ trivial
  exact absurd c1 hx
theorem g_18_no (hI : ∀ j, -2147483648 ≤ scX j ∧ scX j ≤ 2147483647) (hop : b32 (fun p q => p &&& q) (scX 0) 63 = 18) (hx : ¬ ((0 ≤ scX 1 ∧ scX 1 ≤ 1))) : Good scX := by
  by_cases c1 : 0 ≤ scX 1 ∧ scX 1 ≤ 1
  rotate_left
  · exact okW_run hI (by decide) hop rfl _ _ ke_30 ⟨cov_X (hI 1) c1, trivial⟩ trivial
  exact absurd c1 hx
theorem g_19_no (hI : ∀ j, -2147483648 ≤ scX j ∧ scX j ≤ 2147483647) (hop : b32 (fun p q => p &&& q) (scX 0) 63 = 19) (hx : ¬ ((0 ≤ scX 1 ∧ scX 1 ≤ 1))) : Good scX := by
  by_cases c1 : 0 ≤ scX 1 ∧ scX 1 ≤ 1
  rotate_left
  · exact okW_run hI (by decide) hop rfl _ _ ke_31 ⟨cov_X (hI 1) c1, trivial⟩ trivial
  exact absurd c1 hx
theorem g_21 (hI : ∀ j, -2147483648 ≤ scX j ∧ scX j ≤ 2147483647) (hop : b32 (fun p q => p &&& q) (scX 0) 63 = 21) : Good scX := by
  exact okW_run hI (by decide) hop rfl _ _ ke_32 trivial trivial
theorem g_23_no (hI : ∀ j, -2147483648 ≤ scX j ∧ scX j ≤ 2147483647) (hop : b32 (fun p q => p &&& q) (scX 0) 63 = 23) (hx : ¬ ((0 ≤ scX 1 ∧ scX 1 ≤ 1))) : Good scX := by
  by_cases c1 : 0 ≤ scX 1 ∧ scX 1 ≤ 1
  rotate_left
  · exact okW_run hI (by decide) hop rfl _ _ ke_33 ⟨cov_X (hI 1) c1, trivial⟩ trivial
  exact absurd c1 hx
theorem g_26 (hI : ∀ j, -2147483648 ≤ scX j ∧ scX j ≤ 2147483647) (hop : b32 (fun p q => p &&& q) (scX 0) 63 = 26) : Good scX := by
  by_cases c1 : 0 ≤ scX 1 ∧ scX 1 ≤ 99
  rotate_left
  · exact okW_run hI (by decide) hop rfl _ _ ke_34 ⟨cov_X (hI 1) c1, trivial⟩ trivial
  by_cases c2 : 0 ≤ scX 2 ∧ scX 2 ≤ 99
  rotate_left
  · exact okW_run hI (by decide) hop rfl _ _ ke_35 ⟨cov_T c1, cov_X (hI 2) c2, trivial⟩ trivial
  by_cases c3 : 0 ≤ scX 3 ∧ scX 3 ≤ 1
  rotate_left
  · exact okW_run hI (by decide) hop rfl _ _ ke_36 ⟨cov_T c1, cov_T c2, cov_X (hI 3) c3, trivial⟩ trivial
  exact okW_run hI (by decide) hop rfl _ _ ke_37 ⟨cov_T c1, cov_T c2, cov_I (hi := 1) (by decide) c3, trivial⟩ trivial
theorem g_27 (hI : ∀ j, -2147483648 ≤ scX j ∧ scX j ≤ 2147483647) (hop : b32 (fun p q => p &&& q) (scX 0) 63 = 27) : Good scX := by
  by_cases c1 : 0 ≤ scX 1 ∧ scX 1 ≤ 23
  rotate_left
  · exact okW_run hI (by decide) hop rfl _ _ ke_38 ⟨cov_X (hI 1) c1, trivial⟩ trivial
  by_cases c2 : 0 ≤ scX 2 ∧ scX 2 ≤ 99
  rotate_left
  · exact okW_run hI (by decide) hop rfl _ _ ke_39 ⟨cov_T c1, cov_X (hI 2) c2, trivial⟩ trivial
  exact okW_run hI (by decide) hop rfl _ _ ke_40 ⟨cov_I (hi := 23) (by decide) c1, cov_T c2, trivial⟩ trivial
theorem g_28 (hI : ∀ j, -2147483648 ≤ scX j ∧ scX j ≤ 2147483647) (hop : b32 (fun p q => p &&& q) (scX 0) 63 = 28) : Good scX := by
  exact okW_run hI (by decide) hop rfl _ _ ke_41 trivial trivial
theorem g_29_no (hI : ∀ j, -2147483648 ≤ scX j ∧ scX j ≤ 2147483647) (hop : b32 (fun p q => p &&& q) (scX 0) 63 = 29) (hx : ¬ ((0 ≤ scX 1 ∧ scX 1 ≤ 2))) : Good scX := by
  by_cases c1 : 0 ≤ scX 1 ∧ scX 1 ≤ 2
  rotate_left
  · exact okW_run hI (by decide) hop rfl _ _ ke_42 ⟨cov_X (hI 1) c1, trivial⟩ trivial
  exact absurd c1 hx
theorem g_30_no (hI : ∀ j, -2147483648 ≤ scX j ∧ scX j ≤ 2147483647) (hop : b32 (fun p q => p &&& q) (scX 0) 63 = 30) (hx : ¬ ((0 ≤ scX 1 ∧ scX 1 ≤ 1) ∧ (0 ≤ scX 2 ∧ scX 2 ≤ 8))) : Good scX := by
  by_cases c1 : 0 ≤ scX 1 ∧ scX 1 ≤ 1
  rotate_left
  · exact okW_run hI (by decide) hop rfl _ _ ke_43 ⟨cov_X (hI 1) c1, trivial⟩ trivial
  by_cases c2 : 0 ≤ scX 2 ∧ scX 2 ≤ 8
  rotate_left
  · exact okW_run hI (by decide) hop rfl _ _ ke_44 ⟨cov_T c1, cov_X (hI 2) c2, trivial⟩ trivial
  exact absurd ⟨c1, c2⟩ hx
theorem g_31_no (hI : ∀ j, -2147483648 ≤ scX j ∧ scX j ≤ 2147483647) (hop : b32 (fun p q => p &&& q) (scX 0) 63 = 31) (hx : ¬ ((0 ≤ scX 1 ∧ scX 1 ≤ 9) ∧ (0 ≤ scX 2 ∧ scX 2 ≤ 9) ∧ (0 ≤ scX 3 ∧ scX 3 ≤ 2))) : Good scX := by
  by_cases c1 : 0 ≤ scX 1 ∧ scX 1 ≤ 9
  rotate_left
  · exact okW_run hI (by decide) hop rfl _ _ ke_45 ⟨cov_X (hI 1) c1, trivial⟩ trivial
  by_cases c2 : 0 ≤ scX 2 ∧ scX 2 ≤ 9
  rotate_left
  · exact okW_run hI (by decide) hop rfl _ _ ke_46 ⟨cov_T c1, cov_X (hI 2) c2, trivial⟩ trivial
  by_cases c3 : 0 ≤ scX 3 ∧ scX 3 ≤ 2
  rotate_left
  · exact okW_run hI (by decide) hop rfl _ _ ke_47 ⟨cov_T c1, cov_T c2, cov_X (hI 3) c3, trivial⟩ trivial
  exact absurd ⟨c1, c2, c3⟩ hx
theorem g_32_no (hI : ∀ j, -2147483648 ≤ scX j ∧ scX j ≤ 2147483647) (hop : b32 (fun p q => p &&& q) (scX 0) 63 = 32) (hx : ¬ ((0 ≤ scX 1 ∧ scX 1 ≤ 1))) : Good scX := by
  by_cases c1 : 0 ≤ scX 1 ∧ scX 1 ≤ 1
  rotate_left
  · exact okW_run hI (by decide) hop rfl _ _ ke_48 ⟨cov_X (hI 1) c1, trivial⟩ trivial
  exact absurd c1 hx
theorem g_33_no (hI : ∀ j, -2147483648 ≤ scX j ∧ scX j ≤ 2147483647) (hop : b32 (fun p q => p &&& q) (scX 0) 63 = 33) (hx : ¬ ((0 ≤ scX 1 ∧ scX 1 ≤ 1) ∧ (1 ≤ scX 2 ∧ scX 2 ≤ 9999))) : Good scX := by
  by_cases c1 : 0 ≤ scX 1 ∧ scX 1 ≤ 1
  rotate_left
  · exact okW_run hI (by decide) hop rfl _ _ ke_49 ⟨cov_X (hI 1) c1, trivial⟩ trivial
  by_cases c2 : 1 ≤ scX 2 ∧ scX 2 ≤ 9999
  rotate_left
  · exact okW_run hI (by decide) hop rfl _ _ ke_50 ⟨cov_T c1, cov_X (hI 2) c2, trivial⟩ trivial
  exact absurd ⟨c1, c2⟩ hx
theorem g_34_no (hI : ∀ j, -2147483648 ≤ scX j ∧ scX j ≤ 2147483647) (hop : b32 (fun p q => p &&& q) (scX 0) 63 = 34) (hx : ¬ ((0 ≤ scX 1 ∧ scX 1 ≤ 1) ∧ (0 ≤ scX 2 ∧ scX 2 ≤ 23))) : Good scX := by
  by_cases c1 : 0 ≤ scX 1 ∧ scX 1 ≤ 1
  rotate_left
  · exact okW_run hI (by decide) hop rfl _ _ ke_51 ⟨cov_X (hI 1) c1, trivial⟩ trivial
  by_cases c2 : 0 ≤ scX 2 ∧ scX 2 ≤ 23
  rotate_left
  · exact okW_run hI (by decide) hop rfl _ _ ke_52 ⟨cov_T c1, cov_X (hI 2) c2, trivial⟩ trivial
  exact absurd ⟨c1, c2⟩ hx
theorem g_35_no (hI : ∀ j, -2147483648 ≤ scX j ∧ scX j ≤ 2147483647) (hop : b32 (fun p q => p &&& q) (scX 0) 63 = 35) (hx : ¬ ((0 ≤ scX 1 ∧ scX 1 ≤ 1) ∧ (1 ≤ scX 2 ∧ scX 2 ≤ 30) ∧ (0 ≤ scX 3 ∧ scX 3 ≤ 2))) : Good scX := by
  by_cases c1 : 0 ≤ scX 1 ∧ scX 1 ≤ 1
  rotate_left
  · exact okW_run hI (by decide) hop rfl _ _ ke_53 ⟨cov_X (hI 1) c1, trivial⟩ trivial
  by_cases c2 : 1 ≤ scX 2 ∧ scX 2 ≤ 30
  rotate_left
  · exact okW_run hI (by decide) hop rfl _ _ ke_54 ⟨cov_T c1, cov_X (hI 2) c2, trivial⟩ trivial
  by_cases c3 : 0 ≤ scX 3 ∧ scX 3 ≤ 2
  rotate_left
  · exact okW_run hI (by decide) hop rfl _ _ ke_55 ⟨cov_T c1, cov_T c2, cov_X (hI 3) c3, trivial⟩ trivial
  exact absurd ⟨c1, c2, c3⟩ hx
theorem g_36_no (hI : ∀ j, -2147483648 ≤ scX j ∧ scX j ≤ 2147483647) (hop : b32 (fun p q => p &&& q) (scX 0) 63 = 36) (hx : ¬ ((0 ≤ scX 1 ∧ scX 1 ≤ 1))) : Good scX := by
  by_cases c1 : 0 ≤ scX 1 ∧ scX 1 ≤ 1
  rotate_left
  · exact okW_run hI (by decide) hop rfl _ _ ke_56 ⟨cov_X (hI 1) c1, trivial⟩ trivial
  exact absurd c1 hx
theorem g_37_no (hI : ∀ j, -2147483648 ≤ scX j ∧ scX j ≤ 2147483647) (hop : b32 (fun p q => p &&& q) (scX 0) 63 = 37) (hx : ¬ ((0 ≤ scX 1 ∧ scX 1 ≤ 40))) : Good scX := by
  by_cases c1 : 0 ≤ scX 1 ∧ scX 1 ≤ 40
  rotate_left
  · exact okW_run hI (by decide) hop rfl _ _ ke_57 ⟨cov_X (hI 1) c1, trivial⟩ trivial
  exact absurd c1 hx
theorem g_38_no (hI : ∀ j, -2147483648 ≤ scX j ∧ scX j ≤ 2147483647) (hop : b32 (fun p q => p &&& q) (scX 0) 63 = 38) (hx : ¬ ((0 ≤ scX 1 ∧ scX 1 ≤ 1))) : Good scX := by
  by_cases c1 : 0 ≤ scX 1 ∧ scX 1 ≤ 1
  rotate_left
  · exact okW_run hI (by decide) hop rfl _ _ ke_58 ⟨cov_X (hI 1) c1, trivial⟩ trivial
  exact absurd c1 hx
theorem g_39 (hI : ∀ j, -2147483648 ≤ scX j ∧ scX j ≤ 2147483647) (hop : b32 (fun p q => p &&& q) (scX 0) 63 = 39) : Good scX := by
  exact okW_run hI (by decide) hop rfl _ _ ke_59 trivial trivial
theorem g_40 (hI : ∀ j, -2147483648 ≤ scX j ∧ scX j ≤ 2147483647) (hop : b32 (fun p q => p &&& q) (scX 0) 63 = 40) : Good scX := by
  exact okW_run hI (by decide) hop rfl _ _ ke_60 trivial trivial
theorem g_41 (hI : ∀ j, -2147483648 ≤ scX j ∧ scX j ≤ 2147483647) (hop : b32 (fun p q => p &&& q) (scX 0) 63 = 41) : Good scX := by
  by_cases c1 : 0 ≤ scX 1 ∧ scX 1 ≤ 2
  rotate_left
  · exact okW_run hI (by decide) hop rfl _ _ ke_61 ⟨cov_X (hI 1) c1, trivial⟩ trivial
  exact okW_run hI (by decide) hop rfl _ _ ke_62 ⟨cov_I (hi := 2) (by decide) c1, trivial⟩ trivial
theorem g_42 (hI : ∀ j, -2147483648 ≤ scX j ∧ scX j ≤ 2147483647) (hop : b32 (fun p q => p &&& q) (scX 0) 63 = 42) : Good scX := by
  by_cases c1 : 0 ≤ scX 1 ∧ scX 1 ≤ 1
  rotate_left
  · exact okW_run hI (by decide) hop rfl _ _ ke_63 ⟨cov_X (hI 1) c1, trivial⟩ trivial
  exact okW_run hI (by decide) hop rfl _ _ ke_64 ⟨cov_I (hi := 1) (by decide) c1, trivial⟩ trivial
theorem g_43 (hI : ∀ j, -2147483648 ≤ scX j ∧ scX j ≤ 2147483647) (hop : b32 (fun p q => p &&& q) (scX 0) 63 = 43) : Good scX := by
  exact okW_run hI (by decide) hop rfl _ _ ke_65 trivial trivial
theorem g_44 (hI : ∀ j, -2147483648 ≤ scX j ∧ scX j ≤ 2147483647) (hop : b32 (fun p q => p &&& q) (scX 0) 63 = 44) : Good scX := by
  exact okW_run hI (by decide) hop rfl _ _ ke_66 trivial trivial
theorem g_45 (hI : ∀ j, -2147483648 ≤ scX j ∧ scX j ≤ 2147483647) (hop : b32 (fun p q => p &&& q) (scX 0) 63 = 45) : Good scX := by
  exact okW_run hI (by decide) hop rfl _ _ ke_67 trivial trivial
theorem g_46 (hI : ∀ j, -2147483648 ≤ scX j ∧ scX j ≤ 2147483647) (hop : b32 (fun p q => p &&& q) (scX 0) 63 = 46) : Good scX := by
  exact okW_run hI (by decide) hop rfl _ _ ke_68 trivial trivial
theorem g_47 (hI : ∀ j, -2147483648 ≤ scX j ∧ scX j ≤ 2147483647) (hop : b32 (fun p q => p &&& q) (scX 0) 63 = 47) : Good scX := by
  exact okW_run hI (by decide) hop rfl _ _ ke_69 trivial trivial
theorem g_48 (hI : ∀ j, -2147483648 ≤ scX j ∧ scX j ≤ 2147483647) (hop : b32 (fun p q => p &&& q) (scX 0) 63 = 48) : Good scX := by
  exact okW_run hI (by decide) hop rfl _ _ ke_70 trivial trivial
theorem g_49 (hI : ∀ j, -2147483648 ≤ scX j ∧ scX j ≤ 2147483647) (hop : b32 (fun p q => p &&& q) (scX 0) 63 = 49) : Good scX := by
  exact okW_run hI (by decide) hop rfl _ _ ke_71 trivial trivial
theorem g_50 (hI : ∀ j, -2147483648 ≤ scX j ∧ scX j ≤ 2147483647) (hop : b32 (fun p q => p &&& q) (scX 0) 63 = 50) : Good scX := by
  exact okW_run hI (by decide) hop rfl _ _ ke_72 trivial trivial
theorem g_51 (hI : ∀ j, -2147483648 ≤ scX j ∧ scX j ≤ 2147483647) (hop : b32 (fun p q => p &&& q) (scX 0) 63 = 51) : Good scX := by
  exact okW_run hI (by decide) hop rfl _ _ ke_73 trivial trivial
theorem g_52 (hI : ∀ j, -2147483648 ≤ scX j ∧ scX j ≤ 2147483647) (hop : b32 (fun p q => p &&& q) (scX 0) 63 = 52) : Good scX := by
  exact okW_run hI (by decide) hop rfl _ _ ke_74 trivial trivial
theorem g_53 (hI : ∀ j, -2147483648 ≤ scX j ∧ scX j ≤ 2147483647) (hop : b32 (fun p q => p &&& q) (scX 0) 63 = 53) : Good scX := by
  exact okW_run hI (by decide) hop rfl _ _ ke_75 trivial trivial
theorem g_54 (hI : ∀ j, -2147483648 ≤ scX j ∧ scX j ≤ 2147483647) (hop : b32 (fun p q => p &&& q) (scX 0) 63 = 54) : Good scX := by
  exact okW_run hI (by decide) hop rfl _ _ ke_76 trivial trivial
theorem g_55 (hI : ∀ j, -2147483648 ≤ scX j ∧ scX j ≤ 2147483647) (hop : b32 (fun p q => p &&& q) (scX 0) 63 = 55) : Good scX := by
  exact okW_run hI (by decide) hop rfl _ _ ke_77 trivial trivial
theorem g_56 (hI : ∀ j, -2147483648 ≤ scX j ∧ scX j ≤ 2147483647) (hop : b32 (fun p q => p &&& q) (scX 0) 63 = 56) : Good scX := by
  exact okW_run hI (by decide) hop rfl _ _ ke_78 trivial trivial
theorem g_57 (hI : ∀ j, -2147483648 ≤ scX j ∧ scX j ≤ 2147483647) (hop : b32 (fun p q => p &&& q) (scX 0) 63 = 57) : Good scX := by
  exact okW_run hI (by decide) hop rfl _ _ ke_79 trivial trivial
theorem g_58 (hI : ∀ j, -2147483648 ≤ scX j ∧ scX j ≤ 2147483647) (hop : b32 (fun p q => p &&& q) (scX 0) 63 = 58) : Good scX := by
  exact okW_run hI (by decide) hop rfl _ _ ke_80 trivial trivial
theorem g_59 (hI : ∀ j, -2147483648 ≤ scX j ∧ scX j ≤ 2147483647) (hop : b32 (fun p q => p &&& q) (scX 0) 63 = 59) : Good scX := by
  exact okW_run hI (by decide) hop rfl _ _ ke_81 trivial trivial
theorem g_60 (hI : ∀ j, -2147483648 ≤ scX j ∧ scX j ≤ 2147483647) (hop : b32 (fun p q => p &&& q) (scX 0) 63 = 60) : Good scX := by
  exact okW_run hI (by decide) hop rfl _ _ ke_82 trivial trivial
theorem g_61 (hI : ∀ j, -2147483648 ≤ scX j ∧ scX j ≤ 2147483647) (hop : b32 (fun p q => p &&& q) (scX 0) 63 = 61) : Good scX := by
  exact okW_run hI (by decide) hop rfl _ _ ke_83 trivial trivial
theorem g_62 (hI : ∀ j, -2147483648 ≤ scX j ∧ scX j ≤ 2147483647) (hop : b32 (fun p q => p &&& q) (scX 0) 63 = 62) : Good scX := by
  exact okW_run hI (by decide) hop rfl _ _ ke_84 trivial trivial
theorem g_63 (hI : ∀ j, -2147483648 ≤ scX j ∧ scX j ≤ 2147483647) (hop : b32 (fun p q => p &&& q) (scX 0) 63 = 63) : Good scX := by
  exact okW_run hI (by decide) hop rfl _ _ ke_85 trivial trivial
theorem g_6 (hI : ∀ j, -2147483648 ≤ scX j ∧ scX j ≤ 2147483647) (hop : b32 (fun p q => p &&& q) (scX 0) 63 = 6) : Good scX := okW_run hI (by decide) hop rfl _ _ ke_86 ⟨cov_H (hI 1), trivial⟩ trivial
theorem g_short {n : Nat} (hn : n < 6) : ∃ Nf, Nf ≤ 244 ∧ Rc (10 + 0) (KL 0 n scX 31) (mt 248) PL Nf n scX 0 (ent [.inr (.inl (some 999999))] 7) [] 0 z0 z1 z0 z2 := by
  have hE : EO (0, n, fun _ => jk, fun _ => (1, 0), 0) (fun _ => 0) n scX := ⟨fun t h => absurd (show (1 : Int) ≤ 0 from h) (by decide : ¬ (1 : Int) ≤ 0), fun _ => ⟨rfl, fun _ _ => gm_jk, rfl, (by decide +kernel : b32 (fun p q => p &&& q) 0 63 = 0)⟩⟩
  have h : okN n = true := by
    obtain ⟨h1, h2⟩ := and_tt kb_n
    obtain ⟨h3, h4⟩ := and_tt h1
    rcases (show n = 0 ∨ n = 1 ∨ n = 2 ∨ n = 3 ∨ n = 4 ∨ n = 5 by omega) with rfl | rfl | rfl | rfl | rfl | rfl
    · exact (and_tt h3).1
    · exact (and_tt h3).2
    · exact (and_tt h4).1
    · exact (and_tt h4).2
    · exact (and_tt h2).1
    · exact (and_tt h2).2
  exact okL_run (g := 20000) (d := 30) (f := 2000) (by decide) hE (st0 := slS 10 20000 selC) (st1 := no_st) (sb_sl (E := (10 + 0, n, fun _ => jk, fun _ => (1, 0), 0)) (shp_le0 (md := 0) (by decide))) sb_no h
end Lt
