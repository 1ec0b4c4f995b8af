/-! facts -/
/-! facts of the tables, one by one -/
theorem cb_m3 : (Int8.ofInt (-3)).toInt32 = (-3 : Int32) := by decide +kernel
theorem cb_m2 : (Int8.ofInt (-2)).toInt32 = (-2 : Int32) := by decide +kernel
theorem cb_6 : (Int8.ofInt 6).toInt32 = (6 : Int32) := by decide +kernel
theorem cb_7 : (Int8.ofInt 7).toInt32 = (7 : Int32) := by decide +kernel
theorem cbb_8 : (Int8.ofInt 8).toInt32 = (8 : Int32) := by decide +kernel
theorem cb_9 : (Int8.ofInt 9).toInt32 = (9 : Int32) := by decide +kernel
theorem cb_10 : (Int8.ofInt 10).toInt32 = (10 : Int32) := by decide +kernel
theorem cb_12 : (Int8.ofInt 12).toInt32 = (12 : Int32) := by decide +kernel
theorem cb_13 : (Int8.ofInt 13).toInt32 = (13 : Int32) := by decide +kernel
theorem cb_15 : (Int8.ofInt 15).toInt32 = (15 : Int32) := by decide +kernel
theorem cb_16 : (Int8.ofInt 16).toInt32 = (16 : Int32) := by decide +kernel
theorem cb_17 : (Int8.ofInt 17).toInt32 = (17 : Int32) := by decide +kernel
theorem cb_24 : (Int8.ofInt 24).toInt32 = (24 : Int32) := by decide +kernel
theorem cb_25 : (Int8.ofInt 25).toInt32 = (25 : Int32) := by decide +kernel
theorem cb_26 : (Int8.ofInt 26).toInt32 = (26 : Int32) := by decide +kernel
theorem cb_31 : (Int8.ofInt 31).toInt32 = (31 : Int32) := by decide +kernel
theorem cb_32 : (Int8.ofInt 32).toInt32 = (32 : Int32) := by decide +kernel
theorem cb_38 : (Int8.ofInt 38).toInt32 = (38 : Int32) := by decide +kernel
theorem cb_40 : (Int8.ofInt 40).toInt32 = (40 : Int32) := by decide +kernel
theorem cb_41 : (Int8.ofInt 41).toInt32 = (41 : Int32) := by decide +kernel
theorem cb_42 : (Int8.ofInt 42).toInt32 = (42 : Int32) := by decide +kernel
theorem cb_43 : (Int8.ofInt 43).toInt32 = (43 : Int32) := by decide +kernel
theorem cb_44 : (Int8.ofInt 44).toInt32 = (44 : Int32) := by decide +kernel
theorem cb_47 : (Int8.ofInt 47).toInt32 = (47 : Int32) := by decide +kernel
theorem cb_48 : (Int8.ofInt 48).toInt32 = (48 : Int32) := by decide +kernel
theorem cb_57 : (Int8.ofInt 57).toInt32 = (57 : Int32) := by decide +kernel
theorem cb_59 : (Int8.ofInt 59).toInt32 = (59 : Int32) := by decide +kernel
theorem cb_60 : (Int8.ofInt 60).toInt32 = (60 : Int32) := by decide +kernel
theorem cb_61 : (Int8.ofInt 61).toInt32 = (61 : Int32) := by decide +kernel
theorem cb_63 : (Int8.ofInt 63).toInt32 = (63 : Int32) := by decide +kernel
theorem cb_78 : (Int8.ofInt 78).toInt32 = (78 : Int32) := by decide +kernel
theorem cb_91 : (Int8.ofInt 91).toInt32 = (91 : Int32) := by decide +kernel
theorem cb_93 : (Int8.ofInt 93).toInt32 = (93 : Int32) := by decide +kernel
theorem cb_97 : (Int8.ofInt 97).toInt32 = (97 : Int32) := by decide +kernel
theorem cb_122 : (Int8.ofInt 122).toInt32 = (122 : Int32) := by decide +kernel
theorem cb_123 : (Int8.ofInt 123).toInt32 = (123 : Int32) := by decide +kernel
theorem cb_124 : (Int8.ofInt 124).toInt32 = (124 : Int32) := by decide +kernel
theorem cb_125 : (Int8.ofInt 125).toInt32 = (125 : Int32) := by decide +kernel
theorem ci_m8 : Int32.ofInt (-8) = (-8 : Int32) := by decide +kernel
theorem ci_m1 : Int32.ofInt (-1) = (-1 : Int32) := by decide +kernel
theorem ci_0 : Int32.ofInt 0 = (0 : Int32) := by decide +kernel
theorem ci_1 : Int32.ofInt 1 = (1 : Int32) := by decide +kernel
theorem ci_2 : Int32.ofInt 2 = (2 : Int32) := by decide +kernel
theorem ci_3 : Int32.ofInt 3 = (3 : Int32) := by decide +kernel
theorem ci_4 : Int32.ofInt 4 = (4 : Int32) := by decide +kernel
theorem ci_5 : Int32.ofInt 5 = (5 : Int32) := by decide +kernel
theorem cl_0 : Int64.ofNat (((0 : Fin 2)) : Nat) = (0 : Int64) := by decide +kernel
theorem cl_1 : Int64.ofNat (((1 : Fin 2)) : Nat) = (1 : Int64) := by decide +kernel
theorem cs_128 : (Int16.ofInt 128).toInt32 = (128 : Int32) := by decide +kernel
theorem cs_160 : (Int16.ofInt 160).toInt32 = (160 : Int32) := by decide +kernel
theorem cs_192 : (Int16.ofInt 192).toInt32 = (192 : Int32) := by decide +kernel
theorem cs_208 : (Int16.ofInt 208).toInt32 = (208 : Int32) := by decide +kernel
theorem cs_240 : (Int16.ofInt 240).toInt32 = (240 : Int32) := by decide +kernel
theorem cs_255 : (Int16.ofInt 255).toInt32 = (255 : Int32) := by decide +kernel
theorem cs_256 : (Int16.ofInt 256).toInt32 = (256 : Int32) := by decide +kernel
theorem cs_300 : (Int16.ofInt 300).toInt32 = (300 : Int32) := by decide +kernel
theorem cs_320 : (Int16.ofInt 320).toInt32 = (320 : Int32) := by decide +kernel
theorem cs_400 : (Int16.ofInt 400).toInt32 = (400 : Int32) := by decide +kernel
theorem cs_2047 : (Int16.ofInt 2047).toInt32 = (2047 : Int32) := by decide +kernel
theorem cs_2048 : (Int16.ofInt 2048).toInt32 = (2048 : Int32) := by decide +kernel
theorem cs_2304 : (Int16.ofInt 2304).toInt32 = (2304 : Int32) := by decide +kernel
theorem cs_7200 : (Int16.ofInt 7200).toInt32 = (7200 : Int32) := by decide +kernel
theorem cs_8738 : (Int16.ofInt 8738).toInt32 = (8738 : Int32) := by decide +kernel
theorem cs_9216 : (Int16.ofInt 9216).toInt32 = (9216 : Int32) := by decide +kernel
theorem cs_12000 : (Int16.ofInt 12000).toInt32 = (12000 : Int32) := by decide +kernel
theorem nl_0 : zt_nL zq_T 0 = 1 := by decide +kernel
theorem nr_0 : zt_ret zq_T 0 = 0 := by decide +kernel
theorem nl_1 : zt_nL zq_T 1 = 1 := by decide +kernel
theorem nr_1 : zt_ret zq_T 1 = 1 := by decide +kernel
theorem nl_2 : zt_nL zq_T 2 = 6 := by decide +kernel
theorem nr_2 : zt_ret zq_T 2 = 2 := by decide +kernel
theorem nl_3 : zt_nL zq_T 3 = 2 := by decide +kernel
theorem nr_3 : zt_ret zq_T 3 = 2 := by decide +kernel
theorem nl_4 : zt_nL zq_T 4 = 3 := by decide +kernel
theorem nr_4 : zt_ret zq_T 4 = 1 := by decide +kernel
theorem nl_5 : zt_nL zq_T 5 = 4 := by decide +kernel
theorem nr_5 : zt_ret zq_T 5 = 0 := by decide +kernel
theorem nl_6 : zt_nL zq_T 6 = 6 := by decide +kernel
theorem nr_6 : zt_ret zq_T 6 = 1 := by decide +kernel
theorem nl_7 : zt_nL zq_T 7 = 2 := by decide +kernel
theorem nr_7 : zt_ret zq_T 7 = 2 := by decide +kernel
theorem nl_8 : zt_nL zq_T 8 = 1 := by decide +kernel
theorem nr_8 : zt_ret zq_T 8 = 1 := by decide +kernel
theorem nl_9 : zt_nL zq_T 9 = 1 := by decide +kernel
theorem nr_9 : zt_ret zq_T 9 = 1 := by decide +kernel
theorem nl_10 : zt_nL zq_T 10 = 2 := by decide +kernel
theorem nr_10 : zt_ret zq_T 10 = 0 := by decide +kernel
theorem nl_11 : zt_nL zq_T 11 = 1 := by decide +kernel
theorem nr_11 : zt_ret zq_T 11 = 2 := by decide +kernel
theorem nl_12 : zt_nL zq_T 12 = 2 := by decide +kernel
theorem nr_12 : zt_ret zq_T 12 = 2 := by decide +kernel
theorem nl_13 : zt_nL zq_T 13 = 1 := by decide +kernel
theorem nr_13 : zt_ret zq_T 13 = 2 := by decide +kernel
theorem nl_14 : zt_nL zq_T 14 = 1 := by decide +kernel
theorem nr_14 : zt_ret zq_T 14 = 2 := by decide +kernel
theorem nl_15 : zt_nL zq_T 15 = 5 := by decide +kernel
theorem nr_15 : zt_ret zq_T 15 = 1 := by decide +kernel
theorem nl_16 : zt_nL zq_T 16 = 5 := by decide +kernel
theorem nr_16 : zt_ret zq_T 16 = 0 := by decide +kernel
theorem nl_17 : zt_nL zq_T 17 = 2 := by decide +kernel
theorem nr_17 : zt_ret zq_T 17 = 1 := by decide +kernel
theorem nl_18 : zt_nL zq_T 18 = 2 := by decide +kernel
theorem nr_18 : zt_ret zq_T 18 = 1 := by decide +kernel
theorem nl_19 : zt_nL zq_T 19 = 7 := by decide +kernel
theorem nr_19 : zt_ret zq_T 19 = 1 := by decide +kernel
theorem nl_20 : zt_nL zq_T 20 = 2 := by decide +kernel
theorem nr_20 : zt_ret zq_T 20 = 1 := by decide +kernel
theorem nl_21 : zt_nL zq_T 21 = 7 := by decide +kernel
theorem nr_21 : zt_ret zq_T 21 = 1 := by decide +kernel
theorem nl_22 : zt_nL zq_T 22 = 7 := by decide +kernel
theorem nr_22 : zt_ret zq_T 22 = 1 := by decide +kernel
theorem nl_23 : zt_nL zq_T 23 = 7 := by decide +kernel
theorem nr_23 : zt_ret zq_T 23 = 1 := by decide +kernel
theorem nl_24 : zt_nL zq_T 24 = 5 := by decide +kernel
theorem nr_24 : zt_ret zq_T 24 = 1 := by decide +kernel
theorem nl_25 : zt_nL zq_T 25 = 3 := by decide +kernel
theorem nr_25 : zt_ret zq_T 25 = 0 := by decide +kernel
theorem nl_26 : zt_nL zq_T 26 = 4 := by decide +kernel
theorem nr_26 : zt_ret zq_T 26 = 0 := by decide +kernel
theorem nl_27 : zt_nL zq_T 27 = 2 := by decide +kernel
theorem nr_27 : zt_ret zq_T 27 = 1 := by decide +kernel
theorem nl_28 : zt_nL zq_T 28 = 7 := by decide +kernel
theorem nr_28 : zt_ret zq_T 28 = 0 := by decide +kernel
theorem nl_29 : zt_nL zq_T 29 = 1 := by decide +kernel
theorem nr_29 : zt_ret zq_T 29 = 1 := by decide +kernel
theorem nl_30 : zt_nL zq_T 30 = 2 := by decide +kernel
theorem nr_30 : zt_ret zq_T 30 = 1 := by decide +kernel
theorem nl_31 : zt_nL zq_T 31 = 3 := by decide +kernel
theorem nr_31 : zt_ret zq_T 31 = 0 := by decide +kernel
theorem nl_32 : zt_nL zq_T 32 = 1 := by decide +kernel
theorem nr_32 : zt_ret zq_T 32 = 1 := by decide +kernel
theorem nl_33 : zt_nL zq_T 33 = 1 := by decide +kernel
theorem nr_33 : zt_ret zq_T 33 = 1 := by decide +kernel
theorem nl_34 : zt_nL zq_T 34 = 2 := by decide +kernel
theorem nr_34 : zt_ret zq_T 34 = 2 := by decide +kernel
theorem nl_35 : zt_nL zq_T 35 = 3 := by decide +kernel
theorem nr_35 : zt_ret zq_T 35 = 1 := by decide +kernel
theorem nl_36 : zt_nL zq_T 36 = 3 := by decide +kernel
theorem nr_36 : zt_ret zq_T 36 = 1 := by decide +kernel
theorem nl_37 : zt_nL zq_T 37 = 3 := by decide +kernel
theorem nr_37 : zt_ret zq_T 37 = 1 := by decide +kernel
theorem nl_38 : zt_nL zq_T 38 = 3 := by decide +kernel
theorem nr_38 : zt_ret zq_T 38 = 1 := by decide +kernel
theorem nl_39 : zt_nL zq_T 39 = 3 := by decide +kernel
theorem nr_39 : zt_ret zq_T 39 = 1 := by decide +kernel
theorem nl_40 : zt_nL zq_T 40 = 3 := by decide +kernel
theorem nr_40 : zt_ret zq_T 40 = 1 := by decide +kernel
theorem nl_41 : zt_nL zq_T 41 = 5 := by decide +kernel
theorem nr_41 : zt_ret zq_T 41 = 2 := by decide +kernel
theorem nl_42 : zt_nL zq_T 42 = 4 := by decide +kernel
theorem nr_42 : zt_ret zq_T 42 = 2 := by decide +kernel
theorem nl_43 : zt_nL zq_T 43 = 7 := by decide +kernel
theorem nr_43 : zt_ret zq_T 43 = 2 := by decide +kernel
theorem nl_44 : zt_nL zq_T 44 = 4 := by decide +kernel
theorem nr_44 : zt_ret zq_T 44 = 2 := by decide +kernel
theorem nl_45 : zt_nL zq_T 45 = 4 := by decide +kernel
theorem nr_45 : zt_ret zq_T 45 = 2 := by decide +kernel
theorem nl_46 : zt_nL zq_T 46 = 5 := by decide +kernel
theorem nr_46 : zt_ret zq_T 46 = 1 := by decide +kernel
theorem nl_47 : zt_nL zq_T 47 = 6 := by decide +kernel
theorem nr_47 : zt_ret zq_T 47 = 0 := by decide +kernel
theorem nl_48 : zt_nL zq_T 48 = 5 := by decide +kernel
theorem nr_48 : zt_ret zq_T 48 = 2 := by decide +kernel
theorem nl_49 : zt_nL zq_T 49 = 7 := by decide +kernel
theorem nr_49 : zt_ret zq_T 49 = 0 := by decide +kernel
theorem nl_50 : zt_nL zq_T 50 = 3 := by decide +kernel
theorem nr_50 : zt_ret zq_T 50 = 2 := by decide +kernel
theorem nl_51 : zt_nL zq_T 51 = 6 := by decide +kernel
theorem nr_51 : zt_ret zq_T 51 = 1 := by decide +kernel
theorem nl_52 : zt_nL zq_T 52 = 6 := by decide +kernel
theorem nr_52 : zt_ret zq_T 52 = 2 := by decide +kernel
theorem nl_53 : zt_nL zq_T 53 = 7 := by decide +kernel
theorem nr_53 : zt_ret zq_T 53 = 2 := by decide +kernel
theorem nl_54 : zt_nL zq_T 54 = 7 := by decide +kernel
theorem nr_54 : zt_ret zq_T 54 = 2 := by decide +kernel
theorem nl_55 : zt_nL zq_T 55 = 7 := by decide +kernel
theorem nr_55 : zt_ret zq_T 55 = 2 := by decide +kernel
theorem nl_56 : zt_nL zq_T 56 = 2 := by decide +kernel
theorem nr_56 : zt_ret zq_T 56 = 0 := by decide +kernel
theorem nl_57 : zt_nL zq_T 57 = 4 := by decide +kernel
theorem nr_57 : zt_ret zq_T 57 = 0 := by decide +kernel
theorem nl_58 : zt_nL zq_T 58 = 5 := by decide +kernel
theorem nr_58 : zt_ret zq_T 58 = 1 := by decide +kernel
theorem nl_59 : zt_nL zq_T 59 = 7 := by decide +kernel
theorem nr_59 : zt_ret zq_T 59 = 0 := by decide +kernel
theorem nl_60 : zt_nL zq_T 60 = 4 := by decide +kernel
theorem nr_60 : zt_ret zq_T 60 = 2 := by decide +kernel
theorem nl_61 : zt_nL zq_T 61 = 7 := by decide +kernel
theorem nr_61 : zt_ret zq_T 61 = 2 := by decide +kernel
theorem nl_62 : zt_nL zq_T 62 = 8 := by decide +kernel
theorem nr_62 : zt_ret zq_T 62 = 2 := by decide +kernel
theorem nl_63 : zt_nL zq_T 63 = 4 := by decide +kernel
theorem nr_63 : zt_ret zq_T 63 = 2 := by decide +kernel
theorem nl_64 : zt_nL zq_T 64 = 14 := by decide +kernel
theorem nr_64 : zt_ret zq_T 64 = 2 := by decide +kernel
theorem nl_65 : zt_nL zq_T 65 = 8 := by decide +kernel
theorem nr_65 : zt_ret zq_T 65 = 2 := by decide +kernel
theorem nl_66 : zt_nL zq_T 66 = 3 := by decide +kernel
theorem nr_66 : zt_ret zq_T 66 = 1 := by decide +kernel
theorem nl_67 : zt_nL zq_T 67 = 11 := by decide +kernel
theorem nr_67 : zt_ret zq_T 67 = 0 := by decide +kernel
theorem nl_68 : zt_nL zq_T 68 = 3 := by decide +kernel
theorem nr_68 : zt_ret zq_T 68 = 2 := by decide +kernel
theorem nl_69 : zt_nL zq_T 69 = 7 := by decide +kernel
theorem nr_69 : zt_ret zq_T 69 = 1 := by decide +kernel
theorem nl_70 : zt_nL zq_T 70 = 2 := by decide +kernel
theorem nr_70 : zt_ret zq_T 70 = 2 := by decide +kernel
theorem nl_71 : zt_nL zq_T 71 = 5 := by decide +kernel
theorem nr_71 : zt_ret zq_T 71 = 2 := by decide +kernel
theorem nl_72 : zt_nL zq_T 72 = 9 := by decide +kernel
theorem nr_72 : zt_ret zq_T 72 = 0 := by decide +kernel
theorem nl_73 : zt_nL zq_T 73 = 6 := by decide +kernel
theorem nr_73 : zt_ret zq_T 73 = 2 := by decide +kernel
theorem nl_74 : zt_nL zq_T 74 = 4 := by decide +kernel
theorem nr_74 : zt_ret zq_T 74 = 1 := by decide +kernel
theorem nl_75 : zt_nL zq_T 75 = 4 := by decide +kernel
theorem nr_75 : zt_ret zq_T 75 = 1 := by decide +kernel
theorem nl_76 : zt_nL zq_T 76 = 7 := by decide +kernel
theorem nr_76 : zt_ret zq_T 76 = 1 := by decide +kernel
theorem nl_77 : zt_nL zq_T 77 = 4 := by decide +kernel
theorem nr_77 : zt_ret zq_T 77 = 1 := by decide +kernel
theorem nl_78 : zt_nL zq_T 78 = 3 := by decide +kernel
theorem nr_78 : zt_ret zq_T 78 = 1 := by decide +kernel
theorem nl_79 : zt_nL zq_T 79 = 5 := by decide +kernel
theorem nr_79 : zt_ret zq_T 79 = 1 := by decide +kernel
theorem nl_80 : zt_nL zq_T 80 = 3 := by decide +kernel
theorem nr_80 : zt_ret zq_T 80 = 1 := by decide +kernel
theorem nl_81 : zt_nL zq_T 81 = 3 := by decide +kernel
theorem nr_81 : zt_ret zq_T 81 = 1 := by decide +kernel
theorem nl_82 : zt_nL zq_T 82 = 5 := by decide +kernel
theorem nr_82 : zt_ret zq_T 82 = 1 := by decide +kernel
theorem nl_83 : zt_nL zq_T 83 = 4 := by decide +kernel
theorem nr_83 : zt_ret zq_T 83 = 1 := by decide +kernel
theorem nl_84 : zt_nL zq_T 84 = 6 := by decide +kernel
theorem nr_84 : zt_ret zq_T 84 = 1 := by decide +kernel
theorem nl_85 : zt_nL zq_T 85 = 4 := by decide +kernel
theorem nr_85 : zt_ret zq_T 85 = 1 := by decide +kernel
theorem nl_86 : zt_nL zq_T 86 = 4 := by decide +kernel
theorem nr_86 : zt_ret zq_T 86 = 1 := by decide +kernel
theorem nl_87 : zt_nL zq_T 87 = 6 := by decide +kernel
theorem nr_87 : zt_ret zq_T 87 = 1 := by decide +kernel
theorem nl_88 : zt_nL zq_T 88 = 3 := by decide +kernel
theorem nr_88 : zt_ret zq_T 88 = 1 := by decide +kernel
theorem nl_89 : zt_nL zq_T 89 = 3 := by decide +kernel
theorem nr_89 : zt_ret zq_T 89 = 0 := by decide +kernel
theorem nl_90 : zt_nL zq_T 90 = 3 := by decide +kernel
theorem nr_90 : zt_ret zq_T 90 = 1 := by decide +kernel
theorem nl_91 : zt_nL zq_T 91 = 3 := by decide +kernel
theorem nr_91 : zt_ret zq_T 91 = 1 := by decide +kernel
theorem nl_92 : zt_nL zq_T 92 = 6 := by decide +kernel
theorem nr_92 : zt_ret zq_T 92 = 2 := by decide +kernel
theorem nl_93 : zt_nL zq_T 93 = 6 := by decide +kernel
theorem nr_93 : zt_ret zq_T 93 = 2 := by decide +kernel
theorem nl_94 : zt_nL zq_T 94 = 4 := by decide +kernel
theorem nr_94 : zt_ret zq_T 94 = 2 := by decide +kernel
theorem nl_95 : zt_nL zq_T 95 = 5 := by decide +kernel
theorem nr_95 : zt_ret zq_T 95 = 0 := by decide +kernel
theorem nl_96 : zt_nL zq_T 96 = 8 := by decide +kernel
theorem nr_96 : zt_ret zq_T 96 = 0 := by decide +kernel
theorem nl_97 : zt_nL zq_T 97 = 6 := by decide +kernel
theorem nr_97 : zt_ret zq_T 97 = 2 := by decide +kernel
theorem nl_98 : zt_nL zq_T 98 = 5 := by decide +kernel
theorem nr_98 : zt_ret zq_T 98 = 1 := by decide +kernel
theorem nl_99 : zt_nL zq_T 99 = 6 := by decide +kernel
theorem nr_99 : zt_ret zq_T 99 = 1 := by decide +kernel
theorem nl_100 : zt_nL zq_T 100 = 4 := by decide +kernel
theorem nr_100 : zt_ret zq_T 100 = 2 := by decide +kernel
theorem nl_101 : zt_nL zq_T 101 = 8 := by decide +kernel
theorem nr_101 : zt_ret zq_T 101 = 1 := by decide +kernel
theorem nl_102 : zt_nL zq_T 102 = 3 := by decide +kernel
theorem nr_102 : zt_ret zq_T 102 = 1 := by decide +kernel
theorem nl_103 : zt_nL zq_T 103 = 2 := by decide +kernel
theorem nr_103 : zt_ret zq_T 103 = 1 := by decide +kernel
theorem nl_104 : zt_nL zq_T 104 = 4 := by decide +kernel
theorem nr_104 : zt_ret zq_T 104 = 1 := by decide +kernel
theorem nl_105 : zt_nL zq_T 105 = 2 := by decide +kernel
theorem nr_105 : zt_ret zq_T 105 = 1 := by decide +kernel
theorem nl_106 : zt_nL zq_T 106 = 3 := by decide +kernel
theorem nr_106 : zt_ret zq_T 106 = 1 := by decide +kernel
theorem nl_107 : zt_nL zq_T 107 = 2 := by decide +kernel
theorem nr_107 : zt_ret zq_T 107 = 1 := by decide +kernel
theorem nl_108 : zt_nL zq_T 108 = 2 := by decide +kernel
theorem nr_108 : zt_ret zq_T 108 = 1 := by decide +kernel
theorem nl_109 : zt_nL zq_T 109 = 6 := by decide +kernel
theorem nr_109 : zt_ret zq_T 109 = 2 := by decide +kernel
theorem nl_110 : zt_nL zq_T 110 = 5 := by decide +kernel
theorem nr_110 : zt_ret zq_T 110 = 2 := by decide +kernel
theorem nl_111 : zt_nL zq_T 111 = 2 := by decide +kernel
theorem nr_111 : zt_ret zq_T 111 = 1 := by decide +kernel
theorem nl_112 : zt_nL zq_T 112 = 12 := by decide +kernel
theorem nr_112 : zt_ret zq_T 112 = 2 := by decide +kernel
theorem nl_113 : zt_nL zq_T 113 = 5 := by decide +kernel
theorem nr_113 : zt_ret zq_T 113 = 1 := by decide +kernel
theorem nl_114 : zt_nL zq_T 114 = 2 := by decide +kernel
theorem nr_114 : zt_ret zq_T 114 = 2 := by decide +kernel
theorem nl_115 : zt_nL zq_T 115 = 3 := by decide +kernel
theorem nr_115 : zt_ret zq_T 115 = 1 := by decide +kernel
theorem nl_116 : zt_nL zq_T 116 = 6 := by decide +kernel
theorem nr_116 : zt_ret zq_T 116 = 1 := by decide +kernel
theorem nl_117 : zt_nL zq_T 117 = 4 := by decide +kernel
theorem nr_117 : zt_ret zq_T 117 = 1 := by decide +kernel
theorem nl_118 : zt_nL zq_T 118 = 3 := by decide +kernel
theorem nr_118 : zt_ret zq_T 118 = 1 := by decide +kernel
theorem nl_119 : zt_nL zq_T 119 = 4 := by decide +kernel
theorem nr_119 : zt_ret zq_T 119 = 1 := by decide +kernel
theorem nl_120 : zt_nL zq_T 120 = 2 := by decide +kernel
theorem nr_120 : zt_ret zq_T 120 = 0 := by decide +kernel
theorem nl_121 : zt_nL zq_T 121 = 3 := by decide +kernel
theorem nr_121 : zt_ret zq_T 121 = 0 := by decide +kernel
theorem nl_122 : zt_nL zq_T 122 = 2 := by decide +kernel
theorem nr_122 : zt_ret zq_T 122 = 0 := by decide +kernel
theorem nl_123 : zt_nL zq_T 123 = 5 := by decide +kernel
theorem nr_123 : zt_ret zq_T 123 = 1 := by decide +kernel
theorem nl_124 : zt_nL zq_T 124 = 5 := by decide +kernel
theorem nr_124 : zt_ret zq_T 124 = 0 := by decide +kernel
theorem nl_125 : zt_nL zq_T 125 = 3 := by decide +kernel
theorem nr_125 : zt_ret zq_T 125 = 1 := by decide +kernel
theorem nl_126 : zt_nL zq_T 126 = 5 := by decide +kernel
theorem nr_126 : zt_ret zq_T 126 = 1 := by decide +kernel
theorem nl_127 : zt_nL zq_T 127 = 4 := by decide +kernel
theorem nr_127 : zt_ret zq_T 127 = 1 := by decide +kernel
theorem nl_128 : zt_nL zq_T 128 = 4 := by decide +kernel
theorem nr_128 : zt_ret zq_T 128 = 1 := by decide +kernel
theorem nl_129 : zt_nL zq_T 129 = 3 := by decide +kernel
theorem nr_129 : zt_ret zq_T 129 = 1 := by decide +kernel
theorem nl_130 : zt_nL zq_T 130 = 3 := by decide +kernel
theorem nr_130 : zt_ret zq_T 130 = 1 := by decide +kernel
theorem nl_131 : zt_nL zq_T 131 = 2 := by decide +kernel
theorem nr_131 : zt_ret zq_T 131 = 1 := by decide +kernel
theorem nl_132 : zt_nL zq_T 132 = 1 := by decide +kernel
theorem nr_132 : zt_ret zq_T 132 = 0 := by decide +kernel
theorem nl_133 : zt_nL zq_T 133 = 1 := by decide +kernel
theorem nr_133 : zt_ret zq_T 133 = 0 := by decide +kernel
theorem nl_134 : zt_nL zq_T 134 = 3 := by decide +kernel
theorem nr_134 : zt_ret zq_T 134 = 2 := by decide +kernel
theorem nl_135 : zt_nL zq_T 135 = 3 := by decide +kernel
theorem nr_135 : zt_ret zq_T 135 = 0 := by decide +kernel
theorem nl_136 : zt_nL zq_T 136 = 10 := by decide +kernel
theorem nr_136 : zt_ret zq_T 136 = 0 := by decide +kernel
theorem nl_137 : zt_nL zq_T 137 = 9 := by decide +kernel
theorem nr_137 : zt_ret zq_T 137 = 2 := by decide +kernel
theorem nl_138 : zt_nL zq_T 138 = 8 := by decide +kernel
theorem nr_138 : zt_ret zq_T 138 = 0 := by decide +kernel
theorem nl_139 : zt_nL zq_T 139 = 4 := by decide +kernel
theorem nr_139 : zt_ret zq_T 139 = 1 := by decide +kernel
theorem nl_140 : zt_nL zq_T 140 = 3 := by decide +kernel
theorem nr_140 : zt_ret zq_T 140 = 1 := by decide +kernel
theorem nl_141 : zt_nL zq_T 141 = 3 := by decide +kernel
theorem nr_141 : zt_ret zq_T 141 = 2 := by decide +kernel
theorem nl_142 : zt_nL zq_T 142 = 5 := by decide +kernel
theorem nr_142 : zt_ret zq_T 142 = 0 := by decide +kernel
theorem nl_143 : zt_nL zq_T 143 = 6 := by decide +kernel
theorem nr_143 : zt_ret zq_T 143 = 0 := by decide +kernel
theorem nl_144 : zt_nL zq_T 144 = 1 := by decide +kernel
theorem nr_144 : zt_ret zq_T 144 = 0 := by decide +kernel
theorem nl_145 : zt_nL zq_T 145 = 5 := by decide +kernel
theorem nr_145 : zt_ret zq_T 145 = 1 := by decide +kernel
theorem nl_146 : zt_nL zq_T 146 = 3 := by decide +kernel
theorem nr_146 : zt_ret zq_T 146 = 2 := by decide +kernel
theorem nl_147 : zt_nL zq_T 147 = 2 := by decide +kernel
theorem nr_147 : zt_ret zq_T 147 = 2 := by decide +kernel
theorem nl_148 : zt_nL zq_T 148 = 5 := by decide +kernel
theorem nr_148 : zt_ret zq_T 148 = 0 := by decide +kernel
theorem nl_149 : zt_nL zq_T 149 = 7 := by decide +kernel
theorem nr_149 : zt_ret zq_T 149 = 0 := by decide +kernel
theorem nl_150 : zt_nL zq_T 150 = 6 := by decide +kernel
theorem nr_150 : zt_ret zq_T 150 = 0 := by decide +kernel
theorem nl_151 : zt_nL zq_T 151 = 3 := by decide +kernel
theorem nr_151 : zt_ret zq_T 151 = 1 := by decide +kernel
theorem nl_152 : zt_nL zq_T 152 = 4 := by decide +kernel
theorem nr_152 : zt_ret zq_T 152 = 1 := by decide +kernel
theorem nl_153 : zt_nL zq_T 153 = 3 := by decide +kernel
theorem nr_153 : zt_ret zq_T 153 = 1 := by decide +kernel
theorem nl_154 : zt_nL zq_T 154 = 3 := by decide +kernel
theorem nr_154 : zt_ret zq_T 154 = 1 := by decide +kernel
theorem nl_155 : zt_nL zq_T 155 = 3 := by decide +kernel
theorem nr_155 : zt_ret zq_T 155 = 0 := by decide +kernel
theorem nl_156 : zt_nL zq_T 156 = 4 := by decide +kernel
theorem nr_156 : zt_ret zq_T 156 = 0 := by decide +kernel
theorem nl_157 : zt_nL zq_T 157 = 5 := by decide +kernel
theorem nr_157 : zt_ret zq_T 157 = 1 := by decide +kernel
theorem nl_158 : zt_nL zq_T 158 = 5 := by decide +kernel
theorem nr_158 : zt_ret zq_T 158 = 1 := by decide +kernel
theorem nl_159 : zt_nL zq_T 159 = 2 := by decide +kernel
theorem nr_159 : zt_ret zq_T 159 = 0 := by decide +kernel
theorem nl_160 : zt_nL zq_T 160 = 3 := by decide +kernel
theorem nr_160 : zt_ret zq_T 160 = 0 := by decide +kernel
theorem nl_161 : zt_nL zq_T 161 = 1 := by decide +kernel
theorem nr_161 : zt_ret zq_T 161 = 0 := by decide +kernel
theorem nl_162 : zt_nL zq_T 162 = 5 := by decide +kernel
theorem nr_162 : zt_ret zq_T 162 = 0 := by decide +kernel
theorem nl_163 : zt_nL zq_T 163 = 5 := by decide +kernel
theorem nr_163 : zt_ret zq_T 163 = 0 := by decide +kernel
theorem nl_164 : zt_nL zq_T 164 = 3 := by decide +kernel
theorem nr_164 : zt_ret zq_T 164 = 0 := by decide +kernel
theorem nl_165 : zt_nL zq_T 165 = 2 := by decide +kernel
theorem nr_165 : zt_ret zq_T 165 = 0 := by decide +kernel
theorem nl_166 : zt_nL zq_T 166 = 2 := by decide +kernel
theorem nr_166 : zt_ret zq_T 166 = 0 := by decide +kernel
theorem nl_167 : zt_nL zq_T 167 = 4 := by decide +kernel
theorem nr_167 : zt_ret zq_T 167 = 0 := by decide +kernel
theorem nl_168 : zt_nL zq_T 168 = 6 := by decide +kernel
theorem nr_168 : zt_ret zq_T 168 = 0 := by decide +kernel
theorem nl_169 : zt_nL zq_T 169 = 7 := by decide +kernel
theorem nr_169 : zt_ret zq_T 169 = 0 := by decide +kernel
theorem nl_170 : zt_nL zq_T 170 = 7 := by decide +kernel
theorem nr_170 : zt_ret zq_T 170 = 0 := by decide +kernel
theorem nl_171 : zt_nL zq_T 171 = 4 := by decide +kernel
theorem nr_171 : zt_ret zq_T 171 = 0 := by decide +kernel
theorem nl_172 : zt_nL zq_T 172 = 3 := by decide +kernel
theorem nr_172 : zt_ret zq_T 172 = 0 := by decide +kernel
theorem nl_173 : zt_nL zq_T 173 = 2 := by decide +kernel
theorem nr_173 : zt_ret zq_T 173 = 0 := by decide +kernel
theorem nl_174 : zt_nL zq_T 174 = 6 := by decide +kernel
theorem nr_174 : zt_ret zq_T 174 = 0 := by decide +kernel
theorem nl_175 : zt_nL zq_T 175 = 6 := by decide +kernel
theorem nr_175 : zt_ret zq_T 175 = 0 := by decide +kernel
theorem nl_176 : zt_nL zq_T 176 = 5 := by decide +kernel
theorem nr_176 : zt_ret zq_T 176 = 0 := by decide +kernel
theorem nl_177 : zt_nL zq_T 177 = 1 := by decide +kernel
theorem nr_177 : zt_ret zq_T 177 = 0 := by decide +kernel
theorem nl_178 : zt_nL zq_T 178 = 3 := by decide +kernel
theorem nr_178 : zt_ret zq_T 178 = 0 := by decide +kernel
theorem nl_179 : zt_nL zq_T 179 = 2 := by decide +kernel
theorem nr_179 : zt_ret zq_T 179 = 0 := by decide +kernel
theorem nl_180 : zt_nL zq_T 180 = 2 := by decide +kernel
theorem nr_180 : zt_ret zq_T 180 = 4 := by decide +kernel
theorem nl_181 : zt_nL zq_T 181 = 1 := by decide +kernel
theorem nr_181 : zt_ret zq_T 181 = 1 := by decide +kernel
theorem nl_182 : zt_nL zq_T 182 = 1 := by decide +kernel
theorem nr_182 : zt_ret zq_T 182 = 0 := by decide +kernel
theorem nl_183 : zt_nL zq_T 183 = 1 := by decide +kernel
theorem nr_183 : zt_ret zq_T 183 = 0 := by decide +kernel
theorem nl_184 : zt_nL zq_T 184 = 5 := by decide +kernel
theorem nr_184 : zt_ret zq_T 184 = 1 := by decide +kernel
theorem nl_185 : zt_nL zq_T 185 = 6 := by decide +kernel
theorem nr_185 : zt_ret zq_T 185 = 0 := by decide +kernel
theorem nl_186 : zt_nL zq_T 186 = 1 := by decide +kernel
theorem nr_186 : zt_ret zq_T 186 = 2 := by decide +kernel
theorem nl_187 : zt_nL zq_T 187 = 5 := by decide +kernel
theorem nr_187 : zt_ret zq_T 187 = 0 := by decide +kernel
theorem nl_188 : zt_nL zq_T 188 = 4 := by decide +kernel
theorem nr_188 : zt_ret zq_T 188 = 0 := by decide +kernel
theorem nl_189 : zt_nL zq_T 189 = 5 := by decide +kernel
theorem nr_189 : zt_ret zq_T 189 = 2 := by decide +kernel
theorem nl_190 : zt_nL zq_T 190 = 8 := by decide +kernel
theorem nr_190 : zt_ret zq_T 190 = 2 := by decide +kernel
theorem nl_191 : zt_nL zq_T 191 = 4 := by decide +kernel
theorem nr_191 : zt_ret zq_T 191 = 2 := by decide +kernel
theorem nl_192 : zt_nL zq_T 192 = 1 := by decide +kernel
theorem nr_192 : zt_ret zq_T 192 = 0 := by decide +kernel
theorem nl_193 : zt_nL zq_T 193 = 2 := by decide +kernel
theorem nr_193 : zt_ret zq_T 193 = 0 := by decide +kernel
theorem nl_194 : zt_nL zq_T 194 = 4 := by decide +kernel
theorem nr_194 : zt_ret zq_T 194 = 1 := by decide +kernel
theorem nl_195 : zt_nL zq_T 195 = 1 := by decide +kernel
theorem nr_195 : zt_ret zq_T 195 = 1 := by decide +kernel
theorem nl_196 : zt_nL zq_T 196 = 4 := by decide +kernel
theorem nr_196 : zt_ret zq_T 196 = 1 := by decide +kernel
theorem nl_197 : zt_nL zq_T 197 = 4 := by decide +kernel
theorem nr_197 : zt_ret zq_T 197 = 1 := by decide +kernel
theorem nl_198 : zt_nL zq_T 198 = 2 := by decide +kernel
theorem nr_198 : zt_ret zq_T 198 = 0 := by decide +kernel
theorem nl_199 : zt_nL zq_T 199 = 3 := by decide +kernel
theorem nr_199 : zt_ret zq_T 199 = 1 := by decide +kernel
theorem nl_200 : zt_nL zq_T 200 = 3 := by decide +kernel
theorem nr_200 : zt_ret zq_T 200 = 1 := by decide +kernel
theorem nl_201 : zt_nL zq_T 201 = 3 := by decide +kernel
theorem nr_201 : zt_ret zq_T 201 = 1 := by decide +kernel
theorem nl_202 : zt_nL zq_T 202 = 5 := by decide +kernel
theorem nr_202 : zt_ret zq_T 202 = 1 := by decide +kernel
theorem nl_203 : zt_nL zq_T 203 = 1 := by decide +kernel
theorem nr_203 : zt_ret zq_T 203 = 1 := by decide +kernel
theorem nl_204 : zt_nL zq_T 204 = 1 := by decide +kernel
theorem nr_204 : zt_ret zq_T 204 = 2 := by decide +kernel
theorem nl_205 : zt_nL zq_T 205 = 1 := by decide +kernel
theorem nr_205 : zt_ret zq_T 205 = 4 := by decide +kernel
theorem nl_206 : zt_nL zq_T 206 = 4 := by decide +kernel
theorem nr_206 : zt_ret zq_T 206 = 4 := by decide +kernel
theorem nl_207 : zt_nL zq_T 207 = 1 := by decide +kernel
theorem nr_207 : zt_ret zq_T 207 = 2 := by decide +kernel
theorem nl_208 : zt_nL zq_T 208 = 1 := by decide +kernel
theorem nr_208 : zt_ret zq_T 208 = 2 := by decide +kernel
theorem nl_209 : zt_nL zq_T 209 = 2 := by decide +kernel
theorem nr_209 : zt_ret zq_T 209 = 2 := by decide +kernel
theorem nl_210 : zt_nL zq_T 210 = 2 := by decide +kernel
theorem nr_210 : zt_ret zq_T 210 = 4 := by decide +kernel
theorem nl_211 : zt_nL zq_T 211 = 8 := by decide +kernel
theorem nr_211 : zt_ret zq_T 211 = 4 := by decide +kernel
theorem nl_212 : zt_nL zq_T 212 = 3 := by decide +kernel
theorem nr_212 : zt_ret zq_T 212 = 4 := by decide +kernel
theorem nl_213 : zt_nL zq_T 213 = 5 := by decide +kernel
theorem nr_213 : zt_ret zq_T 213 = 4 := by decide +kernel
theorem nl_214 : zt_nL zq_T 214 = 3 := by decide +kernel
theorem nr_214 : zt_ret zq_T 214 = 2 := by decide +kernel
theorem nl_215 : zt_nL zq_T 215 = 5 := by decide +kernel
theorem nr_215 : zt_ret zq_T 215 = 2 := by decide +kernel
theorem nl_216 : zt_nL zq_T 216 = 5 := by decide +kernel
theorem nr_216 : zt_ret zq_T 216 = 1 := by decide +kernel
theorem nl_217 : zt_nL zq_T 217 = 2 := by decide +kernel
theorem nr_217 : zt_ret zq_T 217 = 2 := by decide +kernel
theorem nl_218 : zt_nL zq_T 218 = 3 := by decide +kernel
theorem nr_218 : zt_ret zq_T 218 = 4 := by decide +kernel
theorem nl_219 : zt_nL zq_T 219 = 3 := by decide +kernel
theorem nr_219 : zt_ret zq_T 219 = 4 := by decide +kernel
theorem nl_220 : zt_nL zq_T 220 = 3 := by decide +kernel
theorem nr_220 : zt_ret zq_T 220 = 4 := by decide +kernel
theorem nl_221 : zt_nL zq_T 221 = 6 := by decide +kernel
theorem nr_221 : zt_ret zq_T 221 = 4 := by decide +kernel
theorem nl_222 : zt_nL zq_T 222 = 1 := by decide +kernel
theorem nr_222 : zt_ret zq_T 222 = 0 := by decide +kernel
theorem nl_223 : zt_nL zq_T 223 = 3 := by decide +kernel
theorem nr_223 : zt_ret zq_T 223 = 0 := by decide +kernel
theorem nl_224 : zt_nL zq_T 224 = 2 := by decide +kernel
theorem nr_224 : zt_ret zq_T 224 = 1 := by decide +kernel
theorem nl_225 : zt_nL zq_T 225 = 8 := by decide +kernel
theorem nr_225 : zt_ret zq_T 225 = 1 := by decide +kernel
theorem nl_226 : zt_nL zq_T 226 = 4 := by decide +kernel
theorem nr_226 : zt_ret zq_T 226 = 1 := by decide +kernel
theorem nl_227 : zt_nL zq_T 227 = 3 := by decide +kernel
theorem nr_227 : zt_ret zq_T 227 = 1 := by decide +kernel
theorem nl_228 : zt_nL zq_T 228 = 4 := by decide +kernel
theorem nr_228 : zt_ret zq_T 228 = 1 := by decide +kernel
theorem nl_229 : zt_nL zq_T 229 = 9 := by decide +kernel
theorem nr_229 : zt_ret zq_T 229 = 0 := by decide +kernel
theorem nl_230 : zt_nL zq_T 230 = 2 := by decide +kernel
theorem nr_230 : zt_ret zq_T 230 = 0 := by decide +kernel
theorem nl_231 : zt_nL zq_T 231 = 3 := by decide +kernel
theorem nr_231 : zt_ret zq_T 231 = 0 := by decide +kernel
theorem nl_232 : zt_nL zq_T 232 = 5 := by decide +kernel
theorem nr_232 : zt_ret zq_T 232 = 0 := by decide +kernel
theorem nl_233 : zt_nL zq_T 233 = 7 := by decide +kernel
theorem nr_233 : zt_ret zq_T 233 = 0 := by decide +kernel
theorem nl_234 : zt_nL zq_T 234 = 6 := by decide +kernel
theorem nr_234 : zt_ret zq_T 234 = 0 := by decide +kernel
theorem nl_235 : zt_nL zq_T 235 = 5 := by decide +kernel
theorem nr_235 : zt_ret zq_T 235 = 0 := by decide +kernel
theorem nl_236 : zt_nL zq_T 236 = 9 := by decide +kernel
theorem nr_236 : zt_ret zq_T 236 = 0 := by decide +kernel
theorem nl_237 : zt_nL zq_T 237 = 11 := by decide +kernel
theorem nr_237 : zt_ret zq_T 237 = 3 := by decide +kernel
theorem nl_238 : zt_nL zq_T 238 = 6 := by decide +kernel
theorem nr_238 : zt_ret zq_T 238 = 3 := by decide +kernel
theorem nl_239 : zt_nL zq_T 239 = 7 := by decide +kernel
theorem nr_239 : zt_ret zq_T 239 = 2 := by decide +kernel
theorem nl_240 : zt_nL zq_T 240 = 6 := by decide +kernel
theorem nr_240 : zt_ret zq_T 240 = 0 := by decide +kernel
theorem nl_241 : zt_nL zq_T 241 = 1 := by decide +kernel
theorem nr_241 : zt_ret zq_T 241 = 0 := by decide +kernel
theorem nl_242 : zt_nL zq_T 242 = 2 := by decide +kernel
theorem nr_242 : zt_ret zq_T 242 = 0 := by decide +kernel
theorem nl_243 : zt_nL zq_T 243 = 5 := by decide +kernel
theorem nr_243 : zt_ret zq_T 243 = 1 := by decide +kernel
theorem nl_244 : zt_nL zq_T 244 = 4 := by decide +kernel
theorem nr_244 : zt_ret zq_T 244 = 0 := by decide +kernel
theorem nl_245 : zt_nL zq_T 245 = 5 := by decide +kernel
theorem nr_245 : zt_ret zq_T 245 = 1 := by decide +kernel
theorem nl_246 : zt_nL zq_T 246 = 6 := by decide +kernel
theorem nr_246 : zt_ret zq_T 246 = 1 := by decide +kernel
theorem nl_247 : zt_nL zq_T 247 = 6 := by decide +kernel
theorem nr_247 : zt_ret zq_T 247 = 1 := by decide +kernel
theorem nl_248 : zt_nL zq_T 248 = 3 := by decide +kernel
theorem nr_248 : zt_ret zq_T 248 = 2 := by decide +kernel
theorem nl_249 : zt_nL zq_T 249 = 3 := by decide +kernel
theorem nr_249 : zt_ret zq_T 249 = 0 := by decide +kernel
theorem nl_250 : zt_nL zq_T 250 = 1 := by decide +kernel
theorem nr_250 : zt_ret zq_T 250 = 2 := by decide +kernel
theorem nl_251 : zt_nL zq_T 251 = 1 := by decide +kernel
theorem nr_251 : zt_ret zq_T 251 = 1 := by decide +kernel
theorem nl_252 : zt_nL zq_T 252 = 3 := by decide +kernel
theorem nr_252 : zt_ret zq_T 252 = 1 := by decide +kernel
theorem nl_253 : zt_nL zq_T 253 = 4 := by decide +kernel
theorem nr_253 : zt_ret zq_T 253 = 1 := by decide +kernel
theorem nl_254 : zt_nL zq_T 254 = 3 := by decide +kernel
theorem nr_254 : zt_ret zq_T 254 = 1 := by decide +kernel
theorem nl_255 : zt_nL zq_T 255 = 2 := by decide +kernel
theorem nr_255 : zt_ret zq_T 255 = 1 := by decide +kernel
theorem nl_256 : zt_nL zq_T 256 = 4 := by decide +kernel
theorem nr_256 : zt_ret zq_T 256 = 0 := by decide +kernel
theorem nl_257 : zt_nL zq_T 257 = 3 := by decide +kernel
theorem nr_257 : zt_ret zq_T 257 = 0 := by decide +kernel
theorem nl_258 : zt_nL zq_T 258 = 1 := by decide +kernel
theorem nr_258 : zt_ret zq_T 258 = 0 := by decide +kernel
theorem nl_259 : zt_nL zq_T 259 = 1 := by decide +kernel
theorem nr_259 : zt_ret zq_T 259 = 1 := by decide +kernel
theorem nl_260 : zt_nL zq_T 260 = 1 := by decide +kernel
theorem nr_260 : zt_ret zq_T 260 = 1 := by decide +kernel
theorem nl_261 : zt_nL zq_T 261 = 5 := by decide +kernel
theorem nr_261 : zt_ret zq_T 261 = 0 := by decide +kernel
theorem nl_262 : zt_nL zq_T 262 = 4 := by decide +kernel
theorem nr_262 : zt_ret zq_T 262 = 2 := by decide +kernel
theorem nl_263 : zt_nL zq_T 263 = 3 := by decide +kernel
theorem nr_263 : zt_ret zq_T 263 = 2 := by decide +kernel
theorem nl_264 : zt_nL zq_T 264 = 5 := by decide +kernel
theorem nr_264 : zt_ret zq_T 264 = 0 := by decide +kernel
theorem nl_265 : zt_nL zq_T 265 = 5 := by decide +kernel
theorem nr_265 : zt_ret zq_T 265 = 0 := by decide +kernel
theorem nl_266 : zt_nL zq_T 266 = 5 := by decide +kernel
theorem nr_266 : zt_ret zq_T 266 = 1 := by decide +kernel
theorem nl_267 : zt_nL zq_T 267 = 4 := by decide +kernel
theorem nr_267 : zt_ret zq_T 267 = 2 := by decide +kernel
theorem nl_268 : zt_nL zq_T 268 = 3 := by decide +kernel
theorem nr_268 : zt_ret zq_T 268 = 2 := by decide +kernel
theorem nl_269 : zt_nL zq_T 269 = 3 := by decide +kernel
theorem nr_269 : zt_ret zq_T 269 = 2 := by decide +kernel
theorem nl_270 : zt_nL zq_T 270 = 3 := by decide +kernel
theorem nr_270 : zt_ret zq_T 270 = 1 := by decide +kernel
theorem nl_271 : zt_nL zq_T 271 = 3 := by decide +kernel
theorem nr_271 : zt_ret zq_T 271 = 1 := by decide +kernel
theorem nl_272 : zt_nL zq_T 272 = 3 := by decide +kernel
theorem nr_272 : zt_ret zq_T 272 = 1 := by decide +kernel
theorem nl_273 : zt_nL zq_T 273 = 3 := by decide +kernel
theorem nr_273 : zt_ret zq_T 273 = 1 := by decide +kernel
theorem nl_274 : zt_nL zq_T 274 = 5 := by decide +kernel
theorem nr_274 : zt_ret zq_T 274 = 0 := by decide +kernel
theorem nl_275 : zt_nL zq_T 275 = 1 := by decide +kernel
theorem nr_275 : zt_ret zq_T 275 = 0 := by decide +kernel
theorem nl_276 : zt_nL zq_T 276 = 1 := by decide +kernel
theorem nr_276 : zt_ret zq_T 276 = 0 := by decide +kernel
theorem nl_277 : zt_nL zq_T 277 = 8 := by decide +kernel
theorem nr_277 : zt_ret zq_T 277 = 0 := by decide +kernel
theorem nl_278 : zt_nL zq_T 278 = 8 := by decide +kernel
theorem nr_278 : zt_ret zq_T 278 = 0 := by decide +kernel
theorem nl_279 : zt_nL zq_T 279 = 3 := by decide +kernel
theorem nr_279 : zt_ret zq_T 279 = 1 := by decide +kernel
theorem nl_280 : zt_nL zq_T 280 = 3 := by decide +kernel
theorem nr_280 : zt_ret zq_T 280 = 0 := by decide +kernel
theorem nl_281 : zt_nL zq_T 281 = 5 := by decide +kernel
theorem nr_281 : zt_ret zq_T 281 = 0 := by decide +kernel
theorem nl_282 : zt_nL zq_T 282 = 1 := by decide +kernel
theorem nr_282 : zt_ret zq_T 282 = 0 := by decide +kernel
theorem nl_283 : zt_nL zq_T 283 = 7 := by decide +kernel
theorem nr_283 : zt_ret zq_T 283 = 1 := by decide +kernel
theorem nl_284 : zt_nL zq_T 284 = 3 := by decide +kernel
theorem nr_284 : zt_ret zq_T 284 = 1 := by decide +kernel
theorem nl_285 : zt_nL zq_T 285 = 4 := by decide +kernel
theorem nr_285 : zt_ret zq_T 285 = 0 := by decide +kernel
theorem nl_286 : zt_nL zq_T 286 = 2 := by decide +kernel
theorem nr_286 : zt_ret zq_T 286 = 2 := by decide +kernel
theorem nl_287 : zt_nL zq_T 287 = 2 := by decide +kernel
theorem nr_287 : zt_ret zq_T 287 = 1 := by decide +kernel
theorem nl_288 : zt_nL zq_T 288 = 3 := by decide +kernel
theorem nr_288 : zt_ret zq_T 288 = 1 := by decide +kernel
theorem nl_289 : zt_nL zq_T 289 = 2 := by decide +kernel
theorem nr_289 : zt_ret zq_T 289 = 1 := by decide +kernel
theorem nl_290 : zt_nL zq_T 290 = 1 := by decide +kernel
theorem nr_290 : zt_ret zq_T 290 = 0 := by decide +kernel
theorem nl_291 : zt_nL zq_T 291 = 2 := by decide +kernel
theorem nr_291 : zt_ret zq_T 291 = 4 := by decide +kernel
theorem nl_292 : zt_nL zq_T 292 = 1 := by decide +kernel
theorem nr_292 : zt_ret zq_T 292 = 1 := by decide +kernel
theorem nl_293 : zt_nL zq_T 293 = 4 := by decide +kernel
theorem nr_293 : zt_ret zq_T 293 = 1 := by decide +kernel
theorem nl_294 : zt_nL zq_T 294 = 5 := by decide +kernel
theorem nr_294 : zt_ret zq_T 294 = 1 := by decide +kernel
theorem nl_295 : zt_nL zq_T 295 = 6 := by decide +kernel
theorem nr_295 : zt_ret zq_T 295 = 1 := by decide +kernel
theorem nl_296 : zt_nL zq_T 296 = 7 := by decide +kernel
theorem nr_296 : zt_ret zq_T 296 = 1 := by decide +kernel
theorem nl_297 : zt_nL zq_T 297 = 5 := by decide +kernel
theorem nr_297 : zt_ret zq_T 297 = 4 := by decide +kernel
theorem nl_298 : zt_nL zq_T 298 = 5 := by decide +kernel
theorem nr_298 : zt_ret zq_T 298 = 1 := by decide +kernel
theorem nl_299 : zt_nL zq_T 299 = 5 := by decide +kernel
theorem nr_299 : zt_ret zq_T 299 = 1 := by decide +kernel
theorem nl_300 : zt_nL zq_T 300 = 4 := by decide +kernel
theorem nr_300 : zt_ret zq_T 300 = 1 := by decide +kernel
theorem nl_301 : zt_nL zq_T 301 = 4 := by decide +kernel
theorem nr_301 : zt_ret zq_T 301 = 1 := by decide +kernel
theorem nl_302 : zt_nL zq_T 302 = 6 := by decide +kernel
theorem nr_302 : zt_ret zq_T 302 = 1 := by decide +kernel
theorem nl_303 : zt_nL zq_T 303 = 4 := by decide +kernel
theorem nr_303 : zt_ret zq_T 303 = 1 := by decide +kernel
theorem nl_304 : zt_nL zq_T 304 = 2 := by decide +kernel
theorem nr_304 : zt_ret zq_T 304 = 1 := by decide +kernel
theorem nl_305 : zt_nL zq_T 305 = 3 := by decide +kernel
theorem nr_305 : zt_ret zq_T 305 = 1 := by decide +kernel
theorem nl_306 : zt_nL zq_T 306 = 2 := by decide +kernel
theorem nr_306 : zt_ret zq_T 306 = 1 := by decide +kernel
theorem nl_307 : zt_nL zq_T 307 = 2 := by decide +kernel
theorem nr_307 : zt_ret zq_T 307 = 1 := by decide +kernel
theorem nl_308 : zt_nL zq_T 308 = 3 := by decide +kernel
theorem nr_308 : zt_ret zq_T 308 = 1 := by decide +kernel
theorem nl_309 : zt_nL zq_T 309 = 3 := by decide +kernel
theorem nr_309 : zt_ret zq_T 309 = 1 := by decide +kernel
theorem nl_310 : zt_nL zq_T 310 = 2 := by decide +kernel
theorem nr_310 : zt_ret zq_T 310 = 1 := by decide +kernel
theorem nl_311 : zt_nL zq_T 311 = 3 := by decide +kernel
theorem nr_311 : zt_ret zq_T 311 = 1 := by decide +kernel
theorem nl_312 : zt_nL zq_T 312 = 7 := by decide +kernel
theorem nr_312 : zt_ret zq_T 312 = 1 := by decide +kernel
theorem nl_313 : zt_nL zq_T 313 = 5 := by decide +kernel
theorem nr_313 : zt_ret zq_T 313 = 1 := by decide +kernel
theorem nl_314 : zt_nL zq_T 314 = 2 := by decide +kernel
theorem nr_314 : zt_ret zq_T 314 = 1 := by decide +kernel
theorem nl_315 : zt_nL zq_T 315 = 2 := by decide +kernel
theorem nr_315 : zt_ret zq_T 315 = 1 := by decide +kernel
theorem fd_1_114 : zt_fld zq_T 1 114 = some (12, 0, 0) := by decide +kernel
theorem fd_5_9 : zt_fld zq_T 5 9 = some (12, 1, 22 + 2) := by decide +kernel
theorem fd_5_117 : zt_fld zq_T 5 117 = some (12, 2, 0) := by decide +kernel
theorem fd_6_117 : zt_fld zq_T 6 117 = some (12, 2, 0) := by decide +kernel
theorem fd_7_117 : zt_fld zq_T 7 117 = some (12, 2, 0) := by decide +kernel
theorem fd_8_9 : zt_fld zq_T 8 9 = some (12, 1, 22 + 2) := by decide +kernel
theorem fd_8_117 : zt_fld zq_T 8 117 = some (12, 2, 0) := by decide +kernel
theorem fd_8_128 : zt_fld zq_T 8 128 = some (12, 3, 0) := by decide +kernel
theorem fd_9_128 : zt_fld zq_T 9 128 = some (12, 3, 0) := by decide +kernel
theorem fd_10_135 : zt_fld zq_T 10 135 = some (12, 4, 0) := by decide +kernel
theorem fd_11_135 : zt_fld zq_T 11 135 = some (12, 4, 0) := by decide +kernel
theorem fd_12_128 : zt_fld zq_T 12 128 = some (12, 3, 0) := by decide +kernel
theorem fd_15_17 : zt_fld zq_T 15 17 = some (12, 6, 20 + 2) := by decide +kernel
theorem fd_15_141 : zt_fld zq_T 15 141 = some (12, 17, 0) := by decide +kernel
theorem fd_16_17 : zt_fld zq_T 16 17 = some (12, 6, 20 + 2) := by decide +kernel
theorem fd_17_23 : zt_fld zq_T 17 23 = some (12, 8, 20 + 2) := by decide +kernel
theorem fd_17_150 : zt_fld zq_T 17 150 = some (12, 16, 0) := by decide +kernel
theorem fd_18_23 : zt_fld zq_T 18 23 = some (12, 8, 20 + 2) := by decide +kernel
theorem fd_18_150 : zt_fld zq_T 18 150 = some (12, 16, 0) := by decide +kernel
theorem fd_21_35 : zt_fld zq_T 21 35 = some (12, 12, 20 + 2) := by decide +kernel
theorem fd_21_128 : zt_fld zq_T 21 128 = some (12, 3, 0) := by decide +kernel
theorem fd_21_150 : zt_fld zq_T 21 150 = some (12, 16, 0) := by decide +kernel
theorem fd_22_41 : zt_fld zq_T 22 41 = some (12, 14, 20 + 2) := by decide +kernel
theorem fd_22_128 : zt_fld zq_T 22 128 = some (12, 3, 0) := by decide +kernel
theorem fd_22_150 : zt_fld zq_T 22 150 = some (12, 16, 0) := by decide +kernel
theorem fd_23_17 : zt_fld zq_T 23 17 = some (12, 6, 20 + 2) := by decide +kernel
theorem fd_23_29 : zt_fld zq_T 23 29 = some (12, 10, 20 + 2) := by decide +kernel
theorem fd_23_128 : zt_fld zq_T 23 128 = some (12, 3, 0) := by decide +kernel
theorem fd_23_150 : zt_fld zq_T 23 150 = some (12, 16, 0) := by decide +kernel
theorem fd_24_128 : zt_fld zq_T 24 128 = some (12, 3, 0) := by decide +kernel
theorem fd_25_29 : zt_fld zq_T 25 29 = some (12, 10, 20 + 2) := by decide +kernel
theorem fd_25_128 : zt_fld zq_T 25 128 = some (12, 3, 0) := by decide +kernel
theorem fd_26_23 : zt_fld zq_T 26 23 = some (12, 8, 20 + 2) := by decide +kernel
theorem fd_26_128 : zt_fld zq_T 26 128 = some (12, 3, 0) := by decide +kernel
theorem fd_26_150 : zt_fld zq_T 26 150 = some (12, 16, 0) := by decide +kernel
theorem fd_27_128 : zt_fld zq_T 27 128 = some (12, 3, 0) := by decide +kernel
theorem fd_27_135 : zt_fld zq_T 27 135 = some (12, 4, 0) := by decide +kernel
theorem fd_27_150 : zt_fld zq_T 27 150 = some (12, 16, 0) := by decide +kernel
theorem fd_28_47 : zt_fld zq_T 28 47 = some (12, 19, 20 + 2) := by decide +kernel
theorem fd_28_128 : zt_fld zq_T 28 128 = some (12, 3, 0) := by decide +kernel
theorem fd_28_214 : zt_fld zq_T 28 214 = some (12, 21, 0) := by decide +kernel
theorem fd_29_128 : zt_fld zq_T 29 128 = some (12, 3, 0) := by decide +kernel
theorem fd_29_135 : zt_fld zq_T 29 135 = some (12, 4, 0) := by decide +kernel
theorem fd_32_13 : zt_fld zq_T 32 13 = some (12, 5, 20 + 2) := by decide +kernel
theorem fd_32_17 : zt_fld zq_T 32 17 = some (12, 6, 20 + 2) := by decide +kernel
theorem fd_32_20 : zt_fld zq_T 32 20 = some (12, 7, 20 + 2) := by decide +kernel
theorem fd_32_23 : zt_fld zq_T 32 23 = some (12, 8, 20 + 2) := by decide +kernel
theorem fd_32_26 : zt_fld zq_T 32 26 = some (12, 9, 20 + 2) := by decide +kernel
theorem fd_32_29 : zt_fld zq_T 32 29 = some (12, 10, 20 + 2) := by decide +kernel
theorem fd_32_32 : zt_fld zq_T 32 32 = some (12, 11, 20 + 2) := by decide +kernel
theorem fd_32_35 : zt_fld zq_T 32 35 = some (12, 12, 20 + 2) := by decide +kernel
theorem fd_32_38 : zt_fld zq_T 32 38 = some (12, 13, 20 + 2) := by decide +kernel
theorem fd_32_41 : zt_fld zq_T 32 41 = some (12, 14, 20 + 2) := by decide +kernel
theorem fd_32_150 : zt_fld zq_T 32 150 = some (12, 16, 0) := by decide +kernel
theorem fd_32_230 : zt_fld zq_T 32 230 = some (12, 15, 0) := by decide +kernel
theorem fd_33_44 : zt_fld zq_T 33 44 = some (12, 18, 20 + 2) := by decide +kernel
theorem fd_33_47 : zt_fld zq_T 33 47 = some (12, 19, 20 + 2) := by decide +kernel
theorem fd_33_214 : zt_fld zq_T 33 214 = some (12, 21, 0) := by decide +kernel
theorem fd_33_237 : zt_fld zq_T 33 237 = some (12, 20, 0) := by decide +kernel
theorem fd_34_230 : zt_fld zq_T 34 230 = some (12, 15, 0) := by decide +kernel
theorem fd_35_20 : zt_fld zq_T 35 20 = some (12, 7, 20 + 2) := by decide +kernel
theorem fd_36_13 : zt_fld zq_T 36 13 = some (12, 5, 20 + 2) := by decide +kernel
theorem fd_37_26 : zt_fld zq_T 37 26 = some (12, 9, 20 + 2) := by decide +kernel
theorem fd_38_26 : zt_fld zq_T 38 26 = some (12, 9, 20 + 2) := by decide +kernel
theorem fd_39_32 : zt_fld zq_T 39 32 = some (12, 11, 20 + 2) := by decide +kernel
theorem fd_40_32 : zt_fld zq_T 40 32 = some (12, 11, 20 + 2) := by decide +kernel
theorem fd_47_50 : zt_fld zq_T 47 50 = some (12, 22, 20 + 2) := by decide +kernel
theorem fd_47_53 : zt_fld zq_T 47 53 = some (12, 23, 20 + 2) := by decide +kernel
theorem fd_47_56 : zt_fld zq_T 47 56 = some (12, 24, 20 + 2) := by decide +kernel
theorem fd_47_59 : zt_fld zq_T 47 59 = some (12, 25, 20 + 2) := by decide +kernel
theorem fd_47_265 : zt_fld zq_T 47 265 = some (12, 26, 0) := by decide +kernel
theorem fd_50_56 : zt_fld zq_T 50 56 = some (12, 24, 20 + 2) := by decide +kernel
theorem fd_52_56 : zt_fld zq_T 52 56 = some (12, 24, 20 + 2) := by decide +kernel
theorem fd_54_56 : zt_fld zq_T 54 56 = some (12, 24, 20 + 2) := by decide +kernel
theorem fd_54_59 : zt_fld zq_T 54 59 = some (12, 25, 20 + 2) := by decide +kernel
theorem fd_55_50 : zt_fld zq_T 55 50 = some (12, 22, 20 + 2) := by decide +kernel
theorem fd_56_62 : zt_fld zq_T 56 62 = some (12, 27, 22 + 2) := by decide +kernel
theorem fd_56_300 : zt_fld zq_T 56 300 = some (12, 28, 0) := by decide +kernel
theorem fd_57_62 : zt_fld zq_T 57 62 = some (12, 27, 22 + 2) := by decide +kernel
theorem fd_58_62 : zt_fld zq_T 58 62 = some (12, 27, 22 + 2) := by decide +kernel
theorem fd_59_62 : zt_fld zq_T 59 62 = some (12, 27, 22 + 2) := by decide +kernel
theorem fd_59_300 : zt_fld zq_T 59 300 = some (12, 28, 0) := by decide +kernel
theorem fd_61_300 : zt_fld zq_T 61 300 = some (12, 28, 0) := by decide +kernel
theorem fd_62_300 : zt_fld zq_T 62 300 = some (12, 28, 0) := by decide +kernel
theorem fd_64_62 : zt_fld zq_T 64 62 = some (12, 27, 22 + 2) := by decide +kernel
theorem fd_64_65 : zt_fld zq_T 64 65 = some (12, 29, 20 + 2) := by decide +kernel
theorem fd_64_68 : zt_fld zq_T 64 68 = some (12, 30, 20 + 2) := by decide +kernel
theorem fd_64_71 : zt_fld zq_T 64 71 = some (12, 31, 0) := by decide +kernel
theorem fd_64_300 : zt_fld zq_T 64 300 = some (12, 28, 0) := by decide +kernel
theorem fd_65_62 : zt_fld zq_T 65 62 = some (12, 27, 22 + 2) := by decide +kernel
theorem fd_66_300 : zt_fld zq_T 66 300 = some (12, 28, 0) := by decide +kernel
theorem fd_67_300 : zt_fld zq_T 67 300 = some (12, 28, 0) := by decide +kernel
theorem fd_68_50 : zt_fld zq_T 68 50 = some (12, 22, 20 + 2) := by decide +kernel
theorem fd_69_265 : zt_fld zq_T 69 265 = some (12, 26, 0) := by decide +kernel
theorem fd_71_50 : zt_fld zq_T 71 50 = some (12, 22, 20 + 2) := by decide +kernel
theorem fd_71_53 : zt_fld zq_T 71 53 = some (12, 23, 20 + 2) := by decide +kernel
theorem fd_71_62 : zt_fld zq_T 71 62 = some (12, 27, 22 + 2) := by decide +kernel
theorem fd_71_75 : zt_fld zq_T 71 75 = some (12, 32, 20 + 2) := by decide +kernel
theorem fd_71_78 : zt_fld zq_T 71 78 = some (12, 33, 22 + 2) := by decide +kernel
theorem fd_71_300 : zt_fld zq_T 71 300 = some (12, 28, 0) := by decide +kernel
theorem fd_72_50 : zt_fld zq_T 72 50 = some (12, 22, 20 + 2) := by decide +kernel
theorem fd_72_53 : zt_fld zq_T 72 53 = some (12, 23, 20 + 2) := by decide +kernel
theorem fd_72_62 : zt_fld zq_T 72 62 = some (12, 27, 22 + 2) := by decide +kernel
theorem fd_72_75 : zt_fld zq_T 72 75 = some (12, 32, 20 + 2) := by decide +kernel
theorem fd_72_78 : zt_fld zq_T 72 78 = some (12, 33, 22 + 2) := by decide +kernel
theorem fd_72_300 : zt_fld zq_T 72 300 = some (12, 28, 0) := by decide +kernel
theorem fd_73_75 : zt_fld zq_T 73 75 = some (12, 32, 20 + 2) := by decide +kernel
theorem fd_73_265 : zt_fld zq_T 73 265 = some (12, 26, 0) := by decide +kernel
theorem fd_74_75 : zt_fld zq_T 74 75 = some (12, 32, 20 + 2) := by decide +kernel
theorem fd_75_75 : zt_fld zq_T 75 75 = some (12, 32, 20 + 2) := by decide +kernel
theorem fd_75_78 : zt_fld zq_T 75 78 = some (12, 33, 22 + 2) := by decide +kernel
theorem fd_78_114 : zt_fld zq_T 78 114 = some (12, 0, 0) := by decide +kernel
theorem fd_81_26 : zt_fld zq_T 81 26 = some (12, 9, 20 + 2) := by decide +kernel
theorem fd_82_50 : zt_fld zq_T 82 50 = some (12, 22, 20 + 2) := by decide +kernel
theorem fd_82_265 : zt_fld zq_T 82 265 = some (12, 26, 0) := by decide +kernel
theorem fd_87_38 : zt_fld zq_T 87 38 = some (12, 13, 20 + 2) := by decide +kernel
theorem fd_88_62 : zt_fld zq_T 88 62 = some (12, 27, 22 + 2) := by decide +kernel
theorem fd_89_81 : zt_fld zq_T 89 81 = some (12, 34, 20 + 2) := by decide +kernel
theorem fd_90_81 : zt_fld zq_T 90 81 = some (12, 34, 20 + 2) := by decide +kernel
theorem fd_91_81 : zt_fld zq_T 91 81 = some (12, 34, 20 + 2) := by decide +kernel
theorem fd_93_56 : zt_fld zq_T 93 56 = some (12, 24, 20 + 2) := by decide +kernel
theorem fd_93_59 : zt_fld zq_T 93 59 = some (12, 25, 20 + 2) := by decide +kernel
theorem fd_93_81 : zt_fld zq_T 93 81 = some (12, 34, 20 + 2) := by decide +kernel
theorem fd_94_81 : zt_fld zq_T 94 81 = some (12, 34, 20 + 2) := by decide +kernel
theorem fd_95_81 : zt_fld zq_T 95 81 = some (12, 34, 20 + 2) := by decide +kernel
theorem fd_96_50 : zt_fld zq_T 96 50 = some (12, 22, 20 + 2) := by decide +kernel
theorem fd_96_56 : zt_fld zq_T 96 56 = some (12, 24, 20 + 2) := by decide +kernel
theorem fd_96_59 : zt_fld zq_T 96 59 = some (12, 25, 20 + 2) := by decide +kernel
theorem fd_96_81 : zt_fld zq_T 96 81 = some (12, 34, 20 + 2) := by decide +kernel
theorem fd_97_50 : zt_fld zq_T 97 50 = some (12, 22, 20 + 2) := by decide +kernel
theorem fd_97_53 : zt_fld zq_T 97 53 = some (12, 23, 20 + 2) := by decide +kernel
theorem fd_97_81 : zt_fld zq_T 97 81 = some (12, 34, 20 + 2) := by decide +kernel
theorem fd_97_265 : zt_fld zq_T 97 265 = some (12, 26, 0) := by decide +kernel
theorem fd_98_50 : zt_fld zq_T 98 50 = some (12, 22, 20 + 2) := by decide +kernel
theorem fd_98_81 : zt_fld zq_T 98 81 = some (12, 34, 20 + 2) := by decide +kernel
theorem fd_98_265 : zt_fld zq_T 98 265 = some (12, 26, 0) := by decide +kernel
theorem fd_99_81 : zt_fld zq_T 99 81 = some (12, 34, 20 + 2) := by decide +kernel
theorem fd_99_87 : zt_fld zq_T 99 87 = some (12, 38, 20 + 2) := by decide +kernel
theorem fd_99_90 : zt_fld zq_T 99 90 = some (12, 39, 20 + 2) := by decide +kernel
theorem fd_99_429 : zt_fld zq_T 99 429 = some (12, 35, 0) := by decide +kernel
theorem fd_99_432 : zt_fld zq_T 99 432 = some (12, 36, 0) := by decide +kernel
theorem fd_103_84 : zt_fld zq_T 103 84 = some (12, 37, 20 + 2) := by decide +kernel
theorem fd_103_117 : zt_fld zq_T 103 117 = some (12, 2, 0) := by decide +kernel
theorem fd_103_128 : zt_fld zq_T 103 128 = some (12, 3, 0) := by decide +kernel
theorem fd_104_81 : zt_fld zq_T 104 81 = some (12, 34, 20 + 2) := by decide +kernel
theorem fd_104_84 : zt_fld zq_T 104 84 = some (12, 37, 20 + 2) := by decide +kernel
theorem fd_104_87 : zt_fld zq_T 104 87 = some (12, 38, 20 + 2) := by decide +kernel
theorem fd_104_90 : zt_fld zq_T 104 90 = some (12, 39, 20 + 2) := by decide +kernel
theorem fd_104_93 : zt_fld zq_T 104 93 = some (12, 48, 20 + 2) := by decide +kernel
theorem fd_104_96 : zt_fld zq_T 104 96 = some (12, 49, 20 + 2) := by decide +kernel
theorem fd_104_99 : zt_fld zq_T 104 99 = some (12, 50, 20 + 2) := by decide +kernel
theorem fd_104_102 : zt_fld zq_T 104 102 = some (12, 51, 20 + 2) := by decide +kernel
theorem fd_104_128 : zt_fld zq_T 104 128 = some (12, 3, 0) := by decide +kernel
theorem fd_104_466 : zt_fld zq_T 104 466 = some (12, 43, 0) := by decide +kernel
theorem fd_104_472 : zt_fld zq_T 104 472 = some (12, 47, 1) := by decide +kernel
theorem fd_105_233 : zt_fld zq_T 105 233 = some (12, 40, 1) := by decide +kernel
theorem fd_105_460 : zt_fld zq_T 105 460 = some (12, 41, 0) := by decide +kernel
theorem fd_105_463 : zt_fld zq_T 105 463 = some (12, 42, 0) := by decide +kernel
theorem fd_105_466 : zt_fld zq_T 105 466 = some (12, 43, 0) := by decide +kernel
theorem fd_105_469 : zt_fld zq_T 105 469 = some (12, 44, 0) := by decide +kernel
theorem fd_105_472 : zt_fld zq_T 105 472 = some (12, 47, 1) := by decide +kernel
theorem fd_106_96 : zt_fld zq_T 106 96 = some (12, 49, 20 + 2) := by decide +kernel
theorem fd_106_99 : zt_fld zq_T 106 99 = some (12, 50, 20 + 2) := by decide +kernel
theorem fd_106_233 : zt_fld zq_T 106 233 = some (12, 40, 1) := by decide +kernel
theorem fd_106_466 : zt_fld zq_T 106 466 = some (12, 43, 0) := by decide +kernel
theorem fd_107_102 : zt_fld zq_T 107 102 = some (12, 51, 20 + 2) := by decide +kernel
theorem fd_107_233 : zt_fld zq_T 107 233 = some (12, 40, 1) := by decide +kernel
theorem fd_107_475 : zt_fld zq_T 107 475 = some (12, 45, 0) := by decide +kernel
theorem fd_108_102 : zt_fld zq_T 108 102 = some (12, 51, 20 + 2) := by decide +kernel
theorem fd_108_233 : zt_fld zq_T 108 233 = some (12, 40, 1) := by decide +kernel
theorem fd_108_478 : zt_fld zq_T 108 478 = some (12, 46, 0) := by decide +kernel
theorem fd_109_93 : zt_fld zq_T 109 93 = some (12, 48, 20 + 2) := by decide +kernel
theorem fd_109_105 : zt_fld zq_T 109 105 = some (12, 52, 20 + 2) := by decide +kernel
theorem fd_109_460 : zt_fld zq_T 109 460 = some (12, 41, 0) := by decide +kernel
theorem fd_109_463 : zt_fld zq_T 109 463 = some (12, 42, 0) := by decide +kernel
theorem fd_110_93 : zt_fld zq_T 110 93 = some (12, 48, 20 + 2) := by decide +kernel
theorem fd_110_460 : zt_fld zq_T 110 460 = some (12, 41, 0) := by decide +kernel
theorem fd_110_463 : zt_fld zq_T 110 463 = some (12, 42, 0) := by decide +kernel
theorem fd_111_233 : zt_fld zq_T 111 233 = some (12, 40, 1) := by decide +kernel
theorem fd_111_460 : zt_fld zq_T 111 460 = some (12, 41, 0) := by decide +kernel
theorem fd_111_485 : zt_fld zq_T 111 485 = some (12, 53, 0) := by decide +kernel
theorem fd_111_488 : zt_fld zq_T 111 488 = some (12, 54, 0) := by decide +kernel
theorem fd_111_491 : zt_fld zq_T 111 491 = some (12, 55, 0) := by decide +kernel
theorem fd_112_108 : zt_fld zq_T 112 108 = some (12, 56, 20 + 2) := by decide +kernel
theorem fd_113_108 : zt_fld zq_T 113 108 = some (12, 56, 20 + 2) := by decide +kernel
theorem fd_114_237 : zt_fld zq_T 114 237 = some (12, 20, 0) := by decide +kernel
theorem fd_115_44 : zt_fld zq_T 115 44 = some (12, 18, 20 + 2) := by decide +kernel
theorem fd_115_230 : zt_fld zq_T 115 230 = some (12, 15, 0) := by decide +kernel
theorem fd_116_44 : zt_fld zq_T 116 44 = some (12, 18, 20 + 2) := by decide +kernel
theorem fd_116_84 : zt_fld zq_T 116 84 = some (12, 37, 20 + 2) := by decide +kernel
theorem fd_116_237 : zt_fld zq_T 116 237 = some (12, 20, 0) := by decide +kernel
theorem fd_117_44 : zt_fld zq_T 117 44 = some (12, 18, 20 + 2) := by decide +kernel
theorem fd_117_506 : zt_fld zq_T 117 506 = some (12, 57, 0) := by decide +kernel
theorem fd_117_509 : zt_fld zq_T 117 509 = some (12, 58, 0) := by decide +kernel
theorem fd_117_512 : zt_fld zq_T 117 512 = some (12, 59, 1) := by decide +kernel
theorem fd_118_237 : zt_fld zq_T 118 237 = some (12, 20, 0) := by decide +kernel
theorem fd_119_237 : zt_fld zq_T 119 237 = some (12, 20, 0) := by decide +kernel
theorem fd_120_111 : zt_fld zq_T 120 111 = some (12, 60, 20 + 2) := by decide +kernel
theorem fd_120_529 : zt_fld zq_T 120 529 = some (12, 61, 0) := by decide +kernel
theorem fd_122_44 : zt_fld zq_T 122 44 = some (12, 18, 20 + 2) := by decide +kernel
theorem fd_123_44 : zt_fld zq_T 123 44 = some (12, 18, 20 + 2) := by decide +kernel
theorem fd_123_237 : zt_fld zq_T 123 237 = some (12, 20, 0) := by decide +kernel
theorem fd_124_506 : zt_fld zq_T 124 506 = some (12, 57, 0) := by decide +kernel
theorem fd_124_509 : zt_fld zq_T 124 509 = some (12, 58, 0) := by decide +kernel
theorem fd_124_512 : zt_fld zq_T 124 512 = some (12, 59, 1) := by decide +kernel
theorem fd_125_111 : zt_fld zq_T 125 111 = some (12, 60, 20 + 2) := by decide +kernel
theorem fd_125_529 : zt_fld zq_T 125 529 = some (12, 61, 0) := by decide +kernel
theorem fd_126_26 : zt_fld zq_T 126 26 = some (12, 9, 20 + 2) := by decide +kernel
theorem fd_127_32 : zt_fld zq_T 127 32 = some (12, 11, 20 + 2) := by decide +kernel
theorem fd_128_230 : zt_fld zq_T 128 230 = some (12, 15, 0) := by decide +kernel
theorem fd_129_44 : zt_fld zq_T 129 44 = some (12, 18, 20 + 2) := by decide +kernel
theorem fd_129_237 : zt_fld zq_T 129 237 = some (12, 20, 0) := by decide +kernel
theorem fd_130_44 : zt_fld zq_T 130 44 = some (12, 18, 20 + 2) := by decide +kernel
theorem fd_130_237 : zt_fld zq_T 130 237 = some (12, 20, 0) := by decide +kernel
theorem fd_131_117 : zt_fld zq_T 131 117 = some (12, 2, 0) := by decide +kernel
theorem fd_131_230 : zt_fld zq_T 131 230 = some (12, 15, 0) := by decide +kernel
theorem fd_131_237 : zt_fld zq_T 131 237 = some (12, 20, 0) := by decide +kernel
theorem fd_134_19 : zt_fld zq_T 134 19 = some (0, 2, 0) := by decide +kernel
theorem fd_134_22 : zt_fld zq_T 134 22 = some (0, 3, 0) := by decide +kernel
theorem fd_136_37 : zt_fld zq_T 136 37 = some (0, 8, 20 + 2) := by decide +kernel
theorem fd_136_40 : zt_fld zq_T 136 40 = some (5, 1, 3 + 2) := by decide +kernel
theorem fd_136_46 : zt_fld zq_T 136 46 = some (3, 8, 1) := by decide +kernel
theorem fd_136_52 : zt_fld zq_T 136 52 = some (0, 9, 0) := by decide +kernel
theorem fd_137_71 : zt_fld zq_T 137 71 = some (0, 12, 1) := by decide +kernel
theorem fd_137_77 : zt_fld zq_T 137 77 = some (0, 10, 0) := by decide +kernel
theorem fd_137_80 : zt_fld zq_T 137 80 = some (0, 11, 0) := by decide +kernel
theorem fd_138_25 : zt_fld zq_T 138 25 = some (0, 4, 20 + 2) := by decide +kernel
theorem fd_138_28 : zt_fld zq_T 138 28 = some (0, 5, 20 + 2) := by decide +kernel
theorem fd_138_77 : zt_fld zq_T 138 77 = some (0, 10, 0) := by decide +kernel
theorem fd_138_80 : zt_fld zq_T 138 80 = some (0, 11, 0) := by decide +kernel
theorem fd_141_25 : zt_fld zq_T 141 25 = some (0, 4, 20 + 2) := by decide +kernel
theorem fd_141_28 : zt_fld zq_T 141 28 = some (0, 5, 20 + 2) := by decide +kernel
theorem fd_141_34 : zt_fld zq_T 141 34 = some (0, 7, 20 + 2) := by decide +kernel
theorem fd_141_37 : zt_fld zq_T 141 37 = some (0, 8, 20 + 2) := by decide +kernel
theorem fd_141_52 : zt_fld zq_T 141 52 = some (0, 9, 0) := by decide +kernel
theorem fd_141_77 : zt_fld zq_T 141 77 = some (0, 10, 0) := by decide +kernel
theorem fd_141_80 : zt_fld zq_T 141 80 = some (0, 11, 0) := by decide +kernel
theorem fd_142_25 : zt_fld zq_T 142 25 = some (0, 4, 20 + 2) := by decide +kernel
theorem fd_142_28 : zt_fld zq_T 142 28 = some (0, 5, 20 + 2) := by decide +kernel
theorem fd_142_31 : zt_fld zq_T 142 31 = some (0, 6, 20 + 2) := by decide +kernel
theorem fd_142_34 : zt_fld zq_T 142 34 = some (0, 7, 20 + 2) := by decide +kernel
theorem fd_142_37 : zt_fld zq_T 142 37 = some (0, 8, 20 + 2) := by decide +kernel
theorem fd_142_52 : zt_fld zq_T 142 52 = some (0, 9, 0) := by decide +kernel
theorem fd_143_15 : zt_fld zq_T 143 15 = some (0, 1, 20 + 2) := by decide +kernel
theorem fd_143_31 : zt_fld zq_T 143 31 = some (0, 6, 20 + 2) := by decide +kernel
theorem fd_145_43 : zt_fld zq_T 145 43 = some (1, 11, 0) := by decide +kernel
theorem fd_145_49 : zt_fld zq_T 145 49 = some (1, 13, 1) := by decide +kernel
theorem fd_146_9 : zt_fld zq_T 146 9 = some (1, 1, 20 + 2) := by decide +kernel
theorem fd_146_15 : zt_fld zq_T 146 15 = some (1, 2, 20 + 2) := by decide +kernel
theorem fd_146_18 : zt_fld zq_T 146 18 = some (1, 3, 20 + 2) := by decide +kernel
theorem fd_146_21 : zt_fld zq_T 146 21 = some (1, 4, 20 + 2) := by decide +kernel
theorem fd_146_39 : zt_fld zq_T 146 39 = some (1, 0, 0) := by decide +kernel
theorem fd_146_43 : zt_fld zq_T 146 43 = some (1, 11, 0) := by decide +kernel
theorem fd_147_15 : zt_fld zq_T 147 15 = some (1, 2, 20 + 2) := by decide +kernel
theorem fd_147_21 : zt_fld zq_T 147 21 = some (1, 4, 20 + 2) := by decide +kernel
theorem fd_147_43 : zt_fld zq_T 147 43 = some (1, 11, 0) := by decide +kernel
theorem fd_147_46 : zt_fld zq_T 147 46 = some (1, 12, 0) := by decide +kernel
theorem fd_148_9 : zt_fld zq_T 148 9 = some (1, 1, 20 + 2) := by decide +kernel
theorem fd_148_18 : zt_fld zq_T 148 18 = some (1, 3, 20 + 2) := by decide +kernel
theorem fd_148_24 : zt_fld zq_T 148 24 = some (1, 5, 20 + 2) := by decide +kernel
theorem fd_148_39 : zt_fld zq_T 148 39 = some (1, 0, 0) := by decide +kernel
theorem fd_148_70 : zt_fld zq_T 148 70 = some (6, 0, 25 + 2) := by decide +kernel
theorem fd_148_74 : zt_fld zq_T 148 74 = some (5, 16, 1) := by decide +kernel
theorem fd_149_9 : zt_fld zq_T 149 9 = some (1, 1, 20 + 2) := by decide +kernel
theorem fd_149_15 : zt_fld zq_T 149 15 = some (1, 2, 20 + 2) := by decide +kernel
theorem fd_149_18 : zt_fld zq_T 149 18 = some (1, 3, 20 + 2) := by decide +kernel
theorem fd_149_39 : zt_fld zq_T 149 39 = some (1, 0, 0) := by decide +kernel
theorem fd_150_24 : zt_fld zq_T 150 24 = some (1, 5, 20 + 2) := by decide +kernel
theorem fd_150_27 : zt_fld zq_T 150 27 = some (1, 6, 20 + 2) := by decide +kernel
theorem fd_150_30 : zt_fld zq_T 150 30 = some (1, 7, 20 + 2) := by decide +kernel
theorem fd_150_33 : zt_fld zq_T 150 33 = some (1, 8, 20 + 2) := by decide +kernel
theorem fd_151_24 : zt_fld zq_T 151 24 = some (1, 5, 20 + 2) := by decide +kernel
theorem fd_151_39 : zt_fld zq_T 151 39 = some (1, 0, 0) := by decide +kernel
theorem fd_152_24 : zt_fld zq_T 152 24 = some (1, 5, 20 + 2) := by decide +kernel
theorem fd_152_39 : zt_fld zq_T 152 39 = some (1, 0, 0) := by decide +kernel
theorem fd_153_18 : zt_fld zq_T 153 18 = some (1, 3, 20 + 2) := by decide +kernel
theorem fd_153_39 : zt_fld zq_T 153 39 = some (1, 0, 0) := by decide +kernel
theorem fd_154_21 : zt_fld zq_T 154 21 = some (1, 4, 20 + 2) := by decide +kernel
theorem fd_154_39 : zt_fld zq_T 154 39 = some (1, 0, 0) := by decide +kernel
theorem fd_155_9 : zt_fld zq_T 155 9 = some (1, 1, 20 + 2) := by decide +kernel
theorem fd_155_21 : zt_fld zq_T 155 21 = some (1, 4, 20 + 2) := by decide +kernel
theorem fd_155_27 : zt_fld zq_T 155 27 = some (1, 6, 20 + 2) := by decide +kernel
theorem fd_156_30 : zt_fld zq_T 156 30 = some (1, 7, 20 + 2) := by decide +kernel
theorem fd_156_33 : zt_fld zq_T 156 33 = some (1, 8, 20 + 2) := by decide +kernel
theorem fd_156_110 : zt_fld zq_T 156 110 = some (1, 10, 0) := by decide +kernel
theorem fd_157_15 : zt_fld zq_T 157 15 = some (1, 2, 20 + 2) := by decide +kernel
theorem fd_157_21 : zt_fld zq_T 157 21 = some (1, 4, 20 + 2) := by decide +kernel
theorem fd_158_15 : zt_fld zq_T 158 15 = some (1, 2, 20 + 2) := by decide +kernel
theorem fd_158_39 : zt_fld zq_T 158 39 = some (1, 0, 0) := by decide +kernel
theorem fd_159_36 : zt_fld zq_T 159 36 = some (1, 9, 20 + 2) := by decide +kernel
theorem fd_159_110 : zt_fld zq_T 159 110 = some (1, 10, 0) := by decide +kernel
theorem fd_162_15 : zt_fld zq_T 162 15 = some (5, 1, 3 + 2) := by decide +kernel
theorem fd_162_25 : zt_fld zq_T 162 25 = some (5, 3, 0) := by decide +kernel
theorem fd_162_29 : zt_fld zq_T 162 29 = some (5, 12, 24 + 2) := by decide +kernel
theorem fd_162_33 : zt_fld zq_T 162 33 = some (5, 9, 20 + 2) := by decide +kernel
theorem fd_162_36 : zt_fld zq_T 162 36 = some (3, 5, 3 + 2) := by decide +kernel
theorem fd_162_41 : zt_fld zq_T 162 41 = some (3, 8, 1) := by decide +kernel
theorem fd_162_45 : zt_fld zq_T 162 45 = some (5, 11, 20 + 2) := by decide +kernel
theorem fd_162_48 : zt_fld zq_T 162 48 = some (5, 2, 0) := by decide +kernel
theorem fd_162_51 : zt_fld zq_T 162 51 = some (5, 6, 24 + 2) := by decide +kernel
theorem fd_162_58 : zt_fld zq_T 162 58 = some (5, 7, 20 + 2) := by decide +kernel
theorem fd_162_65 : zt_fld zq_T 162 65 = some (5, 8, 20 + 2) := by decide +kernel
theorem fd_162_68 : zt_fld zq_T 162 68 = some (3, 1, 0) := by decide +kernel
theorem fd_163_33 : zt_fld zq_T 163 33 = some (5, 9, 20 + 2) := by decide +kernel
theorem fd_163_36 : zt_fld zq_T 163 36 = some (3, 5, 3 + 2) := by decide +kernel
theorem fd_163_68 : zt_fld zq_T 163 68 = some (3, 1, 0) := by decide +kernel
theorem fd_163_71 : zt_fld zq_T 163 71 = some (3, 7, 3 + 2) := by decide +kernel
theorem fd_163_78 : zt_fld zq_T 163 78 = some (3, 0, 0) := by decide +kernel
theorem fd_163_93 : zt_fld zq_T 163 93 = some (5, 10, 20 + 2) := by decide +kernel
theorem fd_164_36 : zt_fld zq_T 164 36 = some (3, 5, 3 + 2) := by decide +kernel
theorem fd_164_71 : zt_fld zq_T 164 71 = some (3, 7, 3 + 2) := by decide +kernel
theorem fd_164_103 : zt_fld zq_T 164 103 = some (3, 9, 0) := by decide +kernel
theorem fd_164_106 : zt_fld zq_T 164 106 = some (3, 10, 0) := by decide +kernel
theorem fd_164_109 : zt_fld zq_T 164 109 = some (3, 11, 0) := by decide +kernel
theorem fd_164_112 : zt_fld zq_T 164 112 = some (3, 15, 21 + 2) := by decide +kernel
theorem fd_165_68 : zt_fld zq_T 165 68 = some (3, 1, 0) := by decide +kernel
theorem fd_165_103 : zt_fld zq_T 165 103 = some (3, 9, 0) := by decide +kernel
theorem fd_165_112 : zt_fld zq_T 165 112 = some (3, 15, 21 + 2) := by decide +kernel
theorem fd_167_36 : zt_fld zq_T 167 36 = some (3, 5, 3 + 2) := by decide +kernel
theorem fd_167_41 : zt_fld zq_T 167 41 = some (3, 8, 1) := by decide +kernel
theorem fd_167_71 : zt_fld zq_T 167 71 = some (3, 7, 3 + 2) := by decide +kernel
theorem fd_167_103 : zt_fld zq_T 167 103 = some (3, 9, 0) := by decide +kernel
theorem fd_167_106 : zt_fld zq_T 167 106 = some (3, 10, 0) := by decide +kernel
theorem fd_168_36 : zt_fld zq_T 168 36 = some (3, 5, 3 + 2) := by decide +kernel
theorem fd_168_41 : zt_fld zq_T 168 41 = some (3, 8, 1) := by decide +kernel
theorem fd_168_71 : zt_fld zq_T 168 71 = some (3, 7, 3 + 2) := by decide +kernel
theorem fd_168_115 : zt_fld zq_T 168 115 = some (3, 12, 0) := by decide +kernel
theorem fd_168_118 : zt_fld zq_T 168 118 = some (3, 13, 0) := by decide +kernel
theorem fd_169_36 : zt_fld zq_T 169 36 = some (3, 5, 3 + 2) := by decide +kernel
theorem fd_169_41 : zt_fld zq_T 169 41 = some (3, 8, 1) := by decide +kernel
theorem fd_169_71 : zt_fld zq_T 169 71 = some (3, 7, 3 + 2) := by decide +kernel
theorem fd_169_112 : zt_fld zq_T 169 112 = some (3, 15, 21 + 2) := by decide +kernel
theorem fd_169_115 : zt_fld zq_T 169 115 = some (3, 12, 0) := by decide +kernel
theorem fd_169_118 : zt_fld zq_T 169 118 = some (3, 13, 0) := by decide +kernel
theorem fd_170_36 : zt_fld zq_T 170 36 = some (3, 5, 3 + 2) := by decide +kernel
theorem fd_170_41 : zt_fld zq_T 170 41 = some (3, 8, 1) := by decide +kernel
theorem fd_170_115 : zt_fld zq_T 170 115 = some (3, 12, 0) := by decide +kernel
theorem fd_170_118 : zt_fld zq_T 170 118 = some (3, 13, 0) := by decide +kernel
theorem fd_171_36 : zt_fld zq_T 171 36 = some (3, 5, 3 + 2) := by decide +kernel
theorem fd_171_41 : zt_fld zq_T 171 41 = some (3, 8, 1) := by decide +kernel
theorem fd_171_71 : zt_fld zq_T 171 71 = some (3, 7, 3 + 2) := by decide +kernel
theorem fd_171_144 : zt_fld zq_T 171 144 = some (3, 14, 0) := by decide +kernel
theorem fd_171_150 : zt_fld zq_T 171 150 = some (3, 2, 0) := by decide +kernel
theorem fd_172_11 : zt_fld zq_T 172 11 = some (2, 0, 20 + 2) := by decide +kernel
theorem fd_173_11 : zt_fld zq_T 173 11 = some (2, 0, 20 + 2) := by decide +kernel
theorem fd_174_11 : zt_fld zq_T 174 11 = some (2, 0, 20 + 2) := by decide +kernel
theorem fd_174_112 : zt_fld zq_T 174 112 = some (3, 15, 21 + 2) := by decide +kernel
theorem fd_175_11 : zt_fld zq_T 175 11 = some (2, 0, 20 + 2) := by decide +kernel
theorem fd_175_112 : zt_fld zq_T 175 112 = some (3, 15, 21 + 2) := by decide +kernel
theorem fd_176_11 : zt_fld zq_T 176 11 = some (2, 0, 20 + 2) := by decide +kernel
theorem fd_176_112 : zt_fld zq_T 176 112 = some (3, 15, 21 + 2) := by decide +kernel
theorem fd_179_18 : zt_fld zq_T 179 18 = some (3, 6, 3 + 2) := by decide +kernel
theorem fd_179_35 : zt_fld zq_T 179 35 = some (3, 2, 0) := by decide +kernel
theorem fd_179_38 : zt_fld zq_T 179 38 = some (3, 3, 0) := by decide +kernel
theorem fd_180_9 : zt_fld zq_T 180 9 = some (3, 4, 3 + 2) := by decide +kernel
theorem fd_180_28 : zt_fld zq_T 180 28 = some (3, 0, 0) := by decide +kernel
theorem fd_181_32 : zt_fld zq_T 181 32 = some (3, 1, 0) := by decide +kernel
theorem fd_185_15 : zt_fld zq_T 185 15 = some (4, 5, 20 + 2) := by decide +kernel
theorem fd_185_19 : zt_fld zq_T 185 19 = some (4, 6, 20 + 2) := by decide +kernel
theorem fd_185_22 : zt_fld zq_T 185 22 = some (4, 7, 20 + 2) := by decide +kernel
theorem fd_185_25 : zt_fld zq_T 185 25 = some (4, 9, 20 + 2) := by decide +kernel
theorem fd_185_28 : zt_fld zq_T 185 28 = some (4, 11, 20 + 2) := by decide +kernel
theorem fd_185_38 : zt_fld zq_T 185 38 = some (4, 1, 0) := by decide +kernel
theorem fd_185_47 : zt_fld zq_T 185 47 = some (4, 2, 0) := by decide +kernel
theorem fd_185_54 : zt_fld zq_T 185 54 = some (8, 1, 0) := by decide +kernel
theorem fd_185_57 : zt_fld zq_T 185 57 = some (8, 2, 0) := by decide +kernel
theorem fd_185_74 : zt_fld zq_T 185 74 = some (5, 3, 0) := by decide +kernel
theorem fd_185_79 : zt_fld zq_T 185 79 = some (4, 8, 0) := by decide +kernel
theorem fd_185_83 : zt_fld zq_T 185 83 = some (5, 4, 0) := by decide +kernel
theorem fd_185_86 : zt_fld zq_T 185 86 = some (4, 10, 0) := by decide +kernel
theorem fd_186_38 : zt_fld zq_T 186 38 = some (4, 1, 0) := by decide +kernel
theorem fd_186_47 : zt_fld zq_T 186 47 = some (4, 2, 0) := by decide +kernel
theorem fd_186_71 : zt_fld zq_T 186 71 = some (4, 4, 1) := by decide +kernel
theorem fd_187_15 : zt_fld zq_T 187 15 = some (4, 5, 20 + 2) := by decide +kernel
theorem fd_187_31 : zt_fld zq_T 187 31 = some (4, 16, 20 + 2) := by decide +kernel
theorem fd_187_38 : zt_fld zq_T 187 38 = some (4, 1, 0) := by decide +kernel
theorem fd_189_31 : zt_fld zq_T 189 31 = some (4, 16, 20 + 2) := by decide +kernel
theorem fd_190_31 : zt_fld zq_T 190 31 = some (4, 16, 20 + 2) := by decide +kernel
theorem fd_191_15 : zt_fld zq_T 191 15 = some (4, 5, 20 + 2) := by decide +kernel
theorem fd_191_38 : zt_fld zq_T 191 38 = some (4, 1, 0) := by decide +kernel
theorem fd_194_15 : zt_fld zq_T 194 15 = some (5, 5, 20 + 2) := by decide +kernel
theorem fd_194_50 : zt_fld zq_T 194 50 = some (5, 2, 0) := by decide +kernel
theorem fd_196_15 : zt_fld zq_T 196 15 = some (5, 5, 20 + 2) := by decide +kernel
theorem fd_196_50 : zt_fld zq_T 196 50 = some (5, 2, 0) := by decide +kernel
theorem fd_197_21 : zt_fld zq_T 197 21 = some (5, 6, 24 + 2) := by decide +kernel
theorem fd_197_64 : zt_fld zq_T 197 64 = some (3, 0, 0) := by decide +kernel
theorem fd_197_67 : zt_fld zq_T 197 67 = some (3, 1, 0) := by decide +kernel
theorem fd_197_70 : zt_fld zq_T 197 70 = some (3, 4, 3 + 2) := by decide +kernel
theorem fd_198_11 : zt_fld zq_T 198 11 = some (6, 0, 25 + 2) := by decide +kernel
theorem fd_199_11 : zt_fld zq_T 199 11 = some (6, 0, 25 + 2) := by decide +kernel
theorem fd_199_18 : zt_fld zq_T 199 18 = some (6, 1, 0) := by decide +kernel
theorem fd_199_36 : zt_fld zq_T 199 36 = some (5, 0, 0) := by decide +kernel
theorem fd_200_11 : zt_fld zq_T 200 11 = some (6, 0, 25 + 2) := by decide +kernel
theorem fd_200_18 : zt_fld zq_T 200 18 = some (6, 1, 0) := by decide +kernel
theorem fd_200_39 : zt_fld zq_T 200 39 = some (5, 15, 1) := by decide +kernel
theorem fd_201_11 : zt_fld zq_T 201 11 = some (6, 0, 25 + 2) := by decide +kernel
theorem fd_201_18 : zt_fld zq_T 201 18 = some (6, 1, 0) := by decide +kernel
theorem fd_201_47 : zt_fld zq_T 201 47 = some (5, 16, 1) := by decide +kernel
theorem fd_202_11 : zt_fld zq_T 202 11 = some (6, 0, 25 + 2) := by decide +kernel
theorem fd_202_18 : zt_fld zq_T 202 18 = some (6, 1, 0) := by decide +kernel
theorem fd_202_53 : zt_fld zq_T 202 53 = some (6, 6, 0) := by decide +kernel
theorem fd_202_56 : zt_fld zq_T 202 56 = some (6, 7, 0) := by decide +kernel
theorem fd_203_28 : zt_fld zq_T 203 28 = some (6, 4, 20 + 2) := by decide +kernel
theorem fd_203_50 : zt_fld zq_T 203 50 = some (6, 5, 0) := by decide +kernel
theorem fd_203_53 : zt_fld zq_T 203 53 = some (6, 6, 0) := by decide +kernel
theorem fd_204_53 : zt_fld zq_T 204 53 = some (6, 6, 0) := by decide +kernel
theorem fd_205_53 : zt_fld zq_T 205 53 = some (6, 6, 0) := by decide +kernel
theorem fd_206_24 : zt_fld zq_T 206 24 = some (6, 2, 24 + 2) := by decide +kernel
theorem fd_206_59 : zt_fld zq_T 206 59 = some (6, 3, 0) := by decide +kernel
theorem fd_209_32 : zt_fld zq_T 209 32 = some (6, 8, 5 + 2) := by decide +kernel
theorem fd_209_53 : zt_fld zq_T 209 53 = some (6, 6, 0) := by decide +kernel
theorem fd_209_97 : zt_fld zq_T 209 97 = some (5, 1, 3 + 2) := by decide +kernel
theorem fd_211_53 : zt_fld zq_T 211 53 = some (6, 6, 0) := by decide +kernel
theorem fd_213_32 : zt_fld zq_T 213 32 = some (6, 8, 5 + 2) := by decide +kernel
theorem fd_213_53 : zt_fld zq_T 213 53 = some (6, 6, 0) := by decide +kernel
theorem fd_213_122 : zt_fld zq_T 213 122 = some (3, 3, 0) := by decide +kernel
theorem fd_213_125 : zt_fld zq_T 213 125 = some (5, 3, 0) := by decide +kernel
theorem fd_213_128 : zt_fld zq_T 213 128 = some (5, 12, 24 + 2) := by decide +kernel
theorem fd_213_131 : zt_fld zq_T 213 131 = some (3, 1, 0) := by decide +kernel
theorem fd_214_32 : zt_fld zq_T 214 32 = some (6, 8, 5 + 2) := by decide +kernel
theorem fd_214_141 : zt_fld zq_T 214 141 = some (5, 9, 20 + 2) := by decide +kernel
theorem fd_214_144 : zt_fld zq_T 214 144 = some (5, 10, 20 + 2) := by decide +kernel
theorem fd_215_32 : zt_fld zq_T 215 32 = some (6, 8, 5 + 2) := by decide +kernel
theorem fd_215_53 : zt_fld zq_T 215 53 = some (6, 6, 0) := by decide +kernel
theorem fd_215_141 : zt_fld zq_T 215 141 = some (5, 9, 20 + 2) := by decide +kernel
theorem fd_215_144 : zt_fld zq_T 215 144 = some (5, 10, 20 + 2) := by decide +kernel
theorem fd_216_28 : zt_fld zq_T 216 28 = some (6, 4, 20 + 2) := by decide +kernel
theorem fd_216_50 : zt_fld zq_T 216 50 = some (6, 5, 0) := by decide +kernel
theorem fd_216_53 : zt_fld zq_T 216 53 = some (6, 6, 0) := by decide +kernel
theorem fd_218_53 : zt_fld zq_T 218 53 = some (6, 6, 0) := by decide +kernel
theorem fd_219_32 : zt_fld zq_T 219 32 = some (6, 8, 5 + 2) := by decide +kernel
theorem fd_219_53 : zt_fld zq_T 219 53 = some (6, 6, 0) := by decide +kernel
theorem fd_219_171 : zt_fld zq_T 219 171 = some (5, 2, 0) := by decide +kernel
theorem fd_219_174 : zt_fld zq_T 219 174 = some (5, 5, 20 + 2) := by decide +kernel
theorem fd_219_177 : zt_fld zq_T 219 177 = some (5, 6, 24 + 2) := by decide +kernel
theorem fd_220_53 : zt_fld zq_T 220 53 = some (6, 6, 0) := by decide +kernel
theorem fd_221_32 : zt_fld zq_T 221 32 = some (6, 8, 5 + 2) := by decide +kernel
theorem fd_221_53 : zt_fld zq_T 221 53 = some (6, 6, 0) := by decide +kernel
theorem fd_221_180 : zt_fld zq_T 221 180 = some (5, 4, 0) := by decide +kernel
theorem fd_221_183 : zt_fld zq_T 221 183 = some (5, 13, 24 + 2) := by decide +kernel
theorem fd_223_11 : zt_fld zq_T 223 11 = some (7, 0, 20 + 2) := by decide +kernel
theorem fd_223_15 : zt_fld zq_T 223 15 = some (7, 2, 20 + 2) := by decide +kernel
theorem fd_223_31 : zt_fld zq_T 223 31 = some (7, 1, 0) := by decide +kernel
theorem fd_223_35 : zt_fld zq_T 223 35 = some (5, 1, 3 + 2) := by decide +kernel
theorem fd_224_15 : zt_fld zq_T 224 15 = some (7, 2, 20 + 2) := by decide +kernel
theorem fd_225_43 : zt_fld zq_T 225 43 = some (5, 6, 24 + 2) := by decide +kernel
theorem fd_225_46 : zt_fld zq_T 225 46 = some (3, 4, 3 + 2) := by decide +kernel
theorem fd_225_49 : zt_fld zq_T 225 49 = some (3, 0, 0) := by decide +kernel
theorem fd_225_56 : zt_fld zq_T 225 56 = some (3, 1, 0) := by decide +kernel
theorem fd_225_59 : zt_fld zq_T 225 59 = some (5, 9, 20 + 2) := by decide +kernel
theorem fd_225_62 : zt_fld zq_T 225 62 = some (3, 12, 0) := by decide +kernel
theorem fd_226_62 : zt_fld zq_T 226 62 = some (3, 12, 0) := by decide +kernel
theorem fd_226_73 : zt_fld zq_T 226 73 = some (3, 5, 3 + 2) := by decide +kernel
theorem fd_226_76 : zt_fld zq_T 226 76 = some (3, 7, 3 + 2) := by decide +kernel
theorem fd_227_56 : zt_fld zq_T 227 56 = some (3, 1, 0) := by decide +kernel
theorem fd_227_79 : zt_fld zq_T 227 79 = some (3, 2, 0) := by decide +kernel
theorem fd_228_62 : zt_fld zq_T 228 62 = some (3, 12, 0) := by decide +kernel
theorem fd_228_73 : zt_fld zq_T 228 73 = some (3, 5, 3 + 2) := by decide +kernel
theorem fd_228_76 : zt_fld zq_T 228 76 = some (3, 7, 3 + 2) := by decide +kernel
theorem fd_228_79 : zt_fld zq_T 228 79 = some (3, 2, 0) := by decide +kernel
theorem fd_229_20 : zt_fld zq_T 229 20 = some (7, 3, 24 + 2) := by decide +kernel
theorem fd_229_43 : zt_fld zq_T 229 43 = some (5, 6, 24 + 2) := by decide +kernel
theorem fd_229_46 : zt_fld zq_T 229 46 = some (3, 4, 3 + 2) := by decide +kernel
theorem fd_229_49 : zt_fld zq_T 229 49 = some (3, 0, 0) := by decide +kernel
theorem fd_229_56 : zt_fld zq_T 229 56 = some (3, 1, 0) := by decide +kernel
theorem fd_229_59 : zt_fld zq_T 229 59 = some (5, 9, 20 + 2) := by decide +kernel
theorem fd_229_93 : zt_fld zq_T 229 93 = some (5, 5, 20 + 2) := by decide +kernel
theorem fd_230_11 : zt_fld zq_T 230 11 = some (7, 0, 20 + 2) := by decide +kernel
theorem fd_230_31 : zt_fld zq_T 230 31 = some (7, 1, 0) := by decide +kernel
theorem fd_231_27 : zt_fld zq_T 231 27 = some (7, 4, 5 + 2) := by decide +kernel
theorem fd_231_49 : zt_fld zq_T 231 49 = some (3, 0, 0) := by decide +kernel
theorem fd_231_56 : zt_fld zq_T 231 56 = some (3, 1, 0) := by decide +kernel
theorem fd_231_73 : zt_fld zq_T 231 73 = some (3, 5, 3 + 2) := by decide +kernel
theorem fd_231_93 : zt_fld zq_T 231 93 = some (5, 5, 20 + 2) := by decide +kernel
theorem fd_231_100 : zt_fld zq_T 231 100 = some (3, 8, 1) := by decide +kernel
theorem fd_231_104 : zt_fld zq_T 231 104 = some (5, 11, 20 + 2) := by decide +kernel
theorem fd_231_110 : zt_fld zq_T 231 110 = some (3, 14, 0) := by decide +kernel
theorem fd_232_73 : zt_fld zq_T 232 73 = some (3, 5, 3 + 2) := by decide +kernel
theorem fd_232_76 : zt_fld zq_T 232 76 = some (3, 7, 3 + 2) := by decide +kernel
theorem fd_233_11 : zt_fld zq_T 233 11 = some (7, 0, 20 + 2) := by decide +kernel
theorem fd_233_31 : zt_fld zq_T 233 31 = some (7, 1, 0) := by decide +kernel
theorem fd_234_31 : zt_fld zq_T 234 31 = some (7, 1, 0) := by decide +kernel
theorem fd_234_62 : zt_fld zq_T 234 62 = some (3, 12, 0) := by decide +kernel
theorem fd_234_73 : zt_fld zq_T 234 73 = some (3, 5, 3 + 2) := by decide +kernel
theorem fd_234_76 : zt_fld zq_T 234 76 = some (3, 7, 3 + 2) := by decide +kernel
theorem fd_235_11 : zt_fld zq_T 235 11 = some (7, 0, 20 + 2) := by decide +kernel
theorem fd_235_31 : zt_fld zq_T 235 31 = some (7, 1, 0) := by decide +kernel
theorem fd_236_31 : zt_fld zq_T 236 31 = some (7, 1, 0) := by decide +kernel
theorem fd_236_73 : zt_fld zq_T 236 73 = some (3, 5, 3 + 2) := by decide +kernel
theorem fd_236_76 : zt_fld zq_T 236 76 = some (3, 7, 3 + 2) := by decide +kernel
theorem fd_236_79 : zt_fld zq_T 236 79 = some (3, 2, 0) := by decide +kernel
theorem fd_237_31 : zt_fld zq_T 237 31 = some (7, 1, 0) := by decide +kernel
theorem fd_239_11 : zt_fld zq_T 239 11 = some (7, 0, 20 + 2) := by decide +kernel
theorem fd_240_11 : zt_fld zq_T 240 11 = some (7, 0, 20 + 2) := by decide +kernel
theorem fd_243_12 : zt_fld zq_T 243 12 = some (8, 0, 5 + 2) := by decide +kernel
theorem fd_243_18 : zt_fld zq_T 243 18 = some (8, 1, 0) := by decide +kernel
theorem fd_243_39 : zt_fld zq_T 243 39 = some (5, 1, 3 + 2) := by decide +kernel
theorem fd_243_42 : zt_fld zq_T 243 42 = some (3, 9, 0) := by decide +kernel
theorem fd_243_51 : zt_fld zq_T 243 51 = some (3, 8, 1) := by decide +kernel
theorem fd_243_56 : zt_fld zq_T 243 56 = some (5, 6, 24 + 2) := by decide +kernel
theorem fd_243_60 : zt_fld zq_T 243 60 = some (3, 4, 3 + 2) := by decide +kernel
theorem fd_243_63 : zt_fld zq_T 243 63 = some (3, 0, 0) := by decide +kernel
theorem fd_243_73 : zt_fld zq_T 243 73 = some (3, 1, 0) := by decide +kernel
theorem fd_244_36 : zt_fld zq_T 244 36 = some (8, 5, 0) := by decide +kernel
theorem fd_244_63 : zt_fld zq_T 244 63 = some (3, 0, 0) := by decide +kernel
theorem fd_244_73 : zt_fld zq_T 244 73 = some (3, 1, 0) := by decide +kernel
theorem fd_245_42 : zt_fld zq_T 245 42 = some (3, 9, 0) := by decide +kernel
theorem fd_245_51 : zt_fld zq_T 245 51 = some (3, 8, 1) := by decide +kernel
theorem fd_245_84 : zt_fld zq_T 245 84 = some (3, 7, 3 + 2) := by decide +kernel
theorem fd_246_29 : zt_fld zq_T 246 29 = some (8, 4, 20 + 2) := by decide +kernel
theorem fd_246_42 : zt_fld zq_T 246 42 = some (3, 9, 0) := by decide +kernel
theorem fd_246_73 : zt_fld zq_T 246 73 = some (3, 1, 0) := by decide +kernel
theorem fd_246_84 : zt_fld zq_T 246 84 = some (3, 7, 3 + 2) := by decide +kernel
theorem fd_246_87 : zt_fld zq_T 246 87 = some (3, 5, 3 + 2) := by decide +kernel
theorem fd_246_90 : zt_fld zq_T 246 90 = some (3, 2, 0) := by decide +kernel
theorem fd_246_93 : zt_fld zq_T 246 93 = some (3, 14, 0) := by decide +kernel
theorem fd_247_12 : zt_fld zq_T 247 12 = some (8, 0, 5 + 2) := by decide +kernel
theorem fd_247_25 : zt_fld zq_T 247 25 = some (8, 3, 20 + 2) := by decide +kernel
theorem fd_247_42 : zt_fld zq_T 247 42 = some (3, 9, 0) := by decide +kernel
theorem fd_247_96 : zt_fld zq_T 247 96 = some (5, 10, 20 + 2) := by decide +kernel
theorem fd_247_99 : zt_fld zq_T 247 99 = some (5, 11, 20 + 2) := by decide +kernel
theorem fd_248_12 : zt_fld zq_T 248 12 = some (8, 0, 5 + 2) := by decide +kernel
theorem fd_248_36 : zt_fld zq_T 248 36 = some (8, 5, 0) := by decide +kernel
theorem fd_249_12 : zt_fld zq_T 249 12 = some (8, 0, 5 + 2) := by decide +kernel
theorem fd_249_25 : zt_fld zq_T 249 25 = some (8, 3, 20 + 2) := by decide +kernel
theorem fd_249_29 : zt_fld zq_T 249 29 = some (8, 4, 20 + 2) := by decide +kernel
theorem fd_249_32 : zt_fld zq_T 249 32 = some (8, 7, 3 + 2) := by decide +kernel
theorem fd_249_36 : zt_fld zq_T 249 36 = some (8, 5, 0) := by decide +kernel
theorem fd_249_56 : zt_fld zq_T 249 56 = some (5, 6, 24 + 2) := by decide +kernel
theorem fd_249_60 : zt_fld zq_T 249 60 = some (3, 4, 3 + 2) := by decide +kernel
theorem fd_249_63 : zt_fld zq_T 249 63 = some (3, 0, 0) := by decide +kernel
theorem fd_249_73 : zt_fld zq_T 249 73 = some (3, 1, 0) := by decide +kernel
theorem fd_249_81 : zt_fld zq_T 249 81 = some (8, 6, 0) := by decide +kernel
theorem fd_249_90 : zt_fld zq_T 249 90 = some (3, 2, 0) := by decide +kernel
theorem fd_251_12 : zt_fld zq_T 251 12 = some (8, 0, 5 + 2) := by decide +kernel
theorem fd_252_12 : zt_fld zq_T 252 12 = some (8, 0, 5 + 2) := by decide +kernel
theorem fd_252_18 : zt_fld zq_T 252 18 = some (8, 1, 0) := by decide +kernel
theorem fd_252_25 : zt_fld zq_T 252 25 = some (8, 3, 20 + 2) := by decide +kernel
theorem fd_252_116 : zt_fld zq_T 252 116 = some (5, 7, 20 + 2) := by decide +kernel
theorem fd_252_119 : zt_fld zq_T 252 119 = some (5, 8, 20 + 2) := by decide +kernel
theorem fd_253_12 : zt_fld zq_T 253 12 = some (8, 0, 5 + 2) := by decide +kernel
theorem fd_253_18 : zt_fld zq_T 253 18 = some (8, 1, 0) := by decide +kernel
theorem fd_253_29 : zt_fld zq_T 253 29 = some (8, 4, 20 + 2) := by decide +kernel
theorem fd_253_122 : zt_fld zq_T 253 122 = some (5, 13, 24 + 2) := by decide +kernel
theorem fd_253_125 : zt_fld zq_T 253 125 = some (3, 11, 0) := by decide +kernel
theorem fd_254_12 : zt_fld zq_T 254 12 = some (8, 0, 5 + 2) := by decide +kernel
theorem fd_254_18 : zt_fld zq_T 254 18 = some (8, 1, 0) := by decide +kernel
theorem fd_254_116 : zt_fld zq_T 254 116 = some (5, 7, 20 + 2) := by decide +kernel
theorem fd_254_119 : zt_fld zq_T 254 119 = some (5, 8, 20 + 2) := by decide +kernel
theorem fd_254_131 : zt_fld zq_T 254 131 = some (5, 4, 0) := by decide +kernel
theorem fd_255_12 : zt_fld zq_T 255 12 = some (8, 0, 5 + 2) := by decide +kernel
theorem fd_255_25 : zt_fld zq_T 255 25 = some (8, 3, 20 + 2) := by decide +kernel
theorem fd_255_96 : zt_fld zq_T 255 96 = some (5, 10, 20 + 2) := by decide +kernel
theorem fd_255_99 : zt_fld zq_T 255 99 = some (5, 11, 20 + 2) := by decide +kernel
theorem fd_256_12 : zt_fld zq_T 256 12 = some (8, 0, 5 + 2) := by decide +kernel
theorem fd_256_18 : zt_fld zq_T 256 18 = some (8, 1, 0) := by decide +kernel
theorem fd_256_29 : zt_fld zq_T 256 29 = some (8, 4, 20 + 2) := by decide +kernel
theorem fd_256_116 : zt_fld zq_T 256 116 = some (5, 7, 20 + 2) := by decide +kernel
theorem fd_256_119 : zt_fld zq_T 256 119 = some (5, 8, 20 + 2) := by decide +kernel
theorem fd_256_131 : zt_fld zq_T 256 131 = some (5, 4, 0) := by decide +kernel
theorem fd_257_25 : zt_fld zq_T 257 25 = some (8, 3, 20 + 2) := by decide +kernel
theorem fd_261_34 : zt_fld zq_T 261 34 = some (5, 1, 3 + 2) := by decide +kernel
theorem fd_261_40 : zt_fld zq_T 261 40 = some (3, 9, 0) := by decide +kernel
theorem fd_261_49 : zt_fld zq_T 261 49 = some (5, 6, 24 + 2) := by decide +kernel
theorem fd_261_53 : zt_fld zq_T 261 53 = some (3, 4, 3 + 2) := by decide +kernel
theorem fd_262_28 : zt_fld zq_T 262 28 = some (9, 5, 0) := by decide +kernel
theorem fd_262_40 : zt_fld zq_T 262 40 = some (3, 9, 0) := by decide +kernel
theorem fd_262_60 : zt_fld zq_T 262 60 = some (3, 0, 0) := by decide +kernel
theorem fd_262_71 : zt_fld zq_T 262 71 = some (5, 10, 20 + 2) := by decide +kernel
theorem fd_262_74 : zt_fld zq_T 262 74 = some (3, 1, 0) := by decide +kernel
theorem fd_262_77 : zt_fld zq_T 262 77 = some (5, 11, 20 + 2) := by decide +kernel
theorem fd_263_40 : zt_fld zq_T 263 40 = some (3, 9, 0) := by decide +kernel
theorem fd_263_80 : zt_fld zq_T 263 80 = some (3, 7, 3 + 2) := by decide +kernel
theorem fd_263_83 : zt_fld zq_T 263 83 = some (3, 8, 1) := by decide +kernel
theorem fd_264_31 : zt_fld zq_T 264 31 = some (9, 6, 0) := by decide +kernel
theorem fd_264_40 : zt_fld zq_T 264 40 = some (3, 9, 0) := by decide +kernel
theorem fd_264_74 : zt_fld zq_T 264 74 = some (3, 1, 0) := by decide +kernel
theorem fd_264_80 : zt_fld zq_T 264 80 = some (3, 7, 3 + 2) := by decide +kernel
theorem fd_264_87 : zt_fld zq_T 264 87 = some (3, 5, 3 + 2) := by decide +kernel
theorem fd_264_90 : zt_fld zq_T 264 90 = some (3, 2, 0) := by decide +kernel
theorem fd_264_93 : zt_fld zq_T 264 93 = some (3, 14, 0) := by decide +kernel
theorem fd_265_11 : zt_fld zq_T 265 11 = some (9, 0, 20 + 2) := by decide +kernel
theorem fd_265_15 : zt_fld zq_T 265 15 = some (9, 1, 20 + 2) := by decide +kernel
theorem fd_265_18 : zt_fld zq_T 265 18 = some (9, 2, 20 + 2) := by decide +kernel
theorem fd_265_21 : zt_fld zq_T 265 21 = some (9, 3, 20 + 2) := by decide +kernel
theorem fd_265_24 : zt_fld zq_T 265 24 = some (9, 4, 0) := by decide +kernel
theorem fd_265_28 : zt_fld zq_T 265 28 = some (9, 5, 0) := by decide +kernel
theorem fd_265_31 : zt_fld zq_T 265 31 = some (9, 6, 0) := by decide +kernel
theorem fd_266_11 : zt_fld zq_T 266 11 = some (9, 0, 20 + 2) := by decide +kernel
theorem fd_266_24 : zt_fld zq_T 266 24 = some (9, 4, 0) := by decide +kernel
theorem fd_267_11 : zt_fld zq_T 267 11 = some (9, 0, 20 + 2) := by decide +kernel
theorem fd_267_15 : zt_fld zq_T 267 15 = some (9, 1, 20 + 2) := by decide +kernel
theorem fd_267_18 : zt_fld zq_T 267 18 = some (9, 2, 20 + 2) := by decide +kernel
theorem fd_267_21 : zt_fld zq_T 267 21 = some (9, 3, 20 + 2) := by decide +kernel
theorem fd_267_104 : zt_fld zq_T 267 104 = some (5, 5, 20 + 2) := by decide +kernel
theorem fd_268_71 : zt_fld zq_T 268 71 = some (5, 10, 20 + 2) := by decide +kernel
theorem fd_268_114 : zt_fld zq_T 268 114 = some (5, 9, 20 + 2) := by decide +kernel
theorem fd_269_11 : zt_fld zq_T 269 11 = some (9, 0, 20 + 2) := by decide +kernel
theorem fd_270_15 : zt_fld zq_T 270 15 = some (9, 1, 20 + 2) := by decide +kernel
theorem fd_271_18 : zt_fld zq_T 271 18 = some (9, 2, 20 + 2) := by decide +kernel
theorem fd_272_11 : zt_fld zq_T 272 11 = some (9, 0, 20 + 2) := by decide +kernel
theorem fd_273_11 : zt_fld zq_T 273 11 = some (9, 0, 20 + 2) := by decide +kernel
theorem fd_274_24 : zt_fld zq_T 274 24 = some (9, 4, 0) := by decide +kernel
theorem fd_274_126 : zt_fld zq_T 274 126 = some (5, 14, 0) := by decide +kernel
theorem fd_274_129 : zt_fld zq_T 274 129 = some (5, 15, 1) := by decide +kernel
theorem fd_274_132 : zt_fld zq_T 274 132 = some (5, 2, 0) := by decide +kernel
theorem fd_277_26 : zt_fld zq_T 277 26 = some (5, 15, 1) := by decide +kernel
theorem fd_277_31 : zt_fld zq_T 277 31 = some (5, 16, 1) := by decide +kernel
theorem fd_277_34 : zt_fld zq_T 277 34 = some (5, 2, 0) := by decide +kernel
theorem fd_277_42 : zt_fld zq_T 277 42 = some (9, 4, 0) := by decide +kernel
theorem fd_278_19 : zt_fld zq_T 278 19 = some (10, 1, 1) := by decide +kernel
theorem fd_278_23 : zt_fld zq_T 278 23 = some (10, 8, 1) := by decide +kernel
theorem fd_278_74 : zt_fld zq_T 278 74 = some (10, 9, 0) := by decide +kernel
theorem fd_278_77 : zt_fld zq_T 278 77 = some (10, 10, 0) := by decide +kernel
theorem fd_278_80 : zt_fld zq_T 278 80 = some (10, 11, 0) := by decide +kernel
theorem fd_278_83 : zt_fld zq_T 278 83 = some (10, 7, 0) := by decide +kernel
theorem fd_278_97 : zt_fld zq_T 278 97 = some (10, 5, 0) := by decide +kernel
theorem fd_279_15 : zt_fld zq_T 279 15 = some (10, 6, 20 + 2) := by decide +kernel
theorem fd_279_97 : zt_fld zq_T 279 97 = some (10, 5, 0) := by decide +kernel
theorem fd_279_112 : zt_fld zq_T 279 112 = some (7, 1, 0) := by decide +kernel
theorem fd_279_113 : zt_fld zq_T 279 113 = some (7, 0, 20 + 2) := by decide +kernel
theorem fd_280_15 : zt_fld zq_T 280 15 = some (10, 6, 20 + 2) := by decide +kernel
theorem fd_280_97 : zt_fld zq_T 280 97 = some (10, 5, 0) := by decide +kernel
theorem fd_280_112 : zt_fld zq_T 280 112 = some (7, 1, 0) := by decide +kernel
theorem fd_280_113 : zt_fld zq_T 280 113 = some (7, 0, 20 + 2) := by decide +kernel
theorem fd_281_83 : zt_fld zq_T 281 83 = some (10, 7, 0) := by decide +kernel
theorem fd_281_117 : zt_fld zq_T 281 117 = some (10, 2, 0) := by decide +kernel
theorem fd_281_120 : zt_fld zq_T 281 120 = some (10, 3, 0) := by decide +kernel
theorem fd_281_123 : zt_fld zq_T 281 123 = some (10, 4, 0) := by decide +kernel
theorem fd_283_13 : zt_fld zq_T 283 13 = some (11, 1, 0) := by decide +kernel
theorem fd_285_9 : zt_fld zq_T 285 9 = some (11, 0, 20 + 2) := by decide +kernel
theorem fd_285_13 : zt_fld zq_T 285 13 = some (11, 1, 0) := by decide +kernel
theorem fd_286_13 : zt_fld zq_T 286 13 = some (11, 1, 0) := by decide +kernel
theorem fd_287_9 : zt_fld zq_T 287 9 = some (11, 0, 20 + 2) := by decide +kernel
theorem fd_287_13 : zt_fld zq_T 287 13 = some (11, 1, 0) := by decide +kernel
theorem fd_287_24 : zt_fld zq_T 287 24 = some (11, 3, 6 + 2) := by decide +kernel
theorem fd_287_34 : zt_fld zq_T 287 34 = some (11, 5, 1 + 2) := by decide +kernel
theorem fd_288_9 : zt_fld zq_T 288 9 = some (11, 0, 20 + 2) := by decide +kernel
theorem fd_288_13 : zt_fld zq_T 288 13 = some (11, 1, 0) := by decide +kernel
theorem fd_288_20 : zt_fld zq_T 288 20 = some (11, 2, 6 + 2) := by decide +kernel
theorem fd_288_24 : zt_fld zq_T 288 24 = some (11, 3, 6 + 2) := by decide +kernel
theorem fd_288_40 : zt_fld zq_T 288 40 = some (11, 6, 2 + 2) := by decide +kernel
theorem fd_288_47 : zt_fld zq_T 288 47 = some (11, 7, 9 + 2) := by decide +kernel
theorem fd_288_78 : zt_fld zq_T 288 78 = some (11, 12, 4 + 2) := by decide +kernel
theorem fd_288_108 : zt_fld zq_T 288 108 = some (6, 1, 0) := by decide +kernel
theorem fd_288_111 : zt_fld zq_T 288 111 = some (6, 0, 25 + 2) := by decide +kernel
theorem fd_289_9 : zt_fld zq_T 289 9 = some (11, 0, 20 + 2) := by decide +kernel
theorem fd_289_13 : zt_fld zq_T 289 13 = some (11, 1, 0) := by decide +kernel
theorem fd_289_20 : zt_fld zq_T 289 20 = some (11, 2, 6 + 2) := by decide +kernel
theorem fd_289_30 : zt_fld zq_T 289 30 = some (11, 4, 1 + 2) := by decide +kernel
theorem fd_289_34 : zt_fld zq_T 289 34 = some (11, 5, 1 + 2) := by decide +kernel
theorem fd_289_71 : zt_fld zq_T 289 71 = some (11, 11, 8 + 2) := by decide +kernel
theorem fd_289_129 : zt_fld zq_T 289 129 = some (1, 0, 0) := by decide +kernel
theorem fd_290_20 : zt_fld zq_T 290 20 = some (11, 2, 6 + 2) := by decide +kernel
theorem fd_290_30 : zt_fld zq_T 290 30 = some (11, 4, 1 + 2) := by decide +kernel
theorem fd_290_61 : zt_fld zq_T 290 61 = some (11, 9, 10 + 2) := by decide +kernel
theorem fd_290_65 : zt_fld zq_T 290 65 = some (11, 10, 10 + 2) := by decide +kernel
theorem fd_290_71 : zt_fld zq_T 290 71 = some (11, 11, 8 + 2) := by decide +kernel
theorem fd_290_78 : zt_fld zq_T 290 78 = some (11, 12, 4 + 2) := by decide +kernel
theorem fd_290_85 : zt_fld zq_T 290 85 = some (11, 13, 0 + 2) := by decide +kernel
theorem fd_291_20 : zt_fld zq_T 291 20 = some (11, 2, 6 + 2) := by decide +kernel
theorem fd_291_108 : zt_fld zq_T 291 108 = some (6, 1, 0) := by decide +kernel
theorem fd_291_111 : zt_fld zq_T 291 111 = some (6, 0, 25 + 2) := by decide +kernel
theorem fd_293_140 : zt_fld zq_T 293 140 = some (5, 1, 3 + 2) := by decide +kernel
theorem fd_293_153 : zt_fld zq_T 293 153 = some (5, 0, 0) := by decide +kernel
theorem fd_293_156 : zt_fld zq_T 293 156 = some (5, 2, 0) := by decide +kernel
theorem fd_293_159 : zt_fld zq_T 293 159 = some (5, 3, 0) := by decide +kernel
theorem fd_293_162 : zt_fld zq_T 293 162 = some (5, 4, 0) := by decide +kernel
theorem fd_293_165 : zt_fld zq_T 293 165 = some (3, 8, 1) := by decide +kernel
theorem fd_293_174 : zt_fld zq_T 293 174 = some (5, 15, 1) := by decide +kernel
theorem fd_293_177 : zt_fld zq_T 293 177 = some (5, 16, 1) := by decide +kernel
theorem fd_293_180 : zt_fld zq_T 293 180 = some (5, 14, 0) := by decide +kernel
theorem fd_293_183 : zt_fld zq_T 293 183 = some (3, 12, 0) := by decide +kernel
theorem fd_293_186 : zt_fld zq_T 293 186 = some (3, 13, 0) := by decide +kernel
theorem fd_293_189 : zt_fld zq_T 293 189 = some (3, 11, 0) := by decide +kernel
theorem fd_294_47 : zt_fld zq_T 294 47 = some (11, 7, 9 + 2) := by decide +kernel
theorem fd_294_140 : zt_fld zq_T 294 140 = some (5, 1, 3 + 2) := by decide +kernel
theorem fd_294_156 : zt_fld zq_T 294 156 = some (5, 2, 0) := by decide +kernel
theorem fd_294_197 : zt_fld zq_T 294 197 = some (5, 5, 20 + 2) := by decide +kernel
theorem fd_294_200 : zt_fld zq_T 294 200 = some (3, 9, 0) := by decide +kernel
theorem fd_294_203 : zt_fld zq_T 294 203 = some (3, 10, 0) := by decide +kernel
theorem fd_294_210 : zt_fld zq_T 294 210 = some (5, 7, 20 + 2) := by decide +kernel
theorem fd_294_213 : zt_fld zq_T 294 213 = some (5, 8, 20 + 2) := by decide +kernel
theorem fd_295_159 : zt_fld zq_T 295 159 = some (5, 3, 0) := by decide +kernel
theorem fd_295_165 : zt_fld zq_T 295 165 = some (3, 8, 1) := by decide +kernel
theorem fd_295_189 : zt_fld zq_T 295 189 = some (3, 11, 0) := by decide +kernel
theorem fd_295_219 : zt_fld zq_T 295 219 = some (5, 12, 24 + 2) := by decide +kernel
theorem fd_295_223 : zt_fld zq_T 295 223 = some (3, 5, 3 + 2) := by decide +kernel
theorem fd_295_226 : zt_fld zq_T 295 226 = some (5, 9, 20 + 2) := by decide +kernel
theorem fd_295_229 : zt_fld zq_T 295 229 = some (5, 10, 20 + 2) := by decide +kernel
theorem fd_296_162 : zt_fld zq_T 296 162 = some (5, 4, 0) := by decide +kernel
theorem fd_296_189 : zt_fld zq_T 296 189 = some (3, 11, 0) := by decide +kernel
theorem fd_296_223 : zt_fld zq_T 296 223 = some (3, 5, 3 + 2) := by decide +kernel
theorem fd_296_240 : zt_fld zq_T 296 240 = some (5, 13, 24 + 2) := by decide +kernel
theorem fd_296_243 : zt_fld zq_T 296 243 = some (3, 7, 3 + 2) := by decide +kernel
theorem fd_297_47 : zt_fld zq_T 297 47 = some (11, 7, 9 + 2) := by decide +kernel
theorem fd_297_54 : zt_fld zq_T 297 54 = some (11, 8, 7 + 2) := by decide +kernel
theorem fd_297_61 : zt_fld zq_T 297 61 = some (11, 9, 10 + 2) := by decide +kernel
theorem fd_297_65 : zt_fld zq_T 297 65 = some (11, 10, 10 + 2) := by decide +kernel
theorem fd_297_246 : zt_fld zq_T 297 246 = some (10, 0, 0) := by decide +kernel
theorem fd_297_253 : zt_fld zq_T 297 253 = some (10, 1, 1) := by decide +kernel
theorem fd_298_261 : zt_fld zq_T 298 261 = some (10, 2, 0) := by decide +kernel
theorem fd_298_264 : zt_fld zq_T 298 264 = some (10, 3, 0) := by decide +kernel
theorem fd_298_273 : zt_fld zq_T 298 273 = some (10, 4, 0) := by decide +kernel
theorem fd_298_276 : zt_fld zq_T 298 276 = some (10, 5, 0) := by decide +kernel
theorem fd_299_20 : zt_fld zq_T 299 20 = some (11, 2, 6 + 2) := by decide +kernel
theorem fd_299_111 : zt_fld zq_T 299 111 = some (6, 0, 25 + 2) := by decide +kernel
theorem fd_299_197 : zt_fld zq_T 299 197 = some (5, 5, 20 + 2) := by decide +kernel
theorem fd_299_264 : zt_fld zq_T 299 264 = some (10, 3, 0) := by decide +kernel
theorem fd_299_276 : zt_fld zq_T 299 276 = some (10, 5, 0) := by decide +kernel
theorem fd_299_279 : zt_fld zq_T 299 279 = some (10, 6, 20 + 2) := by decide +kernel
theorem fd_300_54 : zt_fld zq_T 300 54 = some (11, 8, 7 + 2) := by decide +kernel
theorem fd_300_89 : zt_fld zq_T 300 89 = some (11, 14, 0) := by decide +kernel
theorem fd_300_140 : zt_fld zq_T 300 140 = some (5, 1, 3 + 2) := by decide +kernel
theorem fd_300_183 : zt_fld zq_T 300 183 = some (3, 12, 0) := by decide +kernel
theorem fd_301_140 : zt_fld zq_T 301 140 = some (5, 1, 3 + 2) := by decide +kernel
theorem fd_301_165 : zt_fld zq_T 301 165 = some (3, 8, 1) := by decide +kernel
theorem fd_301_177 : zt_fld zq_T 301 177 = some (5, 16, 1) := by decide +kernel
theorem fd_301_287 : zt_fld zq_T 301 287 = some (3, 15, 21 + 2) := by decide +kernel
theorem fd_302_71 : zt_fld zq_T 302 71 = some (11, 11, 8 + 2) := by decide +kernel
theorem fd_302_85 : zt_fld zq_T 302 85 = some (11, 13, 0 + 2) := by decide +kernel
theorem fd_302_177 : zt_fld zq_T 302 177 = some (5, 16, 1) := by decide +kernel
theorem fd_302_301 : zt_fld zq_T 302 301 = some (0, 0, 0) := by decide +kernel
theorem fd_302_302 : zt_fld zq_T 302 302 = some (0, 1, 20 + 2) := by decide +kernel
theorem fd_303_9 : zt_fld zq_T 303 9 = some (11, 0, 20 + 2) := by decide +kernel
theorem fd_303_13 : zt_fld zq_T 303 13 = some (11, 1, 0) := by decide +kernel
theorem fd_303_71 : zt_fld zq_T 303 71 = some (11, 11, 8 + 2) := by decide +kernel
theorem fd_303_78 : zt_fld zq_T 303 78 = some (11, 12, 4 + 2) := by decide +kernel
theorem fd_303_177 : zt_fld zq_T 303 177 = some (5, 16, 1) := by decide +kernel
theorem fd_304_78 : zt_fld zq_T 304 78 = some (11, 12, 4 + 2) := by decide +kernel
theorem fd_304_310 : zt_fld zq_T 304 310 = some (4, 0, 0) := by decide +kernel
theorem fd_304_315 : zt_fld zq_T 304 315 = some (4, 1, 0) := by decide +kernel
theorem fd_304_316 : zt_fld zq_T 304 316 = some (4, 2, 0) := by decide +kernel
theorem fd_304_319 : zt_fld zq_T 304 319 = some (4, 3, 0) := by decide +kernel
theorem fd_304_322 : zt_fld zq_T 304 322 = some (4, 4, 1) := by decide +kernel
theorem fd_305_78 : zt_fld zq_T 305 78 = some (11, 12, 4 + 2) := by decide +kernel
theorem fd_305_310 : zt_fld zq_T 305 310 = some (4, 0, 0) := by decide +kernel
theorem fd_305_316 : zt_fld zq_T 305 316 = some (4, 2, 0) := by decide +kernel
theorem fd_305_325 : zt_fld zq_T 305 325 = some (4, 6, 20 + 2) := by decide +kernel
theorem fd_305_328 : zt_fld zq_T 305 328 = some (4, 7, 20 + 2) := by decide +kernel
theorem fd_306_78 : zt_fld zq_T 306 78 = some (11, 12, 4 + 2) := by decide +kernel
theorem fd_306_310 : zt_fld zq_T 306 310 = some (4, 0, 0) := by decide +kernel
theorem fd_306_331 : zt_fld zq_T 306 331 = some (4, 8, 0) := by decide +kernel
theorem fd_306_332 : zt_fld zq_T 306 332 = some (4, 9, 20 + 2) := by decide +kernel
theorem fd_307_78 : zt_fld zq_T 307 78 = some (11, 12, 4 + 2) := by decide +kernel
theorem fd_307_310 : zt_fld zq_T 307 310 = some (4, 0, 0) := by decide +kernel
theorem fd_307_335 : zt_fld zq_T 307 335 = some (4, 10, 0) := by decide +kernel
theorem fd_307_336 : zt_fld zq_T 307 336 = some (4, 11, 20 + 2) := by decide +kernel
theorem fd_308_71 : zt_fld zq_T 308 71 = some (11, 11, 8 + 2) := by decide +kernel
theorem fd_308_78 : zt_fld zq_T 308 78 = some (11, 12, 4 + 2) := by decide +kernel
theorem fd_308_132 : zt_fld zq_T 308 132 = some (4, 12, 1) := by decide +kernel
theorem fd_308_177 : zt_fld zq_T 308 177 = some (5, 16, 1) := by decide +kernel
theorem fd_308_310 : zt_fld zq_T 308 310 = some (4, 0, 0) := by decide +kernel
theorem fd_308_343 : zt_fld zq_T 308 343 = some (4, 13, 0) := by decide +kernel
theorem fd_308_346 : zt_fld zq_T 308 346 = some (4, 14, 0) := by decide +kernel
theorem fd_308_349 : zt_fld zq_T 308 349 = some (4, 15, 0) := by decide +kernel
theorem fd_309_30 : zt_fld zq_T 309 30 = some (11, 4, 1 + 2) := by decide +kernel
theorem fd_309_129 : zt_fld zq_T 309 129 = some (1, 0, 0) := by decide +kernel
theorem fd_309_352 : zt_fld zq_T 309 352 = some (1, 1, 20 + 2) := by decide +kernel
theorem fd_309_354 : zt_fld zq_T 309 354 = some (1, 3, 20 + 2) := by decide +kernel
theorem fd_309_357 : zt_fld zq_T 309 357 = some (1, 2, 20 + 2) := by decide +kernel
theorem fd_309_360 : zt_fld zq_T 309 360 = some (1, 4, 20 + 2) := by decide +kernel
theorem fd_309_363 : zt_fld zq_T 309 363 = some (1, 5, 20 + 2) := by decide +kernel
theorem fd_309_366 : zt_fld zq_T 309 366 = some (1, 6, 20 + 2) := by decide +kernel
theorem fd_309_368 : zt_fld zq_T 309 368 = some (1, 7, 20 + 2) := by decide +kernel
theorem fd_309_370 : zt_fld zq_T 309 370 = some (1, 8, 20 + 2) := by decide +kernel
theorem fd_310_30 : zt_fld zq_T 310 30 = some (11, 4, 1 + 2) := by decide +kernel
theorem fd_310_129 : zt_fld zq_T 310 129 = some (1, 0, 0) := by decide +kernel
theorem fd_311_30 : zt_fld zq_T 311 30 = some (11, 4, 1 + 2) := by decide +kernel
theorem fd_311_129 : zt_fld zq_T 311 129 = some (1, 0, 0) := by decide +kernel
theorem fd_311_363 : zt_fld zq_T 311 363 = some (1, 5, 20 + 2) := by decide +kernel
theorem fd_311_382 : zt_fld zq_T 311 382 = some (1, 10, 0) := by decide +kernel
theorem fd_311_385 : zt_fld zq_T 311 385 = some (1, 9, 20 + 2) := by decide +kernel
theorem fd_312_159 : zt_fld zq_T 312 159 = some (5, 3, 0) := by decide +kernel
theorem fd_312_226 : zt_fld zq_T 312 226 = some (5, 9, 20 + 2) := by decide +kernel
theorem fd_312_229 : zt_fld zq_T 312 229 = some (5, 10, 20 + 2) := by decide +kernel
theorem fd_313_156 : zt_fld zq_T 313 156 = some (5, 2, 0) := by decide +kernel
theorem fd_313_197 : zt_fld zq_T 313 197 = some (5, 5, 20 + 2) := by decide +kernel
theorem fd_314_40 : zt_fld zq_T 314 40 = some (11, 6, 2 + 2) := by decide +kernel
theorem fd_314_47 : zt_fld zq_T 314 47 = some (11, 7, 9 + 2) := by decide +kernel
theorem fd_314_177 : zt_fld zq_T 314 177 = some (5, 16, 1) := by decide +kernel
theorem fd_315_13 : zt_fld zq_T 315 13 = some (11, 1, 0) := by decide +kernel
theorem fd_315_20 : zt_fld zq_T 315 20 = some (11, 2, 6 + 2) := by decide +kernel
theorem fd_315_30 : zt_fld zq_T 315 30 = some (11, 4, 1 + 2) := by decide +kernel
theorem fd_315_108 : zt_fld zq_T 315 108 = some (6, 1, 0) := by decide +kernel
theorem fd_315_129 : zt_fld zq_T 315 129 = some (1, 0, 0) := by decide +kernel
theorem pd_0_9 : zt_pfl zq_T 0 9 = some (12, 1, 22 + 2) := by decide +kernel
theorem pd_0_13 : zt_pfl zq_T 0 13 = some (12, 5, 20 + 2) := by decide +kernel
theorem pd_0_17 : zt_pfl zq_T 0 17 = some (12, 6, 20 + 2) := by decide +kernel
theorem pd_0_20 : zt_pfl zq_T 0 20 = some (12, 7, 20 + 2) := by decide +kernel
theorem pd_0_23 : zt_pfl zq_T 0 23 = some (12, 8, 20 + 2) := by decide +kernel
theorem pd_0_26 : zt_pfl zq_T 0 26 = some (12, 9, 20 + 2) := by decide +kernel
theorem pd_0_29 : zt_pfl zq_T 0 29 = some (12, 10, 20 + 2) := by decide +kernel
theorem pd_0_32 : zt_pfl zq_T 0 32 = some (12, 11, 20 + 2) := by decide +kernel
theorem pd_0_35 : zt_pfl zq_T 0 35 = some (12, 12, 20 + 2) := by decide +kernel
theorem pd_0_38 : zt_pfl zq_T 0 38 = some (12, 13, 20 + 2) := by decide +kernel
theorem pd_0_41 : zt_pfl zq_T 0 41 = some (12, 14, 20 + 2) := by decide +kernel
theorem pd_0_44 : zt_pfl zq_T 0 44 = some (12, 18, 20 + 2) := by decide +kernel
theorem pd_0_47 : zt_pfl zq_T 0 47 = some (12, 19, 20 + 2) := by decide +kernel
theorem pd_0_50 : zt_pfl zq_T 0 50 = some (12, 22, 20 + 2) := by decide +kernel
theorem pd_0_53 : zt_pfl zq_T 0 53 = some (12, 23, 20 + 2) := by decide +kernel
theorem pd_0_56 : zt_pfl zq_T 0 56 = some (12, 24, 20 + 2) := by decide +kernel
theorem pd_0_59 : zt_pfl zq_T 0 59 = some (12, 25, 20 + 2) := by decide +kernel
theorem pd_0_62 : zt_pfl zq_T 0 62 = some (12, 27, 22 + 2) := by decide +kernel
theorem pd_0_65 : zt_pfl zq_T 0 65 = some (12, 29, 20 + 2) := by decide +kernel
theorem pd_0_68 : zt_pfl zq_T 0 68 = some (12, 30, 20 + 2) := by decide +kernel
theorem pd_0_71 : zt_pfl zq_T 0 71 = some (12, 31, 0) := by decide +kernel
theorem pd_0_75 : zt_pfl zq_T 0 75 = some (12, 32, 20 + 2) := by decide +kernel
theorem pd_0_78 : zt_pfl zq_T 0 78 = some (12, 33, 22 + 2) := by decide +kernel
theorem pd_0_81 : zt_pfl zq_T 0 81 = some (12, 34, 20 + 2) := by decide +kernel
theorem pd_0_84 : zt_pfl zq_T 0 84 = some (12, 37, 20 + 2) := by decide +kernel
theorem pd_0_87 : zt_pfl zq_T 0 87 = some (12, 38, 20 + 2) := by decide +kernel
theorem pd_0_90 : zt_pfl zq_T 0 90 = some (12, 39, 20 + 2) := by decide +kernel
theorem pd_0_93 : zt_pfl zq_T 0 93 = some (12, 48, 20 + 2) := by decide +kernel
theorem pd_0_96 : zt_pfl zq_T 0 96 = some (12, 49, 20 + 2) := by decide +kernel
theorem pd_0_99 : zt_pfl zq_T 0 99 = some (12, 50, 20 + 2) := by decide +kernel
theorem pd_0_102 : zt_pfl zq_T 0 102 = some (12, 51, 20 + 2) := by decide +kernel
theorem pd_0_105 : zt_pfl zq_T 0 105 = some (12, 52, 20 + 2) := by decide +kernel
theorem pd_0_108 : zt_pfl zq_T 0 108 = some (12, 56, 20 + 2) := by decide +kernel
theorem pd_0_111 : zt_pfl zq_T 0 111 = some (12, 60, 20 + 2) := by decide +kernel
theorem pd_5_117 : zt_pfl zq_T 5 117 = some (12, 2, 0) := by decide +kernel
theorem pd_6_114 : zt_pfl zq_T 6 114 = some (12, 0, 0) := by decide +kernel
theorem pd_7_114 : zt_pfl zq_T 7 114 = some (12, 0, 0) := by decide +kernel
theorem pd_7_117 : zt_pfl zq_T 7 117 = some (12, 2, 0) := by decide +kernel
theorem pd_9_128 : zt_pfl zq_T 9 128 = some (12, 3, 0) := by decide +kernel
theorem pd_10_135 : zt_pfl zq_T 10 135 = some (12, 4, 0) := by decide +kernel
theorem pd_12_128 : zt_pfl zq_T 12 128 = some (12, 3, 0) := by decide +kernel
theorem pd_15_141 : zt_pfl zq_T 15 141 = some (12, 17, 0) := by decide +kernel
theorem pd_21_128 : zt_pfl zq_T 21 128 = some (12, 3, 0) := by decide +kernel
theorem pd_22_128 : zt_pfl zq_T 22 128 = some (12, 3, 0) := by decide +kernel
theorem pd_23_128 : zt_pfl zq_T 23 128 = some (12, 3, 0) := by decide +kernel
theorem pd_24_128 : zt_pfl zq_T 24 128 = some (12, 3, 0) := by decide +kernel
theorem pd_25_128 : zt_pfl zq_T 25 128 = some (12, 3, 0) := by decide +kernel
theorem pd_26_128 : zt_pfl zq_T 26 128 = some (12, 3, 0) := by decide +kernel
theorem pd_27_128 : zt_pfl zq_T 27 128 = some (12, 3, 0) := by decide +kernel
theorem pd_27_135 : zt_pfl zq_T 27 135 = some (12, 4, 0) := by decide +kernel
theorem pd_27_141 : zt_pfl zq_T 27 141 = some (12, 17, 0) := by decide +kernel
theorem pd_27_150 : zt_pfl zq_T 27 150 = some (12, 16, 0) := by decide +kernel
theorem pd_28_128 : zt_pfl zq_T 28 128 = some (12, 3, 0) := by decide +kernel
theorem pd_28_214 : zt_pfl zq_T 28 214 = some (12, 21, 0) := by decide +kernel
theorem pd_29_128 : zt_pfl zq_T 29 128 = some (12, 3, 0) := by decide +kernel
theorem pd_29_135 : zt_pfl zq_T 29 135 = some (12, 4, 0) := by decide +kernel
theorem pd_29_214 : zt_pfl zq_T 29 214 = some (12, 21, 0) := by decide +kernel
theorem pd_30_114 : zt_pfl zq_T 30 114 = some (12, 0, 0) := by decide +kernel
theorem pd_32_114 : zt_pfl zq_T 32 114 = some (12, 0, 0) := by decide +kernel
theorem pd_32_117 : zt_pfl zq_T 32 117 = some (12, 2, 0) := by decide +kernel
theorem pd_32_230 : zt_pfl zq_T 32 230 = some (12, 15, 0) := by decide +kernel
theorem pd_32_233 : zt_pfl zq_T 32 233 = some (12, 40, 1) := by decide +kernel
theorem pd_33_114 : zt_pfl zq_T 33 114 = some (12, 0, 0) := by decide +kernel
theorem pd_33_117 : zt_pfl zq_T 33 117 = some (12, 2, 0) := by decide +kernel
theorem pd_33_237 : zt_pfl zq_T 33 237 = some (12, 20, 0) := by decide +kernel
theorem pd_47_265 : zt_pfl zq_T 47 265 = some (12, 26, 0) := by decide +kernel
theorem pd_49_265 : zt_pfl zq_T 49 265 = some (12, 26, 0) := by decide +kernel
theorem pd_56_300 : zt_pfl zq_T 56 300 = some (12, 28, 0) := by decide +kernel
theorem pd_59_300 : zt_pfl zq_T 59 300 = some (12, 28, 0) := by decide +kernel
theorem pd_64_71 : zt_pfl zq_T 64 71 = some (12, 31, 0) := by decide +kernel
theorem pd_64_300 : zt_pfl zq_T 64 300 = some (12, 28, 0) := by decide +kernel
theorem pd_66_300 : zt_pfl zq_T 66 300 = some (12, 28, 0) := by decide +kernel
theorem pd_72_300 : zt_pfl zq_T 72 300 = some (12, 28, 0) := by decide +kernel
theorem pd_74_114 : zt_pfl zq_T 74 114 = some (12, 0, 0) := by decide +kernel
theorem pd_75_114 : zt_pfl zq_T 75 114 = some (12, 0, 0) := by decide +kernel
theorem pd_78_114 : zt_pfl zq_T 78 114 = some (12, 0, 0) := by decide +kernel
theorem pd_85_114 : zt_pfl zq_T 85 114 = some (12, 0, 0) := by decide +kernel
theorem pd_86_114 : zt_pfl zq_T 86 114 = some (12, 0, 0) := by decide +kernel
theorem pd_87_114 : zt_pfl zq_T 87 114 = some (12, 0, 0) := by decide +kernel
theorem pd_88_114 : zt_pfl zq_T 88 114 = some (12, 0, 0) := by decide +kernel
theorem pd_97_429 : zt_pfl zq_T 97 429 = some (12, 35, 0) := by decide +kernel
theorem pd_97_432 : zt_pfl zq_T 97 432 = some (12, 36, 0) := by decide +kernel
theorem pd_102_114 : zt_pfl zq_T 102 114 = some (12, 0, 0) := by decide +kernel
theorem pd_103_128 : zt_pfl zq_T 103 128 = some (12, 3, 0) := by decide +kernel
theorem pd_104_114 : zt_pfl zq_T 104 114 = some (12, 0, 0) := by decide +kernel
theorem pd_104_117 : zt_pfl zq_T 104 117 = some (12, 2, 0) := by decide +kernel
theorem pd_104_233 : zt_pfl zq_T 104 233 = some (12, 40, 1) := by decide +kernel
theorem pd_104_460 : zt_pfl zq_T 104 460 = some (12, 41, 0) := by decide +kernel
theorem pd_104_463 : zt_pfl zq_T 104 463 = some (12, 42, 0) := by decide +kernel
theorem pd_104_466 : zt_pfl zq_T 104 466 = some (12, 43, 0) := by decide +kernel
theorem pd_104_469 : zt_pfl zq_T 104 469 = some (12, 44, 0) := by decide +kernel
theorem pd_104_472 : zt_pfl zq_T 104 472 = some (12, 47, 1) := by decide +kernel
theorem pd_104_475 : zt_pfl zq_T 104 475 = some (12, 45, 0) := by decide +kernel
theorem pd_104_478 : zt_pfl zq_T 104 478 = some (12, 46, 0) := by decide +kernel
theorem pd_105_114 : zt_pfl zq_T 105 114 = some (12, 0, 0) := by decide +kernel
theorem pd_106_114 : zt_pfl zq_T 106 114 = some (12, 0, 0) := by decide +kernel
theorem pd_107_114 : zt_pfl zq_T 107 114 = some (12, 0, 0) := by decide +kernel
theorem pd_108_114 : zt_pfl zq_T 108 114 = some (12, 0, 0) := by decide +kernel
theorem pd_109_485 : zt_pfl zq_T 109 485 = some (12, 53, 0) := by decide +kernel
theorem pd_109_488 : zt_pfl zq_T 109 488 = some (12, 54, 0) := by decide +kernel
theorem pd_109_491 : zt_pfl zq_T 109 491 = some (12, 55, 0) := by decide +kernel
theorem pd_110_485 : zt_pfl zq_T 110 485 = some (12, 53, 0) := by decide +kernel
theorem pd_110_488 : zt_pfl zq_T 110 488 = some (12, 54, 0) := by decide +kernel
theorem pd_110_491 : zt_pfl zq_T 110 491 = some (12, 55, 0) := by decide +kernel
theorem pd_111_114 : zt_pfl zq_T 111 114 = some (12, 0, 0) := by decide +kernel
theorem pd_113_114 : zt_pfl zq_T 113 114 = some (12, 0, 0) := by decide +kernel
theorem pd_116_506 : zt_pfl zq_T 116 506 = some (12, 57, 0) := by decide +kernel
theorem pd_116_509 : zt_pfl zq_T 116 509 = some (12, 58, 0) := by decide +kernel
theorem pd_116_512 : zt_pfl zq_T 116 512 = some (12, 59, 1) := by decide +kernel
theorem pd_117_114 : zt_pfl zq_T 117 114 = some (12, 0, 0) := by decide +kernel
theorem pd_119_114 : zt_pfl zq_T 119 114 = some (12, 0, 0) := by decide +kernel
theorem pd_120_529 : zt_pfl zq_T 120 529 = some (12, 61, 0) := by decide +kernel
theorem pd_124_529 : zt_pfl zq_T 124 529 = some (12, 61, 0) := by decide +kernel
theorem pd_125_114 : zt_pfl zq_T 125 114 = some (12, 0, 0) := by decide +kernel
theorem pd_126_114 : zt_pfl zq_T 126 114 = some (12, 0, 0) := by decide +kernel
theorem pd_127_114 : zt_pfl zq_T 127 114 = some (12, 0, 0) := by decide +kernel
theorem pd_131_114 : zt_pfl zq_T 131 114 = some (12, 0, 0) := by decide +kernel
theorem pd_132_9 : zt_pfl zq_T 132 9 = some (0, 0, 0) := by decide +kernel
theorem pd_132_15 : zt_pfl zq_T 132 15 = some (0, 1, 20 + 2) := by decide +kernel
theorem pd_132_19 : zt_pfl zq_T 132 19 = some (0, 2, 0) := by decide +kernel
theorem pd_132_22 : zt_pfl zq_T 132 22 = some (0, 3, 0) := by decide +kernel
theorem pd_132_25 : zt_pfl zq_T 132 25 = some (0, 4, 20 + 2) := by decide +kernel
theorem pd_132_28 : zt_pfl zq_T 132 28 = some (0, 5, 20 + 2) := by decide +kernel
theorem pd_132_31 : zt_pfl zq_T 132 31 = some (0, 6, 20 + 2) := by decide +kernel
theorem pd_132_34 : zt_pfl zq_T 132 34 = some (0, 7, 20 + 2) := by decide +kernel
theorem pd_132_37 : zt_pfl zq_T 132 37 = some (0, 8, 20 + 2) := by decide +kernel
theorem pd_133_19 : zt_pfl zq_T 133 19 = some (0, 2, 0) := by decide +kernel
theorem pd_133_22 : zt_pfl zq_T 133 22 = some (0, 3, 0) := by decide +kernel
theorem pd_135_19 : zt_pfl zq_T 135 19 = some (0, 2, 0) := by decide +kernel
theorem pd_135_22 : zt_pfl zq_T 135 22 = some (0, 3, 0) := by decide +kernel
theorem pd_136_9 : zt_pfl zq_T 136 9 = some (0, 0, 0) := by decide +kernel
theorem pd_136_52 : zt_pfl zq_T 136 52 = some (0, 9, 0) := by decide +kernel
theorem pd_138_71 : zt_pfl zq_T 138 71 = some (0, 12, 1) := by decide +kernel
theorem pd_138_77 : zt_pfl zq_T 138 77 = some (0, 10, 0) := by decide +kernel
theorem pd_138_80 : zt_pfl zq_T 138 80 = some (0, 11, 0) := by decide +kernel
theorem pd_142_52 : zt_pfl zq_T 142 52 = some (0, 9, 0) := by decide +kernel
theorem pd_143_9 : zt_pfl zq_T 143 9 = some (0, 0, 0) := by decide +kernel
theorem pd_144_9 : zt_pfl zq_T 144 9 = some (1, 1, 20 + 2) := by decide +kernel
theorem pd_144_15 : zt_pfl zq_T 144 15 = some (1, 2, 20 + 2) := by decide +kernel
theorem pd_144_18 : zt_pfl zq_T 144 18 = some (1, 3, 20 + 2) := by decide +kernel
theorem pd_144_21 : zt_pfl zq_T 144 21 = some (1, 4, 20 + 2) := by decide +kernel
theorem pd_144_24 : zt_pfl zq_T 144 24 = some (1, 5, 20 + 2) := by decide +kernel
theorem pd_144_27 : zt_pfl zq_T 144 27 = some (1, 6, 20 + 2) := by decide +kernel
theorem pd_144_30 : zt_pfl zq_T 144 30 = some (1, 7, 20 + 2) := by decide +kernel
theorem pd_144_33 : zt_pfl zq_T 144 33 = some (1, 8, 20 + 2) := by decide +kernel
theorem pd_144_36 : zt_pfl zq_T 144 36 = some (1, 9, 20 + 2) := by decide +kernel
theorem pd_145_39 : zt_pfl zq_T 145 39 = some (1, 0, 0) := by decide +kernel
theorem pd_145_43 : zt_pfl zq_T 145 43 = some (1, 11, 0) := by decide +kernel
theorem pd_145_46 : zt_pfl zq_T 145 46 = some (1, 12, 0) := by decide +kernel
theorem pd_145_49 : zt_pfl zq_T 145 49 = some (1, 13, 1) := by decide +kernel
theorem pd_146_39 : zt_pfl zq_T 146 39 = some (1, 0, 0) := by decide +kernel
theorem pd_146_46 : zt_pfl zq_T 146 46 = some (1, 12, 0) := by decide +kernel
theorem pd_146_49 : zt_pfl zq_T 146 49 = some (1, 13, 1) := by decide +kernel
theorem pd_147_43 : zt_pfl zq_T 147 43 = some (1, 11, 0) := by decide +kernel
theorem pd_147_46 : zt_pfl zq_T 147 46 = some (1, 12, 0) := by decide +kernel
theorem pd_147_49 : zt_pfl zq_T 147 49 = some (1, 13, 1) := by decide +kernel
theorem pd_155_110 : zt_pfl zq_T 155 110 = some (1, 10, 0) := by decide +kernel
theorem pd_159_110 : zt_pfl zq_T 159 110 = some (1, 10, 0) := by decide +kernel
theorem pd_161_11 : zt_pfl zq_T 161 11 = some (2, 0, 20 + 2) := by decide +kernel
theorem pd_164_103 : zt_pfl zq_T 164 103 = some (3, 9, 0) := by decide +kernel
theorem pd_164_106 : zt_pfl zq_T 164 106 = some (3, 10, 0) := by decide +kernel
theorem pd_164_109 : zt_pfl zq_T 164 109 = some (3, 11, 0) := by decide +kernel
theorem pd_165_41 : zt_pfl zq_T 165 41 = some (3, 8, 1) := by decide +kernel
theorem pd_165_103 : zt_pfl zq_T 165 103 = some (3, 9, 0) := by decide +kernel
theorem pd_165_106 : zt_pfl zq_T 165 106 = some (3, 10, 0) := by decide +kernel
theorem pd_165_109 : zt_pfl zq_T 165 109 = some (3, 11, 0) := by decide +kernel
theorem pd_165_115 : zt_pfl zq_T 165 115 = some (3, 12, 0) := by decide +kernel
theorem pd_165_118 : zt_pfl zq_T 165 118 = some (3, 13, 0) := by decide +kernel
theorem pd_166_41 : zt_pfl zq_T 166 41 = some (3, 8, 1) := by decide +kernel
theorem pd_166_115 : zt_pfl zq_T 166 115 = some (3, 12, 0) := by decide +kernel
theorem pd_166_118 : zt_pfl zq_T 166 118 = some (3, 13, 0) := by decide +kernel
theorem pd_167_103 : zt_pfl zq_T 167 103 = some (3, 9, 0) := by decide +kernel
theorem pd_167_106 : zt_pfl zq_T 167 106 = some (3, 10, 0) := by decide +kernel
theorem pd_168_41 : zt_pfl zq_T 168 41 = some (3, 8, 1) := by decide +kernel
theorem pd_168_115 : zt_pfl zq_T 168 115 = some (3, 12, 0) := by decide +kernel
theorem pd_168_118 : zt_pfl zq_T 168 118 = some (3, 13, 0) := by decide +kernel
theorem pd_169_41 : zt_pfl zq_T 169 41 = some (3, 8, 1) := by decide +kernel
theorem pd_169_115 : zt_pfl zq_T 169 115 = some (3, 12, 0) := by decide +kernel
theorem pd_169_118 : zt_pfl zq_T 169 118 = some (3, 13, 0) := by decide +kernel
theorem pd_170_41 : zt_pfl zq_T 170 41 = some (3, 8, 1) := by decide +kernel
theorem pd_170_115 : zt_pfl zq_T 170 115 = some (3, 12, 0) := by decide +kernel
theorem pd_170_118 : zt_pfl zq_T 170 118 = some (3, 13, 0) := by decide +kernel
theorem pd_171_144 : zt_pfl zq_T 171 144 = some (3, 14, 0) := by decide +kernel
theorem pd_177_9 : zt_pfl zq_T 177 9 = some (3, 4, 3 + 2) := by decide +kernel
theorem pd_177_15 : zt_pfl zq_T 177 15 = some (3, 5, 3 + 2) := by decide +kernel
theorem pd_177_18 : zt_pfl zq_T 177 18 = some (3, 6, 3 + 2) := by decide +kernel
theorem pd_177_21 : zt_pfl zq_T 177 21 = some (3, 7, 3 + 2) := by decide +kernel
theorem pd_177_24 : zt_pfl zq_T 177 24 = some (3, 15, 21 + 2) := by decide +kernel
theorem pd_178_9 : zt_pfl zq_T 178 9 = some (3, 4, 3 + 2) := by decide +kernel
theorem pd_178_15 : zt_pfl zq_T 178 15 = some (3, 5, 3 + 2) := by decide +kernel
theorem pd_178_18 : zt_pfl zq_T 178 18 = some (3, 6, 3 + 2) := by decide +kernel
theorem pd_178_21 : zt_pfl zq_T 178 21 = some (3, 7, 3 + 2) := by decide +kernel
theorem pd_178_28 : zt_pfl zq_T 178 28 = some (3, 0, 0) := by decide +kernel
theorem pd_178_32 : zt_pfl zq_T 178 32 = some (3, 1, 0) := by decide +kernel
theorem pd_178_35 : zt_pfl zq_T 178 35 = some (3, 2, 0) := by decide +kernel
theorem pd_178_38 : zt_pfl zq_T 178 38 = some (3, 3, 0) := by decide +kernel
theorem pd_179_9 : zt_pfl zq_T 179 9 = some (3, 4, 3 + 2) := by decide +kernel
theorem pd_179_15 : zt_pfl zq_T 179 15 = some (3, 5, 3 + 2) := by decide +kernel
theorem pd_179_18 : zt_pfl zq_T 179 18 = some (3, 6, 3 + 2) := by decide +kernel
theorem pd_179_21 : zt_pfl zq_T 179 21 = some (3, 7, 3 + 2) := by decide +kernel
theorem pd_179_35 : zt_pfl zq_T 179 35 = some (3, 2, 0) := by decide +kernel
theorem pd_179_38 : zt_pfl zq_T 179 38 = some (3, 3, 0) := by decide +kernel
theorem pd_182_9 : zt_pfl zq_T 182 9 = some (4, 0, 0) := by decide +kernel
theorem pd_182_15 : zt_pfl zq_T 182 15 = some (4, 5, 20 + 2) := by decide +kernel
theorem pd_182_19 : zt_pfl zq_T 182 19 = some (4, 6, 20 + 2) := by decide +kernel
theorem pd_182_22 : zt_pfl zq_T 182 22 = some (4, 7, 20 + 2) := by decide +kernel
theorem pd_182_25 : zt_pfl zq_T 182 25 = some (4, 9, 20 + 2) := by decide +kernel
theorem pd_182_28 : zt_pfl zq_T 182 28 = some (4, 11, 20 + 2) := by decide +kernel
theorem pd_182_31 : zt_pfl zq_T 182 31 = some (4, 16, 20 + 2) := by decide +kernel
theorem pd_183_9 : zt_pfl zq_T 183 9 = some (4, 0, 0) := by decide +kernel
theorem pd_183_34 : zt_pfl zq_T 183 34 = some (4, 12, 1) := by decide +kernel
theorem pd_185_34 : zt_pfl zq_T 185 34 = some (4, 12, 1) := by decide +kernel
theorem pd_185_38 : zt_pfl zq_T 185 38 = some (4, 1, 0) := by decide +kernel
theorem pd_185_47 : zt_pfl zq_T 185 47 = some (4, 2, 0) := by decide +kernel
theorem pd_185_64 : zt_pfl zq_T 185 64 = some (4, 3, 0) := by decide +kernel
theorem pd_185_71 : zt_pfl zq_T 185 71 = some (4, 4, 1) := by decide +kernel
theorem pd_185_79 : zt_pfl zq_T 185 79 = some (4, 8, 0) := by decide +kernel
theorem pd_185_86 : zt_pfl zq_T 185 86 = some (4, 10, 0) := by decide +kernel
theorem pd_187_34 : zt_pfl zq_T 187 34 = some (4, 12, 1) := by decide +kernel
theorem pd_188_111 : zt_pfl zq_T 188 111 = some (4, 13, 0) := by decide +kernel
theorem pd_188_114 : zt_pfl zq_T 188 114 = some (4, 14, 0) := by decide +kernel
theorem pd_188_117 : zt_pfl zq_T 188 117 = some (4, 15, 0) := by decide +kernel
theorem pd_192_9 : zt_pfl zq_T 192 9 = some (5, 1, 3 + 2) := by decide +kernel
theorem pd_192_15 : zt_pfl zq_T 192 15 = some (5, 5, 20 + 2) := by decide +kernel
theorem pd_192_21 : zt_pfl zq_T 192 21 = some (5, 6, 24 + 2) := by decide +kernel
theorem pd_192_25 : zt_pfl zq_T 192 25 = some (5, 7, 20 + 2) := by decide +kernel
theorem pd_192_28 : zt_pfl zq_T 192 28 = some (5, 8, 20 + 2) := by decide +kernel
theorem pd_192_31 : zt_pfl zq_T 192 31 = some (5, 9, 20 + 2) := by decide +kernel
theorem pd_192_34 : zt_pfl zq_T 192 34 = some (5, 10, 20 + 2) := by decide +kernel
theorem pd_192_37 : zt_pfl zq_T 192 37 = some (5, 11, 20 + 2) := by decide +kernel
theorem pd_192_40 : zt_pfl zq_T 192 40 = some (5, 12, 24 + 2) := by decide +kernel
theorem pd_192_43 : zt_pfl zq_T 192 43 = some (5, 13, 24 + 2) := by decide +kernel
theorem pd_193_9 : zt_pfl zq_T 193 9 = some (5, 1, 3 + 2) := by decide +kernel
theorem pd_193_46 : zt_pfl zq_T 193 46 = some (5, 0, 0) := by decide +kernel
theorem pd_193_50 : zt_pfl zq_T 193 50 = some (5, 2, 0) := by decide +kernel
theorem pd_193_53 : zt_pfl zq_T 193 53 = some (5, 3, 0) := by decide +kernel
theorem pd_193_56 : zt_pfl zq_T 193 56 = some (5, 4, 0) := by decide +kernel
theorem pd_198_11 : zt_pfl zq_T 198 11 = some (6, 0, 25 + 2) := by decide +kernel
theorem pd_198_18 : zt_pfl zq_T 198 18 = some (6, 1, 0) := by decide +kernel
theorem pd_198_24 : zt_pfl zq_T 198 24 = some (6, 2, 24 + 2) := by decide +kernel
theorem pd_198_28 : zt_pfl zq_T 198 28 = some (6, 4, 20 + 2) := by decide +kernel
theorem pd_198_32 : zt_pfl zq_T 198 32 = some (6, 8, 5 + 2) := by decide +kernel
theorem pd_202_18 : zt_pfl zq_T 202 18 = some (6, 1, 0) := by decide +kernel
theorem pd_202_28 : zt_pfl zq_T 202 28 = some (6, 4, 20 + 2) := by decide +kernel
theorem pd_202_32 : zt_pfl zq_T 202 32 = some (6, 8, 5 + 2) := by decide +kernel
theorem pd_202_50 : zt_pfl zq_T 202 50 = some (6, 5, 0) := by decide +kernel
theorem pd_202_53 : zt_pfl zq_T 202 53 = some (6, 6, 0) := by decide +kernel
theorem pd_202_56 : zt_pfl zq_T 202 56 = some (6, 7, 0) := by decide +kernel
theorem pd_202_59 : zt_pfl zq_T 202 59 = some (6, 3, 0) := by decide +kernel
theorem pd_203_53 : zt_pfl zq_T 203 53 = some (6, 6, 0) := by decide +kernel
theorem pd_204_56 : zt_pfl zq_T 204 56 = some (6, 7, 0) := by decide +kernel
theorem pd_205_56 : zt_pfl zq_T 205 56 = some (6, 7, 0) := by decide +kernel
theorem pd_206_59 : zt_pfl zq_T 206 59 = some (6, 3, 0) := by decide +kernel
theorem pd_209_53 : zt_pfl zq_T 209 53 = some (6, 6, 0) := by decide +kernel
theorem pd_209_97 : zt_pfl zq_T 209 97 = some (5, 1, 3 + 2) := by decide +kernel
theorem pd_211_53 : zt_pfl zq_T 211 53 = some (6, 6, 0) := by decide +kernel
theorem pd_213_53 : zt_pfl zq_T 213 53 = some (6, 6, 0) := by decide +kernel
theorem pd_213_122 : zt_pfl zq_T 213 122 = some (3, 3, 0) := by decide +kernel
theorem pd_213_125 : zt_pfl zq_T 213 125 = some (5, 3, 0) := by decide +kernel
theorem pd_215_53 : zt_pfl zq_T 215 53 = some (6, 6, 0) := by decide +kernel
theorem pd_216_53 : zt_pfl zq_T 216 53 = some (6, 6, 0) := by decide +kernel
theorem pd_216_56 : zt_pfl zq_T 216 56 = some (6, 7, 0) := by decide +kernel
theorem pd_218_53 : zt_pfl zq_T 218 53 = some (6, 6, 0) := by decide +kernel
theorem pd_219_53 : zt_pfl zq_T 219 53 = some (6, 6, 0) := by decide +kernel
theorem pd_219_171 : zt_pfl zq_T 219 171 = some (5, 2, 0) := by decide +kernel
theorem pd_220_53 : zt_pfl zq_T 220 53 = some (6, 6, 0) := by decide +kernel
theorem pd_221_53 : zt_pfl zq_T 221 53 = some (6, 6, 0) := by decide +kernel
theorem pd_221_180 : zt_pfl zq_T 221 180 = some (5, 4, 0) := by decide +kernel
theorem pd_222_11 : zt_pfl zq_T 222 11 = some (7, 0, 20 + 2) := by decide +kernel
theorem pd_222_15 : zt_pfl zq_T 222 15 = some (7, 2, 20 + 2) := by decide +kernel
theorem pd_222_20 : zt_pfl zq_T 222 20 = some (7, 3, 24 + 2) := by decide +kernel
theorem pd_222_27 : zt_pfl zq_T 222 27 = some (7, 4, 5 + 2) := by decide +kernel
theorem pd_223_27 : zt_pfl zq_T 223 27 = some (7, 4, 5 + 2) := by decide +kernel
theorem pd_223_31 : zt_pfl zq_T 223 31 = some (7, 1, 0) := by decide +kernel
theorem pd_229_27 : zt_pfl zq_T 229 27 = some (7, 4, 5 + 2) := by decide +kernel
theorem pd_229_31 : zt_pfl zq_T 229 31 = some (7, 1, 0) := by decide +kernel
theorem pd_230_31 : zt_pfl zq_T 230 31 = some (7, 1, 0) := by decide +kernel
theorem pd_235_31 : zt_pfl zq_T 235 31 = some (7, 1, 0) := by decide +kernel
theorem pd_241_12 : zt_pfl zq_T 241 12 = some (8, 0, 5 + 2) := by decide +kernel
theorem pd_241_18 : zt_pfl zq_T 241 18 = some (8, 1, 0) := by decide +kernel
theorem pd_241_22 : zt_pfl zq_T 241 22 = some (8, 2, 0) := by decide +kernel
theorem pd_241_25 : zt_pfl zq_T 241 25 = some (8, 3, 20 + 2) := by decide +kernel
theorem pd_241_29 : zt_pfl zq_T 241 29 = some (8, 4, 20 + 2) := by decide +kernel
theorem pd_241_32 : zt_pfl zq_T 241 32 = some (8, 7, 3 + 2) := by decide +kernel
theorem pd_242_12 : zt_pfl zq_T 242 12 = some (8, 0, 5 + 2) := by decide +kernel
theorem pd_242_18 : zt_pfl zq_T 242 18 = some (8, 1, 0) := by decide +kernel
theorem pd_242_22 : zt_pfl zq_T 242 22 = some (8, 2, 0) := by decide +kernel
theorem pd_243_36 : zt_pfl zq_T 243 36 = some (8, 5, 0) := by decide +kernel
theorem pd_244_32 : zt_pfl zq_T 244 32 = some (8, 7, 3 + 2) := by decide +kernel
theorem pd_244_36 : zt_pfl zq_T 244 36 = some (8, 5, 0) := by decide +kernel
theorem pd_244_81 : zt_pfl zq_T 244 81 = some (8, 6, 0) := by decide +kernel
theorem pd_249_18 : zt_pfl zq_T 249 18 = some (8, 1, 0) := by decide +kernel
theorem pd_249_22 : zt_pfl zq_T 249 22 = some (8, 2, 0) := by decide +kernel
theorem pd_256_18 : zt_pfl zq_T 256 18 = some (8, 1, 0) := by decide +kernel
theorem pd_258_11 : zt_pfl zq_T 258 11 = some (9, 0, 20 + 2) := by decide +kernel
theorem pd_258_15 : zt_pfl zq_T 258 15 = some (9, 1, 20 + 2) := by decide +kernel
theorem pd_258_18 : zt_pfl zq_T 258 18 = some (9, 2, 20 + 2) := by decide +kernel
theorem pd_258_21 : zt_pfl zq_T 258 21 = some (9, 3, 20 + 2) := by decide +kernel
theorem pd_261_24 : zt_pfl zq_T 261 24 = some (9, 4, 0) := by decide +kernel
theorem pd_261_28 : zt_pfl zq_T 261 28 = some (9, 5, 0) := by decide +kernel
theorem pd_261_31 : zt_pfl zq_T 261 31 = some (9, 6, 0) := by decide +kernel
theorem pd_262_28 : zt_pfl zq_T 262 28 = some (9, 5, 0) := by decide +kernel
theorem pd_264_31 : zt_pfl zq_T 264 31 = some (9, 6, 0) := by decide +kernel
theorem pd_265_24 : zt_pfl zq_T 265 24 = some (9, 4, 0) := by decide +kernel
theorem pd_274_126 : zt_pfl zq_T 274 126 = some (5, 14, 0) := by decide +kernel
theorem pd_274_129 : zt_pfl zq_T 274 129 = some (5, 15, 1) := by decide +kernel
theorem pd_274_142 : zt_pfl zq_T 274 142 = some (5, 16, 1) := by decide +kernel
theorem pd_275_9 : zt_pfl zq_T 275 9 = some (10, 0, 0) := by decide +kernel
theorem pd_275_15 : zt_pfl zq_T 275 15 = some (10, 6, 20 + 2) := by decide +kernel
theorem pd_276_9 : zt_pfl zq_T 276 9 = some (10, 0, 0) := by decide +kernel
theorem pd_277_19 : zt_pfl zq_T 277 19 = some (10, 1, 1) := by decide +kernel
theorem pd_277_23 : zt_pfl zq_T 277 23 = some (10, 8, 1) := by decide +kernel
theorem pd_278_23 : zt_pfl zq_T 278 23 = some (10, 8, 1) := by decide +kernel
theorem pd_278_74 : zt_pfl zq_T 278 74 = some (10, 9, 0) := by decide +kernel
theorem pd_278_77 : zt_pfl zq_T 278 77 = some (10, 10, 0) := by decide +kernel
theorem pd_278_80 : zt_pfl zq_T 278 80 = some (10, 11, 0) := by decide +kernel
theorem pd_278_83 : zt_pfl zq_T 278 83 = some (10, 7, 0) := by decide +kernel
theorem pd_280_97 : zt_pfl zq_T 280 97 = some (10, 5, 0) := by decide +kernel
theorem pd_281_19 : zt_pfl zq_T 281 19 = some (10, 1, 1) := by decide +kernel
theorem pd_281_117 : zt_pfl zq_T 281 117 = some (10, 2, 0) := by decide +kernel
theorem pd_281_120 : zt_pfl zq_T 281 120 = some (10, 3, 0) := by decide +kernel
theorem pd_281_123 : zt_pfl zq_T 281 123 = some (10, 4, 0) := by decide +kernel
theorem pd_282_9 : zt_pfl zq_T 282 9 = some (11, 0, 20 + 2) := by decide +kernel
theorem pd_282_13 : zt_pfl zq_T 282 13 = some (11, 1, 0) := by decide +kernel
theorem pd_282_20 : zt_pfl zq_T 282 20 = some (11, 2, 6 + 2) := by decide +kernel
theorem pd_282_24 : zt_pfl zq_T 282 24 = some (11, 3, 6 + 2) := by decide +kernel
theorem pd_282_30 : zt_pfl zq_T 282 30 = some (11, 4, 1 + 2) := by decide +kernel
theorem pd_282_34 : zt_pfl zq_T 282 34 = some (11, 5, 1 + 2) := by decide +kernel
theorem pd_282_40 : zt_pfl zq_T 282 40 = some (11, 6, 2 + 2) := by decide +kernel
theorem pd_282_47 : zt_pfl zq_T 282 47 = some (11, 7, 9 + 2) := by decide +kernel
theorem pd_282_54 : zt_pfl zq_T 282 54 = some (11, 8, 7 + 2) := by decide +kernel
theorem pd_282_61 : zt_pfl zq_T 282 61 = some (11, 9, 10 + 2) := by decide +kernel
theorem pd_282_65 : zt_pfl zq_T 282 65 = some (11, 10, 10 + 2) := by decide +kernel
theorem pd_282_71 : zt_pfl zq_T 282 71 = some (11, 11, 8 + 2) := by decide +kernel
theorem pd_282_78 : zt_pfl zq_T 282 78 = some (11, 12, 4 + 2) := by decide +kernel
theorem pd_282_85 : zt_pfl zq_T 282 85 = some (11, 13, 0 + 2) := by decide +kernel
theorem pd_282_89 : zt_pfl zq_T 282 89 = some (11, 14, 0) := by decide +kernel
theorem pd_285_13 : zt_pfl zq_T 285 13 = some (11, 1, 0) := by decide +kernel
theorem pd_286_13 : zt_pfl zq_T 286 13 = some (11, 1, 0) := by decide +kernel
theorem pd_288_13 : zt_pfl zq_T 288 13 = some (11, 1, 0) := by decide +kernel
theorem pd_288_20 : zt_pfl zq_T 288 20 = some (11, 2, 6 + 2) := by decide +kernel
theorem pd_288_24 : zt_pfl zq_T 288 24 = some (11, 3, 6 + 2) := by decide +kernel
theorem pd_289_13 : zt_pfl zq_T 289 13 = some (11, 1, 0) := by decide +kernel
theorem pd_289_30 : zt_pfl zq_T 289 30 = some (11, 4, 1 + 2) := by decide +kernel
theorem pd_289_34 : zt_pfl zq_T 289 34 = some (11, 5, 1 + 2) := by decide +kernel
theorem pd_290_89 : zt_pfl zq_T 290 89 = some (11, 14, 0) := by decide +kernel
theorem pd_290_132 : zt_pfl zq_T 290 132 = some (4, 12, 1) := by decide +kernel
theorem pd_297_246 : zt_pfl zq_T 297 246 = some (10, 0, 0) := by decide +kernel
theorem pd_300_89 : zt_pfl zq_T 300 89 = some (11, 14, 0) := by decide +kernel
theorem pd_303_13 : zt_pfl zq_T 303 13 = some (11, 1, 0) := by decide +kernel
theorem pd_303_310 : zt_pfl zq_T 303 310 = some (4, 0, 0) := by decide +kernel
theorem kd_0_3 : zt_cal zq_T 0 3 = some (3, 0, 0, 0) := by decide +kernel
theorem kd_6_120 : zt_cal zq_T 6 120 = some (1, 4, 1, 0) := by decide +kernel
theorem kd_6_124 : zt_cal zq_T 6 124 = some (0, 5, 1, 12) := by decide +kernel
theorem kd_9_131 : zt_cal zq_T 9 131 = some (0, 8, 0, 12) := by decide +kernel
theorem kd_12_138 : zt_cal zq_T 12 138 = some (0, 9, 0, 12) := by decide +kernel
theorem kd_16_144 : zt_cal zq_T 16 144 = some (4, 0, 0, 0) := by decide +kernel
theorem kd_19_138 : zt_cal zq_T 19 138 = some (0, 9, 0, 12) := by decide +kernel
theorem kd_19_153 : zt_cal zq_T 19 153 = some (0, 19, 3, 12) := by decide +kernel
theorem kd_19_157 : zt_cal zq_T 19 157 = some (0, 23, 1, 12) := by decide +kernel
theorem kd_19_160 : zt_cal zq_T 19 160 = some (0, 11, 0, 12) := by decide +kernel
theorem kd_19_164 : zt_cal zq_T 19 164 = some (0, 15, 2, 12) := by decide +kernel
theorem kd_19_167 : zt_cal zq_T 19 167 = some (0, 16, 2, 12) := by decide +kernel
theorem kd_19_171 : zt_cal zq_T 19 171 = some (0, 12, 1, 12) := by decide +kernel
theorem kd_20_153 : zt_cal zq_T 20 153 = some (0, 19, 3, 12) := by decide +kernel
theorem kd_21_138 : zt_cal zq_T 21 138 = some (0, 9, 0, 12) := by decide +kernel
theorem kd_21_160 : zt_cal zq_T 21 160 = some (0, 11, 0, 12) := by decide +kernel
theorem kd_21_164 : zt_cal zq_T 21 164 = some (0, 15, 2, 12) := by decide +kernel
theorem kd_21_171 : zt_cal zq_T 21 171 = some (0, 12, 1, 12) := by decide +kernel
theorem kd_21_175 : zt_cal zq_T 21 175 = some (1, 13, 1, 0) := by decide +kernel
theorem kd_21_178 : zt_cal zq_T 21 178 = some (0, 17, 1, 12) := by decide +kernel
theorem kd_21_181 : zt_cal zq_T 21 181 = some (0, 10, 1, 12) := by decide +kernel
theorem kd_21_184 : zt_cal zq_T 21 184 = some (0, 18, 1, 12) := by decide +kernel
theorem kd_21_187 : zt_cal zq_T 21 187 = some (0, 22, 1, 12) := by decide +kernel
theorem kd_21_190 : zt_cal zq_T 21 190 = some (0, 20, 1, 12) := by decide +kernel
theorem kd_22_138 : zt_cal zq_T 22 138 = some (0, 9, 0, 12) := by decide +kernel
theorem kd_22_160 : zt_cal zq_T 22 160 = some (0, 11, 0, 12) := by decide +kernel
theorem kd_22_164 : zt_cal zq_T 22 164 = some (0, 15, 2, 12) := by decide +kernel
theorem kd_22_167 : zt_cal zq_T 22 167 = some (0, 16, 2, 12) := by decide +kernel
theorem kd_22_181 : zt_cal zq_T 22 181 = some (0, 10, 1, 12) := by decide +kernel
theorem kd_22_184 : zt_cal zq_T 22 184 = some (0, 18, 1, 12) := by decide +kernel
theorem kd_22_190 : zt_cal zq_T 22 190 = some (0, 20, 1, 12) := by decide +kernel
theorem kd_23_138 : zt_cal zq_T 23 138 = some (0, 9, 0, 12) := by decide +kernel
theorem kd_23_160 : zt_cal zq_T 23 160 = some (0, 11, 0, 12) := by decide +kernel
theorem kd_23_164 : zt_cal zq_T 23 164 = some (0, 15, 2, 12) := by decide +kernel
theorem kd_23_167 : zt_cal zq_T 23 167 = some (0, 16, 2, 12) := by decide +kernel
theorem kd_23_178 : zt_cal zq_T 23 178 = some (0, 17, 1, 12) := by decide +kernel
theorem kd_23_181 : zt_cal zq_T 23 181 = some (0, 10, 1, 12) := by decide +kernel
theorem kd_23_184 : zt_cal zq_T 23 184 = some (0, 18, 1, 12) := by decide +kernel
theorem kd_23_193 : zt_cal zq_T 23 193 = some (0, 21, 1, 12) := by decide +kernel
theorem kd_23_196 : zt_cal zq_T 23 196 = some (0, 25, 1, 12) := by decide +kernel
theorem kd_24_131 : zt_cal zq_T 24 131 = some (0, 8, 0, 12) := by decide +kernel
theorem kd_24_138 : zt_cal zq_T 24 138 = some (0, 9, 0, 12) := by decide +kernel
theorem kd_24_181 : zt_cal zq_T 24 181 = some (0, 10, 1, 12) := by decide +kernel
theorem kd_24_199 : zt_cal zq_T 24 199 = some (1, 14, 1, 0) := by decide +kernel
theorem kd_24_204 : zt_cal zq_T 24 204 = some (1, 2, 3, 0) := by decide +kernel
theorem kd_25_138 : zt_cal zq_T 25 138 = some (0, 9, 0, 12) := by decide +kernel
theorem kd_25_144 : zt_cal zq_T 25 144 = some (4, 0, 0, 0) := by decide +kernel
theorem kd_25_160 : zt_cal zq_T 25 160 = some (0, 11, 0, 12) := by decide +kernel
theorem kd_25_171 : zt_cal zq_T 25 171 = some (0, 12, 1, 12) := by decide +kernel
theorem kd_25_181 : zt_cal zq_T 25 181 = some (0, 10, 1, 12) := by decide +kernel
theorem kd_25_208 : zt_cal zq_T 25 208 = some (0, 24, 1, 12) := by decide +kernel
theorem kd_26_138 : zt_cal zq_T 26 138 = some (0, 9, 0, 12) := by decide +kernel
theorem kd_26_171 : zt_cal zq_T 26 171 = some (0, 12, 1, 12) := by decide +kernel
theorem kd_26_175 : zt_cal zq_T 26 175 = some (1, 13, 1, 0) := by decide +kernel
theorem kd_26_181 : zt_cal zq_T 26 181 = some (0, 10, 1, 12) := by decide +kernel
theorem kd_26_190 : zt_cal zq_T 26 190 = some (0, 20, 1, 12) := by decide +kernel
theorem kd_27_138 : zt_cal zq_T 27 138 = some (0, 9, 0, 12) := by decide +kernel
theorem kd_27_160 : zt_cal zq_T 27 160 = some (0, 11, 0, 12) := by decide +kernel
theorem kd_27_181 : zt_cal zq_T 27 181 = some (0, 10, 1, 12) := by decide +kernel
theorem kd_27_211 : zt_cal zq_T 27 211 = some (0, 26, 0, 12) := by decide +kernel
theorem kd_28_138 : zt_cal zq_T 28 138 = some (0, 9, 0, 12) := by decide +kernel
theorem kd_28_160 : zt_cal zq_T 28 160 = some (0, 11, 0, 12) := by decide +kernel
theorem kd_28_171 : zt_cal zq_T 28 171 = some (0, 12, 1, 12) := by decide +kernel
theorem kd_28_175 : zt_cal zq_T 28 175 = some (1, 13, 1, 0) := by decide +kernel
theorem kd_28_181 : zt_cal zq_T 28 181 = some (0, 10, 1, 12) := by decide +kernel
theorem kd_28_217 : zt_cal zq_T 28 217 = some (0, 28, 2, 12) := by decide +kernel
theorem kd_29_138 : zt_cal zq_T 29 138 = some (0, 9, 0, 12) := by decide +kernel
theorem kd_29_160 : zt_cal zq_T 29 160 = some (0, 11, 0, 12) := by decide +kernel
theorem kd_29_181 : zt_cal zq_T 29 181 = some (0, 10, 1, 12) := by decide +kernel
theorem kd_29_217 : zt_cal zq_T 29 217 = some (0, 28, 2, 12) := by decide +kernel
theorem kd_30_220 : zt_cal zq_T 30 220 = some (0, 27, 0, 12) := by decide +kernel
theorem kd_30_223 : zt_cal zq_T 30 223 = some (0, 29, 0, 12) := by decide +kernel
theorem kd_32_220 : zt_cal zq_T 32 220 = some (0, 27, 0, 12) := by decide +kernel
theorem kd_32_226 : zt_cal zq_T 32 226 = some (1, 31, 2, 0) := by decide +kernel
theorem kd_33_223 : zt_cal zq_T 33 223 = some (0, 29, 0, 12) := by decide +kernel
theorem kd_33_226 : zt_cal zq_T 33 226 = some (1, 31, 2, 0) := by decide +kernel
theorem kd_34_204 : zt_cal zq_T 34 204 = some (1, 2, 3, 0) := by decide +kernel
theorem kd_41_240 : zt_cal zq_T 41 240 = some (0, 36, 2, 12) := by decide +kernel
theorem kd_41_242 : zt_cal zq_T 41 242 = some (0, 37, 2, 12) := by decide +kernel
theorem kd_41_245 : zt_cal zq_T 41 245 = some (0, 41, 2, 12) := by decide +kernel
theorem kd_42_240 : zt_cal zq_T 42 240 = some (0, 36, 2, 12) := by decide +kernel
theorem kd_43_240 : zt_cal zq_T 43 240 = some (0, 36, 2, 12) := by decide +kernel
theorem kd_43_245 : zt_cal zq_T 43 245 = some (0, 41, 2, 12) := by decide +kernel
theorem kd_43_249 : zt_cal zq_T 43 249 = some (0, 40, 2, 12) := by decide +kernel
theorem kd_43_252 : zt_cal zq_T 43 252 = some (0, 42, 2, 12) := by decide +kernel
theorem kd_44_240 : zt_cal zq_T 44 240 = some (0, 36, 2, 12) := by decide +kernel
theorem kd_44_245 : zt_cal zq_T 44 245 = some (0, 41, 2, 12) := by decide +kernel
theorem kd_45_240 : zt_cal zq_T 45 240 = some (0, 36, 2, 12) := by decide +kernel
theorem kd_45_249 : zt_cal zq_T 45 249 = some (0, 40, 2, 12) := by decide +kernel
theorem kd_45_255 : zt_cal zq_T 45 255 = some (0, 44, 2, 12) := by decide +kernel
theorem kd_46_240 : zt_cal zq_T 46 240 = some (0, 36, 2, 12) := by decide +kernel
theorem kd_47_258 : zt_cal zq_T 47 258 = some (0, 35, 2, 12) := by decide +kernel
theorem kd_47_261 : zt_cal zq_T 47 261 = some (0, 43, 3, 12) := by decide +kernel
theorem kd_48_240 : zt_cal zq_T 48 240 = some (0, 36, 2, 12) := by decide +kernel
theorem kd_48_245 : zt_cal zq_T 48 245 = some (0, 41, 2, 12) := by decide +kernel
theorem kd_48_268 : zt_cal zq_T 48 268 = some (0, 47, 4, 12) := by decide +kernel
theorem kd_49_240 : zt_cal zq_T 49 240 = some (0, 36, 2, 12) := by decide +kernel
theorem kd_49_249 : zt_cal zq_T 49 249 = some (0, 40, 2, 12) := by decide +kernel
theorem kd_49_258 : zt_cal zq_T 49 258 = some (0, 35, 2, 12) := by decide +kernel
theorem kd_49_268 : zt_cal zq_T 49 268 = some (0, 47, 4, 12) := by decide +kernel
theorem kd_49_272 : zt_cal zq_T 49 272 = some (0, 48, 2, 12) := by decide +kernel
theorem kd_49_275 : zt_cal zq_T 49 275 = some (0, 38, 2, 12) := by decide +kernel
theorem kd_50_252 : zt_cal zq_T 50 252 = some (0, 42, 2, 12) := by decide +kernel
theorem kd_51_144 : zt_cal zq_T 51 144 = some (4, 0, 0, 0) := by decide +kernel
theorem kd_51_240 : zt_cal zq_T 51 240 = some (0, 36, 2, 12) := by decide +kernel
theorem kd_51_242 : zt_cal zq_T 51 242 = some (0, 37, 2, 12) := by decide +kernel
theorem kd_51_245 : zt_cal zq_T 51 245 = some (0, 41, 2, 12) := by decide +kernel
theorem kd_51_278 : zt_cal zq_T 51 278 = some (0, 50, 2, 12) := by decide +kernel
theorem kd_52_240 : zt_cal zq_T 52 240 = some (0, 36, 2, 12) := by decide +kernel
theorem kd_52_275 : zt_cal zq_T 52 275 = some (0, 38, 2, 12) := by decide +kernel
theorem kd_52_281 : zt_cal zq_T 52 281 = some (0, 51, 4, 12) := by decide +kernel
theorem kd_53_245 : zt_cal zq_T 53 245 = some (0, 41, 2, 12) := by decide +kernel
theorem kd_53_278 : zt_cal zq_T 53 278 = some (0, 50, 2, 12) := by decide +kernel
theorem kd_54_240 : zt_cal zq_T 54 240 = some (0, 36, 2, 12) := by decide +kernel
theorem kd_54_285 : zt_cal zq_T 54 285 = some (0, 53, 6, 12) := by decide +kernel
theorem kd_55_240 : zt_cal zq_T 55 240 = some (0, 36, 2, 12) := by decide +kernel
theorem kd_55_249 : zt_cal zq_T 55 249 = some (0, 40, 2, 12) := by decide +kernel
theorem kd_55_289 : zt_cal zq_T 55 289 = some (0, 39, 2, 12) := by decide +kernel
theorem kd_55_292 : zt_cal zq_T 55 292 = some (0, 52, 4, 12) := by decide +kernel
theorem kd_55_296 : zt_cal zq_T 55 296 = some (0, 54, 5, 12) := by decide +kernel
theorem kd_57_303 : zt_cal zq_T 57 303 = some (0, 56, 1, 12) := by decide +kernel
theorem kd_59_306 : zt_cal zq_T 59 306 = some (0, 58, 3, 12) := by decide +kernel
theorem kd_60_240 : zt_cal zq_T 60 240 = some (0, 36, 2, 12) := by decide +kernel
theorem kd_60_245 : zt_cal zq_T 60 245 = some (0, 41, 2, 12) := by decide +kernel
theorem kd_60_289 : zt_cal zq_T 60 289 = some (0, 39, 2, 12) := by decide +kernel
theorem kd_60_303 : zt_cal zq_T 60 303 = some (0, 56, 1, 12) := by decide +kernel
theorem kd_60_309 : zt_cal zq_T 60 309 = some (0, 61, 2, 12) := by decide +kernel
theorem kd_60_312 : zt_cal zq_T 60 312 = some (0, 62, 3, 12) := by decide +kernel
theorem kd_60_316 : zt_cal zq_T 60 316 = some (0, 63, 2, 12) := by decide +kernel
theorem kd_61_144 : zt_cal zq_T 61 144 = some (4, 0, 0, 0) := by decide +kernel
theorem kd_61_240 : zt_cal zq_T 61 240 = some (0, 36, 2, 12) := by decide +kernel
theorem kd_61_242 : zt_cal zq_T 61 242 = some (0, 37, 2, 12) := by decide +kernel
theorem kd_61_245 : zt_cal zq_T 61 245 = some (0, 41, 2, 12) := by decide +kernel
theorem kd_61_319 : zt_cal zq_T 61 319 = some (0, 60, 3, 12) := by decide +kernel
theorem kd_61_322 : zt_cal zq_T 61 322 = some (0, 57, 2, 12) := by decide +kernel
theorem kd_62_240 : zt_cal zq_T 62 240 = some (0, 36, 2, 12) := by decide +kernel
theorem kd_62_319 : zt_cal zq_T 62 319 = some (0, 60, 3, 12) := by decide +kernel
theorem kd_62_325 : zt_cal zq_T 62 325 = some (0, 59, 2, 12) := by decide +kernel
theorem kd_63_240 : zt_cal zq_T 63 240 = some (0, 36, 2, 12) := by decide +kernel
theorem kd_63_319 : zt_cal zq_T 63 319 = some (0, 60, 3, 12) := by decide +kernel
theorem kd_63_328 : zt_cal zq_T 63 328 = some (0, 64, 5, 12) := by decide +kernel
theorem kd_64_240 : zt_cal zq_T 64 240 = some (0, 36, 2, 12) := by decide +kernel
theorem kd_64_245 : zt_cal zq_T 64 245 = some (0, 41, 2, 12) := by decide +kernel
theorem kd_64_285 : zt_cal zq_T 64 285 = some (0, 53, 6, 12) := by decide +kernel
theorem kd_64_319 : zt_cal zq_T 64 319 = some (0, 60, 3, 12) := by decide +kernel
theorem kd_64_322 : zt_cal zq_T 64 322 = some (0, 57, 2, 12) := by decide +kernel
theorem kd_64_331 : zt_cal zq_T 64 331 = some (0, 65, 4, 12) := by decide +kernel
theorem kd_66_258 : zt_cal zq_T 66 258 = some (0, 35, 2, 12) := by decide +kernel
theorem kd_66_319 : zt_cal zq_T 66 319 = some (0, 60, 3, 12) := by decide +kernel
theorem kd_67_240 : zt_cal zq_T 67 240 = some (0, 36, 2, 12) := by decide +kernel
theorem kd_67_281 : zt_cal zq_T 67 281 = some (0, 51, 4, 12) := by decide +kernel
theorem kd_67_289 : zt_cal zq_T 67 289 = some (0, 39, 2, 12) := by decide +kernel
theorem kd_67_303 : zt_cal zq_T 67 303 = some (0, 56, 1, 12) := by decide +kernel
theorem kd_67_319 : zt_cal zq_T 67 319 = some (0, 60, 3, 12) := by decide +kernel
theorem kd_67_322 : zt_cal zq_T 67 322 = some (0, 57, 2, 12) := by decide +kernel
theorem kd_67_328 : zt_cal zq_T 67 328 = some (0, 64, 5, 12) := by decide +kernel
theorem kd_67_334 : zt_cal zq_T 67 334 = some (0, 67, 5, 12) := by decide +kernel
theorem kd_69_258 : zt_cal zq_T 69 258 = some (0, 35, 2, 12) := by decide +kernel
theorem kd_69_338 : zt_cal zq_T 69 338 = some (0, 49, 2, 12) := by decide +kernel
theorem kd_69_341 : zt_cal zq_T 69 341 = some (0, 68, 2, 12) := by decide +kernel
theorem kd_69_344 : zt_cal zq_T 69 344 = some (0, 55, 4, 12) := by decide +kernel
theorem kd_70_347 : zt_cal zq_T 70 347 = some (0, 69, 2, 12) := by decide +kernel
theorem kd_72_249 : zt_cal zq_T 72 249 = some (0, 40, 2, 12) := by decide +kernel
theorem kd_72_334 : zt_cal zq_T 72 334 = some (0, 67, 5, 12) := by decide +kernel
theorem kd_72_351 : zt_cal zq_T 72 351 = some (0, 71, 3, 12) := by decide +kernel
theorem kd_73_258 : zt_cal zq_T 73 258 = some (0, 35, 2, 12) := by decide +kernel
theorem kd_73_338 : zt_cal zq_T 73 338 = some (0, 49, 2, 12) := by decide +kernel
theorem kd_73_341 : zt_cal zq_T 73 341 = some (0, 68, 2, 12) := by decide +kernel
theorem kd_73_344 : zt_cal zq_T 73 344 = some (0, 55, 4, 12) := by decide +kernel
theorem kd_73_354 : zt_cal zq_T 73 354 = some (0, 72, 4, 12) := by decide +kernel
theorem kd_74_204 : zt_cal zq_T 74 204 = some (1, 2, 3, 0) := by decide +kernel
theorem kd_74_357 : zt_cal zq_T 74 357 = some (0, 34, 1, 12) := by decide +kernel
theorem kd_74_362 : zt_cal zq_T 74 362 = some (0, 73, 2, 12) := by decide +kernel
theorem kd_75_289 : zt_cal zq_T 75 289 = some (0, 39, 2, 12) := by decide +kernel
theorem kd_75_357 : zt_cal zq_T 75 357 = some (0, 34, 1, 12) := by decide +kernel
theorem kd_75_362 : zt_cal zq_T 75 362 = some (0, 73, 2, 12) := by decide +kernel
theorem kd_76_144 : zt_cal zq_T 76 144 = some (4, 0, 0, 0) := by decide +kernel
theorem kd_76_240 : zt_cal zq_T 76 240 = some (0, 36, 2, 12) := by decide +kernel
theorem kd_76_275 : zt_cal zq_T 76 275 = some (0, 38, 2, 12) := by decide +kernel
theorem kd_76_367 : zt_cal zq_T 76 367 = some (0, 76, 2, 12) := by decide +kernel
theorem kd_77_258 : zt_cal zq_T 77 258 = some (0, 35, 2, 12) := by decide +kernel
theorem kd_77_289 : zt_cal zq_T 77 289 = some (0, 39, 2, 12) := by decide +kernel
theorem kd_78_204 : zt_cal zq_T 78 204 = some (1, 2, 3, 0) := by decide +kernel
theorem kd_78_245 : zt_cal zq_T 78 245 = some (0, 41, 2, 12) := by decide +kernel
theorem kd_78_258 : zt_cal zq_T 78 258 = some (0, 35, 2, 12) := by decide +kernel
theorem kd_78_347 : zt_cal zq_T 78 347 = some (0, 69, 2, 12) := by decide +kernel
theorem kd_78_357 : zt_cal zq_T 78 357 = some (0, 34, 1, 12) := by decide +kernel
theorem kd_78_367 : zt_cal zq_T 78 367 = some (0, 76, 2, 12) := by decide +kernel
theorem kd_78_372 : zt_cal zq_T 78 372 = some (0, 70, 1, 12) := by decide +kernel
theorem kd_78_375 : zt_cal zq_T 78 375 = some (0, 66, 1, 12) := by decide +kernel
theorem kd_78_378 : zt_cal zq_T 78 378 = some (0, 77, 1, 12) := by decide +kernel
theorem kd_79_249 : zt_cal zq_T 79 249 = some (0, 40, 2, 12) := by decide +kernel
theorem kd_79_252 : zt_cal zq_T 79 252 = some (0, 42, 2, 12) := by decide +kernel
theorem kd_79_258 : zt_cal zq_T 79 258 = some (0, 35, 2, 12) := by decide +kernel
theorem kd_80_240 : zt_cal zq_T 80 240 = some (0, 36, 2, 12) := by decide +kernel
theorem kd_82_338 : zt_cal zq_T 82 338 = some (0, 49, 2, 12) := by decide +kernel
theorem kd_83_240 : zt_cal zq_T 83 240 = some (0, 36, 2, 12) := by decide +kernel
theorem kd_84_249 : zt_cal zq_T 84 249 = some (0, 40, 2, 12) := by decide +kernel
theorem kd_84_381 : zt_cal zq_T 84 381 = some (0, 80, 1, 12) := by decide +kernel
theorem kd_84_384 : zt_cal zq_T 84 384 = some (0, 81, 2, 12) := by decide +kernel
theorem kd_85_204 : zt_cal zq_T 85 204 = some (1, 2, 3, 0) := by decide +kernel
theorem kd_85_249 : zt_cal zq_T 85 249 = some (0, 40, 2, 12) := by decide +kernel
theorem kd_85_258 : zt_cal zq_T 85 258 = some (0, 35, 2, 12) := by decide +kernel
theorem kd_85_261 : zt_cal zq_T 85 261 = some (0, 43, 3, 12) := by decide +kernel
theorem kd_85_289 : zt_cal zq_T 85 289 = some (0, 39, 2, 12) := by decide +kernel
theorem kd_85_357 : zt_cal zq_T 85 357 = some (0, 34, 1, 12) := by decide +kernel
theorem kd_85_389 : zt_cal zq_T 85 389 = some (0, 45, 2, 12) := by decide +kernel
theorem kd_85_392 : zt_cal zq_T 85 392 = some (0, 82, 2, 12) := by decide +kernel
theorem kd_85_395 : zt_cal zq_T 85 395 = some (0, 84, 3, 12) := by decide +kernel
theorem kd_85_399 : zt_cal zq_T 85 399 = some (0, 83, 1, 12) := by decide +kernel
theorem kd_86_204 : zt_cal zq_T 86 204 = some (1, 2, 3, 0) := by decide +kernel
theorem kd_86_240 : zt_cal zq_T 86 240 = some (0, 36, 2, 12) := by decide +kernel
theorem kd_86_242 : zt_cal zq_T 86 242 = some (0, 37, 2, 12) := by decide +kernel
theorem kd_86_245 : zt_cal zq_T 86 245 = some (0, 41, 2, 12) := by decide +kernel
theorem kd_86_258 : zt_cal zq_T 86 258 = some (0, 35, 2, 12) := by decide +kernel
theorem kd_86_275 : zt_cal zq_T 86 275 = some (0, 38, 2, 12) := by decide +kernel
theorem kd_86_357 : zt_cal zq_T 86 357 = some (0, 34, 1, 12) := by decide +kernel
theorem kd_86_381 : zt_cal zq_T 86 381 = some (0, 80, 1, 12) := by decide +kernel
theorem kd_86_384 : zt_cal zq_T 86 384 = some (0, 81, 2, 12) := by decide +kernel
theorem kd_86_404 : zt_cal zq_T 86 404 = some (0, 79, 2, 12) := by decide +kernel
theorem kd_87_204 : zt_cal zq_T 87 204 = some (1, 2, 3, 0) := by decide +kernel
theorem kd_87_240 : zt_cal zq_T 87 240 = some (0, 36, 2, 12) := by decide +kernel
theorem kd_87_258 : zt_cal zq_T 87 258 = some (0, 35, 2, 12) := by decide +kernel
theorem kd_87_357 : zt_cal zq_T 87 357 = some (0, 34, 1, 12) := by decide +kernel
theorem kd_87_404 : zt_cal zq_T 87 404 = some (0, 79, 2, 12) := by decide +kernel
theorem kd_88_357 : zt_cal zq_T 88 357 = some (0, 34, 1, 12) := by decide +kernel
theorem kd_88_375 : zt_cal zq_T 88 375 = some (0, 66, 1, 12) := by decide +kernel
theorem kd_90_240 : zt_cal zq_T 90 240 = some (0, 36, 2, 12) := by decide +kernel
theorem kd_91_240 : zt_cal zq_T 91 240 = some (0, 36, 2, 12) := by decide +kernel
theorem kd_92_240 : zt_cal zq_T 92 240 = some (0, 36, 2, 12) := by decide +kernel
theorem kd_92_242 : zt_cal zq_T 92 242 = some (0, 37, 2, 12) := by decide +kernel
theorem kd_92_245 : zt_cal zq_T 92 245 = some (0, 41, 2, 12) := by decide +kernel
theorem kd_92_407 : zt_cal zq_T 92 407 = some (0, 90, 2, 12) := by decide +kernel
theorem kd_92_410 : zt_cal zq_T 92 410 = some (0, 91, 2, 12) := by decide +kernel
theorem kd_92_413 : zt_cal zq_T 92 413 = some (1, 3, 2, 0) := by decide +kernel
theorem kd_93_240 : zt_cal zq_T 93 240 = some (0, 36, 2, 12) := by decide +kernel
theorem kd_93_249 : zt_cal zq_T 93 249 = some (0, 40, 2, 12) := by decide +kernel
theorem kd_93_275 : zt_cal zq_T 93 275 = some (0, 38, 2, 12) := by decide +kernel
theorem kd_93_407 : zt_cal zq_T 93 407 = some (0, 90, 2, 12) := by decide +kernel
theorem kd_93_410 : zt_cal zq_T 93 410 = some (0, 91, 2, 12) := by decide +kernel
theorem kd_93_413 : zt_cal zq_T 93 413 = some (1, 3, 2, 0) := by decide +kernel
theorem kd_93_416 : zt_cal zq_T 93 416 = some (0, 92, 3, 12) := by decide +kernel
theorem kd_93_419 : zt_cal zq_T 93 419 = some (0, 46, 2, 12) := by decide +kernel
theorem kd_94_240 : zt_cal zq_T 94 240 = some (0, 36, 2, 12) := by decide +kernel
theorem kd_94_245 : zt_cal zq_T 94 245 = some (0, 41, 2, 12) := by decide +kernel
theorem kd_94_249 : zt_cal zq_T 94 249 = some (0, 40, 2, 12) := by decide +kernel
theorem kd_94_258 : zt_cal zq_T 94 258 = some (0, 35, 2, 12) := by decide +kernel
theorem kd_94_389 : zt_cal zq_T 94 389 = some (0, 45, 2, 12) := by decide +kernel
theorem kd_94_416 : zt_cal zq_T 94 416 = some (0, 92, 3, 12) := by decide +kernel
theorem kd_95_240 : zt_cal zq_T 95 240 = some (0, 36, 2, 12) := by decide +kernel
theorem kd_95_419 : zt_cal zq_T 95 419 = some (0, 46, 2, 12) := by decide +kernel
theorem kd_96_240 : zt_cal zq_T 96 240 = some (0, 36, 2, 12) := by decide +kernel
theorem kd_96_249 : zt_cal zq_T 96 249 = some (0, 40, 2, 12) := by decide +kernel
theorem kd_96_419 : zt_cal zq_T 96 419 = some (0, 46, 2, 12) := by decide +kernel
theorem kd_96_422 : zt_cal zq_T 96 422 = some (0, 95, 4, 12) := by decide +kernel
theorem kd_97_289 : zt_cal zq_T 97 289 = some (0, 39, 2, 12) := by decide +kernel
theorem kd_97_338 : zt_cal zq_T 97 338 = some (0, 49, 2, 12) := by decide +kernel
theorem kd_97_426 : zt_cal zq_T 97 426 = some (0, 93, 3, 12) := by decide +kernel
theorem kd_97_435 : zt_cal zq_T 97 435 = some (0, 96, 4, 12) := by decide +kernel
theorem kd_98_289 : zt_cal zq_T 98 289 = some (0, 39, 2, 12) := by decide +kernel
theorem kd_98_338 : zt_cal zq_T 98 338 = some (0, 49, 2, 12) := by decide +kernel
theorem kd_98_426 : zt_cal zq_T 98 426 = some (0, 93, 3, 12) := by decide +kernel
theorem kd_99_438 : zt_cal zq_T 99 438 = some (0, 89, 1, 12) := by decide +kernel
theorem kd_99_441 : zt_cal zq_T 99 441 = some (0, 97, 4, 12) := by decide +kernel
theorem kd_100_444 : zt_cal zq_T 100 444 = some (0, 99, 3, 12) := by decide +kernel
theorem kd_100_448 : zt_cal zq_T 100 448 = some (0, 94, 2, 12) := by decide +kernel
theorem kd_101_413 : zt_cal zq_T 101 413 = some (1, 3, 2, 0) := by decide +kernel
theorem kd_101_441 : zt_cal zq_T 101 441 = some (0, 97, 4, 12) := by decide +kernel
theorem kd_101_448 : zt_cal zq_T 101 448 = some (0, 94, 2, 12) := by decide +kernel
theorem kd_101_451 : zt_cal zq_T 101 451 = some (0, 98, 2, 12) := by decide +kernel
theorem kd_101_454 : zt_cal zq_T 101 454 = some (0, 101, 3, 12) := by decide +kernel
theorem kd_102_204 : zt_cal zq_T 102 204 = some (1, 2, 3, 0) := by decide +kernel
theorem kd_102_357 : zt_cal zq_T 102 357 = some (0, 34, 1, 12) := by decide +kernel
theorem kd_102_372 : zt_cal zq_T 102 372 = some (0, 70, 1, 12) := by decide +kernel
theorem kd_102_438 : zt_cal zq_T 102 438 = some (0, 89, 1, 12) := by decide +kernel
theorem kd_102_454 : zt_cal zq_T 102 454 = some (0, 101, 3, 12) := by decide +kernel
theorem kd_103_131 : zt_cal zq_T 103 131 = some (0, 8, 0, 12) := by decide +kernel
theorem kd_103_175 : zt_cal zq_T 103 175 = some (1, 13, 1, 0) := by decide +kernel
theorem kd_104_258 : zt_cal zq_T 104 258 = some (0, 35, 2, 12) := by decide +kernel
theorem kd_104_357 : zt_cal zq_T 104 357 = some (0, 34, 1, 12) := by decide +kernel
theorem kd_104_372 : zt_cal zq_T 104 372 = some (0, 70, 1, 12) := by decide +kernel
theorem kd_104_444 : zt_cal zq_T 104 444 = some (0, 99, 3, 12) := by decide +kernel
theorem kd_104_448 : zt_cal zq_T 104 448 = some (0, 94, 2, 12) := by decide +kernel
theorem kd_104_451 : zt_cal zq_T 104 451 = some (0, 98, 2, 12) := by decide +kernel
theorem kd_104_457 : zt_cal zq_T 104 457 = some (0, 103, 0, 12) := by decide +kernel
theorem kd_106_204 : zt_cal zq_T 106 204 = some (1, 2, 3, 0) := by decide +kernel
theorem kd_107_204 : zt_cal zq_T 107 204 = some (1, 2, 3, 0) := by decide +kernel
theorem kd_108_204 : zt_cal zq_T 108 204 = some (1, 2, 3, 0) := by decide +kernel
theorem kd_109_481 : zt_cal zq_T 109 481 = some (0, 100, 3, 12) := by decide +kernel
theorem kd_110_378 : zt_cal zq_T 110 378 = some (0, 77, 1, 12) := by decide +kernel
theorem kd_110_413 : zt_cal zq_T 110 413 = some (1, 3, 2, 0) := by decide +kernel
theorem kd_110_481 : zt_cal zq_T 110 481 = some (0, 100, 3, 12) := by decide +kernel
theorem kd_110_494 : zt_cal zq_T 110 494 = some (0, 109, 3, 12) := by decide +kernel
theorem kd_111_204 : zt_cal zq_T 111 204 = some (1, 2, 3, 0) := by decide +kernel
theorem kd_111_372 : zt_cal zq_T 111 372 = some (0, 70, 1, 12) := by decide +kernel
theorem kd_111_499 : zt_cal zq_T 111 499 = some (0, 110, 0, 12) := by decide +kernel
theorem kd_112_413 : zt_cal zq_T 112 413 = some (1, 3, 2, 0) := by decide +kernel
theorem kd_112_441 : zt_cal zq_T 112 441 = some (0, 97, 4, 12) := by decide +kernel
theorem kd_112_448 : zt_cal zq_T 112 448 = some (0, 94, 2, 12) := by decide +kernel
theorem kd_112_451 : zt_cal zq_T 112 451 = some (0, 98, 2, 12) := by decide +kernel
theorem kd_112_502 : zt_cal zq_T 112 502 = some (0, 112, 6, 12) := by decide +kernel
theorem kd_113_357 : zt_cal zq_T 113 357 = some (0, 34, 1, 12) := by decide +kernel
theorem kd_113_372 : zt_cal zq_T 113 372 = some (0, 70, 1, 12) := by decide +kernel
theorem kd_113_438 : zt_cal zq_T 113 438 = some (0, 89, 1, 12) := by decide +kernel
theorem kd_113_502 : zt_cal zq_T 113 502 = some (0, 112, 6, 12) := by decide +kernel
theorem kd_114_204 : zt_cal zq_T 114 204 = some (1, 2, 3, 0) := by decide +kernel
theorem kd_115_258 : zt_cal zq_T 115 258 = some (0, 35, 2, 12) := by decide +kernel
theorem kd_116_372 : zt_cal zq_T 116 372 = some (0, 70, 1, 12) := by decide +kernel
theorem kd_116_444 : zt_cal zq_T 116 444 = some (0, 99, 3, 12) := by decide +kernel
theorem kd_116_448 : zt_cal zq_T 116 448 = some (0, 94, 2, 12) := by decide +kernel
theorem kd_116_451 : zt_cal zq_T 116 451 = some (0, 98, 2, 12) := by decide +kernel
theorem kd_116_515 : zt_cal zq_T 116 515 = some (0, 115, 1, 12) := by decide +kernel
theorem kd_117_204 : zt_cal zq_T 117 204 = some (1, 2, 3, 0) := by decide +kernel
theorem kd_117_518 : zt_cal zq_T 117 518 = some (0, 114, 1, 12) := by decide +kernel
theorem kd_117_523 : zt_cal zq_T 117 523 = some (0, 116, 1, 12) := by decide +kernel
theorem kd_118_523 : zt_cal zq_T 118 523 = some (0, 116, 1, 12) := by decide +kernel
theorem kd_119_523 : zt_cal zq_T 119 523 = some (0, 116, 1, 12) := by decide +kernel
theorem kd_119_526 : zt_cal zq_T 119 526 = some (0, 118, 0, 12) := by decide +kernel
theorem kd_121_532 : zt_cal zq_T 121 532 = some (7, 317, 0, 91) := by decide +kernel
theorem kd_121_536 : zt_cal zq_T 121 536 = some (7, 318, 1, 91) := by decide +kernel
theorem kd_121_540 : zt_cal zq_T 121 540 = some (0, 120, 1, 12) := by decide +kernel
theorem kd_122_540 : zt_cal zq_T 122 540 = some (0, 120, 1, 12) := by decide +kernel
theorem kd_122_542 : zt_cal zq_T 122 542 = some (0, 122, 1, 12) := by decide +kernel
theorem kd_124_413 : zt_cal zq_T 124 413 = some (1, 3, 2, 0) := by decide +kernel
theorem kd_124_540 : zt_cal zq_T 124 540 = some (0, 120, 1, 12) := by decide +kernel
theorem kd_124_542 : zt_cal zq_T 124 542 = some (0, 122, 1, 12) := by decide +kernel
theorem kd_124_547 : zt_cal zq_T 124 547 = some (0, 121, 1, 12) := by decide +kernel
theorem kd_124_551 : zt_cal zq_T 124 551 = some (0, 123, 2, 12) := by decide +kernel
theorem kd_125_204 : zt_cal zq_T 125 204 = some (1, 2, 3, 0) := by decide +kernel
theorem kd_125_518 : zt_cal zq_T 125 518 = some (0, 114, 1, 12) := by decide +kernel
theorem kd_125_523 : zt_cal zq_T 125 523 = some (0, 116, 1, 12) := by decide +kernel
theorem kd_125_562 : zt_cal zq_T 125 562 = some (0, 124, 1, 12) := by decide +kernel
theorem kd_126_144 : zt_cal zq_T 126 144 = some (4, 0, 0, 0) := by decide +kernel
theorem kd_126_204 : zt_cal zq_T 126 204 = some (1, 2, 3, 0) := by decide +kernel
theorem kd_126_242 : zt_cal zq_T 126 242 = some (0, 37, 2, 12) := by decide +kernel
theorem kd_126_258 : zt_cal zq_T 126 258 = some (0, 35, 2, 12) := by decide +kernel
theorem kd_126_275 : zt_cal zq_T 126 275 = some (0, 38, 2, 12) := by decide +kernel
theorem kd_126_357 : zt_cal zq_T 126 357 = some (0, 34, 1, 12) := by decide +kernel
theorem kd_126_372 : zt_cal zq_T 126 372 = some (0, 70, 1, 12) := by decide +kernel
theorem kd_127_204 : zt_cal zq_T 127 204 = some (1, 2, 3, 0) := by decide +kernel
theorem kd_127_258 : zt_cal zq_T 127 258 = some (0, 35, 2, 12) := by decide +kernel
theorem kd_127_289 : zt_cal zq_T 127 289 = some (0, 39, 2, 12) := by decide +kernel
theorem kd_127_357 : zt_cal zq_T 127 357 = some (0, 34, 1, 12) := by decide +kernel
theorem kd_127_372 : zt_cal zq_T 127 372 = some (0, 70, 1, 12) := by decide +kernel
theorem kd_128_347 : zt_cal zq_T 128 347 = some (0, 69, 2, 12) := by decide +kernel
theorem kd_130_144 : zt_cal zq_T 130 144 = some (4, 0, 0, 0) := by decide +kernel
theorem kd_131_526 : zt_cal zq_T 131 526 = some (0, 118, 0, 12) := by decide +kernel
theorem kd_131_567 : zt_cal zq_T 131 567 = some (0, 128, 1, 12) := by decide +kernel
theorem kd_131_571 : zt_cal zq_T 131 571 = some (0, 129, 0, 12) := by decide +kernel
theorem kd_131_574 : zt_cal zq_T 131 574 = some (0, 130, 0, 12) := by decide +kernel
theorem kd_132_3 : zt_cal zq_T 132 3 = some (3, 0, 0, 0) := by decide +kernel
theorem kd_136_55 : zt_cal zq_T 136 55 = some (0, 142, 3, 0) := by decide +kernel
theorem kd_136_59 : zt_cal zq_T 136 59 = some (0, 137, 5, 0) := by decide +kernel
theorem kd_137_55 : zt_cal zq_T 137 55 = some (0, 142, 3, 0) := by decide +kernel
theorem kd_137_63 : zt_cal zq_T 137 63 = some (0, 195, 0, 5) := by decide +kernel
theorem kd_137_67 : zt_cal zq_T 137 67 = some (0, 138, 5, 0) := by decide +kernel
theorem kd_137_74 : zt_cal zq_T 137 74 = some (0, 143, 3, 0) := by decide +kernel
theorem kd_137_83 : zt_cal zq_T 137 83 = some (0, 141, 0, 0) := by decide +kernel
theorem kd_138_87 : zt_cal zq_T 138 87 = some (1, 139, 4, 0) := by decide +kernel
theorem kd_138_91 : zt_cal zq_T 138 91 = some (0, 250, 0, 8) := by decide +kernel
theorem kd_139_96 : zt_cal zq_T 139 96 = some (0, 256, 2, 8) := by decide +kernel
theorem kd_139_100 : zt_cal zq_T 139 100 = some (0, 248, 1, 8) := by decide +kernel
theorem kd_139_104 : zt_cal zq_T 139 104 = some (0, 254, 0, 8) := by decide +kernel
theorem kd_141_107 : zt_cal zq_T 141 107 = some (1, 140, 2, 0) := by decide +kernel
theorem kd_142_107 : zt_cal zq_T 142 107 = some (1, 140, 2, 0) := by decide +kernel
theorem kd_144_3 : zt_cal zq_T 144 3 = some (3, 0, 0, 0) := by decide +kernel
theorem kd_145_53 : zt_cal zq_T 145 53 = some (0, 146, 1, 1) := by decide +kernel
theorem kd_145_57 : zt_cal zq_T 145 57 = some (0, 147, 1, 1) := by decide +kernel
theorem kd_148_60 : zt_cal zq_T 148 60 = some (0, 199, 1, 6) := by decide +kernel
theorem kd_148_66 : zt_cal zq_T 148 66 = some (0, 150, 5, 1) := by decide +kernel
theorem kd_148_79 : zt_cal zq_T 148 79 = some (0, 149, 3, 1) := by decide +kernel
theorem kd_149_66 : zt_cal zq_T 149 66 = some (0, 150, 5, 1) := by decide +kernel
theorem kd_149_83 : zt_cal zq_T 149 83 = some (0, 242, 1, 8) := by decide +kernel
theorem kd_149_89 : zt_cal zq_T 149 89 = some (0, 248, 1, 8) := by decide +kernel
theorem kd_149_92 : zt_cal zq_T 149 92 = some (0, 250, 0, 8) := by decide +kernel
theorem kd_149_96 : zt_cal zq_T 149 96 = some (0, 251, 0, 8) := by decide +kernel
theorem kd_150_100 : zt_cal zq_T 150 100 = some (8, 292, 1, 0) := by decide +kernel
theorem kd_154_104 : zt_cal zq_T 154 104 = some (4, 0, 0, 0) := by decide +kernel
theorem kd_155_113 : zt_cal zq_T 155 113 = some (0, 159, 1, 1) := by decide +kernel
theorem kd_155_117 : zt_cal zq_T 155 117 = some (0, 157, 2, 1) := by decide +kernel
theorem kd_155_122 : zt_cal zq_T 155 122 = some (0, 160, 1, 1) := by decide +kernel
theorem kd_155_125 : zt_cal zq_T 155 125 = some (0, 158, 2, 1) := by decide +kernel
theorem kd_155_134 : zt_cal zq_T 155 134 = some (0, 156, 1, 1) := by decide +kernel
theorem kd_156_113 : zt_cal zq_T 156 113 = some (0, 159, 1, 1) := by decide +kernel
theorem kd_156_122 : zt_cal zq_T 156 122 = some (0, 160, 1, 1) := by decide +kernel
theorem kd_160_113 : zt_cal zq_T 160 113 = some (0, 159, 1, 1) := by decide +kernel
theorem kd_160_139 : zt_cal zq_T 160 139 = some (7, 317, 0, 91) := by decide +kernel
theorem kd_160_144 : zt_cal zq_T 160 144 = some (7, 318, 1, 91) := by decide +kernel
theorem kd_161_3 : zt_cal zq_T 161 3 = some (3, 0, 0, 0) := by decide +kernel
theorem kd_162_21 : zt_cal zq_T 162 21 = some (0, 163, 3, 2) := by decide +kernel
theorem kd_162_54 : zt_cal zq_T 162 54 = some (0, 180, 0, 3) := by decide +kernel
theorem kd_162_61 : zt_cal zq_T 162 61 = some (1, 181, 1, 0) := by decide +kernel
theorem kd_163_21 : zt_cal zq_T 163 21 = some (0, 163, 3, 2) := by decide +kernel
theorem kd_163_74 : zt_cal zq_T 163 74 = some (0, 164, 1, 2) := by decide +kernel
theorem kd_163_81 : zt_cal zq_T 163 81 = some (0, 165, 1, 2) := by decide +kernel
theorem kd_163_84 : zt_cal zq_T 163 84 = some (0, 166, 1, 2) := by decide +kernel
theorem kd_163_87 : zt_cal zq_T 163 87 = some (0, 167, 1, 2) := by decide +kernel
theorem kd_163_90 : zt_cal zq_T 163 90 = some (0, 169, 1, 2) := by decide +kernel
theorem kd_163_96 : zt_cal zq_T 163 96 = some (0, 170, 3, 2) := by decide +kernel
theorem kd_163_100 : zt_cal zq_T 163 100 = some (0, 171, 1, 2) := by decide +kernel
theorem kd_167_121 : zt_cal zq_T 167 121 = some (0, 173, 1, 2) := by decide +kernel
theorem kd_167_125 : zt_cal zq_T 167 125 = some (0, 174, 2, 2) := by decide +kernel
theorem kd_167_129 : zt_cal zq_T 167 129 = some (0, 176, 3, 2) := by decide +kernel
theorem kd_167_132 : zt_cal zq_T 167 132 = some (0, 168, 1, 2) := by decide +kernel
theorem kd_169_135 : zt_cal zq_T 169 135 = some (5, 0, 0, 0) := by decide +kernel
theorem kd_169_141 : zt_cal zq_T 169 141 = some (4, 0, 0, 0) := by decide +kernel
theorem kd_170_121 : zt_cal zq_T 170 121 = some (0, 173, 1, 2) := by decide +kernel
theorem kd_170_125 : zt_cal zq_T 170 125 = some (0, 174, 2, 2) := by decide +kernel
theorem kd_170_129 : zt_cal zq_T 170 129 = some (0, 176, 3, 2) := by decide +kernel
theorem kd_171_121 : zt_cal zq_T 171 121 = some (0, 173, 1, 2) := by decide +kernel
theorem kd_171_129 : zt_cal zq_T 171 129 = some (0, 176, 3, 2) := by decide +kernel
theorem kd_171_132 : zt_cal zq_T 171 132 = some (0, 168, 1, 2) := by decide +kernel
theorem kd_171_147 : zt_cal zq_T 171 147 = some (0, 172, 1, 2) := by decide +kernel
theorem kd_171_153 : zt_cal zq_T 171 153 = some (0, 175, 3, 2) := by decide +kernel
theorem kd_173_147 : zt_cal zq_T 173 147 = some (0, 172, 1, 2) := by decide +kernel
theorem kd_177_3 : zt_cal zq_T 177 3 = some (3, 0, 0, 0) := by decide +kernel
theorem kd_179_41 : zt_cal zq_T 179 41 = some (4, 0, 0, 0) := by decide +kernel
theorem kd_182_3 : zt_cal zq_T 182 3 = some (3, 0, 0, 0) := by decide +kernel
theorem kd_185_41 : zt_cal zq_T 185 41 = some (0, 242, 1, 8) := by decide +kernel
theorem kd_185_50 : zt_cal zq_T 185 50 = some (0, 248, 1, 8) := by decide +kernel
theorem kd_185_60 : zt_cal zq_T 185 60 = some (0, 251, 0, 8) := by decide +kernel
theorem kd_185_67 : zt_cal zq_T 185 67 = some (0, 250, 0, 8) := by decide +kernel
theorem kd_185_80 : zt_cal zq_T 185 80 = some (0, 252, 1, 8) := by decide +kernel
theorem kd_185_87 : zt_cal zq_T 185 87 = some (0, 253, 1, 8) := by decide +kernel
theorem kd_187_41 : zt_cal zq_T 187 41 = some (0, 242, 1, 8) := by decide +kernel
theorem kd_187_50 : zt_cal zq_T 187 50 = some (0, 248, 1, 8) := by decide +kernel
theorem kd_187_67 : zt_cal zq_T 187 67 = some (0, 250, 0, 8) := by decide +kernel
theorem kd_187_90 : zt_cal zq_T 187 90 = some (0, 254, 0, 8) := by decide +kernel
theorem kd_187_93 : zt_cal zq_T 187 93 = some (0, 188, 3, 4) := by decide +kernel
theorem kd_187_97 : zt_cal zq_T 187 97 = some (5, 0, 0, 0) := by decide +kernel
theorem kd_187_103 : zt_cal zq_T 187 103 = some (0, 189, 3, 4) := by decide +kernel
theorem kd_187_107 : zt_cal zq_T 187 107 = some (0, 190, 4, 4) := by decide +kernel
theorem kd_189_93 : zt_cal zq_T 189 93 = some (0, 188, 3, 4) := by decide +kernel
theorem kd_189_120 : zt_cal zq_T 189 120 = some (0, 256, 2, 8) := by decide +kernel
theorem kd_189_124 : zt_cal zq_T 189 124 = some (0, 191, 2, 4) := by decide +kernel
theorem kd_190_50 : zt_cal zq_T 190 50 = some (0, 248, 1, 8) := by decide +kernel
theorem kd_190_93 : zt_cal zq_T 190 93 = some (0, 188, 3, 4) := by decide +kernel
theorem kd_190_120 : zt_cal zq_T 190 120 = some (0, 256, 2, 8) := by decide +kernel
theorem kd_190_124 : zt_cal zq_T 190 124 = some (0, 191, 2, 4) := by decide +kernel
theorem kd_190_128 : zt_cal zq_T 190 128 = some (0, 195, 0, 5) := by decide +kernel
theorem kd_191_50 : zt_cal zq_T 191 50 = some (0, 248, 1, 8) := by decide +kernel
theorem kd_191_67 : zt_cal zq_T 191 67 = some (0, 250, 0, 8) := by decide +kernel
theorem kd_192_3 : zt_cal zq_T 192 3 = some (3, 0, 0, 0) := by decide +kernel
theorem kd_195_60 : zt_cal zq_T 195 60 = some (0, 194, 1, 5) := by decide +kernel
theorem kd_198_3 : zt_cal zq_T 198 3 = some (3, 0, 0, 0) := by decide +kernel
theorem kd_198_17 : zt_cal zq_T 198 17 = some (9, 192, 0, 5) := by decide +kernel
theorem kd_200_43 : zt_cal zq_T 200 43 = some (8, 292, 1, 0) := by decide +kernel
theorem kd_201_43 : zt_cal zq_T 201 43 = some (8, 292, 1, 0) := by decide +kernel
theorem kd_202_62 : zt_cal zq_T 202 62 = some (0, 209, 0, 6) := by decide +kernel
theorem kd_202_66 : zt_cal zq_T 202 66 = some (0, 203, 0, 6) := by decide +kernel
theorem kd_206_70 : zt_cal zq_T 206 70 = some (0, 205, 0, 6) := by decide +kernel
theorem kd_206_74 : zt_cal zq_T 206 74 = some (9, 177, 0, 3) := by decide +kernel
theorem kd_206_75 : zt_cal zq_T 206 75 = some (0, 178, 2, 3) := by decide +kernel
theorem kd_209_66 : zt_cal zq_T 209 66 = some (0, 203, 0, 6) := by decide +kernel
theorem kd_209_79 : zt_cal zq_T 209 79 = some (1, 207, 1, 0) := by decide +kernel
theorem kd_209_83 : zt_cal zq_T 209 83 = some (0, 199, 1, 6) := by decide +kernel
theorem kd_209_87 : zt_cal zq_T 209 87 = some (0, 204, 0, 6) := by decide +kernel
theorem kd_209_90 : zt_cal zq_T 209 90 = some (0, 193, 1, 5) := by decide +kernel
theorem kd_209_93 : zt_cal zq_T 209 93 = some (0, 210, 1, 6) := by decide +kernel
theorem kd_210_101 : zt_cal zq_T 210 101 = some (0, 211, 3, 6) := by decide +kernel
theorem kd_211_66 : zt_cal zq_T 211 66 = some (0, 203, 0, 6) := by decide +kernel
theorem kd_211_105 : zt_cal zq_T 211 105 = some (0, 212, 2, 6) := by decide +kernel
theorem kd_211_109 : zt_cal zq_T 211 109 = some (0, 206, 2, 6) := by decide +kernel
theorem kd_211_112 : zt_cal zq_T 211 112 = some (0, 179, 1, 3) := by decide +kernel
theorem kd_212_101 : zt_cal zq_T 212 101 = some (0, 211, 3, 6) := by decide +kernel
theorem kd_212_116 : zt_cal zq_T 212 116 = some (0, 213, 1, 6) := by decide +kernel
theorem kd_213_66 : zt_cal zq_T 213 66 = some (0, 203, 0, 6) := by decide +kernel
theorem kd_213_70 : zt_cal zq_T 213 70 = some (0, 205, 0, 6) := by decide +kernel
theorem kd_213_109 : zt_cal zq_T 213 109 = some (0, 206, 2, 6) := by decide +kernel
theorem kd_213_112 : zt_cal zq_T 213 112 = some (0, 179, 1, 3) := by decide +kernel
theorem kd_213_119 : zt_cal zq_T 213 119 = some (0, 218, 1, 6) := by decide +kernel
theorem kd_213_134 : zt_cal zq_T 213 134 = some (0, 214, 2, 6) := by decide +kernel
theorem kd_214_138 : zt_cal zq_T 214 138 = some (0, 215, 1, 6) := by decide +kernel
theorem kd_215_66 : zt_cal zq_T 215 66 = some (0, 203, 0, 6) := by decide +kernel
theorem kd_215_87 : zt_cal zq_T 215 87 = some (0, 204, 0, 6) := by decide +kernel
theorem kd_215_147 : zt_cal zq_T 215 147 = some (0, 216, 1, 6) := by decide +kernel
theorem kd_215_150 : zt_cal zq_T 215 150 = some (4, 0, 0, 0) := by decide +kernel
theorem kd_216_66 : zt_cal zq_T 216 66 = some (0, 203, 0, 6) := by decide +kernel
theorem kd_216_156 : zt_cal zq_T 216 156 = some (1, 208, 1, 0) := by decide +kernel
theorem kd_216_159 : zt_cal zq_T 216 159 = some (1, 217, 2, 0) := by decide +kernel
theorem kd_218_66 : zt_cal zq_T 218 66 = some (0, 203, 0, 6) := by decide +kernel
theorem kd_218_70 : zt_cal zq_T 218 70 = some (0, 205, 0, 6) := by decide +kernel
theorem kd_218_79 : zt_cal zq_T 218 79 = some (1, 207, 1, 0) := by decide +kernel
theorem kd_218_109 : zt_cal zq_T 218 109 = some (0, 206, 2, 6) := by decide +kernel
theorem kd_218_162 : zt_cal zq_T 218 162 = some (0, 219, 1, 6) := by decide +kernel
theorem kd_218_165 : zt_cal zq_T 218 165 = some (0, 220, 1, 6) := by decide +kernel
theorem kd_218_168 : zt_cal zq_T 218 168 = some (0, 221, 1, 6) := by decide +kernel
theorem kd_219_70 : zt_cal zq_T 219 70 = some (0, 205, 0, 6) := by decide +kernel
theorem kd_219_109 : zt_cal zq_T 219 109 = some (0, 206, 2, 6) := by decide +kernel
theorem kd_220_66 : zt_cal zq_T 220 66 = some (0, 203, 0, 6) := by decide +kernel
theorem kd_220_70 : zt_cal zq_T 220 70 = some (0, 205, 0, 6) := by decide +kernel
theorem kd_220_93 : zt_cal zq_T 220 93 = some (0, 210, 1, 6) := by decide +kernel
theorem kd_221_66 : zt_cal zq_T 221 66 = some (0, 203, 0, 6) := by decide +kernel
theorem kd_221_70 : zt_cal zq_T 221 70 = some (0, 205, 0, 6) := by decide +kernel
theorem kd_221_93 : zt_cal zq_T 221 93 = some (0, 210, 1, 6) := by decide +kernel
theorem kd_221_109 : zt_cal zq_T 221 109 = some (0, 206, 2, 6) := by decide +kernel
theorem kd_221_112 : zt_cal zq_T 221 112 = some (0, 179, 1, 3) := by decide +kernel
theorem kd_222_3 : zt_cal zq_T 222 3 = some (3, 0, 0, 0) := by decide +kernel
theorem kd_222_26 : zt_cal zq_T 222 26 = some (9, 192, 0, 5) := by decide +kernel
theorem kd_223_39 : zt_cal zq_T 223 39 = some (0, 231, 2, 7) := by decide +kernel
theorem kd_225_52 : zt_cal zq_T 225 52 = some (1, 226, 2, 0) := by decide +kernel
theorem kd_225_65 : zt_cal zq_T 225 65 = some (1, 227, 3, 0) := by decide +kernel
theorem kd_225_69 : zt_cal zq_T 225 69 = some (1, 228, 2, 0) := by decide +kernel
theorem kd_229_65 : zt_cal zq_T 229 65 = some (1, 227, 3, 0) := by decide +kernel
theorem kd_229_82 : zt_cal zq_T 229 82 = some (0, 232, 3, 7) := by decide +kernel
theorem kd_229_86 : zt_cal zq_T 229 86 = some (0, 233, 3, 7) := by decide +kernel
theorem kd_229_90 : zt_cal zq_T 229 90 = some (0, 236, 3, 7) := by decide +kernel
theorem kd_229_96 : zt_cal zq_T 229 96 = some (0, 230, 1, 7) := by decide +kernel
theorem kd_231_82 : zt_cal zq_T 231 82 = some (0, 232, 3, 7) := by decide +kernel
theorem kd_231_86 : zt_cal zq_T 231 86 = some (0, 233, 3, 7) := by decide +kernel
theorem kd_231_90 : zt_cal zq_T 231 90 = some (0, 236, 3, 7) := by decide +kernel
theorem kd_231_96 : zt_cal zq_T 231 96 = some (0, 230, 1, 7) := by decide +kernel
theorem kd_231_107 : zt_cal zq_T 231 107 = some (0, 234, 2, 7) := by decide +kernel
theorem kd_232_39 : zt_cal zq_T 232 39 = some (0, 231, 2, 7) := by decide +kernel
theorem kd_233_39 : zt_cal zq_T 233 39 = some (0, 231, 2, 7) := by decide +kernel
theorem kd_233_96 : zt_cal zq_T 233 96 = some (0, 230, 1, 7) := by decide +kernel
theorem kd_234_39 : zt_cal zq_T 234 39 = some (0, 231, 2, 7) := by decide +kernel
theorem kd_234_113 : zt_cal zq_T 234 113 = some (0, 235, 2, 7) := by decide +kernel
theorem kd_235_117 : zt_cal zq_T 235 117 = some (6, 0, 0, 0) := by decide +kernel
theorem kd_236_39 : zt_cal zq_T 236 39 = some (0, 231, 2, 7) := by decide +kernel
theorem kd_236_123 : zt_cal zq_T 236 123 = some (0, 237, 3, 7) := by decide +kernel
theorem kd_237_129 : zt_cal zq_T 237 129 = some (0, 239, 3, 7) := by decide +kernel
theorem kd_237_133 : zt_cal zq_T 237 133 = some (1, 238, 3, 0) := by decide +kernel
theorem kd_237_137 : zt_cal zq_T 237 137 = some (0, 240, 2, 7) := by decide +kernel
theorem kd_241_3 : zt_cal zq_T 241 3 = some (3, 0, 0, 0) := by decide +kernel
theorem kd_241_11 : zt_cal zq_T 241 11 = some (9, 192, 0, 5) := by decide +kernel
theorem kd_243_47 : zt_cal zq_T 243 47 = some (0, 244, 2, 8) := by decide +kernel
theorem kd_243_66 : zt_cal zq_T 243 66 = some (0, 245, 2, 8) := by decide +kernel
theorem kd_243_70 : zt_cal zq_T 243 70 = some (0, 246, 2, 8) := by decide +kernel
theorem kd_243_76 : zt_cal zq_T 243 76 = some (0, 247, 3, 8) := by decide +kernel
theorem kd_248_102 : zt_cal zq_T 248 102 = some (0, 196, 1, 5) := by decide +kernel
theorem kd_248_106 : zt_cal zq_T 248 106 = some (0, 243, 1, 8) := by decide +kernel
theorem kd_248_109 : zt_cal zq_T 248 109 = some (0, 249, 0, 8) := by decide +kernel
theorem kd_250_106 : zt_cal zq_T 250 106 = some (0, 243, 1, 8) := by decide +kernel
theorem kd_251_106 : zt_cal zq_T 251 106 = some (0, 243, 1, 8) := by decide +kernel
theorem kd_251_113 : zt_cal zq_T 251 113 = some (0, 194, 1, 5) := by decide +kernel
theorem kd_254_128 : zt_cal zq_T 254 128 = some (0, 255, 1, 8) := by decide +kernel
theorem kd_254_134 : zt_cal zq_T 254 134 = some (0, 253, 1, 8) := by decide +kernel
theorem kd_255_137 : zt_cal zq_T 255 137 = some (5, 0, 0, 0) := by decide +kernel
theorem kd_256_143 : zt_cal zq_T 256 143 = some (0, 242, 1, 8) := by decide +kernel
theorem kd_256_147 : zt_cal zq_T 256 147 = some (0, 257, 2, 8) := by decide +kernel
theorem kd_258_3 : zt_cal zq_T 258 3 = some (3, 0, 0, 0) := by decide +kernel
theorem kd_261_45 : zt_cal zq_T 261 45 = some (0, 265, 3, 9) := by decide +kernel
theorem kd_261_56 : zt_cal zq_T 261 56 = some (0, 262, 3, 9) := by decide +kernel
theorem kd_262_45 : zt_cal zq_T 262 45 = some (0, 265, 3, 9) := by decide +kernel
theorem kd_262_63 : zt_cal zq_T 262 63 = some (0, 263, 1, 9) := by decide +kernel
theorem kd_262_67 : zt_cal zq_T 262 67 = some (0, 264, 2, 9) := by decide +kernel
theorem kd_263_45 : zt_cal zq_T 263 45 = some (0, 265, 3, 9) := by decide +kernel
theorem kd_264_45 : zt_cal zq_T 264 45 = some (0, 265, 3, 9) := by decide +kernel
theorem kd_266_96 : zt_cal zq_T 266 96 = some (0, 261, 2, 9) := by decide +kernel
theorem kd_266_100 : zt_cal zq_T 266 100 = some (1, 259, 1, 0) := by decide +kernel
theorem kd_267_100 : zt_cal zq_T 267 100 = some (1, 259, 1, 0) := by decide +kernel
theorem kd_267_107 : zt_cal zq_T 267 107 = some (1, 260, 1, 0) := by decide +kernel
theorem kd_267_110 : zt_cal zq_T 267 110 = some (1, 268, 3, 0) := by decide +kernel
theorem kd_269_100 : zt_cal zq_T 269 100 = some (1, 259, 1, 0) := by decide +kernel
theorem kd_272_117 : zt_cal zq_T 272 117 = some (5, 0, 0, 0) := by decide +kernel
theorem kd_273_123 : zt_cal zq_T 273 123 = some (4, 0, 0, 0) := by decide +kernel
theorem kd_274_96 : zt_cal zq_T 274 96 = some (0, 261, 2, 9) := by decide +kernel
theorem kd_274_135 : zt_cal zq_T 274 135 = some (0, 267, 3, 9) := by decide +kernel
theorem kd_274_138 : zt_cal zq_T 274 138 = some (0, 269, 2, 9) := by decide +kernel
theorem kd_275_3 : zt_cal zq_T 275 3 = some (3, 0, 0, 0) := by decide +kernel
theorem kd_277_36 : zt_cal zq_T 277 36 = some (0, 261, 2, 9) := by decide +kernel
theorem kd_277_45 : zt_cal zq_T 277 45 = some (0, 267, 3, 9) := by decide +kernel
theorem kd_277_49 : zt_cal zq_T 277 49 = some (0, 269, 2, 9) := by decide +kernel
theorem kd_277_53 : zt_cal zq_T 277 53 = some (0, 270, 2, 9) := by decide +kernel
theorem kd_277_57 : zt_cal zq_T 277 57 = some (0, 271, 2, 9) := by decide +kernel
theorem kd_277_60 : zt_cal zq_T 277 60 = some (0, 278, 5, 10) := by decide +kernel
theorem kd_277_64 : zt_cal zq_T 277 64 = some (0, 272, 2, 9) := by decide +kernel
theorem kd_277_67 : zt_cal zq_T 277 67 = some (0, 273, 2, 9) := by decide +kernel
theorem kd_277_70 : zt_cal zq_T 277 70 = some (0, 281, 3, 10) := by decide +kernel
theorem kd_278_86 : zt_cal zq_T 278 86 = some (4, 0, 0, 0) := by decide +kernel
theorem kd_278_91 : zt_cal zq_T 278 91 = some (0, 225, 4, 7) := by decide +kernel
theorem kd_278_100 : zt_cal zq_T 278 100 = some (0, 229, 4, 7) := by decide +kernel
theorem kd_278_104 : zt_cal zq_T 278 104 = some (0, 279, 1, 10) := by decide +kernel
theorem kd_278_108 : zt_cal zq_T 278 108 = some (0, 280, 1, 10) := by decide +kernel
theorem kd_280_114 : zt_cal zq_T 280 114 = some (5, 0, 0, 0) := by decide +kernel
theorem kd_282_1 : zt_cal zq_T 282 1 = some (3, 0, 0, 0) := by decide +kernel
theorem kd_282_19 : zt_cal zq_T 282 19 = some (2, 198, 0, 6) := by decide +kernel
theorem kd_282_29 : zt_cal zq_T 282 29 = some (9, 144, 0, 1) := by decide +kernel
theorem kd_282_39 : zt_cal zq_T 282 39 = some (9, 161, 0, 2) := by decide +kernel
theorem kd_282_46 : zt_cal zq_T 282 46 = some (9, 258, 0, 9) := by decide +kernel
theorem kd_282_53 : zt_cal zq_T 282 53 = some (9, 222, 0, 7) := by decide +kernel
theorem kd_282_60 : zt_cal zq_T 282 60 = some (9, 275, 0, 10) := by decide +kernel
theorem kd_282_70 : zt_cal zq_T 282 70 = some (9, 241, 0, 8) := by decide +kernel
theorem kd_282_77 : zt_cal zq_T 282 77 = some (9, 182, 0, 4) := by decide +kernel
theorem kd_282_84 : zt_cal zq_T 282 84 = some (9, 132, 0, 0) := by decide +kernel
theorem kd_283_92 : zt_cal zq_T 283 92 = some (1, 284, 1, 0) := by decide +kernel
theorem kd_283_96 : zt_cal zq_T 283 96 = some (0, 285, 1, 11) := by decide +kernel
theorem kd_287_100 : zt_cal zq_T 287 100 = some (0, 202, 2, 6) := by decide +kernel
theorem kd_287_104 : zt_cal zq_T 287 104 = some (0, 145, 2, 1) := by decide +kernel
theorem kd_288_100 : zt_cal zq_T 288 100 = some (0, 202, 2, 6) := by decide +kernel
theorem kd_288_105 : zt_cal zq_T 288 105 = some (0, 183, 0, 4) := by decide +kernel
theorem kd_288_115 : zt_cal zq_T 288 115 = some (0, 162, 1, 2) := by decide +kernel
theorem kd_288_119 : zt_cal zq_T 288 119 = some (0, 274, 1, 9) := by decide +kernel
theorem kd_288_122 : zt_cal zq_T 288 122 = some (0, 290, 0, 11) := by decide +kernel
theorem kd_289_104 : zt_cal zq_T 289 104 = some (0, 145, 2, 1) := by decide +kernel
theorem kd_289_125 : zt_cal zq_T 289 125 = some (0, 148, 2, 1) := by decide +kernel
theorem kd_290_125 : zt_cal zq_T 290 125 = some (0, 148, 2, 1) := by decide +kernel
theorem kd_290_130 : zt_cal zq_T 290 130 = some (0, 276, 0, 10) := by decide +kernel
theorem kd_290_131 : zt_cal zq_T 290 131 = some (0, 133, 0, 0) := by decide +kernel
theorem kd_293_136 : zt_cal zq_T 293 136 = some (0, 291, 1, 11) := by decide +kernel
theorem kd_293_170 : zt_cal zq_T 293 170 = some (1, 292, 1, 0) := by decide +kernel
theorem kd_293_192 : zt_cal zq_T 293 192 = some (0, 194, 1, 5) := by decide +kernel
theorem kd_294_136 : zt_cal zq_T 294 136 = some (0, 291, 1, 11) := by decide +kernel
theorem kd_294_206 : zt_cal zq_T 294 206 = some (0, 266, 2, 9) := by decide +kernel
theorem kd_294_216 : zt_cal zq_T 294 216 = some (0, 197, 1, 5) := by decide +kernel
theorem kd_295_136 : zt_cal zq_T 295 136 = some (0, 291, 1, 11) := by decide +kernel
theorem kd_295_170 : zt_cal zq_T 295 170 = some (1, 292, 1, 0) := by decide +kernel
theorem kd_295_232 : zt_cal zq_T 295 232 = some (0, 180, 0, 3) := by decide +kernel
theorem kd_295_236 : zt_cal zq_T 295 236 = some (1, 181, 1, 0) := by decide +kernel
theorem kd_296_136 : zt_cal zq_T 296 136 = some (0, 291, 1, 11) := by decide +kernel
theorem kd_297_136 : zt_cal zq_T 297 136 = some (0, 291, 1, 11) := by decide +kernel
theorem kd_297_249 : zt_cal zq_T 297 249 = some (0, 277, 4, 10) := by decide +kernel
theorem kd_298_256 : zt_cal zq_T 298 256 = some (0, 297, 2, 11) := by decide +kernel
theorem kd_298_267 : zt_cal zq_T 298 267 = some (1, 259, 1, 0) := by decide +kernel
theorem kd_298_270 : zt_cal zq_T 298 270 = some (1, 260, 1, 0) := by decide +kernel
theorem kd_299_256 : zt_cal zq_T 299 256 = some (0, 297, 2, 11) := by decide +kernel
theorem kd_299_267 : zt_cal zq_T 299 267 = some (1, 259, 1, 0) := by decide +kernel
theorem kd_300_136 : zt_cal zq_T 300 136 = some (0, 291, 1, 11) := by decide +kernel
theorem kd_300_281 : zt_cal zq_T 300 281 = some (0, 223, 1, 7) := by decide +kernel
theorem kd_300_284 : zt_cal zq_T 300 284 = some (0, 224, 1, 7) := by decide +kernel
theorem kd_301_136 : zt_cal zq_T 301 136 = some (0, 291, 1, 11) := by decide +kernel
theorem kd_301_170 : zt_cal zq_T 301 170 = some (1, 292, 1, 0) := by decide +kernel
theorem kd_302_136 : zt_cal zq_T 302 136 = some (0, 291, 1, 11) := by decide +kernel
theorem kd_302_290 : zt_cal zq_T 302 290 = some (0, 134, 2, 0) := by decide +kernel
theorem kd_302_294 : zt_cal zq_T 302 294 = some (0, 136, 3, 0) := by decide +kernel
theorem kd_302_297 : zt_cal zq_T 302 297 = some (0, 135, 2, 0) := by decide +kernel
theorem kd_303_136 : zt_cal zq_T 303 136 = some (0, 291, 1, 11) := by decide +kernel
theorem kd_303_170 : zt_cal zq_T 303 170 = some (1, 292, 1, 0) := by decide +kernel
theorem kd_303_303 : zt_cal zq_T 303 303 = some (1, 184, 2, 0) := by decide +kernel
theorem kd_303_306 : zt_cal zq_T 303 306 = some (0, 185, 4, 4) := by decide +kernel
theorem kd_303_311 : zt_cal zq_T 303 311 = some (0, 186, 0, 4) := by decide +kernel
theorem kd_304_170 : zt_cal zq_T 304 170 = some (1, 292, 1, 0) := by decide +kernel
theorem kd_308_136 : zt_cal zq_T 308 136 = some (0, 291, 1, 11) := by decide +kernel
theorem kd_308_339 : zt_cal zq_T 308 339 = some (0, 187, 2, 4) := by decide +kernel
theorem kd_310_372 : zt_cal zq_T 310 372 = some (0, 151, 0, 1) := by decide +kernel
theorem kd_310_376 : zt_cal zq_T 310 376 = some (0, 152, 1, 1) := by decide +kernel
theorem kd_311_379 : zt_cal zq_T 311 379 = some (0, 155, 1, 1) := by decide +kernel
theorem kd_312_136 : zt_cal zq_T 312 136 = some (0, 291, 1, 11) := by decide +kernel
theorem kd_312_388 : zt_cal zq_T 312 388 = some (0, 314, 1, 11) := by decide +kernel
theorem kd_313_136 : zt_cal zq_T 313 136 = some (0, 291, 1, 11) := by decide +kernel
theorem kd_313_388 : zt_cal zq_T 313 388 = some (0, 314, 1, 11) := by decide +kernel
theorem kd_314_115 : zt_cal zq_T 314 115 = some (0, 162, 1, 2) := by decide +kernel
theorem kd_314_119 : zt_cal zq_T 314 119 = some (0, 274, 1, 9) := by decide +kernel
theorem kd_314_122 : zt_cal zq_T 314 122 = some (0, 290, 0, 11) := by decide +kernel
theorem kd_314_170 : zt_cal zq_T 314 170 = some (1, 292, 1, 0) := by decide +kernel
theorem kd_315_372 : zt_cal zq_T 315 372 = some (0, 151, 0, 1) := by decide +kernel
theorem kd_315_392 : zt_cal zq_T 315 392 = some (0, 200, 0, 6) := by decide +kernel
theorem kd_315_395 : zt_cal zq_T 315 395 = some (0, 201, 0, 6) := by decide +kernel
theorem kd_315_398 : zt_cal zq_T 315 398 = some (0, 153, 0, 1) := by decide +kernel
theorem kd_315_401 : zt_cal zq_T 315 401 = some (0, 154, 0, 1) := by decide +kernel
theorem nd_198_9 : zt_neu zq_T 198 9 = some (5, 17) := by decide +kernel
theorem nd_206_22 : zt_neu zq_T 206 22 = some (3, 16) := by decide +kernel
theorem nd_222_24 : zt_neu zq_T 222 24 = some (5, 17) := by decide +kernel
theorem nd_241_9 : zt_neu zq_T 241 9 = some (5, 17) := by decide +kernel
theorem nd_282_17 : zt_neu zq_T 282 17 = some (6, 9) := by decide +kernel
theorem nd_282_27 : zt_neu zq_T 282 27 = some (1, 14) := by decide +kernel
theorem nd_282_37 : zt_neu zq_T 282 37 = some (2, 1) := by decide +kernel
theorem nd_282_44 : zt_neu zq_T 282 44 = some (9, 7) := by decide +kernel
theorem nd_282_51 : zt_neu zq_T 282 51 = some (7, 5) := by decide +kernel
theorem nd_282_58 : zt_neu zq_T 282 58 = some (10, 12) := by decide +kernel
theorem nd_282_68 : zt_neu zq_T 282 68 = some (8, 8) := by decide +kernel
theorem nd_282_75 : zt_neu zq_T 282 75 = some (4, 17) := by decide +kernel
theorem nd_282_82 : zt_neu zq_T 282 82 = some (0, 13) := by decide +kernel
theorem ad_192_19 : zt_anw zq_T 192 19 = some 24 := by decide +kernel
theorem ad_198_9 : zt_anw zq_T 198 9 = some 25 := by decide +kernel
theorem ad_198_22 : zt_anw zq_T 198 22 = some 24 := by decide +kernel
theorem ad_222_18 : zt_anw zq_T 222 18 = some 24 := by decide +kernel
theorem od_24_202 : zt_con zq_T 24 202 = some (1, 0, 0, 12) := by decide +kernel
theorem od_74_360 : zt_con zq_T 74 360 = some (1, 0, 0, 5) := by decide +kernel
theorem od_74_366 : zt_con zq_T 74 366 = some (0, 0, -1000000, 0) := by decide +kernel
theorem od_78_370 : zt_con zq_T 78 370 = some (1, 0, 0, 10) := by decide +kernel
theorem od_85_387 : zt_con zq_T 85 387 = some (1, 0, 0, 6) := by decide +kernel
theorem od_86_402 : zt_con zq_T 86 402 = some (1, 0, 0, 4) := by decide +kernel
theorem od_87_402 : zt_con zq_T 87 402 = some (1, 0, 0, 4) := by decide +kernel
theorem od_102_402 : zt_con zq_T 102 402 = some (1, 0, 0, 4) := by decide +kernel
theorem od_106_366 : zt_con zq_T 106 366 = some (0, 0, -1000000, 0) := by decide +kernel
theorem od_107_366 : zt_con zq_T 107 366 = some (0, 0, -1000000, 0) := by decide +kernel
theorem od_108_366 : zt_con zq_T 108 366 = some (0, 0, -1000000, 0) := by decide +kernel
theorem od_111_497 : zt_con zq_T 111 497 = some (1, 0, 0, 2) := by decide +kernel
theorem od_117_521 : zt_con zq_T 117 521 = some (1, 0, 0, 7) := by decide +kernel
theorem od_124_545 : zt_con zq_T 124 545 = some (2, 7, 0, 0) := by decide +kernel
theorem od_124_554 : zt_con zq_T 124 554 = some (2, 8, 0, 0) := by decide +kernel
theorem od_124_556 : zt_con zq_T 124 556 = some (2, 9, 0, 0) := by decide +kernel
theorem od_124_558 : zt_con zq_T 124 558 = some (2, 10, 0, 0) := by decide +kernel
theorem od_124_560 : zt_con zq_T 124 560 = some (2, 11, 0, 0) := by decide +kernel
theorem od_126_202 : zt_con zq_T 126 202 = some (1, 0, 0, 12) := by decide +kernel
theorem od_127_565 : zt_con zq_T 127 565 = some (1, 0, 0, 25) := by decide +kernel
theorem od_155_120 : zt_con zq_T 155 120 = some (2, 0, 0, 0) := by decide +kernel
theorem od_155_128 : zt_con zq_T 155 128 = some (2, 1, 0, 0) := by decide +kernel
theorem od_155_130 : zt_con zq_T 155 130 = some (2, 2, 0, 0) := by decide +kernel
theorem od_155_132 : zt_con zq_T 155 132 = some (2, 3, 0, 0) := by decide +kernel
theorem od_156_128 : zt_con zq_T 156 128 = some (2, 1, 0, 0) := by decide +kernel
theorem od_156_137 : zt_con zq_T 156 137 = some (2, 4, 0, 0) := by decide +kernel
theorem od_195_59 : zt_con zq_T 195 59 = some (0, 0, 65535, 0) := by decide +kernel
theorem od_237_127 : zt_con zq_T 237 127 = some (1, 0, 0, 65535) := by decide +kernel
theorem od_238_127 : zt_con zq_T 238 127 = some (1, 0, 0, 65535) := by decide +kernel
theorem od_238_140 : zt_con zq_T 238 140 = some (1, 0, 0, -1) := by decide +kernel
theorem od_243_55 : zt_con zq_T 243 55 = some (0, 0, 65536, 0) := by decide +kernel
theorem od_243_80 : zt_con zq_T 243 80 = some (0, 0, -65537, 0) := by decide +kernel
theorem od_245_55 : zt_con zq_T 245 55 = some (0, 0, 65536, 0) := by decide +kernel
theorem od_246_55 : zt_con zq_T 246 55 = some (0, 0, 65536, 0) := by decide +kernel
theorem od_247_55 : zt_con zq_T 247 55 = some (0, 0, 65536, 0) := by decide +kernel
theorem od_250_55 : zt_con zq_T 250 55 = some (0, 0, 65536, 0) := by decide +kernel
theorem od_251_80 : zt_con zq_T 251 80 = some (0, 0, -65537, 0) := by decide +kernel
theorem od_251_112 : zt_con zq_T 251 112 = some (0, 0, 65535, 0) := by decide +kernel
theorem od_298_260 : zt_con zq_T 298 260 = some (0, 0, -1000000, 0) := by decide +kernel
theorem od_305_260 : zt_con zq_T 305 260 = some (0, 0, -1000000, 0) := by decide +kernel
theorem od_306_260 : zt_con zq_T 306 260 = some (0, 0, -1000000, 0) := by decide +kernel
theorem od_307_260 : zt_con zq_T 307 260 = some (0, 0, -1000000, 0) := by decide +kernel
theorem cd_0_0 : zt_code zq_T 0 0 = some (.aload_n 0, 1, 0) := by decide +kernel
theorem cd_0_1 : zt_code zq_T 0 1 = some (.invokespecial 3, 3, 0) := by decide +kernel
theorem cd_0_4 : zt_code zq_T 0 4 = some (.aload_n 0, 1, 0) := by decide +kernel
theorem cd_0_5 : zt_code zq_T 0 5 = some (.sipush (400), 3, 0) := by decide +kernel
theorem cd_0_8 : zt_code zq_T 0 8 = some (.newarray .byte, 2, 22) := by decide +kernel
theorem cd_0_10 : zt_code zq_T 0 10 = some (.putfield 9, 3, 0) := by decide +kernel
theorem cd_0_13 : zt_code zq_T 0 13 = some (.aload_n 0, 1, 0) := by decide +kernel
theorem cd_0_14 : zt_code zq_T 0 14 = some (.sipush (7200), 3, 0) := by decide +kernel
theorem cd_0_17 : zt_code zq_T 0 17 = some (.newarray .int, 2, 20) := by decide +kernel
theorem cd_0_19 : zt_code zq_T 0 19 = some (.putfield 13, 3, 0) := by decide +kernel
theorem cd_0_22 : zt_code zq_T 0 22 = some (.aload_n 0, 1, 0) := by decide +kernel
theorem cd_0_23 : zt_code zq_T 0 23 = some (.sipush (7200), 3, 0) := by decide +kernel
theorem cd_0_26 : zt_code zq_T 0 26 = some (.newarray .int, 2, 20) := by decide +kernel
theorem cd_0_28 : zt_code zq_T 0 28 = some (.putfield 17, 3, 0) := by decide +kernel
theorem cd_0_31 : zt_code zq_T 0 31 = some (.aload_n 0, 1, 0) := by decide +kernel
theorem cd_0_32 : zt_code zq_T 0 32 = some (.bipush (40), 2, 0) := by decide +kernel
theorem cd_0_34 : zt_code zq_T 0 34 = some (.newarray .int, 2, 20) := by decide +kernel
theorem cd_0_36 : zt_code zq_T 0 36 = some (.putfield 20, 3, 0) := by decide +kernel
theorem cd_0_39 : zt_code zq_T 0 39 = some (.aload_n 0, 1, 0) := by decide +kernel
theorem cd_0_40 : zt_code zq_T 0 40 = some (.bipush (40), 2, 0) := by decide +kernel
theorem cd_0_42 : zt_code zq_T 0 42 = some (.newarray .int, 2, 20) := by decide +kernel
theorem cd_0_44 : zt_code zq_T 0 44 = some (.putfield 23, 3, 0) := by decide +kernel
theorem cd_0_47 : zt_code zq_T 0 47 = some (.aload_n 0, 1, 0) := by decide +kernel
theorem cd_0_48 : zt_code zq_T 0 48 = some (.sipush (192), 3, 0) := by decide +kernel
theorem cd_0_51 : zt_code zq_T 0 51 = some (.newarray .int, 2, 20) := by decide +kernel
theorem cd_0_53 : zt_code zq_T 0 53 = some (.putfield 26, 3, 0) := by decide +kernel
theorem cd_0_56 : zt_code zq_T 0 56 = some (.aload_n 0, 1, 0) := by decide +kernel
theorem cd_0_57 : zt_code zq_T 0 57 = some (.sipush (192), 3, 0) := by decide +kernel
theorem cd_0_60 : zt_code zq_T 0 60 = some (.newarray .int, 2, 20) := by decide +kernel
theorem cd_0_62 : zt_code zq_T 0 62 = some (.putfield 29, 3, 0) := by decide +kernel
theorem cd_0_65 : zt_code zq_T 0 65 = some (.aload_n 0, 1, 0) := by decide +kernel
theorem cd_0_66 : zt_code zq_T 0 66 = some (.sipush (256), 3, 0) := by decide +kernel
theorem cd_0_69 : zt_code zq_T 0 69 = some (.newarray .int, 2, 20) := by decide +kernel
theorem cd_0_71 : zt_code zq_T 0 71 = some (.putfield 32, 3, 0) := by decide +kernel
theorem cd_0_74 : zt_code zq_T 0 74 = some (.aload_n 0, 1, 0) := by decide +kernel
theorem cd_0_75 : zt_code zq_T 0 75 = some (.sipush (256), 3, 0) := by decide +kernel
theorem cd_0_78 : zt_code zq_T 0 78 = some (.newarray .int, 2, 20) := by decide +kernel
theorem cd_0_80 : zt_code zq_T 0 80 = some (.putfield 35, 3, 0) := by decide +kernel
theorem cd_0_83 : zt_code zq_T 0 83 = some (.aload_n 0, 1, 0) := by decide +kernel
theorem cd_0_84 : zt_code zq_T 0 84 = some (.bipush (32), 2, 0) := by decide +kernel
theorem cd_0_86 : zt_code zq_T 0 86 = some (.newarray .int, 2, 20) := by decide +kernel
theorem cd_0_88 : zt_code zq_T 0 88 = some (.putfield 38, 3, 0) := by decide +kernel
theorem cd_0_91 : zt_code zq_T 0 91 = some (.aload_n 0, 1, 0) := by decide +kernel
theorem cd_0_92 : zt_code zq_T 0 92 = some (.bipush (32), 2, 0) := by decide +kernel
theorem cd_0_94 : zt_code zq_T 0 94 = some (.newarray .int, 2, 20) := by decide +kernel
theorem cd_0_96 : zt_code zq_T 0 96 = some (.putfield 41, 3, 0) := by decide +kernel
theorem cd_0_99 : zt_code zq_T 0 99 = some (.aload_n 0, 1, 0) := by decide +kernel
theorem cd_0_100 : zt_code zq_T 0 100 = some (.sipush (240), 3, 0) := by decide +kernel
theorem cd_0_103 : zt_code zq_T 0 103 = some (.newarray .int, 2, 20) := by decide +kernel
theorem cd_0_105 : zt_code zq_T 0 105 = some (.putfield 44, 3, 0) := by decide +kernel
theorem cd_0_108 : zt_code zq_T 0 108 = some (.aload_n 0, 1, 0) := by decide +kernel
theorem cd_0_109 : zt_code zq_T 0 109 = some (.sipush (240), 3, 0) := by decide +kernel
theorem cd_0_112 : zt_code zq_T 0 112 = some (.newarray .int, 2, 20) := by decide +kernel
theorem cd_0_114 : zt_code zq_T 0 114 = some (.putfield 47, 3, 0) := by decide +kernel
theorem cd_0_117 : zt_code zq_T 0 117 = some (.aload_n 0, 1, 0) := by decide +kernel
theorem cd_0_118 : zt_code zq_T 0 118 = some (.sipush (128), 3, 0) := by decide +kernel
theorem cd_0_121 : zt_code zq_T 0 121 = some (.newarray .int, 2, 20) := by decide +kernel
theorem cd_0_123 : zt_code zq_T 0 123 = some (.putfield 50, 3, 0) := by decide +kernel
theorem cd_0_126 : zt_code zq_T 0 126 = some (.aload_n 0, 1, 0) := by decide +kernel
theorem cd_0_127 : zt_code zq_T 0 127 = some (.sipush (128), 3, 0) := by decide +kernel
theorem cd_0_130 : zt_code zq_T 0 130 = some (.newarray .int, 2, 20) := by decide +kernel
theorem cd_0_132 : zt_code zq_T 0 132 = some (.putfield 53, 3, 0) := by decide +kernel
theorem cd_0_135 : zt_code zq_T 0 135 = some (.aload_n 0, 1, 0) := by decide +kernel
theorem cd_0_136 : zt_code zq_T 0 136 = some (.sipush (128), 3, 0) := by decide +kernel
theorem cd_0_139 : zt_code zq_T 0 139 = some (.newarray .int, 2, 20) := by decide +kernel
theorem cd_0_141 : zt_code zq_T 0 141 = some (.putfield 56, 3, 0) := by decide +kernel
theorem cd_0_144 : zt_code zq_T 0 144 = some (.aload_n 0, 1, 0) := by decide +kernel
theorem cd_0_145 : zt_code zq_T 0 145 = some (.sipush (128), 3, 0) := by decide +kernel
theorem cd_0_148 : zt_code zq_T 0 148 = some (.newarray .int, 2, 20) := by decide +kernel
theorem cd_0_150 : zt_code zq_T 0 150 = some (.putfield 59, 3, 0) := by decide +kernel
theorem cd_0_153 : zt_code zq_T 0 153 = some (.aload_n 0, 1, 0) := by decide +kernel
theorem cd_0_154 : zt_code zq_T 0 154 = some (.sipush (12000), 3, 0) := by decide +kernel
theorem cd_0_157 : zt_code zq_T 0 157 = some (.newarray .byte, 2, 22) := by decide +kernel
theorem cd_0_159 : zt_code zq_T 0 159 = some (.putfield 62, 3, 0) := by decide +kernel
theorem cd_0_162 : zt_code zq_T 0 162 = some (.aload_n 0, 1, 0) := by decide +kernel
theorem cd_0_163 : zt_code zq_T 0 163 = some (.sipush (320), 3, 0) := by decide +kernel
theorem cd_0_166 : zt_code zq_T 0 166 = some (.newarray .int, 2, 20) := by decide +kernel
theorem cd_0_168 : zt_code zq_T 0 168 = some (.putfield 65, 3, 0) := by decide +kernel
theorem cd_0_171 : zt_code zq_T 0 171 = some (.aload_n 0, 1, 0) := by decide +kernel
theorem cd_0_172 : zt_code zq_T 0 172 = some (.sipush (320), 3, 0) := by decide +kernel
theorem cd_0_175 : zt_code zq_T 0 175 = some (.newarray .int, 2, 20) := by decide +kernel
theorem cd_0_177 : zt_code zq_T 0 177 = some (.putfield 68, 3, 0) := by decide +kernel
theorem cd_0_180 : zt_code zq_T 0 180 = some (.aload_n 0, 1, 0) := by decide +kernel
theorem cd_0_181 : zt_code zq_T 0 181 = some (.iconst (-1), 1, 0) := by decide +kernel
theorem cd_0_182 : zt_code zq_T 0 182 = some (.putfield 71, 3, 0) := by decide +kernel
theorem cd_0_185 : zt_code zq_T 0 185 = some (.aload_n 0, 1, 0) := by decide +kernel
theorem cd_0_186 : zt_code zq_T 0 186 = some (.bipush (7), 2, 0) := by decide +kernel
theorem cd_0_188 : zt_code zq_T 0 188 = some (.newarray .int, 2, 20) := by decide +kernel
theorem cd_0_190 : zt_code zq_T 0 190 = some (.putfield 75, 3, 0) := by decide +kernel
theorem cd_0_193 : zt_code zq_T 0 193 = some (.aload_n 0, 1, 0) := by decide +kernel
theorem cd_0_194 : zt_code zq_T 0 194 = some (.sipush (12000), 3, 0) := by decide +kernel
theorem cd_0_197 : zt_code zq_T 0 197 = some (.newarray .byte, 2, 22) := by decide +kernel
theorem cd_0_199 : zt_code zq_T 0 199 = some (.putfield 78, 3, 0) := by decide +kernel
theorem cd_0_202 : zt_code zq_T 0 202 = some (.aload_n 0, 1, 0) := by decide +kernel
theorem cd_0_203 : zt_code zq_T 0 203 = some (.sipush (208), 3, 0) := by decide +kernel
theorem cd_0_206 : zt_code zq_T 0 206 = some (.newarray .int, 2, 20) := by decide +kernel
theorem cd_0_208 : zt_code zq_T 0 208 = some (.putfield 81, 3, 0) := by decide +kernel
theorem cd_0_211 : zt_code zq_T 0 211 = some (.aload_n 0, 1, 0) := by decide +kernel
theorem cd_0_212 : zt_code zq_T 0 212 = some (.bipush (26), 2, 0) := by decide +kernel
theorem cd_0_214 : zt_code zq_T 0 214 = some (.newarray .int, 2, 20) := by decide +kernel
theorem cd_0_216 : zt_code zq_T 0 216 = some (.putfield 84, 3, 0) := by decide +kernel
theorem cd_0_219 : zt_code zq_T 0 219 = some (.aload_n 0, 1, 0) := by decide +kernel
theorem cd_0_220 : zt_code zq_T 0 220 = some (.bipush (26), 2, 0) := by decide +kernel
theorem cd_0_222 : zt_code zq_T 0 222 = some (.newarray .int, 2, 20) := by decide +kernel
theorem cd_0_224 : zt_code zq_T 0 224 = some (.putfield 87, 3, 0) := by decide +kernel
theorem cd_0_227 : zt_code zq_T 0 227 = some (.aload_n 0, 1, 0) := by decide +kernel
theorem cd_0_228 : zt_code zq_T 0 228 = some (.bipush (26), 2, 0) := by decide +kernel
theorem cd_0_230 : zt_code zq_T 0 230 = some (.newarray .int, 2, 20) := by decide +kernel
theorem cd_0_232 : zt_code zq_T 0 232 = some (.putfield 90, 3, 0) := by decide +kernel
theorem cd_0_235 : zt_code zq_T 0 235 = some (.aload_n 0, 1, 0) := by decide +kernel
theorem cd_0_236 : zt_code zq_T 0 236 = some (.bipush (24), 2, 0) := by decide +kernel
theorem cd_0_238 : zt_code zq_T 0 238 = some (.newarray .int, 2, 20) := by decide +kernel
theorem cd_0_240 : zt_code zq_T 0 240 = some (.putfield 93, 3, 0) := by decide +kernel
theorem cd_0_243 : zt_code zq_T 0 243 = some (.aload_n 0, 1, 0) := by decide +kernel
theorem cd_0_244 : zt_code zq_T 0 244 = some (.bipush (24), 2, 0) := by decide +kernel
theorem cd_0_246 : zt_code zq_T 0 246 = some (.newarray .int, 2, 20) := by decide +kernel
theorem cd_0_248 : zt_code zq_T 0 248 = some (.putfield 96, 3, 0) := by decide +kernel
theorem cd_0_251 : zt_code zq_T 0 251 = some (.aload_n 0, 1, 0) := by decide +kernel
theorem cd_0_252 : zt_code zq_T 0 252 = some (.bipush (24), 2, 0) := by decide +kernel
theorem cd_0_254 : zt_code zq_T 0 254 = some (.newarray .int, 2, 20) := by decide +kernel
theorem cd_0_256 : zt_code zq_T 0 256 = some (.putfield 99, 3, 0) := by decide +kernel
theorem cd_0_259 : zt_code zq_T 0 259 = some (.aload_n 0, 1, 0) := by decide +kernel
theorem cd_0_260 : zt_code zq_T 0 260 = some (.bipush (13), 2, 0) := by decide +kernel
theorem cd_0_262 : zt_code zq_T 0 262 = some (.newarray .int, 2, 20) := by decide +kernel
theorem cd_0_264 : zt_code zq_T 0 264 = some (.putfield 102, 3, 0) := by decide +kernel
theorem cd_0_267 : zt_code zq_T 0 267 = some (.aload_n 0, 1, 0) := by decide +kernel
theorem cd_0_268 : zt_code zq_T 0 268 = some (.bipush (26), 2, 0) := by decide +kernel
theorem cd_0_270 : zt_code zq_T 0 270 = some (.newarray .int, 2, 20) := by decide +kernel
theorem cd_0_272 : zt_code zq_T 0 272 = some (.putfield 105, 3, 0) := by decide +kernel
theorem cd_0_275 : zt_code zq_T 0 275 = some (.aload_n 0, 1, 0) := by decide +kernel
theorem cd_0_276 : zt_code zq_T 0 276 = some (.iconst 4, 1, 0) := by decide +kernel
theorem cd_0_277 : zt_code zq_T 0 277 = some (.newarray .int, 2, 20) := by decide +kernel
theorem cd_0_279 : zt_code zq_T 0 279 = some (.putfield 108, 3, 0) := by decide +kernel
theorem cd_0_282 : zt_code zq_T 0 282 = some (.aload_n 0, 1, 0) := by decide +kernel
theorem cd_0_283 : zt_code zq_T 0 283 = some (.sipush (300), 3, 0) := by decide +kernel
theorem cd_0_286 : zt_code zq_T 0 286 = some (.newarray .int, 2, 20) := by decide +kernel
theorem cd_0_288 : zt_code zq_T 0 288 = some (.putfield 111, 3, 0) := by decide +kernel
theorem cd_0_291 : zt_code zq_T 0 291 = some (.return_, 1, 0) := by decide +kernel
theorem cd_1_0 : zt_code zq_T 1 0 = some (.aload_n 0, 1, 0) := by decide +kernel
theorem cd_1_1 : zt_code zq_T 1 1 = some (.getfield 114, 3, 0) := by decide +kernel
theorem cd_1_4 : zt_code zq_T 1 4 = some (.ireturn, 1, 0) := by decide +kernel
theorem cd_2_0 : zt_code zq_T 2 0 = some (.lload_n 0, 1, 0) := by decide +kernel
theorem cd_2_1 : zt_code zq_T 2 1 = some (.lload_n 2, 1, 0) := by decide +kernel
theorem cd_2_2 : zt_code zq_T 2 2 = some (.lcmp, 1, 0) := by decide +kernel
theorem cd_2_3 : zt_code zq_T 2 3 = some (.ifCond .lt (14), 3, 0) := by decide +kernel
theorem cd_2_6 : zt_code zq_T 2 6 = some (.lload_n 0, 1, 0) := by decide +kernel
theorem cd_2_7 : zt_code zq_T 2 7 = some (.lload 4, 2, 0) := by decide +kernel
theorem cd_2_9 : zt_code zq_T 2 9 = some (.lcmp, 1, 0) := by decide +kernel
theorem cd_2_10 : zt_code zq_T 2 10 = some (.ifCond .gt (7), 3, 0) := by decide +kernel
theorem cd_2_13 : zt_code zq_T 2 13 = some (.iconst 1, 1, 0) := by decide +kernel
theorem cd_2_14 : zt_code zq_T 2 14 = some (.goto (4), 3, 0) := by decide +kernel
theorem cd_2_17 : zt_code zq_T 2 17 = some (.iconst 0, 1, 0) := by decide +kernel
theorem cd_2_18 : zt_code zq_T 2 18 = some (.ireturn, 1, 0) := by decide +kernel
theorem cd_3_0 : zt_code zq_T 3 0 = some (.iload_n 0, 1, 0) := by decide +kernel
theorem cd_3_1 : zt_code zq_T 3 1 = some (.iload_n 1, 1, 0) := by decide +kernel
theorem cd_3_2 : zt_code zq_T 3 2 = some (.ishr, 1, 0) := by decide +kernel
theorem cd_3_3 : zt_code zq_T 3 3 = some (.iconst 1, 1, 0) := by decide +kernel
theorem cd_3_4 : zt_code zq_T 3 4 = some (.iand, 1, 0) := by decide +kernel
theorem cd_3_5 : zt_code zq_T 3 5 = some (.iconst 1, 1, 0) := by decide +kernel
theorem cd_3_6 : zt_code zq_T 3 6 = some (.if_icmp .ne (7), 3, 0) := by decide +kernel
theorem cd_3_9 : zt_code zq_T 3 9 = some (.iconst 1, 1, 0) := by decide +kernel
theorem cd_3_10 : zt_code zq_T 3 10 = some (.goto (4), 3, 0) := by decide +kernel
theorem cd_3_13 : zt_code zq_T 3 13 = some (.iconst 0, 1, 0) := by decide +kernel
theorem cd_3_14 : zt_code zq_T 3 14 = some (.ireturn, 1, 0) := by decide +kernel
theorem cd_4_0 : zt_code zq_T 4 0 = some (.iconst 0, 1, 0) := by decide +kernel
theorem cd_4_1 : zt_code zq_T 4 1 = some (.istore_n 1, 1, 0) := by decide +kernel
theorem cd_4_2 : zt_code zq_T 4 2 = some (.iconst 0, 1, 0) := by decide +kernel
theorem cd_4_3 : zt_code zq_T 4 3 = some (.istore_n 2, 1, 0) := by decide +kernel
theorem cd_4_4 : zt_code zq_T 4 4 = some (.iload_n 2, 1, 0) := by decide +kernel
theorem cd_4_5 : zt_code zq_T 4 5 = some (.iconst 4, 1, 0) := by decide +kernel
theorem cd_4_6 : zt_code zq_T 4 6 = some (.if_icmp .ge (30), 3, 0) := by decide +kernel
theorem cd_4_9 : zt_code zq_T 4 9 = some (.iload_n 1, 1, 0) := by decide +kernel
theorem cd_4_10 : zt_code zq_T 4 10 = some (.iload_n 0, 1, 0) := by decide +kernel
theorem cd_4_11 : zt_code zq_T 4 11 = some (.bipush (8), 2, 0) := by decide +kernel
theorem cd_4_13 : zt_code zq_T 4 13 = some (.iload_n 2, 1, 0) := by decide +kernel
theorem cd_4_14 : zt_code zq_T 4 14 = some (.imul, 1, 0) := by decide +kernel
theorem cd_4_15 : zt_code zq_T 4 15 = some (.ishr, 1, 0) := by decide +kernel
theorem cd_4_16 : zt_code zq_T 4 16 = some (.sipush (255), 3, 0) := by decide +kernel
theorem cd_4_19 : zt_code zq_T 4 19 = some (.iand, 1, 0) := by decide +kernel
theorem cd_4_20 : zt_code zq_T 4 20 = some (.ifCond .ne (7), 3, 0) := by decide +kernel
theorem cd_4_23 : zt_code zq_T 4 23 = some (.iconst 0, 1, 0) := by decide +kernel
theorem cd_4_24 : zt_code zq_T 4 24 = some (.goto (4), 3, 0) := by decide +kernel
theorem cd_4_27 : zt_code zq_T 4 27 = some (.iconst 1, 1, 0) := by decide +kernel
theorem cd_4_28 : zt_code zq_T 4 28 = some (.iadd, 1, 0) := by decide +kernel
theorem cd_4_29 : zt_code zq_T 4 29 = some (.istore_n 1, 1, 0) := by decide +kernel
theorem cd_4_30 : zt_code zq_T 4 30 = some (.iinc 2 (1), 3, 0) := by decide +kernel
theorem cd_4_33 : zt_code zq_T 4 33 = some (.goto (-29), 3, 0) := by decide +kernel
theorem cd_4_36 : zt_code zq_T 4 36 = some (.iload_n 1, 1, 0) := by decide +kernel
theorem cd_4_37 : zt_code zq_T 4 37 = some (.ireturn, 1, 0) := by decide +kernel
theorem cd_5_0 : zt_code zq_T 5 0 = some (.bipush (24), 2, 0) := by decide +kernel
theorem cd_5_2 : zt_code zq_T 5 2 = some (.istore_n 2, 1, 0) := by decide +kernel
theorem cd_5_3 : zt_code zq_T 5 3 = some (.iload_n 2, 1, 0) := by decide +kernel
theorem cd_5_4 : zt_code zq_T 5 4 = some (.ifCond .lt (45), 3, 0) := by decide +kernel
theorem cd_5_7 : zt_code zq_T 5 7 = some (.iload_n 1, 1, 0) := by decide +kernel
theorem cd_5_8 : zt_code zq_T 5 8 = some (.iload_n 2, 1, 0) := by decide +kernel
theorem cd_5_9 : zt_code zq_T 5 9 = some (.ishr, 1, 0) := by decide +kernel
theorem cd_5_10 : zt_code zq_T 5 10 = some (.sipush (255), 3, 0) := by decide +kernel
theorem cd_5_13 : zt_code zq_T 5 13 = some (.iand, 1, 0) := by decide +kernel
theorem cd_5_14 : zt_code zq_T 5 14 = some (.istore_n 3, 1, 0) := by decide +kernel
theorem cd_5_15 : zt_code zq_T 5 15 = some (.iload_n 3, 1, 0) := by decide +kernel
theorem cd_5_16 : zt_code zq_T 5 16 = some (.ifCond .ne (6), 3, 0) := by decide +kernel
theorem cd_5_19 : zt_code zq_T 5 19 = some (.goto (24), 3, 0) := by decide +kernel
theorem cd_5_22 : zt_code zq_T 5 22 = some (.aload_n 0, 1, 0) := by decide +kernel
theorem cd_5_23 : zt_code zq_T 5 23 = some (.getfield 9, 3, 0) := by decide +kernel
theorem cd_5_26 : zt_code zq_T 5 26 = some (.aload_n 0, 1, 0) := by decide +kernel
theorem cd_5_27 : zt_code zq_T 5 27 = some (.getfield 117, 3, 0) := by decide +kernel
theorem cd_5_30 : zt_code zq_T 5 30 = some (.iload_n 3, 1, 0) := by decide +kernel
theorem cd_5_31 : zt_code zq_T 5 31 = some (.i2b, 1, 0) := by decide +kernel
theorem cd_5_32 : zt_code zq_T 5 32 = some (.bastore, 1, 0) := by decide +kernel
theorem cd_5_33 : zt_code zq_T 5 33 = some (.aload_n 0, 1, 0) := by decide +kernel
theorem cd_5_34 : zt_code zq_T 5 34 = some (.dup, 1, 0) := by decide +kernel
theorem cd_5_35 : zt_code zq_T 5 35 = some (.getfield 117, 3, 0) := by decide +kernel
theorem cd_5_38 : zt_code zq_T 5 38 = some (.iconst 1, 1, 0) := by decide +kernel
theorem cd_5_39 : zt_code zq_T 5 39 = some (.iadd, 1, 0) := by decide +kernel
theorem cd_5_40 : zt_code zq_T 5 40 = some (.putfield 117, 3, 0) := by decide +kernel
theorem cd_5_43 : zt_code zq_T 5 43 = some (.iinc 2 (-8), 3, 0) := by decide +kernel
theorem cd_5_46 : zt_code zq_T 5 46 = some (.goto (-43), 3, 0) := by decide +kernel
theorem cd_5_49 : zt_code zq_T 5 49 = some (.return_, 1, 0) := by decide +kernel
theorem cd_6_0 : zt_code zq_T 6 0 = some (.aload_n 0, 1, 0) := by decide +kernel
theorem cd_6_1 : zt_code zq_T 6 1 = some (.iconst 0, 1, 0) := by decide +kernel
theorem cd_6_2 : zt_code zq_T 6 2 = some (.putfield 114, 3, 0) := by decide +kernel
theorem cd_6_5 : zt_code zq_T 6 5 = some (.aload_n 0, 1, 0) := by decide +kernel
theorem cd_6_6 : zt_code zq_T 6 6 = some (.getfield 117, 3, 0) := by decide +kernel
theorem cd_6_9 : zt_code zq_T 6 9 = some (.iload_n 1, 1, 0) := by decide +kernel
theorem cd_6_10 : zt_code zq_T 6 10 = some (.invokestatic 120, 3, 0) := by decide +kernel
theorem cd_6_13 : zt_code zq_T 6 13 = some (.iadd, 1, 0) := by decide +kernel
theorem cd_6_14 : zt_code zq_T 6 14 = some (.iload_n 2, 1, 0) := by decide +kernel
theorem cd_6_15 : zt_code zq_T 6 15 = some (.invokestatic 120, 3, 0) := by decide +kernel
theorem cd_6_18 : zt_code zq_T 6 18 = some (.iadd, 1, 0) := by decide +kernel
theorem cd_6_19 : zt_code zq_T 6 19 = some (.iload_n 3, 1, 0) := by decide +kernel
theorem cd_6_20 : zt_code zq_T 6 20 = some (.invokestatic 120, 3, 0) := by decide +kernel
theorem cd_6_23 : zt_code zq_T 6 23 = some (.iadd, 1, 0) := by decide +kernel
theorem cd_6_24 : zt_code zq_T 6 24 = some (.iload 4, 2, 0) := by decide +kernel
theorem cd_6_26 : zt_code zq_T 6 26 = some (.invokestatic 120, 3, 0) := by decide +kernel
theorem cd_6_29 : zt_code zq_T 6 29 = some (.iadd, 1, 0) := by decide +kernel
theorem cd_6_30 : zt_code zq_T 6 30 = some (.iload 5, 2, 0) := by decide +kernel
theorem cd_6_32 : zt_code zq_T 6 32 = some (.invokestatic 120, 3, 0) := by decide +kernel
theorem cd_6_35 : zt_code zq_T 6 35 = some (.iadd, 1, 0) := by decide +kernel
theorem cd_6_36 : zt_code zq_T 6 36 = some (.sipush (400), 3, 0) := by decide +kernel
theorem cd_6_39 : zt_code zq_T 6 39 = some (.if_icmp .le (5), 3, 0) := by decide +kernel
theorem cd_6_42 : zt_code zq_T 6 42 = some (.iconst (-1), 1, 0) := by decide +kernel
theorem cd_6_43 : zt_code zq_T 6 43 = some (.ireturn, 1, 0) := by decide +kernel
theorem cd_6_44 : zt_code zq_T 6 44 = some (.aload_n 0, 1, 0) := by decide +kernel
theorem cd_6_45 : zt_code zq_T 6 45 = some (.iload_n 1, 1, 0) := by decide +kernel
theorem cd_6_46 : zt_code zq_T 6 46 = some (.invokevirtual 124, 3, 0) := by decide +kernel
theorem cd_6_49 : zt_code zq_T 6 49 = some (.aload_n 0, 1, 0) := by decide +kernel
theorem cd_6_50 : zt_code zq_T 6 50 = some (.iload_n 2, 1, 0) := by decide +kernel
theorem cd_6_51 : zt_code zq_T 6 51 = some (.invokevirtual 124, 3, 0) := by decide +kernel
theorem cd_6_54 : zt_code zq_T 6 54 = some (.aload_n 0, 1, 0) := by decide +kernel
theorem cd_6_55 : zt_code zq_T 6 55 = some (.iload_n 3, 1, 0) := by decide +kernel
theorem cd_6_56 : zt_code zq_T 6 56 = some (.invokevirtual 124, 3, 0) := by decide +kernel
theorem cd_6_59 : zt_code zq_T 6 59 = some (.aload_n 0, 1, 0) := by decide +kernel
theorem cd_6_60 : zt_code zq_T 6 60 = some (.iload 4, 2, 0) := by decide +kernel
theorem cd_6_62 : zt_code zq_T 6 62 = some (.invokevirtual 124, 3, 0) := by decide +kernel
theorem cd_6_65 : zt_code zq_T 6 65 = some (.aload_n 0, 1, 0) := by decide +kernel
theorem cd_6_66 : zt_code zq_T 6 66 = some (.iload 5, 2, 0) := by decide +kernel
theorem cd_6_68 : zt_code zq_T 6 68 = some (.invokevirtual 124, 3, 0) := by decide +kernel
theorem cd_6_71 : zt_code zq_T 6 71 = some (.aload_n 0, 1, 0) := by decide +kernel
theorem cd_6_72 : zt_code zq_T 6 72 = some (.getfield 117, 3, 0) := by decide +kernel
theorem cd_6_75 : zt_code zq_T 6 75 = some (.ireturn, 1, 0) := by decide +kernel
theorem cd_7_0 : zt_code zq_T 7 0 = some (.aload_n 0, 1, 0) := by decide +kernel
theorem cd_7_1 : zt_code zq_T 7 1 = some (.iconst 0, 1, 0) := by decide +kernel
theorem cd_7_2 : zt_code zq_T 7 2 = some (.putfield 114, 3, 0) := by decide +kernel
theorem cd_7_5 : zt_code zq_T 7 5 = some (.iload_n 1, 1, 0) := by decide +kernel
theorem cd_7_6 : zt_code zq_T 7 6 = some (.ifCond .lt (11), 3, 0) := by decide +kernel
theorem cd_7_9 : zt_code zq_T 7 9 = some (.iload_n 1, 1, 0) := by decide +kernel
theorem cd_7_10 : zt_code zq_T 7 10 = some (.aload_n 0, 1, 0) := by decide +kernel
theorem cd_7_11 : zt_code zq_T 7 11 = some (.getfield 117, 3, 0) := by decide +kernel
theorem cd_7_14 : zt_code zq_T 7 14 = some (.if_icmp .le (5), 3, 0) := by decide +kernel
theorem cd_7_17 : zt_code zq_T 7 17 = some (.iconst 0, 1, 0) := by decide +kernel
theorem cd_7_18 : zt_code zq_T 7 18 = some (.ireturn, 1, 0) := by decide +kernel
theorem cd_7_19 : zt_code zq_T 7 19 = some (.aload_n 0, 1, 0) := by decide +kernel
theorem cd_7_20 : zt_code zq_T 7 20 = some (.iload_n 1, 1, 0) := by decide +kernel
theorem cd_7_21 : zt_code zq_T 7 21 = some (.putfield 117, 3, 0) := by decide +kernel
theorem cd_7_24 : zt_code zq_T 7 24 = some (.iconst 1, 1, 0) := by decide +kernel
theorem cd_7_25 : zt_code zq_T 7 25 = some (.ireturn, 1, 0) := by decide +kernel
theorem cd_8_0 : zt_code zq_T 8 0 = some (.aload_n 0, 1, 0) := by decide +kernel
theorem cd_8_1 : zt_code zq_T 8 1 = some (.getfield 128, 3, 0) := by decide +kernel
theorem cd_8_4 : zt_code zq_T 8 4 = some (.aload_n 0, 1, 0) := by decide +kernel
theorem cd_8_5 : zt_code zq_T 8 5 = some (.getfield 117, 3, 0) := by decide +kernel
theorem cd_8_8 : zt_code zq_T 8 8 = some (.if_icmp .ge (19), 3, 0) := by decide +kernel
theorem cd_8_11 : zt_code zq_T 8 11 = some (.aload_n 0, 1, 0) := by decide +kernel
theorem cd_8_12 : zt_code zq_T 8 12 = some (.getfield 9, 3, 0) := by decide +kernel
theorem cd_8_15 : zt_code zq_T 8 15 = some (.aload_n 0, 1, 0) := by decide +kernel
theorem cd_8_16 : zt_code zq_T 8 16 = some (.getfield 128, 3, 0) := by decide +kernel
theorem cd_8_19 : zt_code zq_T 8 19 = some (.baload, 1, 0) := by decide +kernel
theorem cd_8_20 : zt_code zq_T 8 20 = some (.sipush (255), 3, 0) := by decide +kernel
theorem cd_8_23 : zt_code zq_T 8 23 = some (.iand, 1, 0) := by decide +kernel
theorem cd_8_24 : zt_code zq_T 8 24 = some (.goto (4), 3, 0) := by decide +kernel
theorem cd_8_27 : zt_code zq_T 8 27 = some (.iconst (-1), 1, 0) := by decide +kernel
theorem cd_8_28 : zt_code zq_T 8 28 = some (.ireturn, 1, 0) := by decide +kernel
theorem cd_9_0 : zt_code zq_T 9 0 = some (.aload_n 0, 1, 0) := by decide +kernel
theorem cd_9_1 : zt_code zq_T 9 1 = some (.invokevirtual 131, 3, 0) := by decide +kernel
theorem cd_9_4 : zt_code zq_T 9 4 = some (.bipush (32), 2, 0) := by decide +kernel
theorem cd_9_6 : zt_code zq_T 9 6 = some (.if_icmp .ne (16), 3, 0) := by decide +kernel
theorem cd_9_9 : zt_code zq_T 9 9 = some (.aload_n 0, 1, 0) := by decide +kernel
theorem cd_9_10 : zt_code zq_T 9 10 = some (.dup, 1, 0) := by decide +kernel
theorem cd_9_11 : zt_code zq_T 9 11 = some (.getfield 128, 3, 0) := by decide +kernel
theorem cd_9_14 : zt_code zq_T 9 14 = some (.iconst 1, 1, 0) := by decide +kernel
theorem cd_9_15 : zt_code zq_T 9 15 = some (.iadd, 1, 0) := by decide +kernel
theorem cd_9_16 : zt_code zq_T 9 16 = some (.putfield 128, 3, 0) := by decide +kernel
theorem cd_9_19 : zt_code zq_T 9 19 = some (.goto (-19), 3, 0) := by decide +kernel
theorem cd_9_22 : zt_code zq_T 9 22 = some (.aload_n 0, 1, 0) := by decide +kernel
theorem cd_9_23 : zt_code zq_T 9 23 = some (.invokevirtual 131, 3, 0) := by decide +kernel
theorem cd_9_26 : zt_code zq_T 9 26 = some (.ireturn, 1, 0) := by decide +kernel
theorem cd_10_0 : zt_code zq_T 10 0 = some (.aload_n 0, 1, 0) := by decide +kernel
theorem cd_10_1 : zt_code zq_T 10 1 = some (.getfield 135, 3, 0) := by decide +kernel
theorem cd_10_4 : zt_code zq_T 10 4 = some (.iconst (-1), 1, 0) := by decide +kernel
theorem cd_10_5 : zt_code zq_T 10 5 = some (.if_icmp .ne (8), 3, 0) := by decide +kernel
theorem cd_10_8 : zt_code zq_T 10 8 = some (.aload_n 0, 1, 0) := by decide +kernel
theorem cd_10_9 : zt_code zq_T 10 9 = some (.iload_n 1, 1, 0) := by decide +kernel
theorem cd_10_10 : zt_code zq_T 10 10 = some (.putfield 135, 3, 0) := by decide +kernel
theorem cd_10_13 : zt_code zq_T 10 13 = some (.return_, 1, 0) := by decide +kernel
theorem cd_11_0 : zt_code zq_T 11 0 = some (.aload_n 0, 1, 0) := by decide +kernel
theorem cd_11_1 : zt_code zq_T 11 1 = some (.getfield 135, 3, 0) := by decide +kernel
theorem cd_11_4 : zt_code zq_T 11 4 = some (.iconst (-1), 1, 0) := by decide +kernel
theorem cd_11_5 : zt_code zq_T 11 5 = some (.if_icmp .ne (7), 3, 0) := by decide +kernel
theorem cd_11_8 : zt_code zq_T 11 8 = some (.iconst 1, 1, 0) := by decide +kernel
theorem cd_11_9 : zt_code zq_T 11 9 = some (.goto (4), 3, 0) := by decide +kernel
theorem cd_11_12 : zt_code zq_T 11 12 = some (.iconst 0, 1, 0) := by decide +kernel
theorem cd_11_13 : zt_code zq_T 11 13 = some (.ireturn, 1, 0) := by decide +kernel
theorem cd_12_0 : zt_code zq_T 12 0 = some (.aload_n 0, 1, 0) := by decide +kernel
theorem cd_12_1 : zt_code zq_T 12 1 = some (.invokevirtual 138, 3, 0) := by decide +kernel
theorem cd_12_4 : zt_code zq_T 12 4 = some (.iload_n 1, 1, 0) := by decide +kernel
theorem cd_12_5 : zt_code zq_T 12 5 = some (.if_icmp .eq (5), 3, 0) := by decide +kernel
theorem cd_12_8 : zt_code zq_T 12 8 = some (.iconst 0, 1, 0) := by decide +kernel
theorem cd_12_9 : zt_code zq_T 12 9 = some (.ireturn, 1, 0) := by decide +kernel
theorem cd_12_10 : zt_code zq_T 12 10 = some (.aload_n 0, 1, 0) := by decide +kernel
theorem cd_12_11 : zt_code zq_T 12 11 = some (.dup, 1, 0) := by decide +kernel
theorem cd_12_12 : zt_code zq_T 12 12 = some (.getfield 128, 3, 0) := by decide +kernel
theorem cd_12_15 : zt_code zq_T 12 15 = some (.iconst 1, 1, 0) := by decide +kernel
theorem cd_12_16 : zt_code zq_T 12 16 = some (.iadd, 1, 0) := by decide +kernel
theorem cd_12_17 : zt_code zq_T 12 17 = some (.putfield 128, 3, 0) := by decide +kernel
theorem cd_12_20 : zt_code zq_T 12 20 = some (.iconst 1, 1, 0) := by decide +kernel
theorem cd_12_21 : zt_code zq_T 12 21 = some (.ireturn, 1, 0) := by decide +kernel
theorem cd_13_0 : zt_code zq_T 13 0 = some (.iload_n 0, 1, 0) := by decide +kernel
theorem cd_13_1 : zt_code zq_T 13 1 = some (.bipush (97), 2, 0) := by decide +kernel
theorem cd_13_3 : zt_code zq_T 13 3 = some (.if_icmp .lt (13), 3, 0) := by decide +kernel
theorem cd_13_6 : zt_code zq_T 13 6 = some (.iload_n 0, 1, 0) := by decide +kernel
theorem cd_13_7 : zt_code zq_T 13 7 = some (.bipush (122), 2, 0) := by decide +kernel
theorem cd_13_9 : zt_code zq_T 13 9 = some (.if_icmp .gt (7), 3, 0) := by decide +kernel
theorem cd_13_12 : zt_code zq_T 13 12 = some (.iconst 1, 1, 0) := by decide +kernel
theorem cd_13_13 : zt_code zq_T 13 13 = some (.goto (4), 3, 0) := by decide +kernel
theorem cd_13_16 : zt_code zq_T 13 16 = some (.iconst 0, 1, 0) := by decide +kernel
theorem cd_13_17 : zt_code zq_T 13 17 = some (.ireturn, 1, 0) := by decide +kernel
theorem cd_14_0 : zt_code zq_T 14 0 = some (.iload_n 0, 1, 0) := by decide +kernel
theorem cd_14_1 : zt_code zq_T 14 1 = some (.bipush (48), 2, 0) := by decide +kernel
theorem cd_14_3 : zt_code zq_T 14 3 = some (.if_icmp .lt (13), 3, 0) := by decide +kernel
theorem cd_14_6 : zt_code zq_T 14 6 = some (.iload_n 0, 1, 0) := by decide +kernel
theorem cd_14_7 : zt_code zq_T 14 7 = some (.bipush (57), 2, 0) := by decide +kernel
theorem cd_14_9 : zt_code zq_T 14 9 = some (.if_icmp .gt (7), 3, 0) := by decide +kernel
theorem cd_14_12 : zt_code zq_T 14 12 = some (.iconst 1, 1, 0) := by decide +kernel
theorem cd_14_13 : zt_code zq_T 14 13 = some (.goto (4), 3, 0) := by decide +kernel
theorem cd_14_16 : zt_code zq_T 14 16 = some (.iconst 0, 1, 0) := by decide +kernel
theorem cd_14_17 : zt_code zq_T 14 17 = some (.ireturn, 1, 0) := by decide +kernel
theorem cd_15_0 : zt_code zq_T 15 0 = some (.aload_n 0, 1, 0) := by decide +kernel
theorem cd_15_1 : zt_code zq_T 15 1 = some (.getfield 141, 3, 0) := by decide +kernel
theorem cd_15_4 : zt_code zq_T 15 4 = some (.istore_n 3, 1, 0) := by decide +kernel
theorem cd_15_5 : zt_code zq_T 15 5 = some (.aload_n 0, 1, 0) := by decide +kernel
theorem cd_15_6 : zt_code zq_T 15 6 = some (.dup, 1, 0) := by decide +kernel
theorem cd_15_7 : zt_code zq_T 15 7 = some (.getfield 141, 3, 0) := by decide +kernel
theorem cd_15_10 : zt_code zq_T 15 10 = some (.iconst 1, 1, 0) := by decide +kernel
theorem cd_15_11 : zt_code zq_T 15 11 = some (.iadd, 1, 0) := by decide +kernel
theorem cd_15_12 : zt_code zq_T 15 12 = some (.putfield 141, 3, 0) := by decide +kernel
theorem cd_15_15 : zt_code zq_T 15 15 = some (.iconst 0, 1, 0) := by decide +kernel
theorem cd_15_16 : zt_code zq_T 15 16 = some (.istore 4, 2, 0) := by decide +kernel
theorem cd_15_18 : zt_code zq_T 15 18 = some (.iload 4, 2, 0) := by decide +kernel
theorem cd_15_20 : zt_code zq_T 15 20 = some (.bipush (6), 2, 0) := by decide +kernel
theorem cd_15_22 : zt_code zq_T 15 22 = some (.if_icmp .ge (22), 3, 0) := by decide +kernel
theorem cd_15_25 : zt_code zq_T 15 25 = some (.aload_n 0, 1, 0) := by decide +kernel
theorem cd_15_26 : zt_code zq_T 15 26 = some (.getfield 17, 3, 0) := by decide +kernel
theorem cd_15_29 : zt_code zq_T 15 29 = some (.bipush (6), 2, 0) := by decide +kernel
theorem cd_15_31 : zt_code zq_T 15 31 = some (.iload_n 3, 1, 0) := by decide +kernel
theorem cd_15_32 : zt_code zq_T 15 32 = some (.imul, 1, 0) := by decide +kernel
theorem cd_15_33 : zt_code zq_T 15 33 = some (.iload 4, 2, 0) := by decide +kernel
theorem cd_15_35 : zt_code zq_T 15 35 = some (.iadd, 1, 0) := by decide +kernel
theorem cd_15_36 : zt_code zq_T 15 36 = some (.iconst (-1), 1, 0) := by decide +kernel
theorem cd_15_37 : zt_code zq_T 15 37 = some (.iastore, 1, 0) := by decide +kernel
theorem cd_15_38 : zt_code zq_T 15 38 = some (.iinc 4 (1), 3, 0) := by decide +kernel
theorem cd_15_41 : zt_code zq_T 15 41 = some (.goto (-23), 3, 0) := by decide +kernel
theorem cd_15_44 : zt_code zq_T 15 44 = some (.aload_n 0, 1, 0) := by decide +kernel
theorem cd_15_45 : zt_code zq_T 15 45 = some (.getfield 17, 3, 0) := by decide +kernel
theorem cd_15_48 : zt_code zq_T 15 48 = some (.bipush (6), 2, 0) := by decide +kernel
theorem cd_15_50 : zt_code zq_T 15 50 = some (.iload_n 3, 1, 0) := by decide +kernel
theorem cd_15_51 : zt_code zq_T 15 51 = some (.imul, 1, 0) := by decide +kernel
theorem cd_15_52 : zt_code zq_T 15 52 = some (.iconst 0, 1, 0) := by decide +kernel
theorem cd_15_53 : zt_code zq_T 15 53 = some (.iadd, 1, 0) := by decide +kernel
theorem cd_15_54 : zt_code zq_T 15 54 = some (.iload_n 1, 1, 0) := by decide +kernel
theorem cd_15_55 : zt_code zq_T 15 55 = some (.iastore, 1, 0) := by decide +kernel
theorem cd_15_56 : zt_code zq_T 15 56 = some (.aload_n 0, 1, 0) := by decide +kernel
theorem cd_15_57 : zt_code zq_T 15 57 = some (.getfield 17, 3, 0) := by decide +kernel
theorem cd_15_60 : zt_code zq_T 15 60 = some (.bipush (6), 2, 0) := by decide +kernel
theorem cd_15_62 : zt_code zq_T 15 62 = some (.iload_n 3, 1, 0) := by decide +kernel
theorem cd_15_63 : zt_code zq_T 15 63 = some (.imul, 1, 0) := by decide +kernel
theorem cd_15_64 : zt_code zq_T 15 64 = some (.iconst 1, 1, 0) := by decide +kernel
theorem cd_15_65 : zt_code zq_T 15 65 = some (.iadd, 1, 0) := by decide +kernel
theorem cd_15_66 : zt_code zq_T 15 66 = some (.iload_n 2, 1, 0) := by decide +kernel
theorem cd_15_67 : zt_code zq_T 15 67 = some (.iastore, 1, 0) := by decide +kernel
theorem cd_15_68 : zt_code zq_T 15 68 = some (.aload_n 0, 1, 0) := by decide +kernel
theorem cd_15_69 : zt_code zq_T 15 69 = some (.getfield 17, 3, 0) := by decide +kernel
theorem cd_15_72 : zt_code zq_T 15 72 = some (.bipush (6), 2, 0) := by decide +kernel
theorem cd_15_74 : zt_code zq_T 15 74 = some (.iload_n 3, 1, 0) := by decide +kernel
theorem cd_15_75 : zt_code zq_T 15 75 = some (.imul, 1, 0) := by decide +kernel
theorem cd_15_76 : zt_code zq_T 15 76 = some (.iconst 5, 1, 0) := by decide +kernel
theorem cd_15_77 : zt_code zq_T 15 77 = some (.iadd, 1, 0) := by decide +kernel
theorem cd_15_78 : zt_code zq_T 15 78 = some (.iconst 0, 1, 0) := by decide +kernel
theorem cd_15_79 : zt_code zq_T 15 79 = some (.iastore, 1, 0) := by decide +kernel
theorem cd_15_80 : zt_code zq_T 15 80 = some (.iload_n 3, 1, 0) := by decide +kernel
theorem cd_15_81 : zt_code zq_T 15 81 = some (.ireturn, 1, 0) := by decide +kernel
theorem cd_16_0 : zt_code zq_T 16 0 = some (.aload_n 0, 1, 0) := by decide +kernel
theorem cd_16_1 : zt_code zq_T 16 1 = some (.getfield 17, 3, 0) := by decide +kernel
theorem cd_16_4 : zt_code zq_T 16 4 = some (.bipush (6), 2, 0) := by decide +kernel
theorem cd_16_6 : zt_code zq_T 16 6 = some (.iload_n 2, 1, 0) := by decide +kernel
theorem cd_16_7 : zt_code zq_T 16 7 = some (.imul, 1, 0) := by decide +kernel
theorem cd_16_8 : zt_code zq_T 16 8 = some (.iconst 2, 1, 0) := by decide +kernel
theorem cd_16_9 : zt_code zq_T 16 9 = some (.iadd, 1, 0) := by decide +kernel
theorem cd_16_10 : zt_code zq_T 16 10 = some (.iload_n 1, 1, 0) := by decide +kernel
theorem cd_16_11 : zt_code zq_T 16 11 = some (.iastore, 1, 0) := by decide +kernel
theorem cd_16_12 : zt_code zq_T 16 12 = some (.bipush (6), 2, 0) := by decide +kernel
theorem cd_16_14 : zt_code zq_T 16 14 = some (.iload_n 1, 1, 0) := by decide +kernel
theorem cd_16_15 : zt_code zq_T 16 15 = some (.imul, 1, 0) := by decide +kernel
theorem cd_16_16 : zt_code zq_T 16 16 = some (.iconst 5, 1, 0) := by decide +kernel
theorem cd_16_17 : zt_code zq_T 16 17 = some (.iadd, 1, 0) := by decide +kernel
theorem cd_16_18 : zt_code zq_T 16 18 = some (.istore_n 3, 1, 0) := by decide +kernel
theorem cd_16_19 : zt_code zq_T 16 19 = some (.aload_n 0, 1, 0) := by decide +kernel
theorem cd_16_20 : zt_code zq_T 16 20 = some (.getfield 17, 3, 0) := by decide +kernel
theorem cd_16_23 : zt_code zq_T 16 23 = some (.iload_n 3, 1, 0) := by decide +kernel
theorem cd_16_24 : zt_code zq_T 16 24 = some (.aload_n 0, 1, 0) := by decide +kernel
theorem cd_16_25 : zt_code zq_T 16 25 = some (.getfield 17, 3, 0) := by decide +kernel
theorem cd_16_28 : zt_code zq_T 16 28 = some (.iload_n 3, 1, 0) := by decide +kernel
theorem cd_16_29 : zt_code zq_T 16 29 = some (.iaload, 1, 0) := by decide +kernel
theorem cd_16_30 : zt_code zq_T 16 30 = some (.aload_n 0, 1, 0) := by decide +kernel
theorem cd_16_31 : zt_code zq_T 16 31 = some (.getfield 17, 3, 0) := by decide +kernel
theorem cd_16_34 : zt_code zq_T 16 34 = some (.bipush (6), 2, 0) := by decide +kernel
theorem cd_16_36 : zt_code zq_T 16 36 = some (.iload_n 2, 1, 0) := by decide +kernel
theorem cd_16_37 : zt_code zq_T 16 37 = some (.imul, 1, 0) := by decide +kernel
theorem cd_16_38 : zt_code zq_T 16 38 = some (.iconst 5, 1, 0) := by decide +kernel
theorem cd_16_39 : zt_code zq_T 16 39 = some (.iadd, 1, 0) := by decide +kernel
theorem cd_16_40 : zt_code zq_T 16 40 = some (.iaload, 1, 0) := by decide +kernel
theorem cd_16_41 : zt_code zq_T 16 41 = some (.invokestatic 144, 3, 0) := by decide +kernel
theorem cd_16_44 : zt_code zq_T 16 44 = some (.iastore, 1, 0) := by decide +kernel
theorem cd_16_45 : zt_code zq_T 16 45 = some (.bipush (6), 2, 0) := by decide +kernel
theorem cd_16_47 : zt_code zq_T 16 47 = some (.iload_n 1, 1, 0) := by decide +kernel
theorem cd_16_48 : zt_code zq_T 16 48 = some (.imul, 1, 0) := by decide +kernel
theorem cd_16_49 : zt_code zq_T 16 49 = some (.iconst 3, 1, 0) := by decide +kernel
theorem cd_16_50 : zt_code zq_T 16 50 = some (.iadd, 1, 0) := by decide +kernel
theorem cd_16_51 : zt_code zq_T 16 51 = some (.istore 4, 2, 0) := by decide +kernel
theorem cd_16_53 : zt_code zq_T 16 53 = some (.aload_n 0, 1, 0) := by decide +kernel
theorem cd_16_54 : zt_code zq_T 16 54 = some (.getfield 17, 3, 0) := by decide +kernel
theorem cd_16_57 : zt_code zq_T 16 57 = some (.iload 4, 2, 0) := by decide +kernel
theorem cd_16_59 : zt_code zq_T 16 59 = some (.iaload, 1, 0) := by decide +kernel
theorem cd_16_60 : zt_code zq_T 16 60 = some (.iconst (-1), 1, 0) := by decide +kernel
theorem cd_16_61 : zt_code zq_T 16 61 = some (.if_icmp .eq (20), 3, 0) := by decide +kernel
theorem cd_16_64 : zt_code zq_T 16 64 = some (.bipush (6), 2, 0) := by decide +kernel
theorem cd_16_66 : zt_code zq_T 16 66 = some (.aload_n 0, 1, 0) := by decide +kernel
theorem cd_16_67 : zt_code zq_T 16 67 = some (.getfield 17, 3, 0) := by decide +kernel
theorem cd_16_70 : zt_code zq_T 16 70 = some (.iload 4, 2, 0) := by decide +kernel
theorem cd_16_72 : zt_code zq_T 16 72 = some (.iaload, 1, 0) := by decide +kernel
theorem cd_16_73 : zt_code zq_T 16 73 = some (.imul, 1, 0) := by decide +kernel
theorem cd_16_74 : zt_code zq_T 16 74 = some (.iconst 4, 1, 0) := by decide +kernel
theorem cd_16_75 : zt_code zq_T 16 75 = some (.iadd, 1, 0) := by decide +kernel
theorem cd_16_76 : zt_code zq_T 16 76 = some (.istore 4, 2, 0) := by decide +kernel
theorem cd_16_78 : zt_code zq_T 16 78 = some (.goto (-25), 3, 0) := by decide +kernel
theorem cd_16_81 : zt_code zq_T 16 81 = some (.aload_n 0, 1, 0) := by decide +kernel
theorem cd_16_82 : zt_code zq_T 16 82 = some (.getfield 17, 3, 0) := by decide +kernel
theorem cd_16_85 : zt_code zq_T 16 85 = some (.iload 4, 2, 0) := by decide +kernel
theorem cd_16_87 : zt_code zq_T 16 87 = some (.iload_n 2, 1, 0) := by decide +kernel
theorem cd_16_88 : zt_code zq_T 16 88 = some (.iastore, 1, 0) := by decide +kernel
theorem cd_16_89 : zt_code zq_T 16 89 = some (.return_, 1, 0) := by decide +kernel
theorem cd_17_0 : zt_code zq_T 17 0 = some (.aload_n 0, 1, 0) := by decide +kernel
theorem cd_17_1 : zt_code zq_T 17 1 = some (.getfield 23, 3, 0) := by decide +kernel
theorem cd_17_4 : zt_code zq_T 17 4 = some (.iconst 5, 1, 0) := by decide +kernel
theorem cd_17_5 : zt_code zq_T 17 5 = some (.aload_n 0, 1, 0) := by decide +kernel
theorem cd_17_6 : zt_code zq_T 17 6 = some (.getfield 150, 3, 0) := by decide +kernel
theorem cd_17_9 : zt_code zq_T 17 9 = some (.imul, 1, 0) := by decide +kernel
theorem cd_17_10 : zt_code zq_T 17 10 = some (.iload_n 1, 1, 0) := by decide +kernel
theorem cd_17_11 : zt_code zq_T 17 11 = some (.iadd, 1, 0) := by decide +kernel
theorem cd_17_12 : zt_code zq_T 17 12 = some (.iaload, 1, 0) := by decide +kernel
theorem cd_17_13 : zt_code zq_T 17 13 = some (.ireturn, 1, 0) := by decide +kernel
theorem cd_18_0 : zt_code zq_T 18 0 = some (.aload_n 0, 1, 0) := by decide +kernel
theorem cd_18_1 : zt_code zq_T 18 1 = some (.getfield 23, 3, 0) := by decide +kernel
theorem cd_18_4 : zt_code zq_T 18 4 = some (.iconst 5, 1, 0) := by decide +kernel
theorem cd_18_5 : zt_code zq_T 18 5 = some (.aload_n 0, 1, 0) := by decide +kernel
theorem cd_18_6 : zt_code zq_T 18 6 = some (.getfield 150, 3, 0) := by decide +kernel
theorem cd_18_9 : zt_code zq_T 18 9 = some (.imul, 1, 0) := by decide +kernel
theorem cd_18_10 : zt_code zq_T 18 10 = some (.iload_n 1, 1, 0) := by decide +kernel
theorem cd_18_11 : zt_code zq_T 18 11 = some (.iadd, 1, 0) := by decide +kernel
theorem cd_18_12 : zt_code zq_T 18 12 = some (.dup2, 1, 0) := by decide +kernel
theorem cd_18_13 : zt_code zq_T 18 13 = some (.iaload, 1, 0) := by decide +kernel
theorem cd_18_14 : zt_code zq_T 18 14 = some (.iconst 1, 1, 0) := by decide +kernel
theorem cd_18_15 : zt_code zq_T 18 15 = some (.iadd, 1, 0) := by decide +kernel
theorem cd_18_16 : zt_code zq_T 18 16 = some (.iastore, 1, 0) := by decide +kernel
theorem cd_18_17 : zt_code zq_T 18 17 = some (.aload_n 0, 1, 0) := by decide +kernel
theorem cd_18_18 : zt_code zq_T 18 18 = some (.getfield 23, 3, 0) := by decide +kernel
theorem cd_18_21 : zt_code zq_T 18 21 = some (.iconst 5, 1, 0) := by decide +kernel
theorem cd_18_22 : zt_code zq_T 18 22 = some (.aload_n 0, 1, 0) := by decide +kernel
theorem cd_18_23 : zt_code zq_T 18 23 = some (.getfield 150, 3, 0) := by decide +kernel
theorem cd_18_26 : zt_code zq_T 18 26 = some (.imul, 1, 0) := by decide +kernel
theorem cd_18_27 : zt_code zq_T 18 27 = some (.iload_n 1, 1, 0) := by decide +kernel
theorem cd_18_28 : zt_code zq_T 18 28 = some (.iadd, 1, 0) := by decide +kernel
theorem cd_18_29 : zt_code zq_T 18 29 = some (.iaload, 1, 0) := by decide +kernel
theorem cd_18_30 : zt_code zq_T 18 30 = some (.iconst 1, 1, 0) := by decide +kernel
theorem cd_18_31 : zt_code zq_T 18 31 = some (.isub, 1, 0) := by decide +kernel
theorem cd_18_32 : zt_code zq_T 18 32 = some (.ireturn, 1, 0) := by decide +kernel
theorem cd_19_0 : zt_code zq_T 19 0 = some (.iload_n 1, 1, 0) := by decide +kernel
theorem cd_19_1 : zt_code zq_T 19 1 = some (.iconst 3, 1, 0) := by decide +kernel
theorem cd_19_2 : zt_code zq_T 19 2 = some (.if_icmp .ne (14), 3, 0) := by decide +kernel
theorem cd_19_5 : zt_code zq_T 19 5 = some (.aload_n 0, 1, 0) := by decide +kernel
theorem cd_19_6 : zt_code zq_T 19 6 = some (.iconst 2, 1, 0) := by decide +kernel
theorem cd_19_7 : zt_code zq_T 19 7 = some (.bipush (44), 2, 0) := by decide +kernel
theorem cd_19_9 : zt_code zq_T 19 9 = some (.iload_n 3, 1, 0) := by decide +kernel
theorem cd_19_10 : zt_code zq_T 19 10 = some (.invokevirtual 153, 3, 0) := by decide +kernel
theorem cd_19_13 : zt_code zq_T 19 13 = some (.goto (8), 3, 0) := by decide +kernel
theorem cd_19_16 : zt_code zq_T 19 16 = some (.aload_n 0, 1, 0) := by decide +kernel
theorem cd_19_17 : zt_code zq_T 19 17 = some (.iload_n 3, 1, 0) := by decide +kernel
theorem cd_19_18 : zt_code zq_T 19 18 = some (.invokevirtual 157, 3, 0) := by decide +kernel
theorem cd_19_21 : zt_code zq_T 19 21 = some (.istore 4, 2, 0) := by decide +kernel
theorem cd_19_23 : zt_code zq_T 19 23 = some (.aload_n 0, 1, 0) := by decide +kernel
theorem cd_19_24 : zt_code zq_T 19 24 = some (.invokevirtual 160, 3, 0) := by decide +kernel
theorem cd_19_27 : zt_code zq_T 19 27 = some (.ifCond .eq (11), 3, 0) := by decide +kernel
theorem cd_19_30 : zt_code zq_T 19 30 = some (.aload_n 0, 1, 0) := by decide +kernel
theorem cd_19_31 : zt_code zq_T 19 31 = some (.invokevirtual 138, 3, 0) := by decide +kernel
theorem cd_19_34 : zt_code zq_T 19 34 = some (.iload_n 2, 1, 0) := by decide +kernel
theorem cd_19_35 : zt_code zq_T 19 35 = some (.if_icmp .eq (6), 3, 0) := by decide +kernel
theorem cd_19_38 : zt_code zq_T 19 38 = some (.iload 4, 2, 0) := by decide +kernel
theorem cd_19_40 : zt_code zq_T 19 40 = some (.ireturn, 1, 0) := by decide +kernel
theorem cd_19_41 : zt_code zq_T 19 41 = some (.aload_n 0, 1, 0) := by decide +kernel
theorem cd_19_42 : zt_code zq_T 19 42 = some (.iload_n 1, 1, 0) := by decide +kernel
theorem cd_19_43 : zt_code zq_T 19 43 = some (.iconst 0, 1, 0) := by decide +kernel
theorem cd_19_44 : zt_code zq_T 19 44 = some (.invokevirtual 164, 3, 0) := by decide +kernel
theorem cd_19_47 : zt_code zq_T 19 47 = some (.istore 5, 2, 0) := by decide +kernel
theorem cd_19_49 : zt_code zq_T 19 49 = some (.aload_n 0, 1, 0) := by decide +kernel
theorem cd_19_50 : zt_code zq_T 19 50 = some (.iload 5, 2, 0) := by decide +kernel
theorem cd_19_52 : zt_code zq_T 19 52 = some (.iload 4, 2, 0) := by decide +kernel
theorem cd_19_54 : zt_code zq_T 19 54 = some (.invokevirtual 167, 3, 0) := by decide +kernel
theorem cd_19_57 : zt_code zq_T 19 57 = some (.aload_n 0, 1, 0) := by decide +kernel
theorem cd_19_58 : zt_code zq_T 19 58 = some (.invokevirtual 160, 3, 0) := by decide +kernel
theorem cd_19_61 : zt_code zq_T 19 61 = some (.ifCond .eq (52), 3, 0) := by decide +kernel
theorem cd_19_64 : zt_code zq_T 19 64 = some (.aload_n 0, 1, 0) := by decide +kernel
theorem cd_19_65 : zt_code zq_T 19 65 = some (.iload_n 2, 1, 0) := by decide +kernel
theorem cd_19_66 : zt_code zq_T 19 66 = some (.invokevirtual 171, 3, 0) := by decide +kernel
theorem cd_19_69 : zt_code zq_T 19 69 = some (.ifCond .eq (44), 3, 0) := by decide +kernel
theorem cd_19_72 : zt_code zq_T 19 72 = some (.iload_n 1, 1, 0) := by decide +kernel
theorem cd_19_73 : zt_code zq_T 19 73 = some (.iconst 3, 1, 0) := by decide +kernel
theorem cd_19_74 : zt_code zq_T 19 74 = some (.if_icmp .ne (14), 3, 0) := by decide +kernel
theorem cd_19_77 : zt_code zq_T 19 77 = some (.aload_n 0, 1, 0) := by decide +kernel
theorem cd_19_78 : zt_code zq_T 19 78 = some (.iconst 2, 1, 0) := by decide +kernel
theorem cd_19_79 : zt_code zq_T 19 79 = some (.bipush (44), 2, 0) := by decide +kernel
theorem cd_19_81 : zt_code zq_T 19 81 = some (.iload_n 3, 1, 0) := by decide +kernel
theorem cd_19_82 : zt_code zq_T 19 82 = some (.invokevirtual 153, 3, 0) := by decide +kernel
theorem cd_19_85 : zt_code zq_T 19 85 = some (.goto (8), 3, 0) := by decide +kernel
theorem cd_19_88 : zt_code zq_T 19 88 = some (.aload_n 0, 1, 0) := by decide +kernel
theorem cd_19_89 : zt_code zq_T 19 89 = some (.iload_n 3, 1, 0) := by decide +kernel
theorem cd_19_90 : zt_code zq_T 19 90 = some (.invokevirtual 157, 3, 0) := by decide +kernel
theorem cd_19_93 : zt_code zq_T 19 93 = some (.istore 6, 2, 0) := by decide +kernel
theorem cd_19_95 : zt_code zq_T 19 95 = some (.aload_n 0, 1, 0) := by decide +kernel
theorem cd_19_96 : zt_code zq_T 19 96 = some (.invokevirtual 160, 3, 0) := by decide +kernel
theorem cd_19_99 : zt_code zq_T 19 99 = some (.ifCond .eq (11), 3, 0) := by decide +kernel
theorem cd_19_102 : zt_code zq_T 19 102 = some (.aload_n 0, 1, 0) := by decide +kernel
theorem cd_19_103 : zt_code zq_T 19 103 = some (.iload 5, 2, 0) := by decide +kernel
theorem cd_19_105 : zt_code zq_T 19 105 = some (.iload 6, 2, 0) := by decide +kernel
theorem cd_19_107 : zt_code zq_T 19 107 = some (.invokevirtual 167, 3, 0) := by decide +kernel
theorem cd_19_110 : zt_code zq_T 19 110 = some (.goto (-53), 3, 0) := by decide +kernel
theorem cd_19_113 : zt_code zq_T 19 113 = some (.iload 5, 2, 0) := by decide +kernel
theorem cd_19_115 : zt_code zq_T 19 115 = some (.ireturn, 1, 0) := by decide +kernel
theorem cd_20_0 : zt_code zq_T 20 0 = some (.aload_n 0, 1, 0) := by decide +kernel
theorem cd_20_1 : zt_code zq_T 20 1 = some (.iconst 3, 1, 0) := by decide +kernel
theorem cd_20_2 : zt_code zq_T 20 2 = some (.bipush (124), 2, 0) := by decide +kernel
theorem cd_20_4 : zt_code zq_T 20 4 = some (.iload_n 1, 1, 0) := by decide +kernel
theorem cd_20_5 : zt_code zq_T 20 5 = some (.invokevirtual 153, 3, 0) := by decide +kernel
theorem cd_20_8 : zt_code zq_T 20 8 = some (.ireturn, 1, 0) := by decide +kernel
theorem cd_21_0 : zt_code zq_T 21 0 = some (.aload_n 0, 1, 0) := by decide +kernel
theorem cd_21_1 : zt_code zq_T 21 1 = some (.invokevirtual 138, 3, 0) := by decide +kernel
theorem cd_21_4 : zt_code zq_T 21 4 = some (.istore_n 2, 1, 0) := by decide +kernel
theorem cd_21_5 : zt_code zq_T 21 5 = some (.iload_n 2, 1, 0) := by decide +kernel
theorem cd_21_6 : zt_code zq_T 21 6 = some (.bipush (40), 2, 0) := by decide +kernel
theorem cd_21_8 : zt_code zq_T 21 8 = some (.if_icmp .eq (9), 3, 0) := by decide +kernel
theorem cd_21_11 : zt_code zq_T 21 11 = some (.iload_n 2, 1, 0) := by decide +kernel
theorem cd_21_12 : zt_code zq_T 21 12 = some (.bipush (91), 2, 0) := by decide +kernel
theorem cd_21_14 : zt_code zq_T 21 14 = some (.if_icmp .ne (7), 3, 0) := by decide +kernel
theorem cd_21_17 : zt_code zq_T 21 17 = some (.iconst 1, 1, 0) := by decide +kernel
theorem cd_21_18 : zt_code zq_T 21 18 = some (.goto (4), 3, 0) := by decide +kernel
theorem cd_21_21 : zt_code zq_T 21 21 = some (.iconst 0, 1, 0) := by decide +kernel
theorem cd_21_22 : zt_code zq_T 21 22 = some (.istore_n 3, 1, 0) := by decide +kernel
theorem cd_21_23 : zt_code zq_T 21 23 = some (.iload_n 2, 1, 0) := by decide +kernel
theorem cd_21_24 : zt_code zq_T 21 24 = some (.bipush (48), 2, 0) := by decide +kernel
theorem cd_21_26 : zt_code zq_T 21 26 = some (.if_icmp .eq (45), 3, 0) := by decide +kernel
theorem cd_21_29 : zt_code zq_T 21 29 = some (.iload_n 2, 1, 0) := by decide +kernel
theorem cd_21_30 : zt_code zq_T 21 30 = some (.invokestatic 175, 3, 0) := by decide +kernel
theorem cd_21_33 : zt_code zq_T 21 33 = some (.ifCond .eq (13), 3, 0) := by decide +kernel
theorem cd_21_36 : zt_code zq_T 21 36 = some (.aload_n 0, 1, 0) := by decide +kernel
theorem cd_21_37 : zt_code zq_T 21 37 = some (.iconst 2, 1, 0) := by decide +kernel
theorem cd_21_38 : zt_code zq_T 21 38 = some (.invokevirtual 178, 3, 0) := by decide +kernel
theorem cd_21_41 : zt_code zq_T 21 41 = some (.bipush (16), 2, 0) := by decide +kernel
theorem cd_21_43 : zt_code zq_T 21 43 = some (.if_icmp .lt (28), 3, 0) := by decide +kernel
theorem cd_21_46 : zt_code zq_T 21 46 = some (.iload_n 3, 1, 0) := by decide +kernel
theorem cd_21_47 : zt_code zq_T 21 47 = some (.ifCond .eq (28), 3, 0) := by decide +kernel
theorem cd_21_50 : zt_code zq_T 21 50 = some (.iload_n 1, 1, 0) := by decide +kernel
theorem cd_21_51 : zt_code zq_T 21 51 = some (.bipush (8), 2, 0) := by decide +kernel
theorem cd_21_53 : zt_code zq_T 21 53 = some (.if_icmp .ge (22), 3, 0) := by decide +kernel
theorem cd_21_56 : zt_code zq_T 21 56 = some (.iload_n 2, 1, 0) := by decide +kernel
theorem cd_21_57 : zt_code zq_T 21 57 = some (.bipush (40), 2, 0) := by decide +kernel
theorem cd_21_59 : zt_code zq_T 21 59 = some (.if_icmp .eq (12), 3, 0) := by decide +kernel
theorem cd_21_62 : zt_code zq_T 21 62 = some (.aload_n 0, 1, 0) := by decide +kernel
theorem cd_21_63 : zt_code zq_T 21 63 = some (.iconst 4, 1, 0) := by decide +kernel
theorem cd_21_64 : zt_code zq_T 21 64 = some (.invokevirtual 178, 3, 0) := by decide +kernel
theorem cd_21_67 : zt_code zq_T 21 67 = some (.iconst 4, 1, 0) := by decide +kernel
theorem cd_21_68 : zt_code zq_T 21 68 = some (.if_icmp .ge (7), 3, 0) := by decide +kernel
theorem cd_21_71 : zt_code zq_T 21 71 = some (.iconst 1, 1, 0) := by decide +kernel
theorem cd_21_72 : zt_code zq_T 21 72 = some (.goto (4), 3, 0) := by decide +kernel
theorem cd_21_75 : zt_code zq_T 21 75 = some (.iconst 0, 1, 0) := by decide +kernel
theorem cd_21_76 : zt_code zq_T 21 76 = some (.istore 4, 2, 0) := by decide +kernel
theorem cd_21_78 : zt_code zq_T 21 78 = some (.iload 4, 2, 0) := by decide +kernel
theorem cd_21_80 : zt_code zq_T 21 80 = some (.ifCond .ne (13), 3, 0) := by decide +kernel
theorem cd_21_83 : zt_code zq_T 21 83 = some (.aload_n 0, 1, 0) := by decide +kernel
theorem cd_21_84 : zt_code zq_T 21 84 = some (.aload_n 0, 1, 0) := by decide +kernel
theorem cd_21_85 : zt_code zq_T 21 85 = some (.getfield 128, 3, 0) := by decide +kernel
theorem cd_21_88 : zt_code zq_T 21 88 = some (.invokevirtual 181, 3, 0) := by decide +kernel
theorem cd_21_91 : zt_code zq_T 21 91 = some (.iconst 0, 1, 0) := by decide +kernel
theorem cd_21_92 : zt_code zq_T 21 92 = some (.ireturn, 1, 0) := by decide +kernel
theorem cd_21_93 : zt_code zq_T 21 93 = some (.aload_n 0, 1, 0) := by decide +kernel
theorem cd_21_94 : zt_code zq_T 21 94 = some (.dup, 1, 0) := by decide +kernel
theorem cd_21_95 : zt_code zq_T 21 95 = some (.getfield 128, 3, 0) := by decide +kernel
theorem cd_21_98 : zt_code zq_T 21 98 = some (.iconst 1, 1, 0) := by decide +kernel
theorem cd_21_99 : zt_code zq_T 21 99 = some (.iadd, 1, 0) := by decide +kernel
theorem cd_21_100 : zt_code zq_T 21 100 = some (.putfield 128, 3, 0) := by decide +kernel
theorem cd_21_103 : zt_code zq_T 21 103 = some (.iload_n 2, 1, 0) := by decide +kernel
theorem cd_21_104 : zt_code zq_T 21 104 = some (.bipush (48), 2, 0) := by decide +kernel
theorem cd_21_106 : zt_code zq_T 21 106 = some (.if_icmp .ne (10), 3, 0) := by decide +kernel
theorem cd_21_109 : zt_code zq_T 21 109 = some (.aload_n 0, 1, 0) := by decide +kernel
theorem cd_21_110 : zt_code zq_T 21 110 = some (.iconst 1, 1, 0) := by decide +kernel
theorem cd_21_111 : zt_code zq_T 21 111 = some (.iconst 0, 1, 0) := by decide +kernel
theorem cd_21_112 : zt_code zq_T 21 112 = some (.invokevirtual 164, 3, 0) := by decide +kernel
theorem cd_21_115 : zt_code zq_T 21 115 = some (.ireturn, 1, 0) := by decide +kernel
theorem cd_21_116 : zt_code zq_T 21 116 = some (.iload_n 2, 1, 0) := by decide +kernel
theorem cd_21_117 : zt_code zq_T 21 117 = some (.invokestatic 175, 3, 0) := by decide +kernel
theorem cd_21_120 : zt_code zq_T 21 120 = some (.ifCond .eq (64), 3, 0) := by decide +kernel
theorem cd_21_123 : zt_code zq_T 21 123 = some (.aload_n 0, 1, 0) := by decide +kernel
theorem cd_21_124 : zt_code zq_T 21 124 = some (.iconst 2, 1, 0) := by decide +kernel
theorem cd_21_125 : zt_code zq_T 21 125 = some (.invokevirtual 184, 3, 0) := by decide +kernel
theorem cd_21_128 : zt_code zq_T 21 128 = some (.istore 5, 2, 0) := by decide +kernel
theorem cd_21_130 : zt_code zq_T 21 130 = some (.aload_n 0, 1, 0) := by decide +kernel
theorem cd_21_131 : zt_code zq_T 21 131 = some (.iconst 0, 1, 0) := by decide +kernel
theorem cd_21_132 : zt_code zq_T 21 132 = some (.iload 5, 2, 0) := by decide +kernel
theorem cd_21_134 : zt_code zq_T 21 134 = some (.invokevirtual 164, 3, 0) := by decide +kernel
theorem cd_21_137 : zt_code zq_T 21 137 = some (.istore 6, 2, 0) := by decide +kernel
theorem cd_21_139 : zt_code zq_T 21 139 = some (.aload_n 0, 1, 0) := by decide +kernel
theorem cd_21_140 : zt_code zq_T 21 140 = some (.getfield 35, 3, 0) := by decide +kernel
theorem cd_21_143 : zt_code zq_T 21 143 = some (.iconst 2, 1, 0) := by decide +kernel
theorem cd_21_144 : zt_code zq_T 21 144 = some (.bipush (16), 2, 0) := by decide +kernel
theorem cd_21_146 : zt_code zq_T 21 146 = some (.aload_n 0, 1, 0) := by decide +kernel
theorem cd_21_147 : zt_code zq_T 21 147 = some (.getfield 150, 3, 0) := by decide +kernel
theorem cd_21_150 : zt_code zq_T 21 150 = some (.imul, 1, 0) := by decide +kernel
theorem cd_21_151 : zt_code zq_T 21 151 = some (.iload 5, 2, 0) := by decide +kernel
theorem cd_21_153 : zt_code zq_T 21 153 = some (.iadd, 1, 0) := by decide +kernel
theorem cd_21_154 : zt_code zq_T 21 154 = some (.imul, 1, 0) := by decide +kernel
theorem cd_21_155 : zt_code zq_T 21 155 = some (.iload_n 2, 1, 0) := by decide +kernel
theorem cd_21_156 : zt_code zq_T 21 156 = some (.bipush (97), 2, 0) := by decide +kernel
theorem cd_21_158 : zt_code zq_T 21 158 = some (.isub, 1, 0) := by decide +kernel
theorem cd_21_159 : zt_code zq_T 21 159 = some (.iastore, 1, 0) := by decide +kernel
theorem cd_21_160 : zt_code zq_T 21 160 = some (.aload_n 0, 1, 0) := by decide +kernel
theorem cd_21_161 : zt_code zq_T 21 161 = some (.getfield 35, 3, 0) := by decide +kernel
theorem cd_21_164 : zt_code zq_T 21 164 = some (.iconst 2, 1, 0) := by decide +kernel
theorem cd_21_165 : zt_code zq_T 21 165 = some (.bipush (16), 2, 0) := by decide +kernel
theorem cd_21_167 : zt_code zq_T 21 167 = some (.aload_n 0, 1, 0) := by decide +kernel
theorem cd_21_168 : zt_code zq_T 21 168 = some (.getfield 150, 3, 0) := by decide +kernel
theorem cd_21_171 : zt_code zq_T 21 171 = some (.imul, 1, 0) := by decide +kernel
theorem cd_21_172 : zt_code zq_T 21 172 = some (.iload 5, 2, 0) := by decide +kernel
theorem cd_21_174 : zt_code zq_T 21 174 = some (.iadd, 1, 0) := by decide +kernel
theorem cd_21_175 : zt_code zq_T 21 175 = some (.imul, 1, 0) := by decide +kernel
theorem cd_21_176 : zt_code zq_T 21 176 = some (.iconst 1, 1, 0) := by decide +kernel
theorem cd_21_177 : zt_code zq_T 21 177 = some (.iadd, 1, 0) := by decide +kernel
theorem cd_21_178 : zt_code zq_T 21 178 = some (.iload 6, 2, 0) := by decide +kernel
theorem cd_21_180 : zt_code zq_T 21 180 = some (.iastore, 1, 0) := by decide +kernel
theorem cd_21_181 : zt_code zq_T 21 181 = some (.iload 6, 2, 0) := by decide +kernel
theorem cd_21_183 : zt_code zq_T 21 183 = some (.ireturn, 1, 0) := by decide +kernel
theorem cd_21_184 : zt_code zq_T 21 184 = some (.iload_n 2, 1, 0) := by decide +kernel
theorem cd_21_185 : zt_code zq_T 21 185 = some (.bipush (91), 2, 0) := by decide +kernel
theorem cd_21_187 : zt_code zq_T 21 187 = some (.if_icmp .ne (9), 3, 0) := by decide +kernel
theorem cd_21_190 : zt_code zq_T 21 190 = some (.aload_n 0, 1, 0) := by decide +kernel
theorem cd_21_191 : zt_code zq_T 21 191 = some (.iload_n 1, 1, 0) := by decide +kernel
theorem cd_21_192 : zt_code zq_T 21 192 = some (.invokevirtual 187, 3, 0) := by decide +kernel
theorem cd_21_195 : zt_code zq_T 21 195 = some (.ireturn, 1, 0) := by decide +kernel
theorem cd_21_196 : zt_code zq_T 21 196 = some (.aload_n 0, 1, 0) := by decide +kernel
theorem cd_21_197 : zt_code zq_T 21 197 = some (.iload_n 1, 1, 0) := by decide +kernel
theorem cd_21_198 : zt_code zq_T 21 198 = some (.iconst 1, 1, 0) := by decide +kernel
theorem cd_21_199 : zt_code zq_T 21 199 = some (.iadd, 1, 0) := by decide +kernel
theorem cd_21_200 : zt_code zq_T 21 200 = some (.invokevirtual 190, 3, 0) := by decide +kernel
theorem cd_21_203 : zt_code zq_T 21 203 = some (.istore 5, 2, 0) := by decide +kernel
theorem cd_21_205 : zt_code zq_T 21 205 = some (.aload_n 0, 1, 0) := by decide +kernel
theorem cd_21_206 : zt_code zq_T 21 206 = some (.invokevirtual 160, 3, 0) := by decide +kernel
theorem cd_21_209 : zt_code zq_T 21 209 = some (.ifCond .eq (20), 3, 0) := by decide +kernel
theorem cd_21_212 : zt_code zq_T 21 212 = some (.aload_n 0, 1, 0) := by decide +kernel
theorem cd_21_213 : zt_code zq_T 21 213 = some (.bipush (41), 2, 0) := by decide +kernel
theorem cd_21_215 : zt_code zq_T 21 215 = some (.invokevirtual 171, 3, 0) := by decide +kernel
theorem cd_21_218 : zt_code zq_T 21 218 = some (.ifCond .ne (11), 3, 0) := by decide +kernel
theorem cd_21_221 : zt_code zq_T 21 221 = some (.aload_n 0, 1, 0) := by decide +kernel
theorem cd_21_222 : zt_code zq_T 21 222 = some (.aload_n 0, 1, 0) := by decide +kernel
theorem cd_21_223 : zt_code zq_T 21 223 = some (.getfield 128, 3, 0) := by decide +kernel
theorem cd_21_226 : zt_code zq_T 21 226 = some (.invokevirtual 181, 3, 0) := by decide +kernel
theorem cd_21_229 : zt_code zq_T 21 229 = some (.iload 5, 2, 0) := by decide +kernel
theorem cd_21_231 : zt_code zq_T 21 231 = some (.ireturn, 1, 0) := by decide +kernel
theorem cd_22_0 : zt_code zq_T 22 0 = some (.aload_n 0, 1, 0) := by decide +kernel
theorem cd_22_1 : zt_code zq_T 22 1 = some (.iconst 4, 1, 0) := by decide +kernel
theorem cd_22_2 : zt_code zq_T 22 2 = some (.invokevirtual 184, 3, 0) := by decide +kernel
theorem cd_22_5 : zt_code zq_T 22 5 = some (.istore_n 2, 1, 0) := by decide +kernel
theorem cd_22_6 : zt_code zq_T 22 6 = some (.aload_n 0, 1, 0) := by decide +kernel
theorem cd_22_7 : zt_code zq_T 22 7 = some (.iconst 4, 1, 0) := by decide +kernel
theorem cd_22_8 : zt_code zq_T 22 8 = some (.iload_n 2, 1, 0) := by decide +kernel
theorem cd_22_9 : zt_code zq_T 22 9 = some (.invokevirtual 164, 3, 0) := by decide +kernel
theorem cd_22_12 : zt_code zq_T 22 12 = some (.istore_n 3, 1, 0) := by decide +kernel
theorem cd_22_13 : zt_code zq_T 22 13 = some (.aload_n 0, 1, 0) := by decide +kernel
theorem cd_22_14 : zt_code zq_T 22 14 = some (.getfield 41, 3, 0) := by decide +kernel
theorem cd_22_17 : zt_code zq_T 22 17 = some (.iconst 4, 1, 0) := by decide +kernel
theorem cd_22_18 : zt_code zq_T 22 18 = some (.aload_n 0, 1, 0) := by decide +kernel
theorem cd_22_19 : zt_code zq_T 22 19 = some (.getfield 150, 3, 0) := by decide +kernel
theorem cd_22_22 : zt_code zq_T 22 22 = some (.imul, 1, 0) := by decide +kernel
theorem cd_22_23 : zt_code zq_T 22 23 = some (.iload_n 2, 1, 0) := by decide +kernel
theorem cd_22_24 : zt_code zq_T 22 24 = some (.iadd, 1, 0) := by decide +kernel
theorem cd_22_25 : zt_code zq_T 22 25 = some (.iload_n 3, 1, 0) := by decide +kernel
theorem cd_22_26 : zt_code zq_T 22 26 = some (.iastore, 1, 0) := by decide +kernel
theorem cd_22_27 : zt_code zq_T 22 27 = some (.iconst 0, 1, 0) := by decide +kernel
theorem cd_22_28 : zt_code zq_T 22 28 = some (.istore 4, 2, 0) := by decide +kernel
theorem cd_22_30 : zt_code zq_T 22 30 = some (.iconst 1, 1, 0) := by decide +kernel
theorem cd_22_31 : zt_code zq_T 22 31 = some (.istore 5, 2, 0) := by decide +kernel
theorem cd_22_33 : zt_code zq_T 22 33 = some (.aload_n 0, 1, 0) := by decide +kernel
theorem cd_22_34 : zt_code zq_T 22 34 = some (.invokevirtual 160, 3, 0) := by decide +kernel
theorem cd_22_37 : zt_code zq_T 22 37 = some (.ifCond .eq (102), 3, 0) := by decide +kernel
theorem cd_22_40 : zt_code zq_T 22 40 = some (.iload 5, 2, 0) := by decide +kernel
theorem cd_22_42 : zt_code zq_T 22 42 = some (.ifCond .eq (97), 3, 0) := by decide +kernel
theorem cd_22_45 : zt_code zq_T 22 45 = some (.aload_n 0, 1, 0) := by decide +kernel
theorem cd_22_46 : zt_code zq_T 22 46 = some (.iload_n 1, 1, 0) := by decide +kernel
theorem cd_22_47 : zt_code zq_T 22 47 = some (.iconst 1, 1, 0) := by decide +kernel
theorem cd_22_48 : zt_code zq_T 22 48 = some (.iadd, 1, 0) := by decide +kernel
theorem cd_22_49 : zt_code zq_T 22 49 = some (.invokevirtual 190, 3, 0) := by decide +kernel
theorem cd_22_52 : zt_code zq_T 22 52 = some (.istore 6, 2, 0) := by decide +kernel
theorem cd_22_54 : zt_code zq_T 22 54 = some (.aload_n 0, 1, 0) := by decide +kernel
theorem cd_22_55 : zt_code zq_T 22 55 = some (.invokevirtual 160, 3, 0) := by decide +kernel
theorem cd_22_58 : zt_code zq_T 22 58 = some (.ifCond .ne (5), 3, 0) := by decide +kernel
theorem cd_22_61 : zt_code zq_T 22 61 = some (.iload_n 3, 1, 0) := by decide +kernel
theorem cd_22_62 : zt_code zq_T 22 62 = some (.ireturn, 1, 0) := by decide +kernel
theorem cd_22_63 : zt_code zq_T 22 63 = some (.aload_n 0, 1, 0) := by decide +kernel
theorem cd_22_64 : zt_code zq_T 22 64 = some (.iload_n 3, 1, 0) := by decide +kernel
theorem cd_22_65 : zt_code zq_T 22 65 = some (.iload 6, 2, 0) := by decide +kernel
theorem cd_22_67 : zt_code zq_T 22 67 = some (.invokevirtual 167, 3, 0) := by decide +kernel
theorem cd_22_70 : zt_code zq_T 22 70 = some (.iinc 4 (1), 3, 0) := by decide +kernel
theorem cd_22_73 : zt_code zq_T 22 73 = some (.aload_n 0, 1, 0) := by decide +kernel
theorem cd_22_74 : zt_code zq_T 22 74 = some (.invokevirtual 138, 3, 0) := by decide +kernel
theorem cd_22_77 : zt_code zq_T 22 77 = some (.bipush (38), 2, 0) := by decide +kernel
theorem cd_22_79 : zt_code zq_T 22 79 = some (.if_icmp .ne (13), 3, 0) := by decide +kernel
theorem cd_22_82 : zt_code zq_T 22 82 = some (.iload 4, 2, 0) := by decide +kernel
theorem cd_22_84 : zt_code zq_T 22 84 = some (.iconst 4, 1, 0) := by decide +kernel
theorem cd_22_85 : zt_code zq_T 22 85 = some (.if_icmp .ge (7), 3, 0) := by decide +kernel
theorem cd_22_88 : zt_code zq_T 22 88 = some (.iconst 1, 1, 0) := by decide +kernel
theorem cd_22_89 : zt_code zq_T 22 89 = some (.goto (4), 3, 0) := by decide +kernel
theorem cd_22_92 : zt_code zq_T 22 92 = some (.iconst 0, 1, 0) := by decide +kernel
theorem cd_22_93 : zt_code zq_T 22 93 = some (.istore 5, 2, 0) := by decide +kernel
theorem cd_22_95 : zt_code zq_T 22 95 = some (.iload 5, 2, 0) := by decide +kernel
theorem cd_22_97 : zt_code zq_T 22 97 = some (.ifCond .eq (16), 3, 0) := by decide +kernel
theorem cd_22_100 : zt_code zq_T 22 100 = some (.aload_n 0, 1, 0) := by decide +kernel
theorem cd_22_101 : zt_code zq_T 22 101 = some (.dup, 1, 0) := by decide +kernel
theorem cd_22_102 : zt_code zq_T 22 102 = some (.getfield 128, 3, 0) := by decide +kernel
theorem cd_22_105 : zt_code zq_T 22 105 = some (.iconst 1, 1, 0) := by decide +kernel
theorem cd_22_106 : zt_code zq_T 22 106 = some (.iadd, 1, 0) := by decide +kernel
theorem cd_22_107 : zt_code zq_T 22 107 = some (.putfield 128, 3, 0) := by decide +kernel
theorem cd_22_110 : zt_code zq_T 22 110 = some (.goto (26), 3, 0) := by decide +kernel
theorem cd_22_113 : zt_code zq_T 22 113 = some (.iload 4, 2, 0) := by decide +kernel
theorem cd_22_115 : zt_code zq_T 22 115 = some (.iconst 2, 1, 0) := by decide +kernel
theorem cd_22_116 : zt_code zq_T 22 116 = some (.if_icmp .lt (12), 3, 0) := by decide +kernel
theorem cd_22_119 : zt_code zq_T 22 119 = some (.aload_n 0, 1, 0) := by decide +kernel
theorem cd_22_120 : zt_code zq_T 22 120 = some (.invokevirtual 138, 3, 0) := by decide +kernel
theorem cd_22_123 : zt_code zq_T 22 123 = some (.bipush (93), 2, 0) := by decide +kernel
theorem cd_22_125 : zt_code zq_T 22 125 = some (.if_icmp .eq (11), 3, 0) := by decide +kernel
theorem cd_22_128 : zt_code zq_T 22 128 = some (.aload_n 0, 1, 0) := by decide +kernel
theorem cd_22_129 : zt_code zq_T 22 129 = some (.aload_n 0, 1, 0) := by decide +kernel
theorem cd_22_130 : zt_code zq_T 22 130 = some (.getfield 128, 3, 0) := by decide +kernel
theorem cd_22_133 : zt_code zq_T 22 133 = some (.invokevirtual 181, 3, 0) := by decide +kernel
theorem cd_22_136 : zt_code zq_T 22 136 = some (.goto (-103), 3, 0) := by decide +kernel
theorem cd_22_139 : zt_code zq_T 22 139 = some (.aload_n 0, 1, 0) := by decide +kernel
theorem cd_22_140 : zt_code zq_T 22 140 = some (.invokevirtual 160, 3, 0) := by decide +kernel
theorem cd_22_143 : zt_code zq_T 22 143 = some (.ifCond .eq (13), 3, 0) := by decide +kernel
theorem cd_22_146 : zt_code zq_T 22 146 = some (.aload_n 0, 1, 0) := by decide +kernel
theorem cd_22_147 : zt_code zq_T 22 147 = some (.dup, 1, 0) := by decide +kernel
theorem cd_22_148 : zt_code zq_T 22 148 = some (.getfield 128, 3, 0) := by decide +kernel
theorem cd_22_151 : zt_code zq_T 22 151 = some (.iconst 1, 1, 0) := by decide +kernel
theorem cd_22_152 : zt_code zq_T 22 152 = some (.iadd, 1, 0) := by decide +kernel
theorem cd_22_153 : zt_code zq_T 22 153 = some (.putfield 128, 3, 0) := by decide +kernel
theorem cd_22_156 : zt_code zq_T 22 156 = some (.iload_n 3, 1, 0) := by decide +kernel
theorem cd_22_157 : zt_code zq_T 22 157 = some (.ireturn, 1, 0) := by decide +kernel
theorem cd_23_0 : zt_code zq_T 23 0 = some (.aload_n 0, 1, 0) := by decide +kernel
theorem cd_23_1 : zt_code zq_T 23 1 = some (.iload_n 1, 1, 0) := by decide +kernel
theorem cd_23_2 : zt_code zq_T 23 2 = some (.invokevirtual 193, 3, 0) := by decide +kernel
theorem cd_23_5 : zt_code zq_T 23 5 = some (.istore_n 2, 1, 0) := by decide +kernel
theorem cd_23_6 : zt_code zq_T 23 6 = some (.aload_n 0, 1, 0) := by decide +kernel
theorem cd_23_7 : zt_code zq_T 23 7 = some (.invokevirtual 160, 3, 0) := by decide +kernel
theorem cd_23_10 : zt_code zq_T 23 10 = some (.ifCond .eq (10), 3, 0) := by decide +kernel
theorem cd_23_13 : zt_code zq_T 23 13 = some (.aload_n 0, 1, 0) := by decide +kernel
theorem cd_23_14 : zt_code zq_T 23 14 = some (.invokevirtual 138, 3, 0) := by decide +kernel
theorem cd_23_17 : zt_code zq_T 23 17 = some (.goto (4), 3, 0) := by decide +kernel
theorem cd_23_20 : zt_code zq_T 23 20 = some (.iconst (-1), 1, 0) := by decide +kernel
theorem cd_23_21 : zt_code zq_T 23 21 = some (.istore_n 3, 1, 0) := by decide +kernel
theorem cd_23_22 : zt_code zq_T 23 22 = some (.iload_n 3, 1, 0) := by decide +kernel
theorem cd_23_23 : zt_code zq_T 23 23 = some (.bipush (63), 2, 0) := by decide +kernel
theorem cd_23_25 : zt_code zq_T 23 25 = some (.if_icmp .eq (23), 3, 0) := by decide +kernel
theorem cd_23_28 : zt_code zq_T 23 28 = some (.iload_n 3, 1, 0) := by decide +kernel
theorem cd_23_29 : zt_code zq_T 23 29 = some (.bipush (42), 2, 0) := by decide +kernel
theorem cd_23_31 : zt_code zq_T 23 31 = some (.if_icmp .eq (17), 3, 0) := by decide +kernel
theorem cd_23_34 : zt_code zq_T 23 34 = some (.iload_n 3, 1, 0) := by decide +kernel
theorem cd_23_35 : zt_code zq_T 23 35 = some (.bipush (43), 2, 0) := by decide +kernel
theorem cd_23_37 : zt_code zq_T 23 37 = some (.if_icmp .eq (11), 3, 0) := by decide +kernel
theorem cd_23_40 : zt_code zq_T 23 40 = some (.iload_n 3, 1, 0) := by decide +kernel
theorem cd_23_41 : zt_code zq_T 23 41 = some (.bipush (123), 2, 0) := by decide +kernel
theorem cd_23_43 : zt_code zq_T 23 43 = some (.if_icmp .eq (5), 3, 0) := by decide +kernel
theorem cd_23_46 : zt_code zq_T 23 46 = some (.iload_n 2, 1, 0) := by decide +kernel
theorem cd_23_47 : zt_code zq_T 23 47 = some (.ireturn, 1, 0) := by decide +kernel
theorem cd_23_48 : zt_code zq_T 23 48 = some (.aload_n 0, 1, 0) := by decide +kernel
theorem cd_23_49 : zt_code zq_T 23 49 = some (.getfield 17, 3, 0) := by decide +kernel
theorem cd_23_52 : zt_code zq_T 23 52 = some (.bipush (6), 2, 0) := by decide +kernel
theorem cd_23_54 : zt_code zq_T 23 54 = some (.iload_n 2, 1, 0) := by decide +kernel
theorem cd_23_55 : zt_code zq_T 23 55 = some (.imul, 1, 0) := by decide +kernel
theorem cd_23_56 : zt_code zq_T 23 56 = some (.iconst 5, 1, 0) := by decide +kernel
theorem cd_23_57 : zt_code zq_T 23 57 = some (.iadd, 1, 0) := by decide +kernel
theorem cd_23_58 : zt_code zq_T 23 58 = some (.iaload, 1, 0) := by decide +kernel
theorem cd_23_59 : zt_code zq_T 23 59 = some (.iconst 2, 1, 0) := by decide +kernel
theorem cd_23_60 : zt_code zq_T 23 60 = some (.if_icmp .eq (13), 3, 0) := by decide +kernel
theorem cd_23_63 : zt_code zq_T 23 63 = some (.aload_n 0, 1, 0) := by decide +kernel
theorem cd_23_64 : zt_code zq_T 23 64 = some (.iconst 3, 1, 0) := by decide +kernel
theorem cd_23_65 : zt_code zq_T 23 65 = some (.invokevirtual 178, 3, 0) := by decide +kernel
theorem cd_23_68 : zt_code zq_T 23 68 = some (.bipush (8), 2, 0) := by decide +kernel
theorem cd_23_70 : zt_code zq_T 23 70 = some (.if_icmp .ne (13), 3, 0) := by decide +kernel
theorem cd_23_73 : zt_code zq_T 23 73 = some (.aload_n 0, 1, 0) := by decide +kernel
theorem cd_23_74 : zt_code zq_T 23 74 = some (.aload_n 0, 1, 0) := by decide +kernel
theorem cd_23_75 : zt_code zq_T 23 75 = some (.getfield 128, 3, 0) := by decide +kernel
theorem cd_23_78 : zt_code zq_T 23 78 = some (.invokevirtual 181, 3, 0) := by decide +kernel
theorem cd_23_81 : zt_code zq_T 23 81 = some (.iload_n 2, 1, 0) := by decide +kernel
theorem cd_23_82 : zt_code zq_T 23 82 = some (.ireturn, 1, 0) := by decide +kernel
theorem cd_23_83 : zt_code zq_T 23 83 = some (.aload_n 0, 1, 0) := by decide +kernel
theorem cd_23_84 : zt_code zq_T 23 84 = some (.dup, 1, 0) := by decide +kernel
theorem cd_23_85 : zt_code zq_T 23 85 = some (.getfield 128, 3, 0) := by decide +kernel
theorem cd_23_88 : zt_code zq_T 23 88 = some (.iconst 1, 1, 0) := by decide +kernel
theorem cd_23_89 : zt_code zq_T 23 89 = some (.iadd, 1, 0) := by decide +kernel
theorem cd_23_90 : zt_code zq_T 23 90 = some (.putfield 128, 3, 0) := by decide +kernel
theorem cd_23_93 : zt_code zq_T 23 93 = some (.aload_n 0, 1, 0) := by decide +kernel
theorem cd_23_94 : zt_code zq_T 23 94 = some (.iconst 3, 1, 0) := by decide +kernel
theorem cd_23_95 : zt_code zq_T 23 95 = some (.invokevirtual 184, 3, 0) := by decide +kernel
theorem cd_23_98 : zt_code zq_T 23 98 = some (.istore 4, 2, 0) := by decide +kernel
theorem cd_23_100 : zt_code zq_T 23 100 = some (.aload_n 0, 1, 0) := by decide +kernel
theorem cd_23_101 : zt_code zq_T 23 101 = some (.iconst 5, 1, 0) := by decide +kernel
theorem cd_23_102 : zt_code zq_T 23 102 = some (.iload 4, 2, 0) := by decide +kernel
theorem cd_23_104 : zt_code zq_T 23 104 = some (.invokevirtual 164, 3, 0) := by decide +kernel
theorem cd_23_107 : zt_code zq_T 23 107 = some (.istore 5, 2, 0) := by decide +kernel
theorem cd_23_109 : zt_code zq_T 23 109 = some (.aload_n 0, 1, 0) := by decide +kernel
theorem cd_23_110 : zt_code zq_T 23 110 = some (.iload 5, 2, 0) := by decide +kernel
theorem cd_23_112 : zt_code zq_T 23 112 = some (.iload_n 2, 1, 0) := by decide +kernel
theorem cd_23_113 : zt_code zq_T 23 113 = some (.invokevirtual 167, 3, 0) := by decide +kernel
theorem cd_23_116 : zt_code zq_T 23 116 = some (.aload_n 0, 1, 0) := by decide +kernel
theorem cd_23_117 : zt_code zq_T 23 117 = some (.getfield 17, 3, 0) := by decide +kernel
theorem cd_23_120 : zt_code zq_T 23 120 = some (.bipush (6), 2, 0) := by decide +kernel
theorem cd_23_122 : zt_code zq_T 23 122 = some (.iload 5, 2, 0) := by decide +kernel
theorem cd_23_124 : zt_code zq_T 23 124 = some (.imul, 1, 0) := by decide +kernel
theorem cd_23_125 : zt_code zq_T 23 125 = some (.iconst 5, 1, 0) := by decide +kernel
theorem cd_23_126 : zt_code zq_T 23 126 = some (.iadd, 1, 0) := by decide +kernel
theorem cd_23_127 : zt_code zq_T 23 127 = some (.dup2, 1, 0) := by decide +kernel
theorem cd_23_128 : zt_code zq_T 23 128 = some (.iaload, 1, 0) := by decide +kernel
theorem cd_23_129 : zt_code zq_T 23 129 = some (.iconst 1, 1, 0) := by decide +kernel
theorem cd_23_130 : zt_code zq_T 23 130 = some (.iadd, 1, 0) := by decide +kernel
theorem cd_23_131 : zt_code zq_T 23 131 = some (.iastore, 1, 0) := by decide +kernel
theorem cd_23_132 : zt_code zq_T 23 132 = some (.iconst 3, 1, 0) := by decide +kernel
theorem cd_23_133 : zt_code zq_T 23 133 = some (.bipush (8), 2, 0) := by decide +kernel
theorem cd_23_135 : zt_code zq_T 23 135 = some (.aload_n 0, 1, 0) := by decide +kernel
theorem cd_23_136 : zt_code zq_T 23 136 = some (.getfield 150, 3, 0) := by decide +kernel
theorem cd_23_139 : zt_code zq_T 23 139 = some (.imul, 1, 0) := by decide +kernel
theorem cd_23_140 : zt_code zq_T 23 140 = some (.iload 4, 2, 0) := by decide +kernel
theorem cd_23_142 : zt_code zq_T 23 142 = some (.iadd, 1, 0) := by decide +kernel
theorem cd_23_143 : zt_code zq_T 23 143 = some (.imul, 1, 0) := by decide +kernel
theorem cd_23_144 : zt_code zq_T 23 144 = some (.istore 6, 2, 0) := by decide +kernel
theorem cd_23_146 : zt_code zq_T 23 146 = some (.aload_n 0, 1, 0) := by decide +kernel
theorem cd_23_147 : zt_code zq_T 23 147 = some (.getfield 29, 3, 0) := by decide +kernel
theorem cd_23_150 : zt_code zq_T 23 150 = some (.iload 6, 2, 0) := by decide +kernel
theorem cd_23_152 : zt_code zq_T 23 152 = some (.iload_n 3, 1, 0) := by decide +kernel
theorem cd_23_153 : zt_code zq_T 23 153 = some (.bipush (43), 2, 0) := by decide +kernel
theorem cd_23_155 : zt_code zq_T 23 155 = some (.if_icmp .ne (7), 3, 0) := by decide +kernel
theorem cd_23_158 : zt_code zq_T 23 158 = some (.iconst 1, 1, 0) := by decide +kernel
theorem cd_23_159 : zt_code zq_T 23 159 = some (.goto (4), 3, 0) := by decide +kernel
theorem cd_23_162 : zt_code zq_T 23 162 = some (.iconst 0, 1, 0) := by decide +kernel
theorem cd_23_163 : zt_code zq_T 23 163 = some (.iastore, 1, 0) := by decide +kernel
theorem cd_23_164 : zt_code zq_T 23 164 = some (.aload_n 0, 1, 0) := by decide +kernel
theorem cd_23_165 : zt_code zq_T 23 165 = some (.getfield 29, 3, 0) := by decide +kernel
theorem cd_23_168 : zt_code zq_T 23 168 = some (.iload 6, 2, 0) := by decide +kernel
theorem cd_23_170 : zt_code zq_T 23 170 = some (.iconst 1, 1, 0) := by decide +kernel
theorem cd_23_171 : zt_code zq_T 23 171 = some (.iadd, 1, 0) := by decide +kernel
theorem cd_23_172 : zt_code zq_T 23 172 = some (.iload_n 3, 1, 0) := by decide +kernel
theorem cd_23_173 : zt_code zq_T 23 173 = some (.bipush (63), 2, 0) := by decide +kernel
theorem cd_23_175 : zt_code zq_T 23 175 = some (.if_icmp .ne (7), 3, 0) := by decide +kernel
theorem cd_23_178 : zt_code zq_T 23 178 = some (.iconst 1, 1, 0) := by decide +kernel
theorem cd_23_179 : zt_code zq_T 23 179 = some (.goto (4), 3, 0) := by decide +kernel
theorem cd_23_182 : zt_code zq_T 23 182 = some (.iconst (-1), 1, 0) := by decide +kernel
theorem cd_23_183 : zt_code zq_T 23 183 = some (.iastore, 1, 0) := by decide +kernel
theorem cd_23_184 : zt_code zq_T 23 184 = some (.aload_n 0, 1, 0) := by decide +kernel
theorem cd_23_185 : zt_code zq_T 23 185 = some (.getfield 29, 3, 0) := by decide +kernel
theorem cd_23_188 : zt_code zq_T 23 188 = some (.iload 6, 2, 0) := by decide +kernel
theorem cd_23_190 : zt_code zq_T 23 190 = some (.iconst 2, 1, 0) := by decide +kernel
theorem cd_23_191 : zt_code zq_T 23 191 = some (.iadd, 1, 0) := by decide +kernel
theorem cd_23_192 : zt_code zq_T 23 192 = some (.iload 5, 2, 0) := by decide +kernel
theorem cd_23_194 : zt_code zq_T 23 194 = some (.iastore, 1, 0) := by decide +kernel
theorem cd_23_195 : zt_code zq_T 23 195 = some (.iload_n 3, 1, 0) := by decide +kernel
theorem cd_23_196 : zt_code zq_T 23 196 = some (.bipush (123), 2, 0) := by decide +kernel
theorem cd_23_198 : zt_code zq_T 23 198 = some (.if_icmp .ne (9), 3, 0) := by decide +kernel
theorem cd_23_201 : zt_code zq_T 23 201 = some (.aload_n 0, 1, 0) := by decide +kernel
theorem cd_23_202 : zt_code zq_T 23 202 = some (.iload 6, 2, 0) := by decide +kernel
theorem cd_23_204 : zt_code zq_T 23 204 = some (.invokevirtual 196, 3, 0) := by decide +kernel
theorem cd_23_207 : zt_code zq_T 23 207 = some (.iload 5, 2, 0) := by decide +kernel
theorem cd_23_209 : zt_code zq_T 23 209 = some (.ireturn, 1, 0) := by decide +kernel
theorem cd_24_0 : zt_code zq_T 24 0 = some (.aload_n 0, 1, 0) := by decide +kernel
theorem cd_24_1 : zt_code zq_T 24 1 = some (.invokevirtual 138, 3, 0) := by decide +kernel
theorem cd_24_4 : zt_code zq_T 24 4 = some (.istore_n 2, 1, 0) := by decide +kernel
theorem cd_24_5 : zt_code zq_T 24 5 = some (.iload_n 2, 1, 0) := by decide +kernel
theorem cd_24_6 : zt_code zq_T 24 6 = some (.bipush (48), 2, 0) := by decide +kernel
theorem cd_24_8 : zt_code zq_T 24 8 = some (.isub, 1, 0) := by decide +kernel
theorem cd_24_9 : zt_code zq_T 24 9 = some (.istore_n 3, 1, 0) := by decide +kernel
theorem cd_24_10 : zt_code zq_T 24 10 = some (.iload_n 2, 1, 0) := by decide +kernel
theorem cd_24_11 : zt_code zq_T 24 11 = some (.invokestatic 199, 3, 0) := by decide +kernel
theorem cd_24_14 : zt_code zq_T 24 14 = some (.ifCond .eq (27), 3, 0) := by decide +kernel
theorem cd_24_17 : zt_code zq_T 24 17 = some (.iload_n 3, 1, 0) := by decide +kernel
theorem cd_24_18 : zt_code zq_T 24 18 = some (.iload_n 1, 1, 0) := by decide +kernel
theorem cd_24_19 : zt_code zq_T 24 19 = some (.if_icmp .ge (18), 3, 0) := by decide +kernel
theorem cd_24_22 : zt_code zq_T 24 22 = some (.iload_n 3, 1, 0) := by decide +kernel
theorem cd_24_23 : zt_code zq_T 24 23 = some (.ifCond .ne (9), 3, 0) := by decide +kernel
theorem cd_24_26 : zt_code zq_T 24 26 = some (.iload_n 1, 1, 0) := by decide +kernel
theorem cd_24_27 : zt_code zq_T 24 27 = some (.bipush (10), 2, 0) := by decide +kernel
theorem cd_24_29 : zt_code zq_T 24 29 = some (.if_icmp .lt (8), 3, 0) := by decide +kernel
theorem cd_24_32 : zt_code zq_T 24 32 = some (.iload_n 3, 1, 0) := by decide +kernel
theorem cd_24_33 : zt_code zq_T 24 33 = some (.iconst 1, 1, 0) := by decide +kernel
theorem cd_24_34 : zt_code zq_T 24 34 = some (.if_icmp .ne (7), 3, 0) := by decide +kernel
theorem cd_24_37 : zt_code zq_T 24 37 = some (.iconst 1, 1, 0) := by decide +kernel
theorem cd_24_38 : zt_code zq_T 24 38 = some (.goto (4), 3, 0) := by decide +kernel
theorem cd_24_41 : zt_code zq_T 24 41 = some (.iconst 0, 1, 0) := by decide +kernel
theorem cd_24_42 : zt_code zq_T 24 42 = some (.istore 4, 2, 0) := by decide +kernel
theorem cd_24_44 : zt_code zq_T 24 44 = some (.iload 4, 2, 0) := by decide +kernel
theorem cd_24_46 : zt_code zq_T 24 46 = some (.ifCond .ne (13), 3, 0) := by decide +kernel
theorem cd_24_49 : zt_code zq_T 24 49 = some (.aload_n 0, 1, 0) := by decide +kernel
theorem cd_24_50 : zt_code zq_T 24 50 = some (.aload_n 0, 1, 0) := by decide +kernel
theorem cd_24_51 : zt_code zq_T 24 51 = some (.getfield 128, 3, 0) := by decide +kernel
theorem cd_24_54 : zt_code zq_T 24 54 = some (.invokevirtual 181, 3, 0) := by decide +kernel
theorem cd_24_57 : zt_code zq_T 24 57 = some (.iconst 0, 1, 0) := by decide +kernel
theorem cd_24_58 : zt_code zq_T 24 58 = some (.ireturn, 1, 0) := by decide +kernel
theorem cd_24_59 : zt_code zq_T 24 59 = some (.aload_n 0, 1, 0) := by decide +kernel
theorem cd_24_60 : zt_code zq_T 24 60 = some (.dup, 1, 0) := by decide +kernel
theorem cd_24_61 : zt_code zq_T 24 61 = some (.getfield 128, 3, 0) := by decide +kernel
theorem cd_24_64 : zt_code zq_T 24 64 = some (.iconst 1, 1, 0) := by decide +kernel
theorem cd_24_65 : zt_code zq_T 24 65 = some (.iadd, 1, 0) := by decide +kernel
theorem cd_24_66 : zt_code zq_T 24 66 = some (.putfield 128, 3, 0) := by decide +kernel
theorem cd_24_69 : zt_code zq_T 24 69 = some (.aload_n 0, 1, 0) := by decide +kernel
theorem cd_24_70 : zt_code zq_T 24 70 = some (.invokevirtual 131, 3, 0) := by decide +kernel
theorem cd_24_73 : zt_code zq_T 24 73 = some (.invokestatic 199, 3, 0) := by decide +kernel
theorem cd_24_76 : zt_code zq_T 24 76 = some (.ifCond .eq (50), 3, 0) := by decide +kernel
theorem cd_24_79 : zt_code zq_T 24 79 = some (.bipush (10), 2, 0) := by decide +kernel
theorem cd_24_81 : zt_code zq_T 24 81 = some (.iload_n 3, 1, 0) := by decide +kernel
theorem cd_24_82 : zt_code zq_T 24 82 = some (.imul, 1, 0) := by decide +kernel
theorem cd_24_83 : zt_code zq_T 24 83 = some (.aload_n 0, 1, 0) := by decide +kernel
theorem cd_24_84 : zt_code zq_T 24 84 = some (.invokevirtual 131, 3, 0) := by decide +kernel
theorem cd_24_87 : zt_code zq_T 24 87 = some (.iadd, 1, 0) := by decide +kernel
theorem cd_24_88 : zt_code zq_T 24 88 = some (.bipush (48), 2, 0) := by decide +kernel
theorem cd_24_90 : zt_code zq_T 24 90 = some (.isub, 1, 0) := by decide +kernel
theorem cd_24_91 : zt_code zq_T 24 91 = some (.istore_n 3, 1, 0) := by decide +kernel
theorem cd_24_92 : zt_code zq_T 24 92 = some (.iload_n 3, 1, 0) := by decide +kernel
theorem cd_24_93 : zt_code zq_T 24 93 = some (.i2l, 1, 0) := by decide +kernel
theorem cd_24_94 : zt_code zq_T 24 94 = some (.iload_n 1, 1, 0) := by decide +kernel
theorem cd_24_95 : zt_code zq_T 24 95 = some (.i2l, 1, 0) := by decide +kernel
theorem cd_24_96 : zt_code zq_T 24 96 = some (.ldc2_w 202, 3, 0) := by decide +kernel
theorem cd_24_99 : zt_code zq_T 24 99 = some (.invokestatic 204, 3, 0) := by decide +kernel
theorem cd_24_102 : zt_code zq_T 24 102 = some (.ifCond .ne (11), 3, 0) := by decide +kernel
theorem cd_24_105 : zt_code zq_T 24 105 = some (.aload_n 0, 1, 0) := by decide +kernel
theorem cd_24_106 : zt_code zq_T 24 106 = some (.aload_n 0, 1, 0) := by decide +kernel
theorem cd_24_107 : zt_code zq_T 24 107 = some (.getfield 128, 3, 0) := by decide +kernel
theorem cd_24_110 : zt_code zq_T 24 110 = some (.invokevirtual 181, 3, 0) := by decide +kernel
theorem cd_24_113 : zt_code zq_T 24 113 = some (.aload_n 0, 1, 0) := by decide +kernel
theorem cd_24_114 : zt_code zq_T 24 114 = some (.dup, 1, 0) := by decide +kernel
theorem cd_24_115 : zt_code zq_T 24 115 = some (.getfield 128, 3, 0) := by decide +kernel
theorem cd_24_118 : zt_code zq_T 24 118 = some (.iconst 1, 1, 0) := by decide +kernel
theorem cd_24_119 : zt_code zq_T 24 119 = some (.iadd, 1, 0) := by decide +kernel
theorem cd_24_120 : zt_code zq_T 24 120 = some (.putfield 128, 3, 0) := by decide +kernel
theorem cd_24_123 : zt_code zq_T 24 123 = some (.goto (16), 3, 0) := by decide +kernel
theorem cd_24_126 : zt_code zq_T 24 126 = some (.iload_n 3, 1, 0) := by decide +kernel
theorem cd_24_127 : zt_code zq_T 24 127 = some (.iload_n 1, 1, 0) := by decide +kernel
theorem cd_24_128 : zt_code zq_T 24 128 = some (.if_icmp .ge (11), 3, 0) := by decide +kernel
theorem cd_24_131 : zt_code zq_T 24 131 = some (.aload_n 0, 1, 0) := by decide +kernel
theorem cd_24_132 : zt_code zq_T 24 132 = some (.aload_n 0, 1, 0) := by decide +kernel
theorem cd_24_133 : zt_code zq_T 24 133 = some (.getfield 128, 3, 0) := by decide +kernel
theorem cd_24_136 : zt_code zq_T 24 136 = some (.invokevirtual 181, 3, 0) := by decide +kernel
theorem cd_24_139 : zt_code zq_T 24 139 = some (.iload_n 3, 1, 0) := by decide +kernel
theorem cd_24_140 : zt_code zq_T 24 140 = some (.ireturn, 1, 0) := by decide +kernel
theorem cd_25_0 : zt_code zq_T 25 0 = some (.aload_n 0, 1, 0) := by decide +kernel
theorem cd_25_1 : zt_code zq_T 25 1 = some (.iconst 0, 1, 0) := by decide +kernel
theorem cd_25_2 : zt_code zq_T 25 2 = some (.invokevirtual 208, 3, 0) := by decide +kernel
theorem cd_25_5 : zt_code zq_T 25 5 = some (.istore_n 2, 1, 0) := by decide +kernel
theorem cd_25_6 : zt_code zq_T 25 6 = some (.aload_n 0, 1, 0) := by decide +kernel
theorem cd_25_7 : zt_code zq_T 25 7 = some (.invokevirtual 160, 3, 0) := by decide +kernel
theorem cd_25_10 : zt_code zq_T 25 10 = some (.ifCond .ne (4), 3, 0) := by decide +kernel
theorem cd_25_13 : zt_code zq_T 25 13 = some (.return_, 1, 0) := by decide +kernel
theorem cd_25_14 : zt_code zq_T 25 14 = some (.aload_n 0, 1, 0) := by decide +kernel
theorem cd_25_15 : zt_code zq_T 25 15 = some (.getfield 29, 3, 0) := by decide +kernel
theorem cd_25_18 : zt_code zq_T 25 18 = some (.iload_n 1, 1, 0) := by decide +kernel
theorem cd_25_19 : zt_code zq_T 25 19 = some (.iload_n 2, 1, 0) := by decide +kernel
theorem cd_25_20 : zt_code zq_T 25 20 = some (.iastore, 1, 0) := by decide +kernel
theorem cd_25_21 : zt_code zq_T 25 21 = some (.aload_n 0, 1, 0) := by decide +kernel
theorem cd_25_22 : zt_code zq_T 25 22 = some (.getfield 29, 3, 0) := by decide +kernel
theorem cd_25_25 : zt_code zq_T 25 25 = some (.iload_n 1, 1, 0) := by decide +kernel
theorem cd_25_26 : zt_code zq_T 25 26 = some (.iconst 1, 1, 0) := by decide +kernel
theorem cd_25_27 : zt_code zq_T 25 27 = some (.iadd, 1, 0) := by decide +kernel
theorem cd_25_28 : zt_code zq_T 25 28 = some (.iload_n 2, 1, 0) := by decide +kernel
theorem cd_25_29 : zt_code zq_T 25 29 = some (.iastore, 1, 0) := by decide +kernel
theorem cd_25_30 : zt_code zq_T 25 30 = some (.aload_n 0, 1, 0) := by decide +kernel
theorem cd_25_31 : zt_code zq_T 25 31 = some (.invokevirtual 138, 3, 0) := by decide +kernel
theorem cd_25_34 : zt_code zq_T 25 34 = some (.bipush (125), 2, 0) := by decide +kernel
theorem cd_25_36 : zt_code zq_T 25 36 = some (.if_icmp .ne (26), 3, 0) := by decide +kernel
theorem cd_25_39 : zt_code zq_T 25 39 = some (.iload_n 2, 1, 0) := by decide +kernel
theorem cd_25_40 : zt_code zq_T 25 40 = some (.ifCond .ne (11), 3, 0) := by decide +kernel
theorem cd_25_43 : zt_code zq_T 25 43 = some (.aload_n 0, 1, 0) := by decide +kernel
theorem cd_25_44 : zt_code zq_T 25 44 = some (.aload_n 0, 1, 0) := by decide +kernel
theorem cd_25_45 : zt_code zq_T 25 45 = some (.getfield 128, 3, 0) := by decide +kernel
theorem cd_25_48 : zt_code zq_T 25 48 = some (.invokevirtual 181, 3, 0) := by decide +kernel
theorem cd_25_51 : zt_code zq_T 25 51 = some (.aload_n 0, 1, 0) := by decide +kernel
theorem cd_25_52 : zt_code zq_T 25 52 = some (.dup, 1, 0) := by decide +kernel
theorem cd_25_53 : zt_code zq_T 25 53 = some (.getfield 128, 3, 0) := by decide +kernel
theorem cd_25_56 : zt_code zq_T 25 56 = some (.iconst 1, 1, 0) := by decide +kernel
theorem cd_25_57 : zt_code zq_T 25 57 = some (.iadd, 1, 0) := by decide +kernel
theorem cd_25_58 : zt_code zq_T 25 58 = some (.putfield 128, 3, 0) := by decide +kernel
theorem cd_25_61 : zt_code zq_T 25 61 = some (.return_, 1, 0) := by decide +kernel
theorem cd_25_62 : zt_code zq_T 25 62 = some (.aload_n 0, 1, 0) := by decide +kernel
theorem cd_25_63 : zt_code zq_T 25 63 = some (.bipush (44), 2, 0) := by decide +kernel
theorem cd_25_65 : zt_code zq_T 25 65 = some (.invokevirtual 171, 3, 0) := by decide +kernel
theorem cd_25_68 : zt_code zq_T 25 68 = some (.ifCond .ne (12), 3, 0) := by decide +kernel
theorem cd_25_71 : zt_code zq_T 25 71 = some (.aload_n 0, 1, 0) := by decide +kernel
theorem cd_25_72 : zt_code zq_T 25 72 = some (.aload_n 0, 1, 0) := by decide +kernel
theorem cd_25_73 : zt_code zq_T 25 73 = some (.getfield 128, 3, 0) := by decide +kernel
theorem cd_25_76 : zt_code zq_T 25 76 = some (.invokevirtual 181, 3, 0) := by decide +kernel
theorem cd_25_79 : zt_code zq_T 25 79 = some (.return_, 1, 0) := by decide +kernel
theorem cd_25_80 : zt_code zq_T 25 80 = some (.aload_n 0, 1, 0) := by decide +kernel
theorem cd_25_81 : zt_code zq_T 25 81 = some (.getfield 29, 3, 0) := by decide +kernel
theorem cd_25_84 : zt_code zq_T 25 84 = some (.iload_n 1, 1, 0) := by decide +kernel
theorem cd_25_85 : zt_code zq_T 25 85 = some (.iconst 1, 1, 0) := by decide +kernel
theorem cd_25_86 : zt_code zq_T 25 86 = some (.iadd, 1, 0) := by decide +kernel
theorem cd_25_87 : zt_code zq_T 25 87 = some (.iconst (-1), 1, 0) := by decide +kernel
theorem cd_25_88 : zt_code zq_T 25 88 = some (.iastore, 1, 0) := by decide +kernel
theorem cd_25_89 : zt_code zq_T 25 89 = some (.aload_n 0, 1, 0) := by decide +kernel
theorem cd_25_90 : zt_code zq_T 25 90 = some (.invokevirtual 138, 3, 0) := by decide +kernel
theorem cd_25_93 : zt_code zq_T 25 93 = some (.bipush (125), 2, 0) := by decide +kernel
theorem cd_25_95 : zt_code zq_T 25 95 = some (.if_icmp .eq (20), 3, 0) := by decide +kernel
theorem cd_25_98 : zt_code zq_T 25 98 = some (.aload_n 0, 1, 0) := by decide +kernel
theorem cd_25_99 : zt_code zq_T 25 99 = some (.getfield 29, 3, 0) := by decide +kernel
theorem cd_25_102 : zt_code zq_T 25 102 = some (.iload_n 1, 1, 0) := by decide +kernel
theorem cd_25_103 : zt_code zq_T 25 103 = some (.iconst 1, 1, 0) := by decide +kernel
theorem cd_25_104 : zt_code zq_T 25 104 = some (.iadd, 1, 0) := by decide +kernel
theorem cd_25_105 : zt_code zq_T 25 105 = some (.aload_n 0, 1, 0) := by decide +kernel
theorem cd_25_106 : zt_code zq_T 25 106 = some (.iconst 1, 1, 0) := by decide +kernel
theorem cd_25_107 : zt_code zq_T 25 107 = some (.iload_n 2, 1, 0) := by decide +kernel
theorem cd_25_108 : zt_code zq_T 25 108 = some (.invokestatic 144, 3, 0) := by decide +kernel
theorem cd_25_111 : zt_code zq_T 25 111 = some (.invokevirtual 208, 3, 0) := by decide +kernel
theorem cd_25_114 : zt_code zq_T 25 114 = some (.iastore, 1, 0) := by decide +kernel
theorem cd_25_115 : zt_code zq_T 25 115 = some (.aload_n 0, 1, 0) := by decide +kernel
theorem cd_25_116 : zt_code zq_T 25 116 = some (.invokevirtual 160, 3, 0) := by decide +kernel
theorem cd_25_119 : zt_code zq_T 25 119 = some (.ifCond .eq (20), 3, 0) := by decide +kernel
theorem cd_25_122 : zt_code zq_T 25 122 = some (.aload_n 0, 1, 0) := by decide +kernel
theorem cd_25_123 : zt_code zq_T 25 123 = some (.bipush (125), 2, 0) := by decide +kernel
theorem cd_25_125 : zt_code zq_T 25 125 = some (.invokevirtual 171, 3, 0) := by decide +kernel
theorem cd_25_128 : zt_code zq_T 25 128 = some (.ifCond .ne (11), 3, 0) := by decide +kernel
theorem cd_25_131 : zt_code zq_T 25 131 = some (.aload_n 0, 1, 0) := by decide +kernel
theorem cd_25_132 : zt_code zq_T 25 132 = some (.aload_n 0, 1, 0) := by decide +kernel
theorem cd_25_133 : zt_code zq_T 25 133 = some (.getfield 128, 3, 0) := by decide +kernel
theorem cd_25_136 : zt_code zq_T 25 136 = some (.invokevirtual 181, 3, 0) := by decide +kernel
theorem cd_25_139 : zt_code zq_T 25 139 = some (.return_, 1, 0) := by decide +kernel
theorem cd_26_0 : zt_code zq_T 26 0 = some (.aload_n 0, 1, 0) := by decide +kernel
theorem cd_26_1 : zt_code zq_T 26 1 = some (.invokevirtual 138, 3, 0) := by decide +kernel
theorem cd_26_4 : zt_code zq_T 26 4 = some (.istore_n 1, 1, 0) := by decide +kernel
theorem cd_26_5 : zt_code zq_T 26 5 = some (.iload_n 1, 1, 0) := by decide +kernel
theorem cd_26_6 : zt_code zq_T 26 6 = some (.invokestatic 175, 3, 0) := by decide +kernel
theorem cd_26_9 : zt_code zq_T 26 9 = some (.istore_n 2, 1, 0) := by decide +kernel
theorem cd_26_10 : zt_code zq_T 26 10 = some (.iconst 0, 1, 0) := by decide +kernel
theorem cd_26_11 : zt_code zq_T 26 11 = some (.istore_n 3, 1, 0) := by decide +kernel
theorem cd_26_12 : zt_code zq_T 26 12 = some (.iload_n 3, 1, 0) := by decide +kernel
theorem cd_26_13 : zt_code zq_T 26 13 = some (.aload_n 0, 1, 0) := by decide +kernel
theorem cd_26_14 : zt_code zq_T 26 14 = some (.getfield 150, 3, 0) := by decide +kernel
theorem cd_26_17 : zt_code zq_T 26 17 = some (.if_icmp .ge (34), 3, 0) := by decide +kernel
theorem cd_26_20 : zt_code zq_T 26 20 = some (.iload_n 2, 1, 0) := by decide +kernel
theorem cd_26_21 : zt_code zq_T 26 21 = some (.ifCond .eq (22), 3, 0) := by decide +kernel
theorem cd_26_24 : zt_code zq_T 26 24 = some (.aload_n 0, 1, 0) := by decide +kernel
theorem cd_26_25 : zt_code zq_T 26 25 = some (.getfield 23, 3, 0) := by decide +kernel
theorem cd_26_28 : zt_code zq_T 26 28 = some (.iconst 5, 1, 0) := by decide +kernel
theorem cd_26_29 : zt_code zq_T 26 29 = some (.iload_n 3, 1, 0) := by decide +kernel
theorem cd_26_30 : zt_code zq_T 26 30 = some (.imul, 1, 0) := by decide +kernel
theorem cd_26_31 : zt_code zq_T 26 31 = some (.iaload, 1, 0) := by decide +kernel
theorem cd_26_32 : zt_code zq_T 26 32 = some (.iload_n 1, 1, 0) := by decide +kernel
theorem cd_26_33 : zt_code zq_T 26 33 = some (.bipush (97), 2, 0) := by decide +kernel
theorem cd_26_35 : zt_code zq_T 26 35 = some (.isub, 1, 0) := by decide +kernel
theorem cd_26_36 : zt_code zq_T 26 36 = some (.if_icmp .eq (7), 3, 0) := by decide +kernel
theorem cd_26_39 : zt_code zq_T 26 39 = some (.iconst 1, 1, 0) := by decide +kernel
theorem cd_26_40 : zt_code zq_T 26 40 = some (.goto (4), 3, 0) := by decide +kernel
theorem cd_26_43 : zt_code zq_T 26 43 = some (.iconst 0, 1, 0) := by decide +kernel
theorem cd_26_44 : zt_code zq_T 26 44 = some (.istore_n 2, 1, 0) := by decide +kernel
theorem cd_26_45 : zt_code zq_T 26 45 = some (.iinc 3 (1), 3, 0) := by decide +kernel
theorem cd_26_48 : zt_code zq_T 26 48 = some (.goto (-36), 3, 0) := by decide +kernel
theorem cd_26_51 : zt_code zq_T 26 51 = some (.iload_n 2, 1, 0) := by decide +kernel
theorem cd_26_52 : zt_code zq_T 26 52 = some (.ifCond .ne (12), 3, 0) := by decide +kernel
theorem cd_26_55 : zt_code zq_T 26 55 = some (.aload_n 0, 1, 0) := by decide +kernel
theorem cd_26_56 : zt_code zq_T 26 56 = some (.aload_n 0, 1, 0) := by decide +kernel
theorem cd_26_57 : zt_code zq_T 26 57 = some (.getfield 128, 3, 0) := by decide +kernel
theorem cd_26_60 : zt_code zq_T 26 60 = some (.invokevirtual 181, 3, 0) := by decide +kernel
theorem cd_26_63 : zt_code zq_T 26 63 = some (.return_, 1, 0) := by decide +kernel
theorem cd_26_64 : zt_code zq_T 26 64 = some (.aload_n 0, 1, 0) := by decide +kernel
theorem cd_26_65 : zt_code zq_T 26 65 = some (.dup, 1, 0) := by decide +kernel
theorem cd_26_66 : zt_code zq_T 26 66 = some (.getfield 128, 3, 0) := by decide +kernel
theorem cd_26_69 : zt_code zq_T 26 69 = some (.iconst 1, 1, 0) := by decide +kernel
theorem cd_26_70 : zt_code zq_T 26 70 = some (.iadd, 1, 0) := by decide +kernel
theorem cd_26_71 : zt_code zq_T 26 71 = some (.putfield 128, 3, 0) := by decide +kernel
theorem cd_26_74 : zt_code zq_T 26 74 = some (.iconst 0, 1, 0) := by decide +kernel
theorem cd_26_75 : zt_code zq_T 26 75 = some (.istore_n 3, 1, 0) := by decide +kernel
theorem cd_26_76 : zt_code zq_T 26 76 = some (.iload_n 3, 1, 0) := by decide +kernel
theorem cd_26_77 : zt_code zq_T 26 77 = some (.iconst 5, 1, 0) := by decide +kernel
theorem cd_26_78 : zt_code zq_T 26 78 = some (.if_icmp .ge (23), 3, 0) := by decide +kernel
theorem cd_26_81 : zt_code zq_T 26 81 = some (.aload_n 0, 1, 0) := by decide +kernel
theorem cd_26_82 : zt_code zq_T 26 82 = some (.getfield 23, 3, 0) := by decide +kernel
theorem cd_26_85 : zt_code zq_T 26 85 = some (.iconst 5, 1, 0) := by decide +kernel
theorem cd_26_86 : zt_code zq_T 26 86 = some (.aload_n 0, 1, 0) := by decide +kernel
theorem cd_26_87 : zt_code zq_T 26 87 = some (.getfield 150, 3, 0) := by decide +kernel
theorem cd_26_90 : zt_code zq_T 26 90 = some (.imul, 1, 0) := by decide +kernel
theorem cd_26_91 : zt_code zq_T 26 91 = some (.iload_n 3, 1, 0) := by decide +kernel
theorem cd_26_92 : zt_code zq_T 26 92 = some (.iadd, 1, 0) := by decide +kernel
theorem cd_26_93 : zt_code zq_T 26 93 = some (.iconst 0, 1, 0) := by decide +kernel
theorem cd_26_94 : zt_code zq_T 26 94 = some (.iastore, 1, 0) := by decide +kernel
theorem cd_26_95 : zt_code zq_T 26 95 = some (.iinc 3 (1), 3, 0) := by decide +kernel
theorem cd_26_98 : zt_code zq_T 26 98 = some (.goto (-22), 3, 0) := by decide +kernel
theorem cd_26_101 : zt_code zq_T 26 101 = some (.aload_n 0, 1, 0) := by decide +kernel
theorem cd_26_102 : zt_code zq_T 26 102 = some (.getfield 23, 3, 0) := by decide +kernel
theorem cd_26_105 : zt_code zq_T 26 105 = some (.iconst 5, 1, 0) := by decide +kernel
theorem cd_26_106 : zt_code zq_T 26 106 = some (.aload_n 0, 1, 0) := by decide +kernel
theorem cd_26_107 : zt_code zq_T 26 107 = some (.getfield 150, 3, 0) := by decide +kernel
theorem cd_26_110 : zt_code zq_T 26 110 = some (.imul, 1, 0) := by decide +kernel
theorem cd_26_111 : zt_code zq_T 26 111 = some (.iload_n 1, 1, 0) := by decide +kernel
theorem cd_26_112 : zt_code zq_T 26 112 = some (.bipush (97), 2, 0) := by decide +kernel
theorem cd_26_114 : zt_code zq_T 26 114 = some (.isub, 1, 0) := by decide +kernel
theorem cd_26_115 : zt_code zq_T 26 115 = some (.iastore, 1, 0) := by decide +kernel
theorem cd_26_116 : zt_code zq_T 26 116 = some (.aload_n 0, 1, 0) := by decide +kernel
theorem cd_26_117 : zt_code zq_T 26 117 = some (.bipush (61), 2, 0) := by decide +kernel
theorem cd_26_119 : zt_code zq_T 26 119 = some (.invokevirtual 171, 3, 0) := by decide +kernel
theorem cd_26_122 : zt_code zq_T 26 122 = some (.ifCond .ne (12), 3, 0) := by decide +kernel
theorem cd_26_125 : zt_code zq_T 26 125 = some (.aload_n 0, 1, 0) := by decide +kernel
theorem cd_26_126 : zt_code zq_T 26 126 = some (.aload_n 0, 1, 0) := by decide +kernel
theorem cd_26_127 : zt_code zq_T 26 127 = some (.getfield 128, 3, 0) := by decide +kernel
theorem cd_26_130 : zt_code zq_T 26 130 = some (.invokevirtual 181, 3, 0) := by decide +kernel
theorem cd_26_133 : zt_code zq_T 26 133 = some (.return_, 1, 0) := by decide +kernel
theorem cd_26_134 : zt_code zq_T 26 134 = some (.aload_n 0, 1, 0) := by decide +kernel
theorem cd_26_135 : zt_code zq_T 26 135 = some (.iconst 0, 1, 0) := by decide +kernel
theorem cd_26_136 : zt_code zq_T 26 136 = some (.invokevirtual 190, 3, 0) := by decide +kernel
theorem cd_26_139 : zt_code zq_T 26 139 = some (.istore_n 3, 1, 0) := by decide +kernel
theorem cd_26_140 : zt_code zq_T 26 140 = some (.aload_n 0, 1, 0) := by decide +kernel
theorem cd_26_141 : zt_code zq_T 26 141 = some (.getfield 23, 3, 0) := by decide +kernel
theorem cd_26_144 : zt_code zq_T 26 144 = some (.iconst 5, 1, 0) := by decide +kernel
theorem cd_26_145 : zt_code zq_T 26 145 = some (.aload_n 0, 1, 0) := by decide +kernel
theorem cd_26_146 : zt_code zq_T 26 146 = some (.getfield 150, 3, 0) := by decide +kernel
theorem cd_26_149 : zt_code zq_T 26 149 = some (.imul, 1, 0) := by decide +kernel
theorem cd_26_150 : zt_code zq_T 26 150 = some (.iconst 1, 1, 0) := by decide +kernel
theorem cd_26_151 : zt_code zq_T 26 151 = some (.iadd, 1, 0) := by decide +kernel
theorem cd_26_152 : zt_code zq_T 26 152 = some (.iload_n 3, 1, 0) := by decide +kernel
theorem cd_26_153 : zt_code zq_T 26 153 = some (.iastore, 1, 0) := by decide +kernel
theorem cd_26_154 : zt_code zq_T 26 154 = some (.return_, 1, 0) := by decide +kernel
theorem cd_27_0 : zt_code zq_T 27 0 = some (.aload_n 0, 1, 0) := by decide +kernel
theorem cd_27_1 : zt_code zq_T 27 1 = some (.iconst 0, 1, 0) := by decide +kernel
theorem cd_27_2 : zt_code zq_T 27 2 = some (.putfield 128, 3, 0) := by decide +kernel
theorem cd_27_5 : zt_code zq_T 27 5 = some (.aload_n 0, 1, 0) := by decide +kernel
theorem cd_27_6 : zt_code zq_T 27 6 = some (.iconst (-1), 1, 0) := by decide +kernel
theorem cd_27_7 : zt_code zq_T 27 7 = some (.putfield 135, 3, 0) := by decide +kernel
theorem cd_27_10 : zt_code zq_T 27 10 = some (.aload_n 0, 1, 0) := by decide +kernel
theorem cd_27_11 : zt_code zq_T 27 11 = some (.iconst 0, 1, 0) := by decide +kernel
theorem cd_27_12 : zt_code zq_T 27 12 = some (.putfield 150, 3, 0) := by decide +kernel
theorem cd_27_15 : zt_code zq_T 27 15 = some (.aload_n 0, 1, 0) := by decide +kernel
theorem cd_27_16 : zt_code zq_T 27 16 = some (.iconst 0, 1, 0) := by decide +kernel
theorem cd_27_17 : zt_code zq_T 27 17 = some (.putfield 141, 3, 0) := by decide +kernel
theorem cd_27_20 : zt_code zq_T 27 20 = some (.iconst 1, 1, 0) := by decide +kernel
theorem cd_27_21 : zt_code zq_T 27 21 = some (.istore_n 1, 1, 0) := by decide +kernel
theorem cd_27_22 : zt_code zq_T 27 22 = some (.iload_n 1, 1, 0) := by decide +kernel
theorem cd_27_23 : zt_code zq_T 27 23 = some (.ifCond .eq (91), 3, 0) := by decide +kernel
theorem cd_27_26 : zt_code zq_T 27 26 = some (.aload_n 0, 1, 0) := by decide +kernel
theorem cd_27_27 : zt_code zq_T 27 27 = some (.invokevirtual 211, 3, 0) := by decide +kernel
theorem cd_27_30 : zt_code zq_T 27 30 = some (.aload_n 0, 1, 0) := by decide +kernel
theorem cd_27_31 : zt_code zq_T 27 31 = some (.dup, 1, 0) := by decide +kernel
theorem cd_27_32 : zt_code zq_T 27 32 = some (.getfield 150, 3, 0) := by decide +kernel
theorem cd_27_35 : zt_code zq_T 27 35 = some (.iconst 1, 1, 0) := by decide +kernel
theorem cd_27_36 : zt_code zq_T 27 36 = some (.iadd, 1, 0) := by decide +kernel
theorem cd_27_37 : zt_code zq_T 27 37 = some (.putfield 150, 3, 0) := by decide +kernel
theorem cd_27_40 : zt_code zq_T 27 40 = some (.aload_n 0, 1, 0) := by decide +kernel
theorem cd_27_41 : zt_code zq_T 27 41 = some (.invokevirtual 160, 3, 0) := by decide +kernel
theorem cd_27_44 : zt_code zq_T 27 44 = some (.ifCond .eq (25), 3, 0) := by decide +kernel
theorem cd_27_47 : zt_code zq_T 27 47 = some (.aload_n 0, 1, 0) := by decide +kernel
theorem cd_27_48 : zt_code zq_T 27 48 = some (.invokevirtual 138, 3, 0) := by decide +kernel
theorem cd_27_51 : zt_code zq_T 27 51 = some (.bipush (59), 2, 0) := by decide +kernel
theorem cd_27_53 : zt_code zq_T 27 53 = some (.if_icmp .ne (16), 3, 0) := by decide +kernel
theorem cd_27_56 : zt_code zq_T 27 56 = some (.aload_n 0, 1, 0) := by decide +kernel
theorem cd_27_57 : zt_code zq_T 27 57 = some (.getfield 150, 3, 0) := by decide +kernel
theorem cd_27_60 : zt_code zq_T 27 60 = some (.bipush (8), 2, 0) := by decide +kernel
theorem cd_27_62 : zt_code zq_T 27 62 = some (.if_icmp .ge (7), 3, 0) := by decide +kernel
theorem cd_27_65 : zt_code zq_T 27 65 = some (.iconst 1, 1, 0) := by decide +kernel
theorem cd_27_66 : zt_code zq_T 27 66 = some (.goto (4), 3, 0) := by decide +kernel
theorem cd_27_69 : zt_code zq_T 27 69 = some (.iconst 0, 1, 0) := by decide +kernel
theorem cd_27_70 : zt_code zq_T 27 70 = some (.istore_n 1, 1, 0) := by decide +kernel
theorem cd_27_71 : zt_code zq_T 27 71 = some (.iload_n 1, 1, 0) := by decide +kernel
theorem cd_27_72 : zt_code zq_T 27 72 = some (.ifCond .eq (16), 3, 0) := by decide +kernel
theorem cd_27_75 : zt_code zq_T 27 75 = some (.aload_n 0, 1, 0) := by decide +kernel
theorem cd_27_76 : zt_code zq_T 27 76 = some (.dup, 1, 0) := by decide +kernel
theorem cd_27_77 : zt_code zq_T 27 77 = some (.getfield 128, 3, 0) := by decide +kernel
theorem cd_27_80 : zt_code zq_T 27 80 = some (.iconst 1, 1, 0) := by decide +kernel
theorem cd_27_81 : zt_code zq_T 27 81 = some (.iadd, 1, 0) := by decide +kernel
theorem cd_27_82 : zt_code zq_T 27 82 = some (.putfield 128, 3, 0) := by decide +kernel
theorem cd_27_85 : zt_code zq_T 27 85 = some (.goto (-63), 3, 0) := by decide +kernel
theorem cd_27_88 : zt_code zq_T 27 88 = some (.aload_n 0, 1, 0) := by decide +kernel
theorem cd_27_89 : zt_code zq_T 27 89 = some (.invokevirtual 160, 3, 0) := by decide +kernel
theorem cd_27_92 : zt_code zq_T 27 92 = some (.ifCond .eq (-70), 3, 0) := by decide +kernel
theorem cd_27_95 : zt_code zq_T 27 95 = some (.aload_n 0, 1, 0) := by decide +kernel
theorem cd_27_96 : zt_code zq_T 27 96 = some (.invokevirtual 138, 3, 0) := by decide +kernel
theorem cd_27_99 : zt_code zq_T 27 99 = some (.iconst (-1), 1, 0) := by decide +kernel
theorem cd_27_100 : zt_code zq_T 27 100 = some (.if_icmp .eq (-78), 3, 0) := by decide +kernel
theorem cd_27_103 : zt_code zq_T 27 103 = some (.aload_n 0, 1, 0) := by decide +kernel
theorem cd_27_104 : zt_code zq_T 27 104 = some (.aload_n 0, 1, 0) := by decide +kernel
theorem cd_27_105 : zt_code zq_T 27 105 = some (.getfield 128, 3, 0) := by decide +kernel
theorem cd_27_108 : zt_code zq_T 27 108 = some (.invokevirtual 181, 3, 0) := by decide +kernel
theorem cd_27_111 : zt_code zq_T 27 111 = some (.goto (-89), 3, 0) := by decide +kernel
theorem cd_27_114 : zt_code zq_T 27 114 = some (.aload_n 0, 1, 0) := by decide +kernel
theorem cd_27_115 : zt_code zq_T 27 115 = some (.getfield 135, 3, 0) := by decide +kernel
theorem cd_27_118 : zt_code zq_T 27 118 = some (.ireturn, 1, 0) := by decide +kernel
theorem cd_28_0 : zt_code zq_T 28 0 = some (.aload_n 0, 1, 0) := by decide +kernel
theorem cd_28_1 : zt_code zq_T 28 1 = some (.invokevirtual 138, 3, 0) := by decide +kernel
theorem cd_28_4 : zt_code zq_T 28 4 = some (.istore_n 3, 1, 0) := by decide +kernel
theorem cd_28_5 : zt_code zq_T 28 5 = some (.iload_n 3, 1, 0) := by decide +kernel
theorem cd_28_6 : zt_code zq_T 28 6 = some (.invokestatic 175, 3, 0) := by decide +kernel
theorem cd_28_9 : zt_code zq_T 28 9 = some (.ifCond .eq (36), 3, 0) := by decide +kernel
theorem cd_28_12 : zt_code zq_T 28 12 = some (.aload_n 0, 1, 0) := by decide +kernel
theorem cd_28_13 : zt_code zq_T 28 13 = some (.getfield 214, 3, 0) := by decide +kernel
theorem cd_28_16 : zt_code zq_T 28 16 = some (.bipush (60), 2, 0) := by decide +kernel
theorem cd_28_18 : zt_code zq_T 28 18 = some (.if_icmp .ge (27), 3, 0) := by decide +kernel
theorem cd_28_21 : zt_code zq_T 28 21 = some (.iload_n 1, 1, 0) := by decide +kernel
theorem cd_28_22 : zt_code zq_T 28 22 = some (.iconst (-1), 1, 0) := by decide +kernel
theorem cd_28_23 : zt_code zq_T 28 23 = some (.if_icmp .eq (18), 3, 0) := by decide +kernel
theorem cd_28_26 : zt_code zq_T 28 26 = some (.aload_n 0, 1, 0) := by decide +kernel
theorem cd_28_27 : zt_code zq_T 28 27 = some (.getfield 47, 3, 0) := by decide +kernel
theorem cd_28_30 : zt_code zq_T 28 30 = some (.iconst 4, 1, 0) := by decide +kernel
theorem cd_28_31 : zt_code zq_T 28 31 = some (.iload_n 1, 1, 0) := by decide +kernel
theorem cd_28_32 : zt_code zq_T 28 32 = some (.imul, 1, 0) := by decide +kernel
theorem cd_28_33 : zt_code zq_T 28 33 = some (.iconst 2, 1, 0) := by decide +kernel
theorem cd_28_34 : zt_code zq_T 28 34 = some (.iadd, 1, 0) := by decide +kernel
theorem cd_28_35 : zt_code zq_T 28 35 = some (.iaload, 1, 0) := by decide +kernel
theorem cd_28_36 : zt_code zq_T 28 36 = some (.bipush (24), 2, 0) := by decide +kernel
theorem cd_28_38 : zt_code zq_T 28 38 = some (.if_icmp .ge (7), 3, 0) := by decide +kernel
theorem cd_28_41 : zt_code zq_T 28 41 = some (.iconst 1, 1, 0) := by decide +kernel
theorem cd_28_42 : zt_code zq_T 28 42 = some (.goto (4), 3, 0) := by decide +kernel
theorem cd_28_45 : zt_code zq_T 28 45 = some (.iconst 0, 1, 0) := by decide +kernel
theorem cd_28_46 : zt_code zq_T 28 46 = some (.istore 4, 2, 0) := by decide +kernel
theorem cd_28_48 : zt_code zq_T 28 48 = some (.iload 4, 2, 0) := by decide +kernel
theorem cd_28_50 : zt_code zq_T 28 50 = some (.ifCond .ne (12), 3, 0) := by decide +kernel
theorem cd_28_53 : zt_code zq_T 28 53 = some (.aload_n 0, 1, 0) := by decide +kernel
theorem cd_28_54 : zt_code zq_T 28 54 = some (.aload_n 0, 1, 0) := by decide +kernel
theorem cd_28_55 : zt_code zq_T 28 55 = some (.getfield 128, 3, 0) := by decide +kernel
theorem cd_28_58 : zt_code zq_T 28 58 = some (.invokevirtual 181, 3, 0) := by decide +kernel
theorem cd_28_61 : zt_code zq_T 28 61 = some (.return_, 1, 0) := by decide +kernel
theorem cd_28_62 : zt_code zq_T 28 62 = some (.aload_n 0, 1, 0) := by decide +kernel
theorem cd_28_63 : zt_code zq_T 28 63 = some (.dup, 1, 0) := by decide +kernel
theorem cd_28_64 : zt_code zq_T 28 64 = some (.getfield 128, 3, 0) := by decide +kernel
theorem cd_28_67 : zt_code zq_T 28 67 = some (.iconst 1, 1, 0) := by decide +kernel
theorem cd_28_68 : zt_code zq_T 28 68 = some (.iadd, 1, 0) := by decide +kernel
theorem cd_28_69 : zt_code zq_T 28 69 = some (.putfield 128, 3, 0) := by decide +kernel
theorem cd_28_72 : zt_code zq_T 28 72 = some (.aload_n 0, 1, 0) := by decide +kernel
theorem cd_28_73 : zt_code zq_T 28 73 = some (.getfield 214, 3, 0) := by decide +kernel
theorem cd_28_76 : zt_code zq_T 28 76 = some (.istore 5, 2, 0) := by decide +kernel
theorem cd_28_78 : zt_code zq_T 28 78 = some (.aload_n 0, 1, 0) := by decide +kernel
theorem cd_28_79 : zt_code zq_T 28 79 = some (.dup, 1, 0) := by decide +kernel
theorem cd_28_80 : zt_code zq_T 28 80 = some (.getfield 214, 3, 0) := by decide +kernel
theorem cd_28_83 : zt_code zq_T 28 83 = some (.iconst 1, 1, 0) := by decide +kernel
theorem cd_28_84 : zt_code zq_T 28 84 = some (.iadd, 1, 0) := by decide +kernel
theorem cd_28_85 : zt_code zq_T 28 85 = some (.putfield 214, 3, 0) := by decide +kernel
theorem cd_28_88 : zt_code zq_T 28 88 = some (.aload_n 0, 1, 0) := by decide +kernel
theorem cd_28_89 : zt_code zq_T 28 89 = some (.getfield 47, 3, 0) := by decide +kernel
theorem cd_28_92 : zt_code zq_T 28 92 = some (.iconst 4, 1, 0) := by decide +kernel
theorem cd_28_93 : zt_code zq_T 28 93 = some (.iload 5, 2, 0) := by decide +kernel
theorem cd_28_95 : zt_code zq_T 28 95 = some (.imul, 1, 0) := by decide +kernel
theorem cd_28_96 : zt_code zq_T 28 96 = some (.iload_n 3, 1, 0) := by decide +kernel
theorem cd_28_97 : zt_code zq_T 28 97 = some (.bipush (97), 2, 0) := by decide +kernel
theorem cd_28_99 : zt_code zq_T 28 99 = some (.isub, 1, 0) := by decide +kernel
theorem cd_28_100 : zt_code zq_T 28 100 = some (.iastore, 1, 0) := by decide +kernel
theorem cd_28_101 : zt_code zq_T 28 101 = some (.aload_n 0, 1, 0) := by decide +kernel
theorem cd_28_102 : zt_code zq_T 28 102 = some (.getfield 47, 3, 0) := by decide +kernel
theorem cd_28_105 : zt_code zq_T 28 105 = some (.iconst 4, 1, 0) := by decide +kernel
theorem cd_28_106 : zt_code zq_T 28 106 = some (.iload 5, 2, 0) := by decide +kernel
theorem cd_28_108 : zt_code zq_T 28 108 = some (.imul, 1, 0) := by decide +kernel
theorem cd_28_109 : zt_code zq_T 28 109 = some (.iconst 1, 1, 0) := by decide +kernel
theorem cd_28_110 : zt_code zq_T 28 110 = some (.iadd, 1, 0) := by decide +kernel
theorem cd_28_111 : zt_code zq_T 28 111 = some (.iload_n 1, 1, 0) := by decide +kernel
theorem cd_28_112 : zt_code zq_T 28 112 = some (.iastore, 1, 0) := by decide +kernel
theorem cd_28_113 : zt_code zq_T 28 113 = some (.aload_n 0, 1, 0) := by decide +kernel
theorem cd_28_114 : zt_code zq_T 28 114 = some (.getfield 47, 3, 0) := by decide +kernel
theorem cd_28_117 : zt_code zq_T 28 117 = some (.iconst 4, 1, 0) := by decide +kernel
theorem cd_28_118 : zt_code zq_T 28 118 = some (.iload 5, 2, 0) := by decide +kernel
theorem cd_28_120 : zt_code zq_T 28 120 = some (.imul, 1, 0) := by decide +kernel
theorem cd_28_121 : zt_code zq_T 28 121 = some (.iconst 2, 1, 0) := by decide +kernel
theorem cd_28_122 : zt_code zq_T 28 122 = some (.iadd, 1, 0) := by decide +kernel
theorem cd_28_123 : zt_code zq_T 28 123 = some (.iconst 0, 1, 0) := by decide +kernel
theorem cd_28_124 : zt_code zq_T 28 124 = some (.iastore, 1, 0) := by decide +kernel
theorem cd_28_125 : zt_code zq_T 28 125 = some (.aload_n 0, 1, 0) := by decide +kernel
theorem cd_28_126 : zt_code zq_T 28 126 = some (.getfield 47, 3, 0) := by decide +kernel
theorem cd_28_129 : zt_code zq_T 28 129 = some (.iconst 4, 1, 0) := by decide +kernel
theorem cd_28_130 : zt_code zq_T 28 130 = some (.iload 5, 2, 0) := by decide +kernel
theorem cd_28_132 : zt_code zq_T 28 132 = some (.imul, 1, 0) := by decide +kernel
theorem cd_28_133 : zt_code zq_T 28 133 = some (.iconst 3, 1, 0) := by decide +kernel
theorem cd_28_134 : zt_code zq_T 28 134 = some (.iadd, 1, 0) := by decide +kernel
theorem cd_28_135 : zt_code zq_T 28 135 = some (.iload_n 2, 1, 0) := by decide +kernel
theorem cd_28_136 : zt_code zq_T 28 136 = some (.iastore, 1, 0) := by decide +kernel
theorem cd_28_137 : zt_code zq_T 28 137 = some (.iload_n 1, 1, 0) := by decide +kernel
theorem cd_28_138 : zt_code zq_T 28 138 = some (.iconst (-1), 1, 0) := by decide +kernel
theorem cd_28_139 : zt_code zq_T 28 139 = some (.if_icmp .eq (17), 3, 0) := by decide +kernel
theorem cd_28_142 : zt_code zq_T 28 142 = some (.aload_n 0, 1, 0) := by decide +kernel
theorem cd_28_143 : zt_code zq_T 28 143 = some (.getfield 47, 3, 0) := by decide +kernel
theorem cd_28_146 : zt_code zq_T 28 146 = some (.iconst 4, 1, 0) := by decide +kernel
theorem cd_28_147 : zt_code zq_T 28 147 = some (.iload_n 1, 1, 0) := by decide +kernel
theorem cd_28_148 : zt_code zq_T 28 148 = some (.imul, 1, 0) := by decide +kernel
theorem cd_28_149 : zt_code zq_T 28 149 = some (.iconst 2, 1, 0) := by decide +kernel
theorem cd_28_150 : zt_code zq_T 28 150 = some (.iadd, 1, 0) := by decide +kernel
theorem cd_28_151 : zt_code zq_T 28 151 = some (.dup2, 1, 0) := by decide +kernel
theorem cd_28_152 : zt_code zq_T 28 152 = some (.iaload, 1, 0) := by decide +kernel
theorem cd_28_153 : zt_code zq_T 28 153 = some (.iconst 1, 1, 0) := by decide +kernel
theorem cd_28_154 : zt_code zq_T 28 154 = some (.iadd, 1, 0) := by decide +kernel
theorem cd_28_155 : zt_code zq_T 28 155 = some (.iastore, 1, 0) := by decide +kernel
theorem cd_28_156 : zt_code zq_T 28 156 = some (.aload_n 0, 1, 0) := by decide +kernel
theorem cd_28_157 : zt_code zq_T 28 157 = some (.invokevirtual 138, 3, 0) := by decide +kernel
theorem cd_28_160 : zt_code zq_T 28 160 = some (.bipush (40), 2, 0) := by decide +kernel
theorem cd_28_162 : zt_code zq_T 28 162 = some (.if_icmp .eq (4), 3, 0) := by decide +kernel
theorem cd_28_165 : zt_code zq_T 28 165 = some (.return_, 1, 0) := by decide +kernel
theorem cd_28_166 : zt_code zq_T 28 166 = some (.iload_n 2, 1, 0) := by decide +kernel
theorem cd_28_167 : zt_code zq_T 28 167 = some (.bipush (7), 2, 0) := by decide +kernel
theorem cd_28_169 : zt_code zq_T 28 169 = some (.if_icmp .ne (12), 3, 0) := by decide +kernel
theorem cd_28_172 : zt_code zq_T 28 172 = some (.aload_n 0, 1, 0) := by decide +kernel
theorem cd_28_173 : zt_code zq_T 28 173 = some (.aload_n 0, 1, 0) := by decide +kernel
theorem cd_28_174 : zt_code zq_T 28 174 = some (.getfield 128, 3, 0) := by decide +kernel
theorem cd_28_177 : zt_code zq_T 28 177 = some (.invokevirtual 181, 3, 0) := by decide +kernel
theorem cd_28_180 : zt_code zq_T 28 180 = some (.return_, 1, 0) := by decide +kernel
theorem cd_28_181 : zt_code zq_T 28 181 = some (.iconst 1, 1, 0) := by decide +kernel
theorem cd_28_182 : zt_code zq_T 28 182 = some (.istore 6, 2, 0) := by decide +kernel
theorem cd_28_184 : zt_code zq_T 28 184 = some (.aload_n 0, 1, 0) := by decide +kernel
theorem cd_28_185 : zt_code zq_T 28 185 = some (.invokevirtual 160, 3, 0) := by decide +kernel
theorem cd_28_188 : zt_code zq_T 28 188 = some (.ifCond .eq (53), 3, 0) := by decide +kernel
theorem cd_28_191 : zt_code zq_T 28 191 = some (.iload 6, 2, 0) := by decide +kernel
theorem cd_28_193 : zt_code zq_T 28 193 = some (.ifCond .eq (48), 3, 0) := by decide +kernel
theorem cd_28_196 : zt_code zq_T 28 196 = some (.aload_n 0, 1, 0) := by decide +kernel
theorem cd_28_197 : zt_code zq_T 28 197 = some (.dup, 1, 0) := by decide +kernel
theorem cd_28_198 : zt_code zq_T 28 198 = some (.getfield 128, 3, 0) := by decide +kernel
theorem cd_28_201 : zt_code zq_T 28 201 = some (.iconst 1, 1, 0) := by decide +kernel
theorem cd_28_202 : zt_code zq_T 28 202 = some (.iadd, 1, 0) := by decide +kernel
theorem cd_28_203 : zt_code zq_T 28 203 = some (.putfield 128, 3, 0) := by decide +kernel
theorem cd_28_206 : zt_code zq_T 28 206 = some (.aload_n 0, 1, 0) := by decide +kernel
theorem cd_28_207 : zt_code zq_T 28 207 = some (.iload 5, 2, 0) := by decide +kernel
theorem cd_28_209 : zt_code zq_T 28 209 = some (.iload_n 2, 1, 0) := by decide +kernel
theorem cd_28_210 : zt_code zq_T 28 210 = some (.iconst 1, 1, 0) := by decide +kernel
theorem cd_28_211 : zt_code zq_T 28 211 = some (.iadd, 1, 0) := by decide +kernel
theorem cd_28_212 : zt_code zq_T 28 212 = some (.invokevirtual 217, 3, 0) := by decide +kernel
theorem cd_28_215 : zt_code zq_T 28 215 = some (.aload_n 0, 1, 0) := by decide +kernel
theorem cd_28_216 : zt_code zq_T 28 216 = some (.invokevirtual 160, 3, 0) := by decide +kernel
theorem cd_28_219 : zt_code zq_T 28 219 = some (.ifCond .eq (16), 3, 0) := by decide +kernel
theorem cd_28_222 : zt_code zq_T 28 222 = some (.aload_n 0, 1, 0) := by decide +kernel
theorem cd_28_223 : zt_code zq_T 28 223 = some (.invokevirtual 138, 3, 0) := by decide +kernel
theorem cd_28_226 : zt_code zq_T 28 226 = some (.bipush (44), 2, 0) := by decide +kernel
theorem cd_28_228 : zt_code zq_T 28 228 = some (.if_icmp .ne (7), 3, 0) := by decide +kernel
theorem cd_28_231 : zt_code zq_T 28 231 = some (.iconst 1, 1, 0) := by decide +kernel
theorem cd_28_232 : zt_code zq_T 28 232 = some (.goto (4), 3, 0) := by decide +kernel
theorem cd_28_235 : zt_code zq_T 28 235 = some (.iconst 0, 1, 0) := by decide +kernel
theorem cd_28_236 : zt_code zq_T 28 236 = some (.istore 6, 2, 0) := by decide +kernel
theorem cd_28_238 : zt_code zq_T 28 238 = some (.goto (-54), 3, 0) := by decide +kernel
theorem cd_28_241 : zt_code zq_T 28 241 = some (.aload_n 0, 1, 0) := by decide +kernel
theorem cd_28_242 : zt_code zq_T 28 242 = some (.invokevirtual 160, 3, 0) := by decide +kernel
theorem cd_28_245 : zt_code zq_T 28 245 = some (.ifCond .eq (20), 3, 0) := by decide +kernel
theorem cd_28_248 : zt_code zq_T 28 248 = some (.aload_n 0, 1, 0) := by decide +kernel
theorem cd_28_249 : zt_code zq_T 28 249 = some (.bipush (41), 2, 0) := by decide +kernel
theorem cd_28_251 : zt_code zq_T 28 251 = some (.invokevirtual 171, 3, 0) := by decide +kernel
theorem cd_28_254 : zt_code zq_T 28 254 = some (.ifCond .ne (11), 3, 0) := by decide +kernel
theorem cd_28_257 : zt_code zq_T 28 257 = some (.aload_n 0, 1, 0) := by decide +kernel
theorem cd_28_258 : zt_code zq_T 28 258 = some (.aload_n 0, 1, 0) := by decide +kernel
theorem cd_28_259 : zt_code zq_T 28 259 = some (.getfield 128, 3, 0) := by decide +kernel
theorem cd_28_262 : zt_code zq_T 28 262 = some (.invokevirtual 181, 3, 0) := by decide +kernel
theorem cd_28_265 : zt_code zq_T 28 265 = some (.return_, 1, 0) := by decide +kernel
theorem cd_29_0 : zt_code zq_T 29 0 = some (.aload_n 0, 1, 0) := by decide +kernel
theorem cd_29_1 : zt_code zq_T 29 1 = some (.iconst 0, 1, 0) := by decide +kernel
theorem cd_29_2 : zt_code zq_T 29 2 = some (.putfield 128, 3, 0) := by decide +kernel
theorem cd_29_5 : zt_code zq_T 29 5 = some (.aload_n 0, 1, 0) := by decide +kernel
theorem cd_29_6 : zt_code zq_T 29 6 = some (.iconst (-1), 1, 0) := by decide +kernel
theorem cd_29_7 : zt_code zq_T 29 7 = some (.putfield 135, 3, 0) := by decide +kernel
theorem cd_29_10 : zt_code zq_T 29 10 = some (.aload_n 0, 1, 0) := by decide +kernel
theorem cd_29_11 : zt_code zq_T 29 11 = some (.iconst 0, 1, 0) := by decide +kernel
theorem cd_29_12 : zt_code zq_T 29 12 = some (.putfield 214, 3, 0) := by decide +kernel
theorem cd_29_15 : zt_code zq_T 29 15 = some (.aload_n 0, 1, 0) := by decide +kernel
theorem cd_29_16 : zt_code zq_T 29 16 = some (.iconst (-1), 1, 0) := by decide +kernel
theorem cd_29_17 : zt_code zq_T 29 17 = some (.iconst 0, 1, 0) := by decide +kernel
theorem cd_29_18 : zt_code zq_T 29 18 = some (.invokevirtual 217, 3, 0) := by decide +kernel
theorem cd_29_21 : zt_code zq_T 29 21 = some (.aload_n 0, 1, 0) := by decide +kernel
theorem cd_29_22 : zt_code zq_T 29 22 = some (.invokevirtual 160, 3, 0) := by decide +kernel
theorem cd_29_25 : zt_code zq_T 29 25 = some (.ifCond .eq (19), 3, 0) := by decide +kernel
theorem cd_29_28 : zt_code zq_T 29 28 = some (.aload_n 0, 1, 0) := by decide +kernel
theorem cd_29_29 : zt_code zq_T 29 29 = some (.invokevirtual 138, 3, 0) := by decide +kernel
theorem cd_29_32 : zt_code zq_T 29 32 = some (.iconst (-1), 1, 0) := by decide +kernel
theorem cd_29_33 : zt_code zq_T 29 33 = some (.if_icmp .eq (11), 3, 0) := by decide +kernel
theorem cd_29_36 : zt_code zq_T 29 36 = some (.aload_n 0, 1, 0) := by decide +kernel
theorem cd_29_37 : zt_code zq_T 29 37 = some (.aload_n 0, 1, 0) := by decide +kernel
theorem cd_29_38 : zt_code zq_T 29 38 = some (.getfield 128, 3, 0) := by decide +kernel
theorem cd_29_41 : zt_code zq_T 29 41 = some (.invokevirtual 181, 3, 0) := by decide +kernel
theorem cd_29_44 : zt_code zq_T 29 44 = some (.aload_n 0, 1, 0) := by decide +kernel
theorem cd_29_45 : zt_code zq_T 29 45 = some (.getfield 135, 3, 0) := by decide +kernel
theorem cd_29_48 : zt_code zq_T 29 48 = some (.ireturn, 1, 0) := by decide +kernel
theorem cd_30_0 : zt_code zq_T 30 0 = some (.aload_n 0, 1, 0) := by decide +kernel
theorem cd_30_1 : zt_code zq_T 30 1 = some (.iconst 0, 1, 0) := by decide +kernel
theorem cd_30_2 : zt_code zq_T 30 2 = some (.putfield 114, 3, 0) := by decide +kernel
theorem cd_30_5 : zt_code zq_T 30 5 = some (.iload_n 1, 1, 0) := by decide +kernel
theorem cd_30_6 : zt_code zq_T 30 6 = some (.ifCond .ne (10), 3, 0) := by decide +kernel
theorem cd_30_9 : zt_code zq_T 30 9 = some (.aload_n 0, 1, 0) := by decide +kernel
theorem cd_30_10 : zt_code zq_T 30 10 = some (.invokevirtual 220, 3, 0) := by decide +kernel
theorem cd_30_13 : zt_code zq_T 30 13 = some (.goto (17), 3, 0) := by decide +kernel
theorem cd_30_16 : zt_code zq_T 30 16 = some (.iload_n 1, 1, 0) := by decide +kernel
theorem cd_30_17 : zt_code zq_T 30 17 = some (.iconst 1, 1, 0) := by decide +kernel
theorem cd_30_18 : zt_code zq_T 30 18 = some (.if_icmp .ne (10), 3, 0) := by decide +kernel
theorem cd_30_21 : zt_code zq_T 30 21 = some (.aload_n 0, 1, 0) := by decide +kernel
theorem cd_30_22 : zt_code zq_T 30 22 = some (.invokevirtual 223, 3, 0) := by decide +kernel
theorem cd_30_25 : zt_code zq_T 30 25 = some (.goto (5), 3, 0) := by decide +kernel
theorem cd_30_28 : zt_code zq_T 30 28 = some (.bipush (-2), 2, 0) := by decide +kernel
theorem cd_30_30 : zt_code zq_T 30 30 = some (.ireturn, 1, 0) := by decide +kernel
theorem cd_31_0 : zt_code zq_T 31 0 = some (.iconst 0, 1, 0) := by decide +kernel
theorem cd_31_1 : zt_code zq_T 31 1 = some (.istore_n 2, 1, 0) := by decide +kernel
theorem cd_31_2 : zt_code zq_T 31 2 = some (.iload_n 2, 1, 0) := by decide +kernel
theorem cd_31_3 : zt_code zq_T 31 3 = some (.aload_n 1, 1, 0) := by decide +kernel
theorem cd_31_4 : zt_code zq_T 31 4 = some (.arraylength, 1, 0) := by decide +kernel
theorem cd_31_5 : zt_code zq_T 31 5 = some (.if_icmp .ge (15), 3, 0) := by decide +kernel
theorem cd_31_8 : zt_code zq_T 31 8 = some (.aload_n 1, 1, 0) := by decide +kernel
theorem cd_31_9 : zt_code zq_T 31 9 = some (.iload_n 2, 1, 0) := by decide +kernel
theorem cd_31_10 : zt_code zq_T 31 10 = some (.aload_n 0, 1, 0) := by decide +kernel
theorem cd_31_11 : zt_code zq_T 31 11 = some (.iload_n 2, 1, 0) := by decide +kernel
theorem cd_31_12 : zt_code zq_T 31 12 = some (.iaload, 1, 0) := by decide +kernel
theorem cd_31_13 : zt_code zq_T 31 13 = some (.iastore, 1, 0) := by decide +kernel
theorem cd_31_14 : zt_code zq_T 31 14 = some (.iinc 2 (1), 3, 0) := by decide +kernel
theorem cd_31_17 : zt_code zq_T 31 17 = some (.goto (-15), 3, 0) := by decide +kernel
theorem cd_31_20 : zt_code zq_T 31 20 = some (.return_, 1, 0) := by decide +kernel
theorem cd_32_0 : zt_code zq_T 32 0 = some (.aload_n 0, 1, 0) := by decide +kernel
theorem cd_32_1 : zt_code zq_T 32 1 = some (.iconst 0, 1, 0) := by decide +kernel
theorem cd_32_2 : zt_code zq_T 32 2 = some (.putfield 114, 3, 0) := by decide +kernel
theorem cd_32_5 : zt_code zq_T 32 5 = some (.aload_n 0, 1, 0) := by decide +kernel
theorem cd_32_6 : zt_code zq_T 32 6 = some (.invokevirtual 220, 3, 0) := by decide +kernel
theorem cd_32_9 : zt_code zq_T 32 9 = some (.iconst (-1), 1, 0) := by decide +kernel
theorem cd_32_10 : zt_code zq_T 32 10 = some (.if_icmp .eq (5), 3, 0) := by decide +kernel
theorem cd_32_13 : zt_code zq_T 32 13 = some (.iconst (-1), 1, 0) := by decide +kernel
theorem cd_32_14 : zt_code zq_T 32 14 = some (.ireturn, 1, 0) := by decide +kernel
theorem cd_32_15 : zt_code zq_T 32 15 = some (.aload_n 0, 1, 0) := by decide +kernel
theorem cd_32_16 : zt_code zq_T 32 16 = some (.iconst 0, 1, 0) := by decide +kernel
theorem cd_32_17 : zt_code zq_T 32 17 = some (.putfield 117, 3, 0) := by decide +kernel
