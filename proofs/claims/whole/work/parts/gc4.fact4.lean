/-! facts -/
theorem cd_219_4 : zt_code zq_T 219 4 = some (.getfield 171, 3, 0) := by decide +kernel
theorem cd_219_7 : zt_code zq_T 219 7 = some (.bipush (16), 2, 0) := by decide +kernel
theorem cd_219_9 : zt_code zq_T 219 9 = some (.if_icmp .lt (8), 3, 0) := by decide +kernel
theorem cd_219_12 : zt_code zq_T 219 12 = some (.aload_n 0, 1, 0) := by decide +kernel
theorem cd_219_13 : zt_code zq_T 219 13 = some (.invokevirtual 70, 3, 0) := by decide +kernel
theorem cd_219_16 : zt_code zq_T 219 16 = some (.areturn, 1, 0) := by decide +kernel
theorem cd_219_17 : zt_code zq_T 219 17 = some (.aload_n 0, 1, 0) := by decide +kernel
theorem cd_219_18 : zt_code zq_T 219 18 = some (.iconst 0, 1, 0) := by decide +kernel
theorem cd_219_19 : zt_code zq_T 219 19 = some (.aload_n 0, 1, 0) := by decide +kernel
theorem cd_219_20 : zt_code zq_T 219 20 = some (.getfield 32, 3, 0) := by decide +kernel
theorem cd_219_23 : zt_code zq_T 219 23 = some (.getfield 171, 3, 0) := by decide +kernel
theorem cd_219_26 : zt_code zq_T 219 26 = some (.invokevirtual 109, 3, 0) := by decide +kernel
theorem cd_219_29 : zt_code zq_T 219 29 = some (.astore_n 2, 1, 0) := by decide +kernel
theorem cd_219_30 : zt_code zq_T 219 30 = some (.aload_n 0, 1, 0) := by decide +kernel
theorem cd_219_31 : zt_code zq_T 219 31 = some (.getfield 32, 3, 0) := by decide +kernel
theorem cd_219_34 : zt_code zq_T 219 34 = some (.getfield 174, 3, 0) := by decide +kernel
theorem cd_219_37 : zt_code zq_T 219 37 = some (.aload_n 0, 1, 0) := by decide +kernel
theorem cd_219_38 : zt_code zq_T 219 38 = some (.getfield 32, 3, 0) := by decide +kernel
theorem cd_219_41 : zt_code zq_T 219 41 = some (.getfield 171, 3, 0) := by decide +kernel
theorem cd_219_44 : zt_code zq_T 219 44 = some (.iload_n 1, 1, 0) := by decide +kernel
theorem cd_219_45 : zt_code zq_T 219 45 = some (.iastore, 1, 0) := by decide +kernel
theorem cd_219_46 : zt_code zq_T 219 46 = some (.aload_n 0, 1, 0) := by decide +kernel
theorem cd_219_47 : zt_code zq_T 219 47 = some (.getfield 32, 3, 0) := by decide +kernel
theorem cd_219_50 : zt_code zq_T 219 50 = some (.getfield 177, 3, 0) := by decide +kernel
theorem cd_219_53 : zt_code zq_T 219 53 = some (.aload_n 0, 1, 0) := by decide +kernel
theorem cd_219_54 : zt_code zq_T 219 54 = some (.getfield 32, 3, 0) := by decide +kernel
theorem cd_219_57 : zt_code zq_T 219 57 = some (.getfield 171, 3, 0) := by decide +kernel
theorem cd_219_60 : zt_code zq_T 219 60 = some (.aload_n 2, 1, 0) := by decide +kernel
theorem cd_219_61 : zt_code zq_T 219 61 = some (.aastore, 1, 0) := by decide +kernel
theorem cd_219_62 : zt_code zq_T 219 62 = some (.aload_n 0, 1, 0) := by decide +kernel
theorem cd_219_63 : zt_code zq_T 219 63 = some (.getfield 32, 3, 0) := by decide +kernel
theorem cd_219_66 : zt_code zq_T 219 66 = some (.dup, 1, 0) := by decide +kernel
theorem cd_219_67 : zt_code zq_T 219 67 = some (.getfield 171, 3, 0) := by decide +kernel
theorem cd_219_70 : zt_code zq_T 219 70 = some (.iconst 1, 1, 0) := by decide +kernel
theorem cd_219_71 : zt_code zq_T 219 71 = some (.iadd, 1, 0) := by decide +kernel
theorem cd_219_72 : zt_code zq_T 219 72 = some (.putfield 171, 3, 0) := by decide +kernel
theorem cd_219_75 : zt_code zq_T 219 75 = some (.aload_n 0, 1, 0) := by decide +kernel
theorem cd_219_76 : zt_code zq_T 219 76 = some (.dup, 1, 0) := by decide +kernel
theorem cd_219_77 : zt_code zq_T 219 77 = some (.getfield 53, 3, 0) := by decide +kernel
theorem cd_219_80 : zt_code zq_T 219 80 = some (.iconst 1, 1, 0) := by decide +kernel
theorem cd_219_81 : zt_code zq_T 219 81 = some (.iadd, 1, 0) := by decide +kernel
theorem cd_219_82 : zt_code zq_T 219 82 = some (.putfield 53, 3, 0) := by decide +kernel
theorem cd_219_85 : zt_code zq_T 219 85 = some (.aload_n 2, 1, 0) := by decide +kernel
theorem cd_219_86 : zt_code zq_T 219 86 = some (.areturn, 1, 0) := by decide +kernel
theorem cd_220_0 : zt_code zq_T 220 0 = some (.aload_n 0, 1, 0) := by decide +kernel
theorem cd_220_1 : zt_code zq_T 220 1 = some (.dup, 1, 0) := by decide +kernel
theorem cd_220_2 : zt_code zq_T 220 2 = some (.getfield 53, 3, 0) := by decide +kernel
theorem cd_220_5 : zt_code zq_T 220 5 = some (.iconst 1, 1, 0) := by decide +kernel
theorem cd_220_6 : zt_code zq_T 220 6 = some (.iadd, 1, 0) := by decide +kernel
theorem cd_220_7 : zt_code zq_T 220 7 = some (.putfield 53, 3, 0) := by decide +kernel
theorem cd_220_10 : zt_code zq_T 220 10 = some (.aload_n 0, 1, 0) := by decide +kernel
theorem cd_220_11 : zt_code zq_T 220 11 = some (.iload_n 1, 1, 0) := by decide +kernel
theorem cd_220_12 : zt_code zq_T 220 12 = some (.iconst 1, 1, 0) := by decide +kernel
theorem cd_220_13 : zt_code zq_T 220 13 = some (.iadd, 1, 0) := by decide +kernel
theorem cd_220_14 : zt_code zq_T 220 14 = some (.invokevirtual 93, 3, 0) := by decide +kernel
theorem cd_220_17 : zt_code zq_T 220 17 = some (.astore_n 2, 1, 0) := by decide +kernel
theorem cd_220_18 : zt_code zq_T 220 18 = some (.aload_n 2, 1, 0) := by decide +kernel
theorem cd_220_19 : zt_code zq_T 220 19 = some (.ifnonnull (5), 3, 0) := by decide +kernel
theorem cd_220_22 : zt_code zq_T 220 22 = some (.aconst_null, 1, 3) := by decide +kernel
theorem cd_220_23 : zt_code zq_T 220 23 = some (.areturn, 1, 0) := by decide +kernel
theorem cd_220_24 : zt_code zq_T 220 24 = some (.aload_n 0, 1, 0) := by decide +kernel
theorem cd_220_25 : zt_code zq_T 220 25 = some (.invokevirtual 66, 3, 0) := by decide +kernel
theorem cd_220_28 : zt_code zq_T 220 28 = some (.bipush (41), 2, 0) := by decide +kernel
theorem cd_220_30 : zt_code zq_T 220 30 = some (.if_icmp .eq (8), 3, 0) := by decide +kernel
theorem cd_220_33 : zt_code zq_T 220 33 = some (.aload_n 0, 1, 0) := by decide +kernel
theorem cd_220_34 : zt_code zq_T 220 34 = some (.invokevirtual 70, 3, 0) := by decide +kernel
theorem cd_220_37 : zt_code zq_T 220 37 = some (.areturn, 1, 0) := by decide +kernel
theorem cd_220_38 : zt_code zq_T 220 38 = some (.aload_n 0, 1, 0) := by decide +kernel
theorem cd_220_39 : zt_code zq_T 220 39 = some (.dup, 1, 0) := by decide +kernel
theorem cd_220_40 : zt_code zq_T 220 40 = some (.getfield 53, 3, 0) := by decide +kernel
theorem cd_220_43 : zt_code zq_T 220 43 = some (.iconst 1, 1, 0) := by decide +kernel
theorem cd_220_44 : zt_code zq_T 220 44 = some (.iadd, 1, 0) := by decide +kernel
theorem cd_220_45 : zt_code zq_T 220 45 = some (.putfield 53, 3, 0) := by decide +kernel
theorem cd_220_48 : zt_code zq_T 220 48 = some (.aload_n 2, 1, 0) := by decide +kernel
theorem cd_220_49 : zt_code zq_T 220 49 = some (.areturn, 1, 0) := by decide +kernel
theorem cd_221_0 : zt_code zq_T 221 0 = some (.aload_n 0, 1, 0) := by decide +kernel
theorem cd_221_1 : zt_code zq_T 221 1 = some (.getfield 32, 3, 0) := by decide +kernel
theorem cd_221_4 : zt_code zq_T 221 4 = some (.getfield 180, 3, 0) := by decide +kernel
theorem cd_221_7 : zt_code zq_T 221 7 = some (.iconst 4, 1, 0) := by decide +kernel
theorem cd_221_8 : zt_code zq_T 221 8 = some (.if_icmp .lt (8), 3, 0) := by decide +kernel
theorem cd_221_11 : zt_code zq_T 221 11 = some (.aload_n 0, 1, 0) := by decide +kernel
theorem cd_221_12 : zt_code zq_T 221 12 = some (.invokevirtual 70, 3, 0) := by decide +kernel
theorem cd_221_15 : zt_code zq_T 221 15 = some (.areturn, 1, 0) := by decide +kernel
theorem cd_221_16 : zt_code zq_T 221 16 = some (.aload_n 0, 1, 0) := by decide +kernel
theorem cd_221_17 : zt_code zq_T 221 17 = some (.iconst 5, 1, 0) := by decide +kernel
theorem cd_221_18 : zt_code zq_T 221 18 = some (.aload_n 0, 1, 0) := by decide +kernel
theorem cd_221_19 : zt_code zq_T 221 19 = some (.getfield 32, 3, 0) := by decide +kernel
theorem cd_221_22 : zt_code zq_T 221 22 = some (.getfield 180, 3, 0) := by decide +kernel
theorem cd_221_25 : zt_code zq_T 221 25 = some (.invokevirtual 109, 3, 0) := by decide +kernel
theorem cd_221_28 : zt_code zq_T 221 28 = some (.astore_n 2, 1, 0) := by decide +kernel
theorem cd_221_29 : zt_code zq_T 221 29 = some (.aload_n 2, 1, 0) := by decide +kernel
theorem cd_221_30 : zt_code zq_T 221 30 = some (.ifnonnull (5), 3, 0) := by decide +kernel
theorem cd_221_33 : zt_code zq_T 221 33 = some (.aconst_null, 1, 3) := by decide +kernel
theorem cd_221_34 : zt_code zq_T 221 34 = some (.areturn, 1, 0) := by decide +kernel
theorem cd_221_35 : zt_code zq_T 221 35 = some (.aload_n 0, 1, 0) := by decide +kernel
theorem cd_221_36 : zt_code zq_T 221 36 = some (.getfield 32, 3, 0) := by decide +kernel
theorem cd_221_39 : zt_code zq_T 221 39 = some (.getfield 183, 3, 0) := by decide +kernel
theorem cd_221_42 : zt_code zq_T 221 42 = some (.aload_n 0, 1, 0) := by decide +kernel
theorem cd_221_43 : zt_code zq_T 221 43 = some (.getfield 32, 3, 0) := by decide +kernel
theorem cd_221_46 : zt_code zq_T 221 46 = some (.getfield 180, 3, 0) := by decide +kernel
theorem cd_221_49 : zt_code zq_T 221 49 = some (.aload_n 2, 1, 0) := by decide +kernel
theorem cd_221_50 : zt_code zq_T 221 50 = some (.aastore, 1, 0) := by decide +kernel
theorem cd_221_51 : zt_code zq_T 221 51 = some (.aload_n 0, 1, 0) := by decide +kernel
theorem cd_221_52 : zt_code zq_T 221 52 = some (.getfield 32, 3, 0) := by decide +kernel
theorem cd_221_55 : zt_code zq_T 221 55 = some (.dup, 1, 0) := by decide +kernel
theorem cd_221_56 : zt_code zq_T 221 56 = some (.getfield 180, 3, 0) := by decide +kernel
theorem cd_221_59 : zt_code zq_T 221 59 = some (.iconst 1, 1, 0) := by decide +kernel
theorem cd_221_60 : zt_code zq_T 221 60 = some (.iadd, 1, 0) := by decide +kernel
theorem cd_221_61 : zt_code zq_T 221 61 = some (.putfield 180, 3, 0) := by decide +kernel
theorem cd_221_64 : zt_code zq_T 221 64 = some (.iconst 1, 1, 0) := by decide +kernel
theorem cd_221_65 : zt_code zq_T 221 65 = some (.istore_n 3, 1, 0) := by decide +kernel
theorem cd_221_66 : zt_code zq_T 221 66 = some (.iload_n 3, 1, 0) := by decide +kernel
theorem cd_221_67 : zt_code zq_T 221 67 = some (.iconst 4, 1, 0) := by decide +kernel
theorem cd_221_68 : zt_code zq_T 221 68 = some (.if_icmp .gt (88), 3, 0) := by decide +kernel
theorem cd_221_71 : zt_code zq_T 221 71 = some (.aload_n 0, 1, 0) := by decide +kernel
theorem cd_221_72 : zt_code zq_T 221 72 = some (.dup, 1, 0) := by decide +kernel
theorem cd_221_73 : zt_code zq_T 221 73 = some (.getfield 53, 3, 0) := by decide +kernel
theorem cd_221_76 : zt_code zq_T 221 76 = some (.iconst 1, 1, 0) := by decide +kernel
theorem cd_221_77 : zt_code zq_T 221 77 = some (.iadd, 1, 0) := by decide +kernel
theorem cd_221_78 : zt_code zq_T 221 78 = some (.putfield 53, 3, 0) := by decide +kernel
theorem cd_221_81 : zt_code zq_T 221 81 = some (.aload_n 0, 1, 0) := by decide +kernel
theorem cd_221_82 : zt_code zq_T 221 82 = some (.iload_n 1, 1, 0) := by decide +kernel
theorem cd_221_83 : zt_code zq_T 221 83 = some (.iconst 1, 1, 0) := by decide +kernel
theorem cd_221_84 : zt_code zq_T 221 84 = some (.iadd, 1, 0) := by decide +kernel
theorem cd_221_85 : zt_code zq_T 221 85 = some (.invokevirtual 93, 3, 0) := by decide +kernel
theorem cd_221_88 : zt_code zq_T 221 88 = some (.astore 4, 2, 0) := by decide +kernel
theorem cd_221_90 : zt_code zq_T 221 90 = some (.aload 4, 2, 0) := by decide +kernel
theorem cd_221_92 : zt_code zq_T 221 92 = some (.ifnonnull (5), 3, 0) := by decide +kernel
theorem cd_221_95 : zt_code zq_T 221 95 = some (.aconst_null, 1, 3) := by decide +kernel
theorem cd_221_96 : zt_code zq_T 221 96 = some (.areturn, 1, 0) := by decide +kernel
theorem cd_221_97 : zt_code zq_T 221 97 = some (.aload_n 2, 1, 0) := by decide +kernel
theorem cd_221_98 : zt_code zq_T 221 98 = some (.aload 4, 2, 0) := by decide +kernel
theorem cd_221_100 : zt_code zq_T 221 100 = some (.invokevirtual 112, 3, 0) := by decide +kernel
theorem cd_221_103 : zt_code zq_T 221 103 = some (.aload_n 0, 1, 0) := by decide +kernel
theorem cd_221_104 : zt_code zq_T 221 104 = some (.invokevirtual 66, 3, 0) := by decide +kernel
theorem cd_221_107 : zt_code zq_T 221 107 = some (.istore 5, 2, 0) := by decide +kernel
theorem cd_221_109 : zt_code zq_T 221 109 = some (.iload 5, 2, 0) := by decide +kernel
theorem cd_221_111 : zt_code zq_T 221 111 = some (.bipush (93), 2, 0) := by decide +kernel
theorem cd_221_113 : zt_code zq_T 221 113 = some (.if_icmp .ne (20), 3, 0) := by decide +kernel
theorem cd_221_116 : zt_code zq_T 221 116 = some (.iload_n 3, 1, 0) := by decide +kernel
theorem cd_221_117 : zt_code zq_T 221 117 = some (.iconst 2, 1, 0) := by decide +kernel
theorem cd_221_118 : zt_code zq_T 221 118 = some (.if_icmp .lt (15), 3, 0) := by decide +kernel
theorem cd_221_121 : zt_code zq_T 221 121 = some (.aload_n 0, 1, 0) := by decide +kernel
theorem cd_221_122 : zt_code zq_T 221 122 = some (.dup, 1, 0) := by decide +kernel
theorem cd_221_123 : zt_code zq_T 221 123 = some (.getfield 53, 3, 0) := by decide +kernel
theorem cd_221_126 : zt_code zq_T 221 126 = some (.iconst 1, 1, 0) := by decide +kernel
theorem cd_221_127 : zt_code zq_T 221 127 = some (.iadd, 1, 0) := by decide +kernel
theorem cd_221_128 : zt_code zq_T 221 128 = some (.putfield 53, 3, 0) := by decide +kernel
theorem cd_221_131 : zt_code zq_T 221 131 = some (.aload_n 2, 1, 0) := by decide +kernel
theorem cd_221_132 : zt_code zq_T 221 132 = some (.areturn, 1, 0) := by decide +kernel
theorem cd_221_133 : zt_code zq_T 221 133 = some (.iload 5, 2, 0) := by decide +kernel
theorem cd_221_135 : zt_code zq_T 221 135 = some (.bipush (38), 2, 0) := by decide +kernel
theorem cd_221_137 : zt_code zq_T 221 137 = some (.if_icmp .ne (8), 3, 0) := by decide +kernel
theorem cd_221_140 : zt_code zq_T 221 140 = some (.iload_n 3, 1, 0) := by decide +kernel
theorem cd_221_141 : zt_code zq_T 221 141 = some (.iconst 4, 1, 0) := by decide +kernel
theorem cd_221_142 : zt_code zq_T 221 142 = some (.if_icmp .ne (8), 3, 0) := by decide +kernel
theorem cd_221_145 : zt_code zq_T 221 145 = some (.aload_n 0, 1, 0) := by decide +kernel
theorem cd_221_146 : zt_code zq_T 221 146 = some (.invokevirtual 70, 3, 0) := by decide +kernel
theorem cd_221_149 : zt_code zq_T 221 149 = some (.areturn, 1, 0) := by decide +kernel
theorem cd_221_150 : zt_code zq_T 221 150 = some (.iinc 3 (1), 3, 0) := by decide +kernel
theorem cd_221_153 : zt_code zq_T 221 153 = some (.goto (-87), 3, 0) := by decide +kernel
theorem cd_221_156 : zt_code zq_T 221 156 = some (.aload_n 0, 1, 0) := by decide +kernel
theorem cd_221_157 : zt_code zq_T 221 157 = some (.invokevirtual 70, 3, 0) := by decide +kernel
theorem cd_221_160 : zt_code zq_T 221 160 = some (.areturn, 1, 0) := by decide +kernel
theorem cd_222_0 : zt_code zq_T 222 0 = some (.aload_n 0, 1, 0) := by decide +kernel
theorem cd_222_1 : zt_code zq_T 222 1 = some (.invokespecial 3, 3, 0) := by decide +kernel
theorem cd_222_4 : zt_code zq_T 222 4 = some (.aload_n 0, 1, 0) := by decide +kernel
theorem cd_222_5 : zt_code zq_T 222 5 = some (.sipush (9216), 3, 0) := by decide +kernel
theorem cd_222_8 : zt_code zq_T 222 8 = some (.newarray .int, 2, 20) := by decide +kernel
theorem cd_222_10 : zt_code zq_T 222 10 = some (.putfield 11, 3, 0) := by decide +kernel
theorem cd_222_13 : zt_code zq_T 222 13 = some (.aload_n 0, 1, 0) := by decide +kernel
theorem cd_222_14 : zt_code zq_T 222 14 = some (.sipush (2304), 3, 0) := by decide +kernel
theorem cd_222_17 : zt_code zq_T 222 17 = some (.newarray .int, 2, 20) := by decide +kernel
theorem cd_222_19 : zt_code zq_T 222 19 = some (.putfield 15, 3, 0) := by decide +kernel
theorem cd_222_22 : zt_code zq_T 222 22 = some (.aload_n 0, 1, 0) := by decide +kernel
theorem cd_222_23 : zt_code zq_T 222 23 = some (.bipush (40), 2, 0) := by decide +kernel
theorem cd_222_25 : zt_code zq_T 222 25 = some (.anewarray 18, 3, 0) := by decide +kernel
theorem cd_222_28 : zt_code zq_T 222 28 = some (.putfield 20, 3, 0) := by decide +kernel
theorem cd_222_31 : zt_code zq_T 222 31 = some (.aload_n 0, 1, 0) := by decide +kernel
theorem cd_222_32 : zt_code zq_T 222 32 = some (.new 24, 3, 0) := by decide +kernel
theorem cd_222_35 : zt_code zq_T 222 35 = some (.dup, 1, 0) := by decide +kernel
theorem cd_222_36 : zt_code zq_T 222 36 = some (.invokespecial 26, 3, 0) := by decide +kernel
theorem cd_222_39 : zt_code zq_T 222 39 = some (.putfield 27, 3, 0) := by decide +kernel
theorem cd_222_42 : zt_code zq_T 222 42 = some (.return_, 1, 0) := by decide +kernel
theorem cd_223_0 : zt_code zq_T 223 0 = some (.aload_n 0, 1, 0) := by decide +kernel
theorem cd_223_1 : zt_code zq_T 223 1 = some (.aload_n 1, 1, 0) := by decide +kernel
theorem cd_223_2 : zt_code zq_T 223 2 = some (.putfield 27, 3, 0) := by decide +kernel
theorem cd_223_5 : zt_code zq_T 223 5 = some (.aload_n 0, 1, 0) := by decide +kernel
theorem cd_223_6 : zt_code zq_T 223 6 = some (.iconst 0, 1, 0) := by decide +kernel
theorem cd_223_7 : zt_code zq_T 223 7 = some (.putfield 31, 3, 0) := by decide +kernel
theorem cd_223_10 : zt_code zq_T 223 10 = some (.aload_n 1, 1, 0) := by decide +kernel
theorem cd_223_11 : zt_code zq_T 223 11 = some (.getfield 35, 3, 0) := by decide +kernel
theorem cd_223_14 : zt_code zq_T 223 14 = some (.ifnull (12), 3, 0) := by decide +kernel
theorem cd_223_17 : zt_code zq_T 223 17 = some (.aload_n 0, 1, 0) := by decide +kernel
theorem cd_223_18 : zt_code zq_T 223 18 = some (.aload_n 1, 1, 0) := by decide +kernel
theorem cd_223_19 : zt_code zq_T 223 19 = some (.getfield 35, 3, 0) := by decide +kernel
theorem cd_223_22 : zt_code zq_T 223 22 = some (.iconst 0, 1, 0) := by decide +kernel
theorem cd_223_23 : zt_code zq_T 223 23 = some (.invokevirtual 39, 3, 0) := by decide +kernel
theorem cd_223_26 : zt_code zq_T 223 26 = some (.iconst 0, 1, 0) := by decide +kernel
theorem cd_223_27 : zt_code zq_T 223 27 = some (.istore_n 2, 1, 0) := by decide +kernel
theorem cd_223_28 : zt_code zq_T 223 28 = some (.iload_n 2, 1, 0) := by decide +kernel
theorem cd_223_29 : zt_code zq_T 223 29 = some (.aload_n 0, 1, 0) := by decide +kernel
theorem cd_223_30 : zt_code zq_T 223 30 = some (.getfield 31, 3, 0) := by decide +kernel
theorem cd_223_33 : zt_code zq_T 223 33 = some (.if_icmp .ge (28), 3, 0) := by decide +kernel
theorem cd_223_36 : zt_code zq_T 223 36 = some (.iload_n 2, 1, 0) := by decide +kernel
theorem cd_223_37 : zt_code zq_T 223 37 = some (.sipush (2304), 3, 0) := by decide +kernel
theorem cd_223_40 : zt_code zq_T 223 40 = some (.if_icmp .ge (21), 3, 0) := by decide +kernel
theorem cd_223_43 : zt_code zq_T 223 43 = some (.aload_n 0, 1, 0) := by decide +kernel
theorem cd_223_44 : zt_code zq_T 223 44 = some (.getfield 15, 3, 0) := by decide +kernel
theorem cd_223_47 : zt_code zq_T 223 47 = some (.iload_n 2, 1, 0) := by decide +kernel
theorem cd_223_48 : zt_code zq_T 223 48 = some (.aload_n 0, 1, 0) := by decide +kernel
theorem cd_223_49 : zt_code zq_T 223 49 = some (.getfield 11, 3, 0) := by decide +kernel
theorem cd_223_52 : zt_code zq_T 223 52 = some (.iload_n 2, 1, 0) := by decide +kernel
theorem cd_223_53 : zt_code zq_T 223 53 = some (.iaload, 1, 0) := by decide +kernel
theorem cd_223_54 : zt_code zq_T 223 54 = some (.iastore, 1, 0) := by decide +kernel
theorem cd_223_55 : zt_code zq_T 223 55 = some (.iinc 2 (1), 3, 0) := by decide +kernel
theorem cd_223_58 : zt_code zq_T 223 58 = some (.goto (-30), 3, 0) := by decide +kernel
theorem cd_223_61 : zt_code zq_T 223 61 = some (.return_, 1, 0) := by decide +kernel
theorem cd_224_0 : zt_code zq_T 224 0 = some (.iload_n 1, 1, 0) := by decide +kernel
theorem cd_224_1 : zt_code zq_T 224 1 = some (.ifCond .lt (19), 3, 0) := by decide +kernel
theorem cd_224_4 : zt_code zq_T 224 4 = some (.iload_n 1, 1, 0) := by decide +kernel
theorem cd_224_5 : zt_code zq_T 224 5 = some (.sipush (2304), 3, 0) := by decide +kernel
theorem cd_224_8 : zt_code zq_T 224 8 = some (.if_icmp .ge (12), 3, 0) := by decide +kernel
theorem cd_224_11 : zt_code zq_T 224 11 = some (.aload_n 0, 1, 0) := by decide +kernel
theorem cd_224_12 : zt_code zq_T 224 12 = some (.getfield 15, 3, 0) := by decide +kernel
theorem cd_224_15 : zt_code zq_T 224 15 = some (.iload_n 1, 1, 0) := by decide +kernel
theorem cd_224_16 : zt_code zq_T 224 16 = some (.iaload, 1, 0) := by decide +kernel
theorem cd_224_17 : zt_code zq_T 224 17 = some (.goto (4), 3, 0) := by decide +kernel
theorem cd_224_20 : zt_code zq_T 224 20 = some (.iconst (-1), 1, 0) := by decide +kernel
theorem cd_224_21 : zt_code zq_T 224 21 = some (.ireturn, 1, 0) := by decide +kernel
theorem cd_225_0 : zt_code zq_T 225 0 = some (.iload_n 2, 1, 0) := by decide +kernel
theorem cd_225_1 : zt_code zq_T 225 1 = some (.iconst (-1), 1, 0) := by decide +kernel
theorem cd_225_2 : zt_code zq_T 225 2 = some (.if_icmp .ne (5), 3, 0) := by decide +kernel
theorem cd_225_5 : zt_code zq_T 225 5 = some (.iconst 0, 1, 0) := by decide +kernel
theorem cd_225_6 : zt_code zq_T 225 6 = some (.ireturn, 1, 0) := by decide +kernel
theorem cd_225_7 : zt_code zq_T 225 7 = some (.iconst 1, 1, 0) := by decide +kernel
theorem cd_225_8 : zt_code zq_T 225 8 = some (.istore 5, 2, 0) := by decide +kernel
theorem cd_225_10 : zt_code zq_T 225 10 = some (.aload_n 1, 1, 0) := by decide +kernel
theorem cd_225_11 : zt_code zq_T 225 11 = some (.getfield 43, 3, 0) := by decide +kernel
theorem cd_225_14 : zt_code zq_T 225 14 = some (.iload_n 2, 1, 0) := by decide +kernel
theorem cd_225_15 : zt_code zq_T 225 15 = some (.aaload, 1, 0) := by decide +kernel
theorem cd_225_16 : zt_code zq_T 225 16 = some (.astore 6, 2, 0) := by decide +kernel
theorem cd_225_18 : zt_code zq_T 225 18 = some (.aload 6, 2, 0) := by decide +kernel
theorem cd_225_20 : zt_code zq_T 225 20 = some (.ifnull (127), 3, 0) := by decide +kernel
theorem cd_225_23 : zt_code zq_T 225 23 = some (.aload 6, 2, 0) := by decide +kernel
theorem cd_225_25 : zt_code zq_T 225 25 = some (.getfield 46, 3, 0) := by decide +kernel
theorem cd_225_28 : zt_code zq_T 225 28 = some (.ifnull (119), 3, 0) := by decide +kernel
theorem cd_225_31 : zt_code zq_T 225 31 = some (.aload 6, 2, 0) := by decide +kernel
theorem cd_225_33 : zt_code zq_T 225 33 = some (.getfield 46, 3, 0) := by decide +kernel
theorem cd_225_36 : zt_code zq_T 225 36 = some (.astore 7, 2, 0) := by decide +kernel
theorem cd_225_38 : zt_code zq_T 225 38 = some (.aload 7, 2, 0) := by decide +kernel
theorem cd_225_40 : zt_code zq_T 225 40 = some (.getfield 49, 3, 0) := by decide +kernel
theorem cd_225_43 : zt_code zq_T 225 43 = some (.iconst 2, 1, 0) := by decide +kernel
theorem cd_225_44 : zt_code zq_T 225 44 = some (.if_icmp .ne (18), 3, 0) := by decide +kernel
theorem cd_225_47 : zt_code zq_T 225 47 = some (.iload 5, 2, 0) := by decide +kernel
theorem cd_225_49 : zt_code zq_T 225 49 = some (.aload 6, 2, 0) := by decide +kernel
theorem cd_225_51 : zt_code zq_T 225 51 = some (.aload 7, 2, 0) := by decide +kernel
theorem cd_225_53 : zt_code zq_T 225 53 = some (.invokestatic 52, 3, 0) := by decide +kernel
theorem cd_225_56 : zt_code zq_T 225 56 = some (.iadd, 1, 0) := by decide +kernel
theorem cd_225_57 : zt_code zq_T 225 57 = some (.istore 5, 2, 0) := by decide +kernel
theorem cd_225_59 : zt_code zq_T 225 59 = some (.goto (78), 3, 0) := by decide +kernel
theorem cd_225_62 : zt_code zq_T 225 62 = some (.aload 7, 2, 0) := by decide +kernel
theorem cd_225_64 : zt_code zq_T 225 64 = some (.getfield 49, 3, 0) := by decide +kernel
theorem cd_225_67 : zt_code zq_T 225 67 = some (.iconst 4, 1, 0) := by decide +kernel
theorem cd_225_68 : zt_code zq_T 225 68 = some (.if_icmp .ne (41), 3, 0) := by decide +kernel
theorem cd_225_71 : zt_code zq_T 225 71 = some (.iload_n 3, 1, 0) := by decide +kernel
theorem cd_225_72 : zt_code zq_T 225 72 = some (.aload 7, 2, 0) := by decide +kernel
theorem cd_225_74 : zt_code zq_T 225 74 = some (.getfield 56, 3, 0) := by decide +kernel
theorem cd_225_77 : zt_code zq_T 225 77 = some (.ishr, 1, 0) := by decide +kernel
theorem cd_225_78 : zt_code zq_T 225 78 = some (.iconst 1, 1, 0) := by decide +kernel
theorem cd_225_79 : zt_code zq_T 225 79 = some (.iand, 1, 0) := by decide +kernel
theorem cd_225_80 : zt_code zq_T 225 80 = some (.ifCond .eq (29), 3, 0) := by decide +kernel
theorem cd_225_83 : zt_code zq_T 225 83 = some (.iload 5, 2, 0) := by decide +kernel
theorem cd_225_85 : zt_code zq_T 225 85 = some (.aload_n 1, 1, 0) := by decide +kernel
theorem cd_225_86 : zt_code zq_T 225 86 = some (.getfield 59, 3, 0) := by decide +kernel
theorem cd_225_89 : zt_code zq_T 225 89 = some (.aload 7, 2, 0) := by decide +kernel
theorem cd_225_91 : zt_code zq_T 225 91 = some (.getfield 56, 3, 0) := by decide +kernel
theorem cd_225_94 : zt_code zq_T 225 94 = some (.iaload, 1, 0) := by decide +kernel
theorem cd_225_95 : zt_code zq_T 225 95 = some (.iconst 1, 1, 0) := by decide +kernel
theorem cd_225_96 : zt_code zq_T 225 96 = some (.isub, 1, 0) := by decide +kernel
theorem cd_225_97 : zt_code zq_T 225 97 = some (.aload 6, 2, 0) := by decide +kernel
theorem cd_225_99 : zt_code zq_T 225 99 = some (.getfield 62, 3, 0) := by decide +kernel
theorem cd_225_102 : zt_code zq_T 225 102 = some (.imul, 1, 0) := by decide +kernel
theorem cd_225_103 : zt_code zq_T 225 103 = some (.iadd, 1, 0) := by decide +kernel
theorem cd_225_104 : zt_code zq_T 225 104 = some (.istore 5, 2, 0) := by decide +kernel
theorem cd_225_106 : zt_code zq_T 225 106 = some (.goto (31), 3, 0) := by decide +kernel
theorem cd_225_109 : zt_code zq_T 225 109 = some (.aload 7, 2, 0) := by decide +kernel
theorem cd_225_111 : zt_code zq_T 225 111 = some (.getfield 49, 3, 0) := by decide +kernel
theorem cd_225_114 : zt_code zq_T 225 114 = some (.iconst 5, 1, 0) := by decide +kernel
theorem cd_225_115 : zt_code zq_T 225 115 = some (.if_icmp .ne (22), 3, 0) := by decide +kernel
theorem cd_225_118 : zt_code zq_T 225 118 = some (.iload 5, 2, 0) := by decide +kernel
theorem cd_225_120 : zt_code zq_T 225 120 = some (.aload 7, 2, 0) := by decide +kernel
theorem cd_225_122 : zt_code zq_T 225 122 = some (.aload 6, 2, 0) := by decide +kernel
theorem cd_225_124 : zt_code zq_T 225 124 = some (.aload 7, 2, 0) := by decide +kernel
theorem cd_225_126 : zt_code zq_T 225 126 = some (.iload 4, 2, 0) := by decide +kernel
theorem cd_225_128 : zt_code zq_T 225 128 = some (.invokestatic 65, 3, 0) := by decide +kernel
theorem cd_225_131 : zt_code zq_T 225 131 = some (.invokestatic 69, 3, 0) := by decide +kernel
theorem cd_225_134 : zt_code zq_T 225 134 = some (.iadd, 1, 0) := by decide +kernel
theorem cd_225_135 : zt_code zq_T 225 135 = some (.istore 5, 2, 0) := by decide +kernel
theorem cd_225_137 : zt_code zq_T 225 137 = some (.aload 6, 2, 0) := by decide +kernel
theorem cd_225_139 : zt_code zq_T 225 139 = some (.getfield 46, 3, 0) := by decide +kernel
theorem cd_225_142 : zt_code zq_T 225 142 = some (.astore 6, 2, 0) := by decide +kernel
theorem cd_225_144 : zt_code zq_T 225 144 = some (.goto (-126), 3, 0) := by decide +kernel
theorem cd_225_147 : zt_code zq_T 225 147 = some (.iload 5, 2, 0) := by decide +kernel
theorem cd_225_149 : zt_code zq_T 225 149 = some (.ireturn, 1, 0) := by decide +kernel
theorem cd_226_0 : zt_code zq_T 226 0 = some (.iconst 0, 1, 0) := by decide +kernel
theorem cd_226_1 : zt_code zq_T 226 1 = some (.istore_n 2, 1, 0) := by decide +kernel
theorem cd_226_2 : zt_code zq_T 226 2 = some (.aload_n 1, 1, 0) := by decide +kernel
theorem cd_226_3 : zt_code zq_T 226 3 = some (.getfield 73, 3, 0) := by decide +kernel
theorem cd_226_6 : zt_code zq_T 226 6 = some (.astore_n 3, 1, 0) := by decide +kernel
theorem cd_226_7 : zt_code zq_T 226 7 = some (.aload_n 3, 1, 0) := by decide +kernel
theorem cd_226_8 : zt_code zq_T 226 8 = some (.ifnull (23), 3, 0) := by decide +kernel
theorem cd_226_11 : zt_code zq_T 226 11 = some (.aload_n 3, 1, 0) := by decide +kernel
theorem cd_226_12 : zt_code zq_T 226 12 = some (.aload_n 0, 1, 0) := by decide +kernel
theorem cd_226_13 : zt_code zq_T 226 13 = some (.if_acmp .eq (18), 3, 0) := by decide +kernel
theorem cd_226_16 : zt_code zq_T 226 16 = some (.iload_n 2, 1, 0) := by decide +kernel
theorem cd_226_17 : zt_code zq_T 226 17 = some (.aload_n 3, 1, 0) := by decide +kernel
theorem cd_226_18 : zt_code zq_T 226 18 = some (.getfield 62, 3, 0) := by decide +kernel
theorem cd_226_21 : zt_code zq_T 226 21 = some (.iadd, 1, 0) := by decide +kernel
theorem cd_226_22 : zt_code zq_T 226 22 = some (.istore_n 2, 1, 0) := by decide +kernel
theorem cd_226_23 : zt_code zq_T 226 23 = some (.aload_n 3, 1, 0) := by decide +kernel
theorem cd_226_24 : zt_code zq_T 226 24 = some (.getfield 76, 3, 0) := by decide +kernel
theorem cd_226_27 : zt_code zq_T 226 27 = some (.astore_n 3, 1, 0) := by decide +kernel
theorem cd_226_28 : zt_code zq_T 226 28 = some (.goto (-21), 3, 0) := by decide +kernel
theorem cd_226_31 : zt_code zq_T 226 31 = some (.iload_n 2, 1, 0) := by decide +kernel
theorem cd_226_32 : zt_code zq_T 226 32 = some (.ireturn, 1, 0) := by decide +kernel
theorem cd_227_0 : zt_code zq_T 227 0 = some (.iload_n 2, 1, 0) := by decide +kernel
theorem cd_227_1 : zt_code zq_T 227 1 = some (.iconst 4, 1, 0) := by decide +kernel
theorem cd_227_2 : zt_code zq_T 227 2 = some (.aload_n 1, 1, 0) := by decide +kernel
theorem cd_227_3 : zt_code zq_T 227 3 = some (.getfield 56, 3, 0) := by decide +kernel
theorem cd_227_6 : zt_code zq_T 227 6 = some (.imul, 1, 0) := by decide +kernel
theorem cd_227_7 : zt_code zq_T 227 7 = some (.ishr, 1, 0) := by decide +kernel
theorem cd_227_8 : zt_code zq_T 227 8 = some (.iconst 1, 1, 0) := by decide +kernel
theorem cd_227_9 : zt_code zq_T 227 9 = some (.aload_n 0, 1, 0) := by decide +kernel
theorem cd_227_10 : zt_code zq_T 227 10 = some (.getfield 79, 3, 0) := by decide +kernel
theorem cd_227_13 : zt_code zq_T 227 13 = some (.ishl, 1, 0) := by decide +kernel
theorem cd_227_14 : zt_code zq_T 227 14 = some (.iconst (-1), 1, 0) := by decide +kernel
theorem cd_227_15 : zt_code zq_T 227 15 = some (.ixor, 1, 0) := by decide +kernel
theorem cd_227_16 : zt_code zq_T 227 16 = some (.iand, 1, 0) := by decide +kernel
theorem cd_227_17 : zt_code zq_T 227 17 = some (.ireturn, 1, 0) := by decide +kernel
theorem cd_228_0 : zt_code zq_T 228 0 = some (.iconst 0, 1, 0) := by decide +kernel
theorem cd_228_1 : zt_code zq_T 228 1 = some (.istore_n 2, 1, 0) := by decide +kernel
theorem cd_228_2 : zt_code zq_T 228 2 = some (.aload_n 0, 1, 0) := by decide +kernel
theorem cd_228_3 : zt_code zq_T 228 3 = some (.getfield 73, 3, 0) := by decide +kernel
theorem cd_228_6 : zt_code zq_T 228 6 = some (.astore_n 3, 1, 0) := by decide +kernel
theorem cd_228_7 : zt_code zq_T 228 7 = some (.aload_n 3, 1, 0) := by decide +kernel
theorem cd_228_8 : zt_code zq_T 228 8 = some (.ifnull (29), 3, 0) := by decide +kernel
theorem cd_228_11 : zt_code zq_T 228 11 = some (.iload_n 1, 1, 0) := by decide +kernel
theorem cd_228_12 : zt_code zq_T 228 12 = some (.aload_n 3, 1, 0) := by decide +kernel
theorem cd_228_13 : zt_code zq_T 228 13 = some (.getfield 79, 3, 0) := by decide +kernel
theorem cd_228_16 : zt_code zq_T 228 16 = some (.ishr, 1, 0) := by decide +kernel
theorem cd_228_17 : zt_code zq_T 228 17 = some (.iconst 1, 1, 0) := by decide +kernel
theorem cd_228_18 : zt_code zq_T 228 18 = some (.iand, 1, 0) := by decide +kernel
theorem cd_228_19 : zt_code zq_T 228 19 = some (.ifCond .eq (10), 3, 0) := by decide +kernel
theorem cd_228_22 : zt_code zq_T 228 22 = some (.iload_n 2, 1, 0) := by decide +kernel
theorem cd_228_23 : zt_code zq_T 228 23 = some (.aload_n 3, 1, 0) := by decide +kernel
theorem cd_228_24 : zt_code zq_T 228 24 = some (.getfield 62, 3, 0) := by decide +kernel
theorem cd_228_27 : zt_code zq_T 228 27 = some (.iadd, 1, 0) := by decide +kernel
theorem cd_228_28 : zt_code zq_T 228 28 = some (.istore_n 2, 1, 0) := by decide +kernel
theorem cd_228_29 : zt_code zq_T 228 29 = some (.aload_n 3, 1, 0) := by decide +kernel
theorem cd_228_30 : zt_code zq_T 228 30 = some (.getfield 76, 3, 0) := by decide +kernel
theorem cd_228_33 : zt_code zq_T 228 33 = some (.astore_n 3, 1, 0) := by decide +kernel
theorem cd_228_34 : zt_code zq_T 228 34 = some (.goto (-27), 3, 0) := by decide +kernel
theorem cd_228_37 : zt_code zq_T 228 37 = some (.iload_n 2, 1, 0) := by decide +kernel
theorem cd_228_38 : zt_code zq_T 228 38 = some (.ireturn, 1, 0) := by decide +kernel
theorem cd_229_0 : zt_code zq_T 229 0 = some (.aload_n 0, 1, 0) := by decide +kernel
theorem cd_229_1 : zt_code zq_T 229 1 = some (.aload_n 1, 1, 0) := by decide +kernel
theorem cd_229_2 : zt_code zq_T 229 2 = some (.putfield 27, 3, 0) := by decide +kernel
theorem cd_229_5 : zt_code zq_T 229 5 = some (.aload_n 0, 1, 0) := by decide +kernel
theorem cd_229_6 : zt_code zq_T 229 6 = some (.iconst 0, 1, 0) := by decide +kernel
theorem cd_229_7 : zt_code zq_T 229 7 = some (.putfield 31, 3, 0) := by decide +kernel
theorem cd_229_10 : zt_code zq_T 229 10 = some (.iload_n 2, 1, 0) := by decide +kernel
theorem cd_229_11 : zt_code zq_T 229 11 = some (.iconst (-1), 1, 0) := by decide +kernel
theorem cd_229_12 : zt_code zq_T 229 12 = some (.if_icmp .ne (4), 3, 0) := by decide +kernel
theorem cd_229_15 : zt_code zq_T 229 15 = some (.return_, 1, 0) := by decide +kernel
theorem cd_229_16 : zt_code zq_T 229 16 = some (.iconst 0, 1, 0) := by decide +kernel
theorem cd_229_17 : zt_code zq_T 229 17 = some (.istore 5, 2, 0) := by decide +kernel
theorem cd_229_19 : zt_code zq_T 229 19 = some (.aload_n 1, 1, 0) := by decide +kernel
theorem cd_229_20 : zt_code zq_T 229 20 = some (.getfield 43, 3, 0) := by decide +kernel
theorem cd_229_23 : zt_code zq_T 229 23 = some (.iload_n 2, 1, 0) := by decide +kernel
theorem cd_229_24 : zt_code zq_T 229 24 = some (.aaload, 1, 0) := by decide +kernel
theorem cd_229_25 : zt_code zq_T 229 25 = some (.astore 6, 2, 0) := by decide +kernel
theorem cd_229_27 : zt_code zq_T 229 27 = some (.aload 6, 2, 0) := by decide +kernel
theorem cd_229_29 : zt_code zq_T 229 29 = some (.ifnull (32), 3, 0) := by decide +kernel
theorem cd_229_32 : zt_code zq_T 229 32 = some (.iload 5, 2, 0) := by decide +kernel
theorem cd_229_34 : zt_code zq_T 229 34 = some (.bipush (40), 2, 0) := by decide +kernel
theorem cd_229_36 : zt_code zq_T 229 36 = some (.if_icmp .ge (25), 3, 0) := by decide +kernel
theorem cd_229_39 : zt_code zq_T 229 39 = some (.aload_n 0, 1, 0) := by decide +kernel
theorem cd_229_40 : zt_code zq_T 229 40 = some (.getfield 20, 3, 0) := by decide +kernel
theorem cd_229_43 : zt_code zq_T 229 43 = some (.iload 5, 2, 0) := by decide +kernel
theorem cd_229_45 : zt_code zq_T 229 45 = some (.aload 6, 2, 0) := by decide +kernel
theorem cd_229_47 : zt_code zq_T 229 47 = some (.aastore, 1, 0) := by decide +kernel
theorem cd_229_48 : zt_code zq_T 229 48 = some (.iinc 5 (1), 3, 0) := by decide +kernel
theorem cd_229_51 : zt_code zq_T 229 51 = some (.aload 6, 2, 0) := by decide +kernel
theorem cd_229_53 : zt_code zq_T 229 53 = some (.getfield 46, 3, 0) := by decide +kernel
theorem cd_229_56 : zt_code zq_T 229 56 = some (.astore 6, 2, 0) := by decide +kernel
theorem cd_229_58 : zt_code zq_T 229 58 = some (.goto (-31), 3, 0) := by decide +kernel
theorem cd_229_61 : zt_code zq_T 229 61 = some (.iload 5, 2, 0) := by decide +kernel
theorem cd_229_63 : zt_code zq_T 229 63 = some (.iconst 1, 1, 0) := by decide +kernel
theorem cd_229_64 : zt_code zq_T 229 64 = some (.isub, 1, 0) := by decide +kernel
theorem cd_229_65 : zt_code zq_T 229 65 = some (.istore 6, 2, 0) := by decide +kernel
theorem cd_229_67 : zt_code zq_T 229 67 = some (.iload 6, 2, 0) := by decide +kernel
theorem cd_229_69 : zt_code zq_T 229 69 = some (.ifCond .le (118), 3, 0) := by decide +kernel
theorem cd_229_72 : zt_code zq_T 229 72 = some (.aload_n 0, 1, 0) := by decide +kernel
theorem cd_229_73 : zt_code zq_T 229 73 = some (.getfield 20, 3, 0) := by decide +kernel
theorem cd_229_76 : zt_code zq_T 229 76 = some (.iload 6, 2, 0) := by decide +kernel
theorem cd_229_78 : zt_code zq_T 229 78 = some (.aaload, 1, 0) := by decide +kernel
theorem cd_229_79 : zt_code zq_T 229 79 = some (.astore 7, 2, 0) := by decide +kernel
theorem cd_229_81 : zt_code zq_T 229 81 = some (.aload_n 0, 1, 0) := by decide +kernel
theorem cd_229_82 : zt_code zq_T 229 82 = some (.getfield 20, 3, 0) := by decide +kernel
theorem cd_229_85 : zt_code zq_T 229 85 = some (.iload 6, 2, 0) := by decide +kernel
theorem cd_229_87 : zt_code zq_T 229 87 = some (.iconst 1, 1, 0) := by decide +kernel
theorem cd_229_88 : zt_code zq_T 229 88 = some (.isub, 1, 0) := by decide +kernel
theorem cd_229_89 : zt_code zq_T 229 89 = some (.aaload, 1, 0) := by decide +kernel
theorem cd_229_90 : zt_code zq_T 229 90 = some (.astore 8, 2, 0) := by decide +kernel
theorem cd_229_92 : zt_code zq_T 229 92 = some (.aload 7, 2, 0) := by decide +kernel
theorem cd_229_94 : zt_code zq_T 229 94 = some (.getfield 49, 3, 0) := by decide +kernel
theorem cd_229_97 : zt_code zq_T 229 97 = some (.iconst 2, 1, 0) := by decide +kernel
theorem cd_229_98 : zt_code zq_T 229 98 = some (.if_icmp .ne (15), 3, 0) := by decide +kernel
theorem cd_229_101 : zt_code zq_T 229 101 = some (.aload_n 0, 1, 0) := by decide +kernel
theorem cd_229_102 : zt_code zq_T 229 102 = some (.aload 7, 2, 0) := by decide +kernel
theorem cd_229_104 : zt_code zq_T 229 104 = some (.aload 8, 2, 0) := by decide +kernel
theorem cd_229_106 : zt_code zq_T 229 106 = some (.iconst 0, 1, 0) := by decide +kernel
theorem cd_229_107 : zt_code zq_T 229 107 = some (.invokevirtual 82, 3, 0) := by decide +kernel
theorem cd_229_110 : zt_code zq_T 229 110 = some (.goto (71), 3, 0) := by decide +kernel
theorem cd_229_113 : zt_code zq_T 229 113 = some (.aload 7, 2, 0) := by decide +kernel
theorem cd_229_115 : zt_code zq_T 229 115 = some (.getfield 49, 3, 0) := by decide +kernel
theorem cd_229_118 : zt_code zq_T 229 118 = some (.iconst 4, 1, 0) := by decide +kernel
theorem cd_229_119 : zt_code zq_T 229 119 = some (.if_icmp .ne (37), 3, 0) := by decide +kernel
theorem cd_229_122 : zt_code zq_T 229 122 = some (.iload_n 3, 1, 0) := by decide +kernel
theorem cd_229_123 : zt_code zq_T 229 123 = some (.aload 7, 2, 0) := by decide +kernel
theorem cd_229_125 : zt_code zq_T 229 125 = some (.getfield 56, 3, 0) := by decide +kernel
theorem cd_229_128 : zt_code zq_T 229 128 = some (.ishr, 1, 0) := by decide +kernel
theorem cd_229_129 : zt_code zq_T 229 129 = some (.iconst 1, 1, 0) := by decide +kernel
theorem cd_229_130 : zt_code zq_T 229 130 = some (.iand, 1, 0) := by decide +kernel
theorem cd_229_131 : zt_code zq_T 229 131 = some (.ifCond .eq (25), 3, 0) := by decide +kernel
theorem cd_229_134 : zt_code zq_T 229 134 = some (.aload_n 0, 1, 0) := by decide +kernel
theorem cd_229_135 : zt_code zq_T 229 135 = some (.aload 8, 2, 0) := by decide +kernel
theorem cd_229_137 : zt_code zq_T 229 137 = some (.aload_n 1, 1, 0) := by decide +kernel
theorem cd_229_138 : zt_code zq_T 229 138 = some (.getfield 59, 3, 0) := by decide +kernel
theorem cd_229_141 : zt_code zq_T 229 141 = some (.aload 7, 2, 0) := by decide +kernel
theorem cd_229_143 : zt_code zq_T 229 143 = some (.getfield 56, 3, 0) := by decide +kernel
theorem cd_229_146 : zt_code zq_T 229 146 = some (.iaload, 1, 0) := by decide +kernel
theorem cd_229_147 : zt_code zq_T 229 147 = some (.iconst 1, 1, 0) := by decide +kernel
theorem cd_229_148 : zt_code zq_T 229 148 = some (.isub, 1, 0) := by decide +kernel
theorem cd_229_149 : zt_code zq_T 229 149 = some (.iconst 0, 1, 0) := by decide +kernel
theorem cd_229_150 : zt_code zq_T 229 150 = some (.invokevirtual 86, 3, 0) := by decide +kernel
theorem cd_229_153 : zt_code zq_T 229 153 = some (.goto (28), 3, 0) := by decide +kernel
theorem cd_229_156 : zt_code zq_T 229 156 = some (.aload 7, 2, 0) := by decide +kernel
theorem cd_229_158 : zt_code zq_T 229 158 = some (.getfield 49, 3, 0) := by decide +kernel
theorem cd_229_161 : zt_code zq_T 229 161 = some (.iconst 5, 1, 0) := by decide +kernel
theorem cd_229_162 : zt_code zq_T 229 162 = some (.if_icmp .ne (19), 3, 0) := by decide +kernel
theorem cd_229_165 : zt_code zq_T 229 165 = some (.aload_n 0, 1, 0) := by decide +kernel
theorem cd_229_166 : zt_code zq_T 229 166 = some (.aload 7, 2, 0) := by decide +kernel
theorem cd_229_168 : zt_code zq_T 229 168 = some (.aload 8, 2, 0) := by decide +kernel
theorem cd_229_170 : zt_code zq_T 229 170 = some (.aload 7, 2, 0) := by decide +kernel
theorem cd_229_172 : zt_code zq_T 229 172 = some (.iload 4, 2, 0) := by decide +kernel
theorem cd_229_174 : zt_code zq_T 229 174 = some (.invokestatic 65, 3, 0) := by decide +kernel
theorem cd_229_177 : zt_code zq_T 229 177 = some (.iconst 0, 1, 0) := by decide +kernel
theorem cd_229_178 : zt_code zq_T 229 178 = some (.invokevirtual 90, 3, 0) := by decide +kernel
theorem cd_229_181 : zt_code zq_T 229 181 = some (.iinc 6 (-1), 3, 0) := by decide +kernel
theorem cd_229_184 : zt_code zq_T 229 184 = some (.goto (-117), 3, 0) := by decide +kernel
theorem cd_229_187 : zt_code zq_T 229 187 = some (.aload_n 0, 1, 0) := by decide +kernel
theorem cd_229_188 : zt_code zq_T 229 188 = some (.aload_n 1, 1, 0) := by decide +kernel
theorem cd_229_189 : zt_code zq_T 229 189 = some (.getfield 93, 3, 0) := by decide +kernel
theorem cd_229_192 : zt_code zq_T 229 192 = some (.iload_n 2, 1, 0) := by decide +kernel
theorem cd_229_193 : zt_code zq_T 229 193 = some (.iaload, 1, 0) := by decide +kernel
theorem cd_229_194 : zt_code zq_T 229 194 = some (.invokevirtual 96, 3, 0) := by decide +kernel
theorem cd_229_197 : zt_code zq_T 229 197 = some (.return_, 1, 0) := by decide +kernel
theorem cd_230_0 : zt_code zq_T 230 0 = some (.aload_n 0, 1, 0) := by decide +kernel
theorem cd_230_1 : zt_code zq_T 230 1 = some (.getfield 31, 3, 0) := by decide +kernel
theorem cd_230_4 : zt_code zq_T 230 4 = some (.sipush (9216), 3, 0) := by decide +kernel
theorem cd_230_7 : zt_code zq_T 230 7 = some (.if_icmp .ge (23), 3, 0) := by decide +kernel
theorem cd_230_10 : zt_code zq_T 230 10 = some (.aload_n 0, 1, 0) := by decide +kernel
theorem cd_230_11 : zt_code zq_T 230 11 = some (.getfield 11, 3, 0) := by decide +kernel
theorem cd_230_14 : zt_code zq_T 230 14 = some (.aload_n 0, 1, 0) := by decide +kernel
theorem cd_230_15 : zt_code zq_T 230 15 = some (.getfield 31, 3, 0) := by decide +kernel
theorem cd_230_18 : zt_code zq_T 230 18 = some (.iload_n 1, 1, 0) := by decide +kernel
theorem cd_230_19 : zt_code zq_T 230 19 = some (.iastore, 1, 0) := by decide +kernel
theorem cd_230_20 : zt_code zq_T 230 20 = some (.aload_n 0, 1, 0) := by decide +kernel
theorem cd_230_21 : zt_code zq_T 230 21 = some (.dup, 1, 0) := by decide +kernel
theorem cd_230_22 : zt_code zq_T 230 22 = some (.getfield 31, 3, 0) := by decide +kernel
theorem cd_230_25 : zt_code zq_T 230 25 = some (.iconst 1, 1, 0) := by decide +kernel
theorem cd_230_26 : zt_code zq_T 230 26 = some (.iadd, 1, 0) := by decide +kernel
theorem cd_230_27 : zt_code zq_T 230 27 = some (.putfield 31, 3, 0) := by decide +kernel
theorem cd_230_30 : zt_code zq_T 230 30 = some (.return_, 1, 0) := by decide +kernel
theorem cd_231_0 : zt_code zq_T 231 0 = some (.iload_n 2, 1, 0) := by decide +kernel
theorem cd_231_1 : zt_code zq_T 231 1 = some (.bipush (40), 2, 0) := by decide +kernel
theorem cd_231_3 : zt_code zq_T 231 3 = some (.if_icmp .gt (10), 3, 0) := by decide +kernel
theorem cd_231_6 : zt_code zq_T 231 6 = some (.aload_n 1, 1, 0) := by decide +kernel
theorem cd_231_7 : zt_code zq_T 231 7 = some (.getfield 100, 3, 0) := by decide +kernel
theorem cd_231_10 : zt_code zq_T 231 10 = some (.ifCond .eq (4), 3, 0) := by decide +kernel
theorem cd_231_13 : zt_code zq_T 231 13 = some (.return_, 1, 0) := by decide +kernel
theorem cd_231_14 : zt_code zq_T 231 14 = some (.aload_n 1, 1, 0) := by decide +kernel
theorem cd_231_15 : zt_code zq_T 231 15 = some (.getfield 49, 3, 0) := by decide +kernel
theorem cd_231_18 : zt_code zq_T 231 18 = some (.ifCond .ne (22), 3, 0) := by decide +kernel
theorem cd_231_21 : zt_code zq_T 231 21 = some (.aload_n 0, 1, 0) := by decide +kernel
theorem cd_231_22 : zt_code zq_T 231 22 = some (.aload_n 0, 1, 0) := by decide +kernel
theorem cd_231_23 : zt_code zq_T 231 23 = some (.getfield 27, 3, 0) := by decide +kernel
theorem cd_231_26 : zt_code zq_T 231 26 = some (.getfield 93, 3, 0) := by decide +kernel
theorem cd_231_29 : zt_code zq_T 231 29 = some (.aload_n 1, 1, 0) := by decide +kernel
theorem cd_231_30 : zt_code zq_T 231 30 = some (.getfield 56, 3, 0) := by decide +kernel
theorem cd_231_33 : zt_code zq_T 231 33 = some (.iaload, 1, 0) := by decide +kernel
theorem cd_231_34 : zt_code zq_T 231 34 = some (.invokevirtual 96, 3, 0) := by decide +kernel
theorem cd_231_37 : zt_code zq_T 231 37 = some (.goto (88), 3, 0) := by decide +kernel
theorem cd_231_40 : zt_code zq_T 231 40 = some (.aload_n 1, 1, 0) := by decide +kernel
theorem cd_231_41 : zt_code zq_T 231 41 = some (.getfield 49, 3, 0) := by decide +kernel
theorem cd_231_44 : zt_code zq_T 231 44 = some (.iconst 4, 1, 0) := by decide +kernel
theorem cd_231_45 : zt_code zq_T 231 45 = some (.if_icmp .ne (29), 3, 0) := by decide +kernel
theorem cd_231_48 : zt_code zq_T 231 48 = some (.aload_n 0, 1, 0) := by decide +kernel
theorem cd_231_49 : zt_code zq_T 231 49 = some (.aload_n 1, 1, 0) := by decide +kernel
theorem cd_231_50 : zt_code zq_T 231 50 = some (.getfield 73, 3, 0) := by decide +kernel
theorem cd_231_53 : zt_code zq_T 231 53 = some (.aload_n 0, 1, 0) := by decide +kernel
theorem cd_231_54 : zt_code zq_T 231 54 = some (.getfield 27, 3, 0) := by decide +kernel
theorem cd_231_57 : zt_code zq_T 231 57 = some (.getfield 104, 3, 0) := by decide +kernel
theorem cd_231_60 : zt_code zq_T 231 60 = some (.aload_n 1, 1, 0) := by decide +kernel
theorem cd_231_61 : zt_code zq_T 231 61 = some (.getfield 56, 3, 0) := by decide +kernel
theorem cd_231_64 : zt_code zq_T 231 64 = some (.iaload, 1, 0) := by decide +kernel
theorem cd_231_65 : zt_code zq_T 231 65 = some (.iload_n 2, 1, 0) := by decide +kernel
theorem cd_231_66 : zt_code zq_T 231 66 = some (.iconst 1, 1, 0) := by decide +kernel
theorem cd_231_67 : zt_code zq_T 231 67 = some (.iadd, 1, 0) := by decide +kernel
theorem cd_231_68 : zt_code zq_T 231 68 = some (.invokevirtual 86, 3, 0) := by decide +kernel
theorem cd_231_71 : zt_code zq_T 231 71 = some (.goto (54), 3, 0) := by decide +kernel
theorem cd_231_74 : zt_code zq_T 231 74 = some (.aload_n 1, 1, 0) := by decide +kernel
theorem cd_231_75 : zt_code zq_T 231 75 = some (.getfield 49, 3, 0) := by decide +kernel
theorem cd_231_78 : zt_code zq_T 231 78 = some (.iconst 3, 1, 0) := by decide +kernel
theorem cd_231_79 : zt_code zq_T 231 79 = some (.if_icmp .ne (14), 3, 0) := by decide +kernel
theorem cd_231_82 : zt_code zq_T 231 82 = some (.aload_n 0, 1, 0) := by decide +kernel
theorem cd_231_83 : zt_code zq_T 231 83 = some (.aload_n 1, 1, 0) := by decide +kernel
theorem cd_231_84 : zt_code zq_T 231 84 = some (.iload_n 2, 1, 0) := by decide +kernel
theorem cd_231_85 : zt_code zq_T 231 85 = some (.iconst 1, 1, 0) := by decide +kernel
theorem cd_231_86 : zt_code zq_T 231 86 = some (.iadd, 1, 0) := by decide +kernel
theorem cd_231_87 : zt_code zq_T 231 87 = some (.invokevirtual 107, 3, 0) := by decide +kernel
theorem cd_231_90 : zt_code zq_T 231 90 = some (.goto (35), 3, 0) := by decide +kernel
theorem cd_231_93 : zt_code zq_T 231 93 = some (.aload_n 1, 1, 0) := by decide +kernel
theorem cd_231_94 : zt_code zq_T 231 94 = some (.getfield 49, 3, 0) := by decide +kernel
theorem cd_231_97 : zt_code zq_T 231 97 = some (.iconst 2, 1, 0) := by decide +kernel
theorem cd_231_98 : zt_code zq_T 231 98 = some (.if_icmp .ne (15), 3, 0) := by decide +kernel
theorem cd_231_101 : zt_code zq_T 231 101 = some (.aload_n 0, 1, 0) := by decide +kernel
theorem cd_231_102 : zt_code zq_T 231 102 = some (.aload_n 1, 1, 0) := by decide +kernel
theorem cd_231_103 : zt_code zq_T 231 103 = some (.aconst_null, 1, 3) := by decide +kernel
theorem cd_231_104 : zt_code zq_T 231 104 = some (.iload_n 2, 1, 0) := by decide +kernel
theorem cd_231_105 : zt_code zq_T 231 105 = some (.iconst 1, 1, 0) := by decide +kernel
theorem cd_231_106 : zt_code zq_T 231 106 = some (.iadd, 1, 0) := by decide +kernel
theorem cd_231_107 : zt_code zq_T 231 107 = some (.invokevirtual 82, 3, 0) := by decide +kernel
theorem cd_231_110 : zt_code zq_T 231 110 = some (.goto (15), 3, 0) := by decide +kernel
theorem cd_231_113 : zt_code zq_T 231 113 = some (.aload_n 0, 1, 0) := by decide +kernel
theorem cd_231_114 : zt_code zq_T 231 114 = some (.aload_n 1, 1, 0) := by decide +kernel
theorem cd_231_115 : zt_code zq_T 231 115 = some (.aload_n 1, 1, 0) := by decide +kernel
theorem cd_231_116 : zt_code zq_T 231 116 = some (.getfield 110, 3, 0) := by decide +kernel
theorem cd_231_119 : zt_code zq_T 231 119 = some (.iload_n 2, 1, 0) := by decide +kernel
theorem cd_231_120 : zt_code zq_T 231 120 = some (.iconst 1, 1, 0) := by decide +kernel
theorem cd_231_121 : zt_code zq_T 231 121 = some (.iadd, 1, 0) := by decide +kernel
theorem cd_231_122 : zt_code zq_T 231 122 = some (.invokevirtual 90, 3, 0) := by decide +kernel
theorem cd_231_125 : zt_code zq_T 231 125 = some (.return_, 1, 0) := by decide +kernel
theorem cd_232_0 : zt_code zq_T 232 0 = some (.aload_n 1, 1, 0) := by decide +kernel
theorem cd_232_1 : zt_code zq_T 232 1 = some (.getfield 73, 3, 0) := by decide +kernel
theorem cd_232_4 : zt_code zq_T 232 4 = some (.astore 4, 2, 0) := by decide +kernel
theorem cd_232_6 : zt_code zq_T 232 6 = some (.aload 4, 2, 0) := by decide +kernel
theorem cd_232_8 : zt_code zq_T 232 8 = some (.ifnull (26), 3, 0) := by decide +kernel
theorem cd_232_11 : zt_code zq_T 232 11 = some (.aload 4, 2, 0) := by decide +kernel
theorem cd_232_13 : zt_code zq_T 232 13 = some (.aload_n 2, 1, 0) := by decide +kernel
theorem cd_232_14 : zt_code zq_T 232 14 = some (.if_acmp .eq (20), 3, 0) := by decide +kernel
theorem cd_232_17 : zt_code zq_T 232 17 = some (.aload_n 0, 1, 0) := by decide +kernel
theorem cd_232_18 : zt_code zq_T 232 18 = some (.aload 4, 2, 0) := by decide +kernel
theorem cd_232_20 : zt_code zq_T 232 20 = some (.iload_n 3, 1, 0) := by decide +kernel
theorem cd_232_21 : zt_code zq_T 232 21 = some (.invokevirtual 39, 3, 0) := by decide +kernel
theorem cd_232_24 : zt_code zq_T 232 24 = some (.aload 4, 2, 0) := by decide +kernel
theorem cd_232_26 : zt_code zq_T 232 26 = some (.getfield 76, 3, 0) := by decide +kernel
theorem cd_232_29 : zt_code zq_T 232 29 = some (.astore 4, 2, 0) := by decide +kernel
theorem cd_232_31 : zt_code zq_T 232 31 = some (.goto (-25), 3, 0) := by decide +kernel
theorem cd_232_34 : zt_code zq_T 232 34 = some (.return_, 1, 0) := by decide +kernel
theorem cd_233_0 : zt_code zq_T 233 0 = some (.aload_n 1, 1, 0) := by decide +kernel
theorem cd_233_1 : zt_code zq_T 233 1 = some (.ifnull (8), 3, 0) := by decide +kernel
theorem cd_233_4 : zt_code zq_T 233 4 = some (.iload_n 2, 1, 0) := by decide +kernel
theorem cd_233_5 : zt_code zq_T 233 5 = some (.iconst 1, 1, 0) := by decide +kernel
theorem cd_233_6 : zt_code zq_T 233 6 = some (.if_icmp .ge (4), 3, 0) := by decide +kernel
theorem cd_233_9 : zt_code zq_T 233 9 = some (.return_, 1, 0) := by decide +kernel
theorem cd_233_10 : zt_code zq_T 233 10 = some (.aload_n 0, 1, 0) := by decide +kernel
theorem cd_233_11 : zt_code zq_T 233 11 = some (.getfield 31, 3, 0) := by decide +kernel
theorem cd_233_14 : zt_code zq_T 233 14 = some (.istore 4, 2, 0) := by decide +kernel
theorem cd_233_16 : zt_code zq_T 233 16 = some (.aload_n 0, 1, 0) := by decide +kernel
theorem cd_233_17 : zt_code zq_T 233 17 = some (.aload_n 1, 1, 0) := by decide +kernel
theorem cd_233_18 : zt_code zq_T 233 18 = some (.iload_n 3, 1, 0) := by decide +kernel
theorem cd_233_19 : zt_code zq_T 233 19 = some (.invokevirtual 39, 3, 0) := by decide +kernel
theorem cd_233_22 : zt_code zq_T 233 22 = some (.aload_n 0, 1, 0) := by decide +kernel
theorem cd_233_23 : zt_code zq_T 233 23 = some (.getfield 31, 3, 0) := by decide +kernel
theorem cd_233_26 : zt_code zq_T 233 26 = some (.iload 4, 2, 0) := by decide +kernel
theorem cd_233_28 : zt_code zq_T 233 28 = some (.isub, 1, 0) := by decide +kernel
theorem cd_233_29 : zt_code zq_T 233 29 = some (.istore 5, 2, 0) := by decide +kernel
theorem cd_233_31 : zt_code zq_T 233 31 = some (.iconst 0, 1, 0) := by decide +kernel
theorem cd_233_32 : zt_code zq_T 233 32 = some (.istore 6, 2, 0) := by decide +kernel
theorem cd_233_34 : zt_code zq_T 233 34 = some (.iload 6, 2, 0) := by decide +kernel
theorem cd_233_36 : zt_code zq_T 233 36 = some (.iload 5, 2, 0) := by decide +kernel
theorem cd_233_38 : zt_code zq_T 233 38 = some (.iload_n 2, 1, 0) := by decide +kernel
theorem cd_233_39 : zt_code zq_T 233 39 = some (.iconst 1, 1, 0) := by decide +kernel
theorem cd_233_40 : zt_code zq_T 233 40 = some (.isub, 1, 0) := by decide +kernel
theorem cd_233_41 : zt_code zq_T 233 41 = some (.imul, 1, 0) := by decide +kernel
theorem cd_233_42 : zt_code zq_T 233 42 = some (.if_icmp .ge (33), 3, 0) := by decide +kernel
theorem cd_233_45 : zt_code zq_T 233 45 = some (.aload_n 0, 1, 0) := by decide +kernel
theorem cd_233_46 : zt_code zq_T 233 46 = some (.getfield 31, 3, 0) := by decide +kernel
theorem cd_233_49 : zt_code zq_T 233 49 = some (.sipush (9216), 3, 0) := by decide +kernel
theorem cd_233_52 : zt_code zq_T 233 52 = some (.if_icmp .ge (23), 3, 0) := by decide +kernel
theorem cd_233_55 : zt_code zq_T 233 55 = some (.aload_n 0, 1, 0) := by decide +kernel
theorem cd_233_56 : zt_code zq_T 233 56 = some (.aload_n 0, 1, 0) := by decide +kernel
theorem cd_233_57 : zt_code zq_T 233 57 = some (.getfield 11, 3, 0) := by decide +kernel
theorem cd_233_60 : zt_code zq_T 233 60 = some (.iload 4, 2, 0) := by decide +kernel
theorem cd_233_62 : zt_code zq_T 233 62 = some (.iload 6, 2, 0) := by decide +kernel
theorem cd_233_64 : zt_code zq_T 233 64 = some (.iadd, 1, 0) := by decide +kernel
theorem cd_233_65 : zt_code zq_T 233 65 = some (.iaload, 1, 0) := by decide +kernel
theorem cd_233_66 : zt_code zq_T 233 66 = some (.invokevirtual 96, 3, 0) := by decide +kernel
theorem cd_233_69 : zt_code zq_T 233 69 = some (.iinc 6 (1), 3, 0) := by decide +kernel
theorem cd_233_72 : zt_code zq_T 233 72 = some (.goto (-38), 3, 0) := by decide +kernel
theorem cd_233_75 : zt_code zq_T 233 75 = some (.return_, 1, 0) := by decide +kernel
theorem cd_234_0 : zt_code zq_T 234 0 = some (.aload_n 0, 1, 0) := by decide +kernel
theorem cd_234_1 : zt_code zq_T 234 1 = some (.getfield 31, 3, 0) := by decide +kernel
theorem cd_234_4 : zt_code zq_T 234 4 = some (.istore_n 3, 1, 0) := by decide +kernel
theorem cd_234_5 : zt_code zq_T 234 5 = some (.aload_n 1, 1, 0) := by decide +kernel
theorem cd_234_6 : zt_code zq_T 234 6 = some (.getfield 73, 3, 0) := by decide +kernel
theorem cd_234_9 : zt_code zq_T 234 9 = some (.astore 4, 2, 0) := by decide +kernel
theorem cd_234_11 : zt_code zq_T 234 11 = some (.aload 4, 2, 0) := by decide +kernel
theorem cd_234_13 : zt_code zq_T 234 13 = some (.ifnull (51), 3, 0) := by decide +kernel
theorem cd_234_16 : zt_code zq_T 234 16 = some (.aload 4, 2, 0) := by decide +kernel
theorem cd_234_18 : zt_code zq_T 234 18 = some (.getfield 62, 3, 0) := by decide +kernel
theorem cd_234_21 : zt_code zq_T 234 21 = some (.aload_n 1, 1, 0) := by decide +kernel
theorem cd_234_22 : zt_code zq_T 234 22 = some (.getfield 62, 3, 0) := by decide +kernel
theorem cd_234_25 : zt_code zq_T 234 25 = some (.if_icmp .ne (29), 3, 0) := by decide +kernel
theorem cd_234_28 : zt_code zq_T 234 28 = some (.aload_n 0, 1, 0) := by decide +kernel
theorem cd_234_29 : zt_code zq_T 234 29 = some (.getfield 31, 3, 0) := by decide +kernel
theorem cd_234_32 : zt_code zq_T 234 32 = some (.istore 5, 2, 0) := by decide +kernel
theorem cd_234_34 : zt_code zq_T 234 34 = some (.aload_n 0, 1, 0) := by decide +kernel
theorem cd_234_35 : zt_code zq_T 234 35 = some (.aload 4, 2, 0) := by decide +kernel
theorem cd_234_37 : zt_code zq_T 234 37 = some (.iload_n 2, 1, 0) := by decide +kernel
theorem cd_234_38 : zt_code zq_T 234 38 = some (.invokevirtual 39, 3, 0) := by decide +kernel
theorem cd_234_41 : zt_code zq_T 234 41 = some (.iload 5, 2, 0) := by decide +kernel
theorem cd_234_43 : zt_code zq_T 234 43 = some (.iload_n 3, 1, 0) := by decide +kernel
theorem cd_234_44 : zt_code zq_T 234 44 = some (.if_icmp .le (10), 3, 0) := by decide +kernel
theorem cd_234_47 : zt_code zq_T 234 47 = some (.aload_n 0, 1, 0) := by decide +kernel
theorem cd_234_48 : zt_code zq_T 234 48 = some (.iload_n 3, 1, 0) := by decide +kernel
theorem cd_234_49 : zt_code zq_T 234 49 = some (.iload 5, 2, 0) := by decide +kernel
theorem cd_234_51 : zt_code zq_T 234 51 = some (.invokevirtual 113, 3, 0) := by decide +kernel
theorem cd_234_54 : zt_code zq_T 234 54 = some (.aload 4, 2, 0) := by decide +kernel
theorem cd_234_56 : zt_code zq_T 234 56 = some (.getfield 76, 3, 0) := by decide +kernel
theorem cd_234_59 : zt_code zq_T 234 59 = some (.astore 4, 2, 0) := by decide +kernel
theorem cd_234_61 : zt_code zq_T 234 61 = some (.goto (-50), 3, 0) := by decide +kernel
theorem cd_234_64 : zt_code zq_T 234 64 = some (.return_, 1, 0) := by decide +kernel
theorem cd_235_0 : zt_code zq_T 235 0 = some (.aload_n 0, 1, 0) := by decide +kernel
theorem cd_235_1 : zt_code zq_T 235 1 = some (.getfield 31, 3, 0) := by decide +kernel
theorem cd_235_4 : zt_code zq_T 235 4 = some (.iload_n 2, 1, 0) := by decide +kernel
theorem cd_235_5 : zt_code zq_T 235 5 = some (.isub, 1, 0) := by decide +kernel
theorem cd_235_6 : zt_code zq_T 235 6 = some (.istore_n 3, 1, 0) := by decide +kernel
theorem cd_235_7 : zt_code zq_T 235 7 = some (.iconst 0, 1, 0) := by decide +kernel
theorem cd_235_8 : zt_code zq_T 235 8 = some (.istore 4, 2, 0) := by decide +kernel
theorem cd_235_10 : zt_code zq_T 235 10 = some (.iload 4, 2, 0) := by decide +kernel
theorem cd_235_12 : zt_code zq_T 235 12 = some (.iload_n 3, 1, 0) := by decide +kernel
theorem cd_235_13 : zt_code zq_T 235 13 = some (.if_icmp .ge (30), 3, 0) := by decide +kernel
theorem cd_235_16 : zt_code zq_T 235 16 = some (.aload_n 0, 1, 0) := by decide +kernel
theorem cd_235_17 : zt_code zq_T 235 17 = some (.getfield 11, 3, 0) := by decide +kernel
theorem cd_235_20 : zt_code zq_T 235 20 = some (.iload_n 1, 1, 0) := by decide +kernel
theorem cd_235_21 : zt_code zq_T 235 21 = some (.iload 4, 2, 0) := by decide +kernel
theorem cd_235_23 : zt_code zq_T 235 23 = some (.iadd, 1, 0) := by decide +kernel
theorem cd_235_24 : zt_code zq_T 235 24 = some (.iaload, 1, 0) := by decide +kernel
theorem cd_235_25 : zt_code zq_T 235 25 = some (.aload_n 0, 1, 0) := by decide +kernel
theorem cd_235_26 : zt_code zq_T 235 26 = some (.getfield 11, 3, 0) := by decide +kernel
theorem cd_235_29 : zt_code zq_T 235 29 = some (.iload_n 2, 1, 0) := by decide +kernel
theorem cd_235_30 : zt_code zq_T 235 30 = some (.iload 4, 2, 0) := by decide +kernel
theorem cd_235_32 : zt_code zq_T 235 32 = some (.iadd, 1, 0) := by decide +kernel
theorem cd_235_33 : zt_code zq_T 235 33 = some (.iaload, 1, 0) := by decide +kernel
theorem cd_235_34 : zt_code zq_T 235 34 = some (.if_icmp .ne (9), 3, 0) := by decide +kernel
theorem cd_235_37 : zt_code zq_T 235 37 = some (.iinc 4 (1), 3, 0) := by decide +kernel
theorem cd_235_40 : zt_code zq_T 235 40 = some (.goto (-30), 3, 0) := by decide +kernel
theorem cd_235_43 : zt_code zq_T 235 43 = some (.iload 4, 2, 0) := by decide +kernel
theorem cd_235_45 : zt_code zq_T 235 45 = some (.iload_n 3, 1, 0) := by decide +kernel
theorem cd_235_46 : zt_code zq_T 235 46 = some (.if_icmp .ge (38), 3, 0) := by decide +kernel
theorem cd_235_49 : zt_code zq_T 235 49 = some (.aload_n 0, 1, 0) := by decide +kernel
theorem cd_235_50 : zt_code zq_T 235 50 = some (.getfield 11, 3, 0) := by decide +kernel
theorem cd_235_53 : zt_code zq_T 235 53 = some (.iload_n 2, 1, 0) := by decide +kernel
theorem cd_235_54 : zt_code zq_T 235 54 = some (.iload 4, 2, 0) := by decide +kernel
theorem cd_235_56 : zt_code zq_T 235 56 = some (.iadd, 1, 0) := by decide +kernel
theorem cd_235_57 : zt_code zq_T 235 57 = some (.iaload, 1, 0) := by decide +kernel
theorem cd_235_58 : zt_code zq_T 235 58 = some (.aload_n 0, 1, 0) := by decide +kernel
theorem cd_235_59 : zt_code zq_T 235 59 = some (.getfield 11, 3, 0) := by decide +kernel
theorem cd_235_62 : zt_code zq_T 235 62 = some (.iload_n 1, 1, 0) := by decide +kernel
theorem cd_235_63 : zt_code zq_T 235 63 = some (.iload 4, 2, 0) := by decide +kernel
theorem cd_235_65 : zt_code zq_T 235 65 = some (.iadd, 1, 0) := by decide +kernel
theorem cd_235_66 : zt_code zq_T 235 66 = some (.iaload, 1, 0) := by decide +kernel
theorem cd_235_67 : zt_code zq_T 235 67 = some (.if_icmp .ge (17), 3, 0) := by decide +kernel
theorem cd_235_70 : zt_code zq_T 235 70 = some (.aload_n 0, 1, 0) := by decide +kernel
theorem cd_235_71 : zt_code zq_T 235 71 = some (.getfield 11, 3, 0) := by decide +kernel
theorem cd_235_74 : zt_code zq_T 235 74 = some (.iload_n 2, 1, 0) := by decide +kernel
theorem cd_235_75 : zt_code zq_T 235 75 = some (.aload_n 0, 1, 0) := by decide +kernel
theorem cd_235_76 : zt_code zq_T 235 76 = some (.getfield 11, 3, 0) := by decide +kernel
theorem cd_235_79 : zt_code zq_T 235 79 = some (.iload_n 1, 1, 0) := by decide +kernel
theorem cd_235_80 : zt_code zq_T 235 80 = some (.iload_n 3, 1, 0) := by decide +kernel
theorem cd_235_81 : zt_code zq_T 235 81 = some (.invokestatic 117, 3, 0) := by decide +kernel
theorem cd_235_84 : zt_code zq_T 235 84 = some (.aload_n 0, 1, 0) := by decide +kernel
theorem cd_235_85 : zt_code zq_T 235 85 = some (.iload_n 2, 1, 0) := by decide +kernel
theorem cd_235_86 : zt_code zq_T 235 86 = some (.putfield 31, 3, 0) := by decide +kernel
theorem cd_235_89 : zt_code zq_T 235 89 = some (.return_, 1, 0) := by decide +kernel
theorem cd_236_0 : zt_code zq_T 236 0 = some (.lconst 0, 1, 0) := by decide +kernel
theorem cd_236_1 : zt_code zq_T 236 1 = some (.lstore 4, 2, 0) := by decide +kernel
theorem cd_236_3 : zt_code zq_T 236 3 = some (.iconst 0, 1, 0) := by decide +kernel
theorem cd_236_4 : zt_code zq_T 236 4 = some (.istore 6, 2, 0) := by decide +kernel
theorem cd_236_6 : zt_code zq_T 236 6 = some (.aload_n 1, 1, 0) := by decide +kernel
theorem cd_236_7 : zt_code zq_T 236 7 = some (.getfield 73, 3, 0) := by decide +kernel
theorem cd_236_10 : zt_code zq_T 236 10 = some (.astore 7, 2, 0) := by decide +kernel
theorem cd_236_12 : zt_code zq_T 236 12 = some (.aload 7, 2, 0) := by decide +kernel
theorem cd_236_14 : zt_code zq_T 236 14 = some (.ifnull (53), 3, 0) := by decide +kernel
theorem cd_236_17 : zt_code zq_T 236 17 = some (.iload_n 2, 1, 0) := by decide +kernel
theorem cd_236_18 : zt_code zq_T 236 18 = some (.aload 7, 2, 0) := by decide +kernel
theorem cd_236_20 : zt_code zq_T 236 20 = some (.getfield 79, 3, 0) := by decide +kernel
theorem cd_236_23 : zt_code zq_T 236 23 = some (.ishr, 1, 0) := by decide +kernel
theorem cd_236_24 : zt_code zq_T 236 24 = some (.iconst 1, 1, 0) := by decide +kernel
theorem cd_236_25 : zt_code zq_T 236 25 = some (.iand, 1, 0) := by decide +kernel
theorem cd_236_26 : zt_code zq_T 236 26 = some (.ifCond .eq (31), 3, 0) := by decide +kernel
theorem cd_236_29 : zt_code zq_T 236 29 = some (.aload_n 0, 1, 0) := by decide +kernel
theorem cd_236_30 : zt_code zq_T 236 30 = some (.getfield 31, 3, 0) := by decide +kernel
theorem cd_236_33 : zt_code zq_T 236 33 = some (.istore 8, 2, 0) := by decide +kernel
theorem cd_236_35 : zt_code zq_T 236 35 = some (.aload_n 0, 1, 0) := by decide +kernel
theorem cd_236_36 : zt_code zq_T 236 36 = some (.aload 7, 2, 0) := by decide +kernel
theorem cd_236_38 : zt_code zq_T 236 38 = some (.iload_n 3, 1, 0) := by decide +kernel
theorem cd_236_39 : zt_code zq_T 236 39 = some (.invokevirtual 39, 3, 0) := by decide +kernel
theorem cd_236_42 : zt_code zq_T 236 42 = some (.aload_n 0, 1, 0) := by decide +kernel
theorem cd_236_43 : zt_code zq_T 236 43 = some (.iload 8, 2, 0) := by decide +kernel
theorem cd_236_45 : zt_code zq_T 236 45 = some (.lload 4, 2, 0) := by decide +kernel
theorem cd_236_47 : zt_code zq_T 236 47 = some (.iload 6, 2, 0) := by decide +kernel
theorem cd_236_49 : zt_code zq_T 236 49 = some (.invokevirtual 123, 3, 0) := by decide +kernel
theorem cd_236_52 : zt_code zq_T 236 52 = some (.lstore 4, 2, 0) := by decide +kernel
theorem cd_236_54 : zt_code zq_T 236 54 = some (.iinc 6 (1), 3, 0) := by decide +kernel
theorem cd_236_57 : zt_code zq_T 236 57 = some (.aload 7, 2, 0) := by decide +kernel
theorem cd_236_59 : zt_code zq_T 236 59 = some (.getfield 76, 3, 0) := by decide +kernel
theorem cd_236_62 : zt_code zq_T 236 62 = some (.astore 7, 2, 0) := by decide +kernel
theorem cd_236_64 : zt_code zq_T 236 64 = some (.goto (-52), 3, 0) := by decide +kernel
theorem cd_236_67 : zt_code zq_T 236 67 = some (.return_, 1, 0) := by decide +kernel
theorem cd_237_0 : zt_code zq_T 237 0 = some (.aload_n 0, 1, 0) := by decide +kernel
theorem cd_237_1 : zt_code zq_T 237 1 = some (.getfield 31, 3, 0) := by decide +kernel
theorem cd_237_4 : zt_code zq_T 237 4 = some (.iload_n 1, 1, 0) := by decide +kernel
theorem cd_237_5 : zt_code zq_T 237 5 = some (.isub, 1, 0) := by decide +kernel
theorem cd_237_6 : zt_code zq_T 237 6 = some (.istore 5, 2, 0) := by decide +kernel
theorem cd_237_8 : zt_code zq_T 237 8 = some (.lload_n 2, 1, 0) := by decide +kernel
theorem cd_237_9 : zt_code zq_T 237 9 = some (.lstore 6, 2, 0) := by decide +kernel
theorem cd_237_11 : zt_code zq_T 237 11 = some (.iload_n 1, 1, 0) := by decide +kernel
theorem cd_237_12 : zt_code zq_T 237 12 = some (.istore 8, 2, 0) := by decide +kernel
theorem cd_237_14 : zt_code zq_T 237 14 = some (.iload 4, 2, 0) := by decide +kernel
theorem cd_237_16 : zt_code zq_T 237 16 = some (.istore 9, 2, 0) := by decide +kernel
theorem cd_237_18 : zt_code zq_T 237 18 = some (.iload 9, 2, 0) := by decide +kernel
theorem cd_237_20 : zt_code zq_T 237 20 = some (.ifCond .le (106), 3, 0) := by decide +kernel
theorem cd_237_23 : zt_code zq_T 237 23 = some (.lload 6, 2, 0) := by decide +kernel
theorem cd_237_25 : zt_code zq_T 237 25 = some (.bipush (16), 2, 0) := by decide +kernel
theorem cd_237_27 : zt_code zq_T 237 27 = some (.iload 9, 2, 0) := by decide +kernel
theorem cd_237_29 : zt_code zq_T 237 29 = some (.iconst 1, 1, 0) := by decide +kernel
theorem cd_237_30 : zt_code zq_T 237 30 = some (.isub, 1, 0) := by decide +kernel
theorem cd_237_31 : zt_code zq_T 237 31 = some (.imul, 1, 0) := by decide +kernel
theorem cd_237_32 : zt_code zq_T 237 32 = some (.lshr, 1, 0) := by decide +kernel
theorem cd_237_33 : zt_code zq_T 237 33 = some (.ldc2_w 127, 3, 0) := by decide +kernel
theorem cd_237_36 : zt_code zq_T 237 36 = some (.land, 1, 0) := by decide +kernel
theorem cd_237_37 : zt_code zq_T 237 37 = some (.l2i, 1, 0) := by decide +kernel
theorem cd_237_38 : zt_code zq_T 237 38 = some (.istore 10, 2, 0) := by decide +kernel
theorem cd_237_40 : zt_code zq_T 237 40 = some (.aload_n 0, 1, 0) := by decide +kernel
theorem cd_237_41 : zt_code zq_T 237 41 = some (.iload 8, 2, 0) := by decide +kernel
theorem cd_237_43 : zt_code zq_T 237 43 = some (.iload 10, 2, 0) := by decide +kernel
theorem cd_237_45 : zt_code zq_T 237 45 = some (.isub, 1, 0) := by decide +kernel
theorem cd_237_46 : zt_code zq_T 237 46 = some (.iload 10, 2, 0) := by decide +kernel
theorem cd_237_48 : zt_code zq_T 237 48 = some (.iload 5, 2, 0) := by decide +kernel
theorem cd_237_50 : zt_code zq_T 237 50 = some (.invokevirtual 129, 3, 0) := by decide +kernel
theorem cd_237_53 : zt_code zq_T 237 53 = some (.ifCond .ne (13), 3, 0) := by decide +kernel
theorem cd_237_56 : zt_code zq_T 237 56 = some (.lload 6, 2, 0) := by decide +kernel
theorem cd_237_58 : zt_code zq_T 237 58 = some (.iload 9, 2, 0) := by decide +kernel
theorem cd_237_60 : zt_code zq_T 237 60 = some (.iload 5, 2, 0) := by decide +kernel
theorem cd_237_62 : zt_code zq_T 237 62 = some (.invokestatic 133, 3, 0) := by decide +kernel
theorem cd_237_65 : zt_code zq_T 237 65 = some (.lreturn, 1, 0) := by decide +kernel
theorem cd_237_66 : zt_code zq_T 237 66 = some (.aload_n 0, 1, 0) := by decide +kernel
theorem cd_237_67 : zt_code zq_T 237 67 = some (.iload 8, 2, 0) := by decide +kernel
theorem cd_237_69 : zt_code zq_T 237 69 = some (.iload 10, 2, 0) := by decide +kernel
theorem cd_237_71 : zt_code zq_T 237 71 = some (.isub, 1, 0) := by decide +kernel
theorem cd_237_72 : zt_code zq_T 237 72 = some (.iload 8, 2, 0) := by decide +kernel
theorem cd_237_74 : zt_code zq_T 237 74 = some (.invokevirtual 137, 3, 0) := by decide +kernel
theorem cd_237_77 : zt_code zq_T 237 77 = some (.aload_n 0, 1, 0) := by decide +kernel
theorem cd_237_78 : zt_code zq_T 237 78 = some (.iload 8, 2, 0) := by decide +kernel
theorem cd_237_80 : zt_code zq_T 237 80 = some (.iload 8, 2, 0) := by decide +kernel
theorem cd_237_82 : zt_code zq_T 237 82 = some (.iload 5, 2, 0) := by decide +kernel
theorem cd_237_84 : zt_code zq_T 237 84 = some (.iadd, 1, 0) := by decide +kernel
theorem cd_237_85 : zt_code zq_T 237 85 = some (.invokevirtual 137, 3, 0) := by decide +kernel
theorem cd_237_88 : zt_code zq_T 237 88 = some (.aload_n 0, 1, 0) := by decide +kernel
theorem cd_237_89 : zt_code zq_T 237 89 = some (.iload 8, 2, 0) := by decide +kernel
theorem cd_237_91 : zt_code zq_T 237 91 = some (.iload 10, 2, 0) := by decide +kernel
theorem cd_237_93 : zt_code zq_T 237 93 = some (.isub, 1, 0) := by decide +kernel
theorem cd_237_94 : zt_code zq_T 237 94 = some (.iload 8, 2, 0) := by decide +kernel
theorem cd_237_96 : zt_code zq_T 237 96 = some (.iload 5, 2, 0) := by decide +kernel
theorem cd_237_98 : zt_code zq_T 237 98 = some (.iadd, 1, 0) := by decide +kernel
theorem cd_237_99 : zt_code zq_T 237 99 = some (.invokevirtual 137, 3, 0) := by decide +kernel
theorem cd_237_102 : zt_code zq_T 237 102 = some (.iload 8, 2, 0) := by decide +kernel
theorem cd_237_104 : zt_code zq_T 237 104 = some (.iload 10, 2, 0) := by decide +kernel
theorem cd_237_106 : zt_code zq_T 237 106 = some (.isub, 1, 0) := by decide +kernel
theorem cd_237_107 : zt_code zq_T 237 107 = some (.istore 8, 2, 0) := by decide +kernel
theorem cd_237_109 : zt_code zq_T 237 109 = some (.lload 6, 2, 0) := by decide +kernel
theorem cd_237_111 : zt_code zq_T 237 111 = some (.iload 9, 2, 0) := by decide +kernel
theorem cd_237_113 : zt_code zq_T 237 113 = some (.iload 10, 2, 0) := by decide +kernel
theorem cd_237_115 : zt_code zq_T 237 115 = some (.invokestatic 133, 3, 0) := by decide +kernel
theorem cd_237_118 : zt_code zq_T 237 118 = some (.lstore 6, 2, 0) := by decide +kernel
theorem cd_237_120 : zt_code zq_T 237 120 = some (.iinc 9 (-1), 3, 0) := by decide +kernel
theorem cd_237_123 : zt_code zq_T 237 123 = some (.goto (-105), 3, 0) := by decide +kernel
theorem cd_237_126 : zt_code zq_T 237 126 = some (.lload 6, 2, 0) := by decide +kernel
theorem cd_237_128 : zt_code zq_T 237 128 = some (.iconst 0, 1, 0) := by decide +kernel
theorem cd_237_129 : zt_code zq_T 237 129 = some (.iload 5, 2, 0) := by decide +kernel
theorem cd_237_131 : zt_code zq_T 237 131 = some (.invokestatic 133, 3, 0) := by decide +kernel
theorem cd_237_134 : zt_code zq_T 237 134 = some (.lreturn, 1, 0) := by decide +kernel
theorem cd_238_0 : zt_code zq_T 238 0 = some (.lload_n 0, 1, 0) := by decide +kernel
theorem cd_238_1 : zt_code zq_T 238 1 = some (.ldc2_w 127, 3, 0) := by decide +kernel
theorem cd_238_4 : zt_code zq_T 238 4 = some (.bipush (16), 2, 0) := by decide +kernel
theorem cd_238_6 : zt_code zq_T 238 6 = some (.iload_n 2, 1, 0) := by decide +kernel
theorem cd_238_7 : zt_code zq_T 238 7 = some (.imul, 1, 0) := by decide +kernel
theorem cd_238_8 : zt_code zq_T 238 8 = some (.lshl, 1, 0) := by decide +kernel
theorem cd_238_9 : zt_code zq_T 238 9 = some (.ldc2_w 140, 3, 0) := by decide +kernel
theorem cd_238_12 : zt_code zq_T 238 12 = some (.lxor, 1, 0) := by decide +kernel
theorem cd_238_13 : zt_code zq_T 238 13 = some (.land, 1, 0) := by decide +kernel
theorem cd_238_14 : zt_code zq_T 238 14 = some (.lstore 4, 2, 0) := by decide +kernel
theorem cd_238_16 : zt_code zq_T 238 16 = some (.lload 4, 2, 0) := by decide +kernel
theorem cd_238_18 : zt_code zq_T 238 18 = some (.iload_n 3, 1, 0) := by decide +kernel
theorem cd_238_19 : zt_code zq_T 238 19 = some (.i2l, 1, 0) := by decide +kernel
theorem cd_238_20 : zt_code zq_T 238 20 = some (.bipush (16), 2, 0) := by decide +kernel
theorem cd_238_22 : zt_code zq_T 238 22 = some (.iload_n 2, 1, 0) := by decide +kernel
theorem cd_238_23 : zt_code zq_T 238 23 = some (.imul, 1, 0) := by decide +kernel
theorem cd_238_24 : zt_code zq_T 238 24 = some (.lshl, 1, 0) := by decide +kernel
theorem cd_238_25 : zt_code zq_T 238 25 = some (.lor, 1, 0) := by decide +kernel
theorem cd_238_26 : zt_code zq_T 238 26 = some (.lreturn, 1, 0) := by decide +kernel
theorem cd_239_0 : zt_code zq_T 239 0 = some (.iconst 0, 1, 0) := by decide +kernel
theorem cd_239_1 : zt_code zq_T 239 1 = some (.istore 4, 2, 0) := by decide +kernel
theorem cd_239_3 : zt_code zq_T 239 3 = some (.iload 4, 2, 0) := by decide +kernel
theorem cd_239_5 : zt_code zq_T 239 5 = some (.iload_n 2, 1, 0) := by decide +kernel
theorem cd_239_6 : zt_code zq_T 239 6 = some (.iload_n 3, 1, 0) := by decide +kernel
theorem cd_239_7 : zt_code zq_T 239 7 = some (.iadd, 1, 0) := by decide +kernel
theorem cd_239_8 : zt_code zq_T 239 8 = some (.if_icmp .ge (68), 3, 0) := by decide +kernel
theorem cd_239_11 : zt_code zq_T 239 11 = some (.aload_n 0, 1, 0) := by decide +kernel
theorem cd_239_12 : zt_code zq_T 239 12 = some (.getfield 11, 3, 0) := by decide +kernel
theorem cd_239_15 : zt_code zq_T 239 15 = some (.iload_n 1, 1, 0) := by decide +kernel
theorem cd_239_16 : zt_code zq_T 239 16 = some (.iload 4, 2, 0) := by decide +kernel
theorem cd_239_18 : zt_code zq_T 239 18 = some (.iadd, 1, 0) := by decide +kernel
theorem cd_239_19 : zt_code zq_T 239 19 = some (.iaload, 1, 0) := by decide +kernel
theorem cd_239_20 : zt_code zq_T 239 20 = some (.istore 5, 2, 0) := by decide +kernel
theorem cd_239_22 : zt_code zq_T 239 22 = some (.aload_n 0, 1, 0) := by decide +kernel
theorem cd_239_23 : zt_code zq_T 239 23 = some (.getfield 11, 3, 0) := by decide +kernel
theorem cd_239_26 : zt_code zq_T 239 26 = some (.iload 4, 2, 0) := by decide +kernel
theorem cd_239_28 : zt_code zq_T 239 28 = some (.iload_n 3, 1, 0) := by decide +kernel
theorem cd_239_29 : zt_code zq_T 239 29 = some (.if_icmp .ge (12), 3, 0) := by decide +kernel
theorem cd_239_32 : zt_code zq_T 239 32 = some (.iload_n 1, 1, 0) := by decide +kernel
theorem cd_239_33 : zt_code zq_T 239 33 = some (.iload_n 2, 1, 0) := by decide +kernel
theorem cd_239_34 : zt_code zq_T 239 34 = some (.iadd, 1, 0) := by decide +kernel
theorem cd_239_35 : zt_code zq_T 239 35 = some (.iload 4, 2, 0) := by decide +kernel
theorem cd_239_37 : zt_code zq_T 239 37 = some (.iadd, 1, 0) := by decide +kernel
theorem cd_239_38 : zt_code zq_T 239 38 = some (.goto (9), 3, 0) := by decide +kernel
theorem cd_239_41 : zt_code zq_T 239 41 = some (.iload_n 1, 1, 0) := by decide +kernel
theorem cd_239_42 : zt_code zq_T 239 42 = some (.iload 4, 2, 0) := by decide +kernel
theorem cd_239_44 : zt_code zq_T 239 44 = some (.iadd, 1, 0) := by decide +kernel
theorem cd_239_45 : zt_code zq_T 239 45 = some (.iload_n 3, 1, 0) := by decide +kernel
theorem cd_239_46 : zt_code zq_T 239 46 = some (.isub, 1, 0) := by decide +kernel
theorem cd_239_47 : zt_code zq_T 239 47 = some (.iaload, 1, 0) := by decide +kernel
theorem cd_239_48 : zt_code zq_T 239 48 = some (.istore 6, 2, 0) := by decide +kernel
theorem cd_239_50 : zt_code zq_T 239 50 = some (.iload 5, 2, 0) := by decide +kernel
theorem cd_239_52 : zt_code zq_T 239 52 = some (.iload 6, 2, 0) := by decide +kernel
theorem cd_239_54 : zt_code zq_T 239 54 = some (.if_icmp .eq (16), 3, 0) := by decide +kernel
theorem cd_239_57 : zt_code zq_T 239 57 = some (.iload 6, 2, 0) := by decide +kernel
theorem cd_239_59 : zt_code zq_T 239 59 = some (.iload 5, 2, 0) := by decide +kernel
theorem cd_239_61 : zt_code zq_T 239 61 = some (.if_icmp .ge (7), 3, 0) := by decide +kernel
theorem cd_239_64 : zt_code zq_T 239 64 = some (.iconst 1, 1, 0) := by decide +kernel
theorem cd_239_65 : zt_code zq_T 239 65 = some (.goto (4), 3, 0) := by decide +kernel
theorem cd_239_68 : zt_code zq_T 239 68 = some (.iconst 0, 1, 0) := by decide +kernel
theorem cd_239_69 : zt_code zq_T 239 69 = some (.ireturn, 1, 0) := by decide +kernel
theorem cd_239_70 : zt_code zq_T 239 70 = some (.iinc 4 (1), 3, 0) := by decide +kernel
theorem cd_239_73 : zt_code zq_T 239 73 = some (.goto (-70), 3, 0) := by decide +kernel
theorem cd_239_76 : zt_code zq_T 239 76 = some (.iconst 0, 1, 0) := by decide +kernel
theorem cd_239_77 : zt_code zq_T 239 77 = some (.ireturn, 1, 0) := by decide +kernel
theorem cd_240_0 : zt_code zq_T 240 0 = some (.iload_n 1, 1, 0) := by decide +kernel
theorem cd_240_1 : zt_code zq_T 240 1 = some (.istore_n 3, 1, 0) := by decide +kernel
theorem cd_240_2 : zt_code zq_T 240 2 = some (.iload_n 2, 1, 0) := by decide +kernel
theorem cd_240_3 : zt_code zq_T 240 3 = some (.iconst 1, 1, 0) := by decide +kernel
theorem cd_240_4 : zt_code zq_T 240 4 = some (.isub, 1, 0) := by decide +kernel
theorem cd_240_5 : zt_code zq_T 240 5 = some (.istore 4, 2, 0) := by decide +kernel
theorem cd_240_7 : zt_code zq_T 240 7 = some (.iload_n 3, 1, 0) := by decide +kernel
theorem cd_240_8 : zt_code zq_T 240 8 = some (.iload 4, 2, 0) := by decide +kernel
theorem cd_240_10 : zt_code zq_T 240 10 = some (.if_icmp .ge (42), 3, 0) := by decide +kernel
theorem cd_240_13 : zt_code zq_T 240 13 = some (.aload_n 0, 1, 0) := by decide +kernel
theorem cd_240_14 : zt_code zq_T 240 14 = some (.getfield 11, 3, 0) := by decide +kernel
theorem cd_240_17 : zt_code zq_T 240 17 = some (.iload_n 3, 1, 0) := by decide +kernel
theorem cd_240_18 : zt_code zq_T 240 18 = some (.iaload, 1, 0) := by decide +kernel
theorem cd_240_19 : zt_code zq_T 240 19 = some (.istore 5, 2, 0) := by decide +kernel
theorem cd_240_21 : zt_code zq_T 240 21 = some (.aload_n 0, 1, 0) := by decide +kernel
theorem cd_240_22 : zt_code zq_T 240 22 = some (.getfield 11, 3, 0) := by decide +kernel
theorem cd_240_25 : zt_code zq_T 240 25 = some (.iload_n 3, 1, 0) := by decide +kernel
theorem cd_240_26 : zt_code zq_T 240 26 = some (.aload_n 0, 1, 0) := by decide +kernel
theorem cd_240_27 : zt_code zq_T 240 27 = some (.getfield 11, 3, 0) := by decide +kernel
theorem cd_240_30 : zt_code zq_T 240 30 = some (.iload 4, 2, 0) := by decide +kernel
theorem cd_240_32 : zt_code zq_T 240 32 = some (.iaload, 1, 0) := by decide +kernel
theorem cd_240_33 : zt_code zq_T 240 33 = some (.iastore, 1, 0) := by decide +kernel
theorem cd_240_34 : zt_code zq_T 240 34 = some (.aload_n 0, 1, 0) := by decide +kernel
theorem cd_240_35 : zt_code zq_T 240 35 = some (.getfield 11, 3, 0) := by decide +kernel
theorem cd_240_38 : zt_code zq_T 240 38 = some (.iload 4, 2, 0) := by decide +kernel
theorem cd_240_40 : zt_code zq_T 240 40 = some (.iload 5, 2, 0) := by decide +kernel
theorem cd_240_42 : zt_code zq_T 240 42 = some (.iastore, 1, 0) := by decide +kernel
theorem cd_240_43 : zt_code zq_T 240 43 = some (.iinc 3 (1), 3, 0) := by decide +kernel
theorem cd_240_46 : zt_code zq_T 240 46 = some (.iinc 4 (-1), 3, 0) := by decide +kernel
theorem cd_240_49 : zt_code zq_T 240 49 = some (.goto (-42), 3, 0) := by decide +kernel
theorem cd_240_52 : zt_code zq_T 240 52 = some (.return_, 1, 0) := by decide +kernel
theorem cd_241_0 : zt_code zq_T 241 0 = some (.aload_n 0, 1, 0) := by decide +kernel
theorem cd_241_1 : zt_code zq_T 241 1 = some (.invokespecial 3, 3, 0) := by decide +kernel
theorem cd_241_4 : zt_code zq_T 241 4 = some (.aload_n 0, 1, 0) := by decide +kernel
theorem cd_241_5 : zt_code zq_T 241 5 = some (.new 9, 3, 0) := by decide +kernel
theorem cd_241_8 : zt_code zq_T 241 8 = some (.dup, 1, 0) := by decide +kernel
theorem cd_241_9 : zt_code zq_T 241 9 = some (.invokespecial 11, 3, 0) := by decide +kernel
theorem cd_241_12 : zt_code zq_T 241 12 = some (.putfield 12, 3, 0) := by decide +kernel
theorem cd_241_15 : zt_code zq_T 241 15 = some (.aload_n 0, 1, 0) := by decide +kernel
theorem cd_241_16 : zt_code zq_T 241 16 = some (.iconst (-1), 1, 0) := by decide +kernel
theorem cd_241_17 : zt_code zq_T 241 17 = some (.putfield 18, 3, 0) := by decide +kernel
theorem cd_241_20 : zt_code zq_T 241 20 = some (.aload_n 0, 1, 0) := by decide +kernel
theorem cd_241_21 : zt_code zq_T 241 21 = some (.iconst (-1), 1, 0) := by decide +kernel
theorem cd_241_22 : zt_code zq_T 241 22 = some (.putfield 22, 3, 0) := by decide +kernel
theorem cd_241_25 : zt_code zq_T 241 25 = some (.aload_n 0, 1, 0) := by decide +kernel
theorem cd_241_26 : zt_code zq_T 241 26 = some (.bipush (8), 2, 0) := by decide +kernel
theorem cd_241_28 : zt_code zq_T 241 28 = some (.newarray .int, 2, 20) := by decide +kernel
theorem cd_241_30 : zt_code zq_T 241 30 = some (.putfield 25, 3, 0) := by decide +kernel
theorem cd_241_33 : zt_code zq_T 241 33 = some (.aload_n 0, 1, 0) := by decide +kernel
theorem cd_241_34 : zt_code zq_T 241 34 = some (.iconst 4, 1, 0) := by decide +kernel
theorem cd_241_35 : zt_code zq_T 241 35 = some (.newarray .int, 2, 20) := by decide +kernel
theorem cd_241_37 : zt_code zq_T 241 37 = some (.putfield 29, 3, 0) := by decide +kernel
theorem cd_241_40 : zt_code zq_T 241 40 = some (.aload_n 0, 1, 0) := by decide +kernel
theorem cd_241_41 : zt_code zq_T 241 41 = some (.aconst_null, 1, 3) := by decide +kernel
theorem cd_241_42 : zt_code zq_T 241 42 = some (.putfield 32, 3, 0) := by decide +kernel
theorem cd_241_45 : zt_code zq_T 241 45 = some (.return_, 1, 0) := by decide +kernel
theorem cd_242_0 : zt_code zq_T 242 0 = some (.aload_n 0, 1, 0) := by decide +kernel
theorem cd_242_1 : zt_code zq_T 242 1 = some (.aload_n 1, 1, 0) := by decide +kernel
theorem cd_242_2 : zt_code zq_T 242 2 = some (.putfield 12, 3, 0) := by decide +kernel
theorem cd_242_5 : zt_code zq_T 242 5 = some (.aload_n 0, 1, 0) := by decide +kernel
theorem cd_242_6 : zt_code zq_T 242 6 = some (.iconst (-1), 1, 0) := by decide +kernel
theorem cd_242_7 : zt_code zq_T 242 7 = some (.putfield 18, 3, 0) := by decide +kernel
theorem cd_242_10 : zt_code zq_T 242 10 = some (.aload_n 0, 1, 0) := by decide +kernel
theorem cd_242_11 : zt_code zq_T 242 11 = some (.iconst (-1), 1, 0) := by decide +kernel
theorem cd_242_12 : zt_code zq_T 242 12 = some (.putfield 22, 3, 0) := by decide +kernel
theorem cd_242_15 : zt_code zq_T 242 15 = some (.return_, 1, 0) := by decide +kernel
theorem cd_243_0 : zt_code zq_T 243 0 = some (.aload_n 0, 1, 0) := by decide +kernel
theorem cd_243_1 : zt_code zq_T 243 1 = some (.iconst (-1), 1, 0) := by decide +kernel
theorem cd_243_2 : zt_code zq_T 243 2 = some (.putfield 36, 3, 0) := by decide +kernel
theorem cd_243_5 : zt_code zq_T 243 5 = some (.aload_n 0, 1, 0) := by decide +kernel
theorem cd_243_6 : zt_code zq_T 243 6 = some (.getfield 12, 3, 0) := by decide +kernel
theorem cd_243_9 : zt_code zq_T 243 9 = some (.getfield 39, 3, 0) := by decide +kernel
theorem cd_243_12 : zt_code zq_T 243 12 = some (.ifnonnull (5), 3, 0) := by decide +kernel
theorem cd_243_15 : zt_code zq_T 243 15 = some (.iconst 0, 1, 0) := by decide +kernel
theorem cd_243_16 : zt_code zq_T 243 16 = some (.ireturn, 1, 0) := by decide +kernel
theorem cd_243_17 : zt_code zq_T 243 17 = some (.aload_n 0, 1, 0) := by decide +kernel
theorem cd_243_18 : zt_code zq_T 243 18 = some (.getfield 18, 3, 0) := by decide +kernel
theorem cd_243_21 : zt_code zq_T 243 21 = some (.iconst (-1), 1, 0) := by decide +kernel
theorem cd_243_22 : zt_code zq_T 243 22 = some (.if_icmp .ne (53), 3, 0) := by decide +kernel
theorem cd_243_25 : zt_code zq_T 243 25 = some (.aload_n 0, 1, 0) := by decide +kernel
theorem cd_243_26 : zt_code zq_T 243 26 = some (.aload_n 0, 1, 0) := by decide +kernel
theorem cd_243_27 : zt_code zq_T 243 27 = some (.getfield 12, 3, 0) := by decide +kernel
theorem cd_243_30 : zt_code zq_T 243 30 = some (.getfield 39, 3, 0) := by decide +kernel
theorem cd_243_33 : zt_code zq_T 243 33 = some (.getfield 42, 3, 0) := by decide +kernel
theorem cd_243_36 : zt_code zq_T 243 36 = some (.iload_n 1, 1, 0) := by decide +kernel
theorem cd_243_37 : zt_code zq_T 243 37 = some (.iand, 1, 0) := by decide +kernel
theorem cd_243_38 : zt_code zq_T 243 38 = some (.aconst_null, 1, 3) := by decide +kernel
theorem cd_243_39 : zt_code zq_T 243 39 = some (.invokevirtual 47, 3, 0) := by decide +kernel
theorem cd_243_42 : zt_code zq_T 243 42 = some (.aload_n 0, 1, 0) := by decide +kernel
theorem cd_243_43 : zt_code zq_T 243 43 = some (.getfield 12, 3, 0) := by decide +kernel
theorem cd_243_46 : zt_code zq_T 243 46 = some (.getfield 39, 3, 0) := by decide +kernel
theorem cd_243_49 : zt_code zq_T 243 49 = some (.getfield 42, 3, 0) := by decide +kernel
theorem cd_243_52 : zt_code zq_T 243 52 = some (.iload_n 1, 1, 0) := by decide +kernel
theorem cd_243_53 : zt_code zq_T 243 53 = some (.iand, 1, 0) := by decide +kernel
theorem cd_243_54 : zt_code zq_T 243 54 = some (.aload_n 0, 1, 0) := by decide +kernel
theorem cd_243_55 : zt_code zq_T 243 55 = some (.getfield 12, 3, 0) := by decide +kernel
theorem cd_243_58 : zt_code zq_T 243 58 = some (.getfield 39, 3, 0) := by decide +kernel
theorem cd_243_61 : zt_code zq_T 243 61 = some (.getfield 51, 3, 0) := by decide +kernel
theorem cd_243_64 : zt_code zq_T 243 64 = some (.ifCond .eq (8), 3, 0) := by decide +kernel
theorem cd_243_67 : zt_code zq_T 243 67 = some (.ldc 55, 2, 0) := by decide +kernel
theorem cd_243_69 : zt_code zq_T 243 69 = some (.goto (4), 3, 0) := by decide +kernel
theorem cd_243_72 : zt_code zq_T 243 72 = some (.iconst 0, 1, 0) := by decide +kernel
theorem cd_243_73 : zt_code zq_T 243 73 = some (.ior, 1, 0) := by decide +kernel
theorem cd_243_74 : zt_code zq_T 243 74 = some (.ireturn, 1, 0) := by decide +kernel
theorem cd_243_75 : zt_code zq_T 243 75 = some (.iconst 0, 1, 0) := by decide +kernel
theorem cd_243_76 : zt_code zq_T 243 76 = some (.istore_n 2, 1, 0) := by decide +kernel
theorem cd_243_77 : zt_code zq_T 243 77 = some (.aload_n 0, 1, 0) := by decide +kernel
theorem cd_243_78 : zt_code zq_T 243 78 = some (.getfield 12, 3, 0) := by decide +kernel
theorem cd_243_81 : zt_code zq_T 243 81 = some (.getfield 56, 3, 0) := by decide +kernel
theorem cd_243_84 : zt_code zq_T 243 84 = some (.aload_n 0, 1, 0) := by decide +kernel
theorem cd_243_85 : zt_code zq_T 243 85 = some (.getfield 18, 3, 0) := by decide +kernel
theorem cd_243_88 : zt_code zq_T 243 88 = some (.aaload, 1, 0) := by decide +kernel
theorem cd_243_89 : zt_code zq_T 243 89 = some (.astore_n 3, 1, 0) := by decide +kernel
theorem cd_243_90 : zt_code zq_T 243 90 = some (.aload_n 3, 1, 0) := by decide +kernel
theorem cd_243_91 : zt_code zq_T 243 91 = some (.ifnull (126), 3, 0) := by decide +kernel
theorem cd_243_94 : zt_code zq_T 243 94 = some (.aload_n 3, 1, 0) := by decide +kernel
theorem cd_243_95 : zt_code zq_T 243 95 = some (.getfield 60, 3, 0) := by decide +kernel
theorem cd_243_98 : zt_code zq_T 243 98 = some (.ifnull (119), 3, 0) := by decide +kernel
theorem cd_243_101 : zt_code zq_T 243 101 = some (.ldc 55, 2, 0) := by decide +kernel
theorem cd_243_103 : zt_code zq_T 243 103 = some (.istore 4, 2, 0) := by decide +kernel
theorem cd_243_105 : zt_code zq_T 243 105 = some (.aload_n 3, 1, 0) := by decide +kernel
theorem cd_243_106 : zt_code zq_T 243 106 = some (.getfield 60, 3, 0) := by decide +kernel
theorem cd_243_109 : zt_code zq_T 243 109 = some (.getfield 63, 3, 0) := by decide +kernel
theorem cd_243_112 : zt_code zq_T 243 112 = some (.iconst 2, 1, 0) := by decide +kernel
theorem cd_243_113 : zt_code zq_T 243 113 = some (.if_icmp .ne (14), 3, 0) := by decide +kernel
theorem cd_243_116 : zt_code zq_T 243 116 = some (.aload_n 0, 1, 0) := by decide +kernel
theorem cd_243_117 : zt_code zq_T 243 117 = some (.aload_n 3, 1, 0) := by decide +kernel
theorem cd_243_118 : zt_code zq_T 243 118 = some (.iload_n 1, 1, 0) := by decide +kernel
theorem cd_243_119 : zt_code zq_T 243 119 = some (.invokevirtual 66, 3, 0) := by decide +kernel
theorem cd_243_122 : zt_code zq_T 243 122 = some (.istore 4, 2, 0) := by decide +kernel
theorem cd_243_124 : zt_code zq_T 243 124 = some (.goto (54), 3, 0) := by decide +kernel
theorem cd_243_127 : zt_code zq_T 243 127 = some (.aload_n 3, 1, 0) := by decide +kernel
theorem cd_243_128 : zt_code zq_T 243 128 = some (.getfield 60, 3, 0) := by decide +kernel
theorem cd_243_131 : zt_code zq_T 243 131 = some (.getfield 63, 3, 0) := by decide +kernel
theorem cd_243_134 : zt_code zq_T 243 134 = some (.iconst 5, 1, 0) := by decide +kernel
theorem cd_243_135 : zt_code zq_T 243 135 = some (.if_icmp .ne (17), 3, 0) := by decide +kernel
theorem cd_243_138 : zt_code zq_T 243 138 = some (.aload_n 0, 1, 0) := by decide +kernel
theorem cd_243_139 : zt_code zq_T 243 139 = some (.aload_n 3, 1, 0) := by decide +kernel
theorem cd_243_140 : zt_code zq_T 243 140 = some (.getfield 60, 3, 0) := by decide +kernel
theorem cd_243_143 : zt_code zq_T 243 143 = some (.iload_n 1, 1, 0) := by decide +kernel
theorem cd_243_144 : zt_code zq_T 243 144 = some (.invokevirtual 70, 3, 0) := by decide +kernel
theorem cd_243_147 : zt_code zq_T 243 147 = some (.istore 4, 2, 0) := by decide +kernel
theorem cd_243_149 : zt_code zq_T 243 149 = some (.goto (29), 3, 0) := by decide +kernel
theorem cd_243_152 : zt_code zq_T 243 152 = some (.aload_n 3, 1, 0) := by decide +kernel
theorem cd_243_153 : zt_code zq_T 243 153 = some (.getfield 60, 3, 0) := by decide +kernel
theorem cd_243_156 : zt_code zq_T 243 156 = some (.getfield 63, 3, 0) := by decide +kernel
theorem cd_243_159 : zt_code zq_T 243 159 = some (.iconst 4, 1, 0) := by decide +kernel
theorem cd_243_160 : zt_code zq_T 243 160 = some (.if_icmp .ne (18), 3, 0) := by decide +kernel
theorem cd_243_163 : zt_code zq_T 243 163 = some (.aload_n 0, 1, 0) := by decide +kernel
theorem cd_243_164 : zt_code zq_T 243 164 = some (.aload_n 3, 1, 0) := by decide +kernel
theorem cd_243_165 : zt_code zq_T 243 165 = some (.aload_n 3, 1, 0) := by decide +kernel
theorem cd_243_166 : zt_code zq_T 243 166 = some (.getfield 60, 3, 0) := by decide +kernel
theorem cd_243_169 : zt_code zq_T 243 169 = some (.getfield 73, 3, 0) := by decide +kernel
theorem cd_243_172 : zt_code zq_T 243 172 = some (.iload_n 1, 1, 0) := by decide +kernel
theorem cd_243_173 : zt_code zq_T 243 173 = some (.invokevirtual 76, 3, 0) := by decide +kernel
theorem cd_243_176 : zt_code zq_T 243 176 = some (.istore 4, 2, 0) := by decide +kernel
theorem cd_243_178 : zt_code zq_T 243 178 = some (.aload_n 0, 1, 0) := by decide +kernel
theorem cd_243_179 : zt_code zq_T 243 179 = some (.iload 4, 2, 0) := by decide +kernel
theorem cd_243_181 : zt_code zq_T 243 181 = some (.ldc 80, 2, 0) := by decide +kernel
theorem cd_243_183 : zt_code zq_T 243 183 = some (.iand, 1, 0) := by decide +kernel
theorem cd_243_184 : zt_code zq_T 243 184 = some (.aload_n 3, 1, 0) := by decide +kernel
theorem cd_243_185 : zt_code zq_T 243 185 = some (.getfield 60, 3, 0) := by decide +kernel
theorem cd_243_188 : zt_code zq_T 243 188 = some (.invokevirtual 47, 3, 0) := by decide +kernel
theorem cd_243_191 : zt_code zq_T 243 191 = some (.iload_n 2, 1, 0) := by decide +kernel
theorem cd_243_192 : zt_code zq_T 243 192 = some (.iload 4, 2, 0) := by decide +kernel
theorem cd_243_194 : zt_code zq_T 243 194 = some (.ldc 80, 2, 0) := by decide +kernel
theorem cd_243_196 : zt_code zq_T 243 196 = some (.iand, 1, 0) := by decide +kernel
theorem cd_243_197 : zt_code zq_T 243 197 = some (.ior, 1, 0) := by decide +kernel
theorem cd_243_198 : zt_code zq_T 243 198 = some (.istore_n 2, 1, 0) := by decide +kernel
theorem cd_243_199 : zt_code zq_T 243 199 = some (.iload 4, 2, 0) := by decide +kernel
theorem cd_243_201 : zt_code zq_T 243 201 = some (.ldc 55, 2, 0) := by decide +kernel
theorem cd_243_203 : zt_code zq_T 243 203 = some (.iand, 1, 0) := by decide +kernel
theorem cd_243_204 : zt_code zq_T 243 204 = some (.ifCond .ne (5), 3, 0) := by decide +kernel
theorem cd_243_207 : zt_code zq_T 243 207 = some (.iload_n 2, 1, 0) := by decide +kernel
theorem cd_243_208 : zt_code zq_T 243 208 = some (.ireturn, 1, 0) := by decide +kernel
theorem cd_243_209 : zt_code zq_T 243 209 = some (.aload_n 3, 1, 0) := by decide +kernel
theorem cd_243_210 : zt_code zq_T 243 210 = some (.getfield 60, 3, 0) := by decide +kernel
theorem cd_243_213 : zt_code zq_T 243 213 = some (.astore_n 3, 1, 0) := by decide +kernel
theorem cd_243_214 : zt_code zq_T 243 214 = some (.goto (-124), 3, 0) := by decide +kernel
theorem cd_243_217 : zt_code zq_T 243 217 = some (.iload_n 2, 1, 0) := by decide +kernel
theorem cd_243_218 : zt_code zq_T 243 218 = some (.ldc 55, 2, 0) := by decide +kernel
theorem cd_243_220 : zt_code zq_T 243 220 = some (.ior, 1, 0) := by decide +kernel
theorem cd_243_221 : zt_code zq_T 243 221 = some (.ireturn, 1, 0) := by decide +kernel
theorem cd_244_0 : zt_code zq_T 244 0 = some (.aload_n 0, 1, 0) := by decide +kernel
theorem cd_244_1 : zt_code zq_T 244 1 = some (.getfield 36, 3, 0) := by decide +kernel
theorem cd_244_4 : zt_code zq_T 244 4 = some (.iconst (-1), 1, 0) := by decide +kernel
theorem cd_244_5 : zt_code zq_T 244 5 = some (.if_icmp .ne (7), 3, 0) := by decide +kernel
theorem cd_244_8 : zt_code zq_T 244 8 = some (.iload_n 1, 1, 0) := by decide +kernel
theorem cd_244_9 : zt_code zq_T 244 9 = some (.ifCond .ne (4), 3, 0) := by decide +kernel
theorem cd_244_12 : zt_code zq_T 244 12 = some (.return_, 1, 0) := by decide +kernel
theorem cd_244_13 : zt_code zq_T 244 13 = some (.iconst 0, 1, 0) := by decide +kernel
theorem cd_244_14 : zt_code zq_T 244 14 = some (.istore_n 3, 1, 0) := by decide +kernel
theorem cd_244_15 : zt_code zq_T 244 15 = some (.iload_n 3, 1, 0) := by decide +kernel
theorem cd_244_16 : zt_code zq_T 244 16 = some (.bipush (16), 2, 0) := by decide +kernel
theorem cd_244_18 : zt_code zq_T 244 18 = some (.if_icmp .ge (30), 3, 0) := by decide +kernel
theorem cd_244_21 : zt_code zq_T 244 21 = some (.aload_n 0, 1, 0) := by decide +kernel
theorem cd_244_22 : zt_code zq_T 244 22 = some (.getfield 36, 3, 0) := by decide +kernel
theorem cd_244_25 : zt_code zq_T 244 25 = some (.iconst (-1), 1, 0) := by decide +kernel
theorem cd_244_26 : zt_code zq_T 244 26 = some (.if_icmp .ne (22), 3, 0) := by decide +kernel
theorem cd_244_29 : zt_code zq_T 244 29 = some (.iload_n 1, 1, 0) := by decide +kernel
theorem cd_244_30 : zt_code zq_T 244 30 = some (.iload_n 3, 1, 0) := by decide +kernel
theorem cd_244_31 : zt_code zq_T 244 31 = some (.ishr, 1, 0) := by decide +kernel
theorem cd_244_32 : zt_code zq_T 244 32 = some (.iconst 1, 1, 0) := by decide +kernel
theorem cd_244_33 : zt_code zq_T 244 33 = some (.iand, 1, 0) := by decide +kernel
theorem cd_244_34 : zt_code zq_T 244 34 = some (.ifCond .eq (8), 3, 0) := by decide +kernel
theorem cd_244_37 : zt_code zq_T 244 37 = some (.aload_n 0, 1, 0) := by decide +kernel
theorem cd_244_38 : zt_code zq_T 244 38 = some (.iload_n 3, 1, 0) := by decide +kernel
theorem cd_244_39 : zt_code zq_T 244 39 = some (.putfield 36, 3, 0) := by decide +kernel
theorem cd_244_42 : zt_code zq_T 244 42 = some (.iinc 3 (1), 3, 0) := by decide +kernel
theorem cd_244_45 : zt_code zq_T 244 45 = some (.goto (-30), 3, 0) := by decide +kernel
theorem cd_244_48 : zt_code zq_T 244 48 = some (.aload_n 0, 1, 0) := by decide +kernel
theorem cd_244_49 : zt_code zq_T 244 49 = some (.aload_n 2, 1, 0) := by decide +kernel
theorem cd_244_50 : zt_code zq_T 244 50 = some (.putfield 32, 3, 0) := by decide +kernel
theorem cd_244_53 : zt_code zq_T 244 53 = some (.aload_n 0, 1, 0) := by decide +kernel
theorem cd_244_54 : zt_code zq_T 244 54 = some (.aload_n 2, 1, 0) := by decide +kernel
theorem cd_244_55 : zt_code zq_T 244 55 = some (.ifnull (18), 3, 0) := by decide +kernel
theorem cd_244_58 : zt_code zq_T 244 58 = some (.aload_n 2, 1, 0) := by decide +kernel
theorem cd_244_59 : zt_code zq_T 244 59 = some (.getfield 63, 3, 0) := by decide +kernel
theorem cd_244_62 : zt_code zq_T 244 62 = some (.iconst 4, 1, 0) := by decide +kernel
theorem cd_244_63 : zt_code zq_T 244 63 = some (.if_icmp .ne (10), 3, 0) := by decide +kernel
theorem cd_244_66 : zt_code zq_T 244 66 = some (.aload_n 2, 1, 0) := by decide +kernel
theorem cd_244_67 : zt_code zq_T 244 67 = some (.getfield 73, 3, 0) := by decide +kernel
theorem cd_244_70 : zt_code zq_T 244 70 = some (.goto (4), 3, 0) := by decide +kernel
theorem cd_244_73 : zt_code zq_T 244 73 = some (.iconst (-1), 1, 0) := by decide +kernel
theorem cd_244_74 : zt_code zq_T 244 74 = some (.putfield 81, 3, 0) := by decide +kernel
theorem cd_244_77 : zt_code zq_T 244 77 = some (.return_, 1, 0) := by decide +kernel
theorem cd_245_0 : zt_code zq_T 245 0 = some (.iconst 0, 1, 0) := by decide +kernel
theorem cd_245_1 : zt_code zq_T 245 1 = some (.istore_n 3, 1, 0) := by decide +kernel
theorem cd_245_2 : zt_code zq_T 245 2 = some (.aload_n 1, 1, 0) := by decide +kernel
theorem cd_245_3 : zt_code zq_T 245 3 = some (.getfield 84, 3, 0) := by decide +kernel
theorem cd_245_6 : zt_code zq_T 245 6 = some (.astore 4, 2, 0) := by decide +kernel
theorem cd_245_8 : zt_code zq_T 245 8 = some (.aload 4, 2, 0) := by decide +kernel
theorem cd_245_10 : zt_code zq_T 245 10 = some (.ifnull (33), 3, 0) := by decide +kernel
theorem cd_245_13 : zt_code zq_T 245 13 = some (.iload_n 3, 1, 0) := by decide +kernel
theorem cd_245_14 : zt_code zq_T 245 14 = some (.aload 4, 2, 0) := by decide +kernel
theorem cd_245_16 : zt_code zq_T 245 16 = some (.getfield 42, 3, 0) := by decide +kernel
theorem cd_245_19 : zt_code zq_T 245 19 = some (.iload_n 2, 1, 0) := by decide +kernel
theorem cd_245_20 : zt_code zq_T 245 20 = some (.iand, 1, 0) := by decide +kernel
theorem cd_245_21 : zt_code zq_T 245 21 = some (.ior, 1, 0) := by decide +kernel
theorem cd_245_22 : zt_code zq_T 245 22 = some (.istore_n 3, 1, 0) := by decide +kernel
theorem cd_245_23 : zt_code zq_T 245 23 = some (.aload 4, 2, 0) := by decide +kernel
theorem cd_245_25 : zt_code zq_T 245 25 = some (.getfield 51, 3, 0) := by decide +kernel
theorem cd_245_28 : zt_code zq_T 245 28 = some (.ifCond .ne (5), 3, 0) := by decide +kernel
theorem cd_245_31 : zt_code zq_T 245 31 = some (.iload_n 3, 1, 0) := by decide +kernel
theorem cd_245_32 : zt_code zq_T 245 32 = some (.ireturn, 1, 0) := by decide +kernel
theorem cd_245_33 : zt_code zq_T 245 33 = some (.aload 4, 2, 0) := by decide +kernel
theorem cd_245_35 : zt_code zq_T 245 35 = some (.getfield 84, 3, 0) := by decide +kernel
theorem cd_245_38 : zt_code zq_T 245 38 = some (.astore 4, 2, 0) := by decide +kernel
theorem cd_245_40 : zt_code zq_T 245 40 = some (.goto (-32), 3, 0) := by decide +kernel
theorem cd_245_43 : zt_code zq_T 245 43 = some (.iload_n 3, 1, 0) := by decide +kernel
theorem cd_245_44 : zt_code zq_T 245 44 = some (.ldc 55, 2, 0) := by decide +kernel
theorem cd_245_46 : zt_code zq_T 245 46 = some (.ior, 1, 0) := by decide +kernel
theorem cd_245_47 : zt_code zq_T 245 47 = some (.ireturn, 1, 0) := by decide +kernel
theorem cd_246_0 : zt_code zq_T 246 0 = some (.aload_n 0, 1, 0) := by decide +kernel
theorem cd_246_1 : zt_code zq_T 246 1 = some (.getfield 29, 3, 0) := by decide +kernel
theorem cd_246_4 : zt_code zq_T 246 4 = some (.aload_n 1, 1, 0) := by decide +kernel
theorem cd_246_5 : zt_code zq_T 246 5 = some (.getfield 73, 3, 0) := by decide +kernel
theorem cd_246_8 : zt_code zq_T 246 8 = some (.iaload, 1, 0) := by decide +kernel
theorem cd_246_9 : zt_code zq_T 246 9 = some (.istore_n 3, 1, 0) := by decide +kernel
theorem cd_246_10 : zt_code zq_T 246 10 = some (.iconst 0, 1, 0) := by decide +kernel
theorem cd_246_11 : zt_code zq_T 246 11 = some (.istore 4, 2, 0) := by decide +kernel
theorem cd_246_13 : zt_code zq_T 246 13 = some (.aload_n 1, 1, 0) := by decide +kernel
theorem cd_246_14 : zt_code zq_T 246 14 = some (.getfield 87, 3, 0) := by decide +kernel
theorem cd_246_17 : zt_code zq_T 246 17 = some (.astore 5, 2, 0) := by decide +kernel
theorem cd_246_19 : zt_code zq_T 246 19 = some (.aload 5, 2, 0) := by decide +kernel
theorem cd_246_21 : zt_code zq_T 246 21 = some (.ifnull (37), 3, 0) := by decide +kernel
theorem cd_246_24 : zt_code zq_T 246 24 = some (.iload_n 3, 1, 0) := by decide +kernel
theorem cd_246_25 : zt_code zq_T 246 25 = some (.aload 5, 2, 0) := by decide +kernel
theorem cd_246_27 : zt_code zq_T 246 27 = some (.getfield 90, 3, 0) := by decide +kernel
theorem cd_246_30 : zt_code zq_T 246 30 = some (.ishr, 1, 0) := by decide +kernel
theorem cd_246_31 : zt_code zq_T 246 31 = some (.iconst 1, 1, 0) := by decide +kernel
theorem cd_246_32 : zt_code zq_T 246 32 = some (.iand, 1, 0) := by decide +kernel
theorem cd_246_33 : zt_code zq_T 246 33 = some (.ifCond .ne (15), 3, 0) := by decide +kernel
theorem cd_246_36 : zt_code zq_T 246 36 = some (.iload 4, 2, 0) := by decide +kernel
theorem cd_246_38 : zt_code zq_T 246 38 = some (.aload 5, 2, 0) := by decide +kernel
theorem cd_246_40 : zt_code zq_T 246 40 = some (.getfield 42, 3, 0) := by decide +kernel
theorem cd_246_43 : zt_code zq_T 246 43 = some (.iload_n 2, 1, 0) := by decide +kernel
theorem cd_246_44 : zt_code zq_T 246 44 = some (.iand, 1, 0) := by decide +kernel
theorem cd_246_45 : zt_code zq_T 246 45 = some (.ior, 1, 0) := by decide +kernel
theorem cd_246_46 : zt_code zq_T 246 46 = some (.istore 4, 2, 0) := by decide +kernel
theorem cd_246_48 : zt_code zq_T 246 48 = some (.aload 5, 2, 0) := by decide +kernel
theorem cd_246_50 : zt_code zq_T 246 50 = some (.getfield 84, 3, 0) := by decide +kernel
theorem cd_246_53 : zt_code zq_T 246 53 = some (.astore 5, 2, 0) := by decide +kernel
theorem cd_246_55 : zt_code zq_T 246 55 = some (.goto (-36), 3, 0) := by decide +kernel
theorem cd_246_58 : zt_code zq_T 246 58 = some (.aload_n 1, 1, 0) := by decide +kernel
theorem cd_246_59 : zt_code zq_T 246 59 = some (.getfield 93, 3, 0) := by decide +kernel
theorem cd_246_62 : zt_code zq_T 246 62 = some (.iload_n 3, 1, 0) := by decide +kernel
theorem cd_246_63 : zt_code zq_T 246 63 = some (.iconst (-1), 1, 0) := by decide +kernel
theorem cd_246_64 : zt_code zq_T 246 64 = some (.ixor, 1, 0) := by decide +kernel
theorem cd_246_65 : zt_code zq_T 246 65 = some (.iand, 1, 0) := by decide +kernel
theorem cd_246_66 : zt_code zq_T 246 66 = some (.ifCond .ne (11), 3, 0) := by decide +kernel
theorem cd_246_69 : zt_code zq_T 246 69 = some (.iload 4, 2, 0) := by decide +kernel
theorem cd_246_71 : zt_code zq_T 246 71 = some (.ldc 55, 2, 0) := by decide +kernel
theorem cd_246_73 : zt_code zq_T 246 73 = some (.ior, 1, 0) := by decide +kernel
theorem cd_246_74 : zt_code zq_T 246 74 = some (.goto (5), 3, 0) := by decide +kernel
theorem cd_246_77 : zt_code zq_T 246 77 = some (.iload 4, 2, 0) := by decide +kernel
theorem cd_246_79 : zt_code zq_T 246 79 = some (.ireturn, 1, 0) := by decide +kernel
theorem cd_247_0 : zt_code zq_T 247 0 = some (.aload_n 0, 1, 0) := by decide +kernel
theorem cd_247_1 : zt_code zq_T 247 1 = some (.getfield 12, 3, 0) := by decide +kernel
theorem cd_247_4 : zt_code zq_T 247 4 = some (.getfield 96, 3, 0) := by decide +kernel
theorem cd_247_7 : zt_code zq_T 247 7 = some (.iload_n 2, 1, 0) := by decide +kernel
theorem cd_247_8 : zt_code zq_T 247 8 = some (.iaload, 1, 0) := by decide +kernel
theorem cd_247_9 : zt_code zq_T 247 9 = some (.iconst (-1), 1, 0) := by decide +kernel
theorem cd_247_10 : zt_code zq_T 247 10 = some (.if_icmp .eq (21), 3, 0) := by decide +kernel
theorem cd_247_13 : zt_code zq_T 247 13 = some (.aload_n 0, 1, 0) := by decide +kernel
theorem cd_247_14 : zt_code zq_T 247 14 = some (.getfield 25, 3, 0) := by decide +kernel
theorem cd_247_17 : zt_code zq_T 247 17 = some (.iload_n 2, 1, 0) := by decide +kernel
theorem cd_247_18 : zt_code zq_T 247 18 = some (.iaload, 1, 0) := by decide +kernel
theorem cd_247_19 : zt_code zq_T 247 19 = some (.aload_n 0, 1, 0) := by decide +kernel
theorem cd_247_20 : zt_code zq_T 247 20 = some (.getfield 12, 3, 0) := by decide +kernel
theorem cd_247_23 : zt_code zq_T 247 23 = some (.getfield 96, 3, 0) := by decide +kernel
theorem cd_247_26 : zt_code zq_T 247 26 = some (.iload_n 2, 1, 0) := by decide +kernel
theorem cd_247_27 : zt_code zq_T 247 27 = some (.iaload, 1, 0) := by decide +kernel
theorem cd_247_28 : zt_code zq_T 247 28 = some (.if_icmp .ge (7), 3, 0) := by decide +kernel
theorem cd_247_31 : zt_code zq_T 247 31 = some (.iconst 1, 1, 0) := by decide +kernel
theorem cd_247_32 : zt_code zq_T 247 32 = some (.goto (4), 3, 0) := by decide +kernel
theorem cd_247_35 : zt_code zq_T 247 35 = some (.iconst 0, 1, 0) := by decide +kernel
theorem cd_247_36 : zt_code zq_T 247 36 = some (.istore 4, 2, 0) := by decide +kernel
theorem cd_247_38 : zt_code zq_T 247 38 = some (.iload 4, 2, 0) := by decide +kernel
theorem cd_247_40 : zt_code zq_T 247 40 = some (.ifCond .eq (12), 3, 0) := by decide +kernel
theorem cd_247_43 : zt_code zq_T 247 43 = some (.aload_n 1, 1, 0) := by decide +kernel
theorem cd_247_44 : zt_code zq_T 247 44 = some (.getfield 42, 3, 0) := by decide +kernel
theorem cd_247_47 : zt_code zq_T 247 47 = some (.iload_n 3, 1, 0) := by decide +kernel
theorem cd_247_48 : zt_code zq_T 247 48 = some (.iand, 1, 0) := by decide +kernel
theorem cd_247_49 : zt_code zq_T 247 49 = some (.goto (4), 3, 0) := by decide +kernel
theorem cd_247_52 : zt_code zq_T 247 52 = some (.iconst 0, 1, 0) := by decide +kernel
theorem cd_247_53 : zt_code zq_T 247 53 = some (.istore 5, 2, 0) := by decide +kernel
theorem cd_247_55 : zt_code zq_T 247 55 = some (.aload_n 0, 1, 0) := by decide +kernel
theorem cd_247_56 : zt_code zq_T 247 56 = some (.getfield 25, 3, 0) := by decide +kernel
theorem cd_247_59 : zt_code zq_T 247 59 = some (.iload_n 2, 1, 0) := by decide +kernel
theorem cd_247_60 : zt_code zq_T 247 60 = some (.iaload, 1, 0) := by decide +kernel
theorem cd_247_61 : zt_code zq_T 247 61 = some (.aload_n 0, 1, 0) := by decide +kernel
theorem cd_247_62 : zt_code zq_T 247 62 = some (.getfield 12, 3, 0) := by decide +kernel
theorem cd_247_65 : zt_code zq_T 247 65 = some (.getfield 99, 3, 0) := by decide +kernel
theorem cd_247_68 : zt_code zq_T 247 68 = some (.iload_n 2, 1, 0) := by decide +kernel
theorem cd_247_69 : zt_code zq_T 247 69 = some (.iaload, 1, 0) := by decide +kernel
theorem cd_247_70 : zt_code zq_T 247 70 = some (.if_icmp .lt (11), 3, 0) := by decide +kernel
theorem cd_247_73 : zt_code zq_T 247 73 = some (.iload 5, 2, 0) := by decide +kernel
theorem cd_247_75 : zt_code zq_T 247 75 = some (.ldc 55, 2, 0) := by decide +kernel
theorem cd_247_77 : zt_code zq_T 247 77 = some (.ior, 1, 0) := by decide +kernel
theorem cd_247_78 : zt_code zq_T 247 78 = some (.goto (5), 3, 0) := by decide +kernel
theorem cd_247_81 : zt_code zq_T 247 81 = some (.iload 5, 2, 0) := by decide +kernel
theorem cd_247_83 : zt_code zq_T 247 83 = some (.ireturn, 1, 0) := by decide +kernel
theorem cd_248_0 : zt_code zq_T 248 0 = some (.aload_n 0, 1, 0) := by decide +kernel
theorem cd_248_1 : zt_code zq_T 248 1 = some (.getfield 12, 3, 0) := by decide +kernel
theorem cd_248_4 : zt_code zq_T 248 4 = some (.iload_n 1, 1, 0) := by decide +kernel
theorem cd_248_5 : zt_code zq_T 248 5 = some (.invokevirtual 102, 3, 0) := by decide +kernel
theorem cd_248_8 : zt_code zq_T 248 8 = some (.istore_n 2, 1, 0) := by decide +kernel
theorem cd_248_9 : zt_code zq_T 248 9 = some (.iload_n 2, 1, 0) := by decide +kernel
theorem cd_248_10 : zt_code zq_T 248 10 = some (.ifCond .ne (5), 3, 0) := by decide +kernel
theorem cd_248_13 : zt_code zq_T 248 13 = some (.iconst 0, 1, 0) := by decide +kernel
theorem cd_248_14 : zt_code zq_T 248 14 = some (.ireturn, 1, 0) := by decide +kernel
theorem cd_248_15 : zt_code zq_T 248 15 = some (.aload_n 0, 1, 0) := by decide +kernel
theorem cd_248_16 : zt_code zq_T 248 16 = some (.iload_n 2, 1, 0) := by decide +kernel
theorem cd_248_17 : zt_code zq_T 248 17 = some (.invokevirtual 106, 3, 0) := by decide +kernel
theorem cd_248_20 : zt_code zq_T 248 20 = some (.pop, 1, 0) := by decide +kernel
theorem cd_248_21 : zt_code zq_T 248 21 = some (.aload_n 0, 1, 0) := by decide +kernel
theorem cd_248_22 : zt_code zq_T 248 22 = some (.getfield 36, 3, 0) := by decide +kernel
theorem cd_248_25 : zt_code zq_T 248 25 = some (.iconst (-1), 1, 0) := by decide +kernel
theorem cd_248_26 : zt_code zq_T 248 26 = some (.if_icmp .ne (5), 3, 0) := by decide +kernel
theorem cd_248_29 : zt_code zq_T 248 29 = some (.iconst 0, 1, 0) := by decide +kernel
theorem cd_248_30 : zt_code zq_T 248 30 = some (.ireturn, 1, 0) := by decide +kernel
theorem cd_248_31 : zt_code zq_T 248 31 = some (.aload_n 0, 1, 0) := by decide +kernel
theorem cd_248_32 : zt_code zq_T 248 32 = some (.invokevirtual 109, 3, 0) := by decide +kernel
theorem cd_248_35 : zt_code zq_T 248 35 = some (.iconst 1, 1, 0) := by decide +kernel
theorem cd_248_36 : zt_code zq_T 248 36 = some (.ireturn, 1, 0) := by decide +kernel
theorem cd_249_0 : zt_code zq_T 249 0 = some (.aload_n 0, 1, 0) := by decide +kernel
theorem cd_249_1 : zt_code zq_T 249 1 = some (.getfield 12, 3, 0) := by decide +kernel
theorem cd_249_4 : zt_code zq_T 249 4 = some (.getfield 56, 3, 0) := by decide +kernel
theorem cd_249_7 : zt_code zq_T 249 7 = some (.aload_n 0, 1, 0) := by decide +kernel
theorem cd_249_8 : zt_code zq_T 249 8 = some (.getfield 36, 3, 0) := by decide +kernel
theorem cd_249_11 : zt_code zq_T 249 11 = some (.aaload, 1, 0) := by decide +kernel
theorem cd_249_12 : zt_code zq_T 249 12 = some (.astore_n 1, 1, 0) := by decide +kernel
theorem cd_249_13 : zt_code zq_T 249 13 = some (.aload_n 1, 1, 0) := by decide +kernel
theorem cd_249_14 : zt_code zq_T 249 14 = some (.ifnull (76), 3, 0) := by decide +kernel
theorem cd_249_17 : zt_code zq_T 249 17 = some (.aload_n 1, 1, 0) := by decide +kernel
theorem cd_249_18 : zt_code zq_T 249 18 = some (.getfield 60, 3, 0) := by decide +kernel
theorem cd_249_21 : zt_code zq_T 249 21 = some (.aload_n 0, 1, 0) := by decide +kernel
theorem cd_249_22 : zt_code zq_T 249 22 = some (.getfield 32, 3, 0) := by decide +kernel
theorem cd_249_25 : zt_code zq_T 249 25 = some (.if_acmp .eq (65), 3, 0) := by decide +kernel
theorem cd_249_28 : zt_code zq_T 249 28 = some (.aload_n 1, 1, 0) := by decide +kernel
theorem cd_249_29 : zt_code zq_T 249 29 = some (.getfield 60, 3, 0) := by decide +kernel
theorem cd_249_32 : zt_code zq_T 249 32 = some (.astore_n 2, 1, 0) := by decide +kernel
theorem cd_249_33 : zt_code zq_T 249 33 = some (.aload_n 2, 1, 0) := by decide +kernel
theorem cd_249_34 : zt_code zq_T 249 34 = some (.ifnull (24), 3, 0) := by decide +kernel
theorem cd_249_37 : zt_code zq_T 249 37 = some (.aload_n 2, 1, 0) := by decide +kernel
theorem cd_249_38 : zt_code zq_T 249 38 = some (.getfield 63, 3, 0) := by decide +kernel
theorem cd_249_41 : zt_code zq_T 249 41 = some (.iconst 4, 1, 0) := by decide +kernel
theorem cd_249_42 : zt_code zq_T 249 42 = some (.if_icmp .ne (16), 3, 0) := by decide +kernel
theorem cd_249_45 : zt_code zq_T 249 45 = some (.aload_n 0, 1, 0) := by decide +kernel
theorem cd_249_46 : zt_code zq_T 249 46 = some (.getfield 25, 3, 0) := by decide +kernel
theorem cd_249_49 : zt_code zq_T 249 49 = some (.aload_n 2, 1, 0) := by decide +kernel
theorem cd_249_50 : zt_code zq_T 249 50 = some (.getfield 73, 3, 0) := by decide +kernel
theorem cd_249_53 : zt_code zq_T 249 53 = some (.iconst 1, 1, 0) := by decide +kernel
theorem cd_249_54 : zt_code zq_T 249 54 = some (.iastore, 1, 0) := by decide +kernel
theorem cd_249_55 : zt_code zq_T 249 55 = some (.goto (30), 3, 0) := by decide +kernel
theorem cd_249_58 : zt_code zq_T 249 58 = some (.aload_n 2, 1, 0) := by decide +kernel
theorem cd_249_59 : zt_code zq_T 249 59 = some (.ifnull (26), 3, 0) := by decide +kernel
theorem cd_249_62 : zt_code zq_T 249 62 = some (.aload_n 2, 1, 0) := by decide +kernel
theorem cd_249_63 : zt_code zq_T 249 63 = some (.getfield 63, 3, 0) := by decide +kernel
theorem cd_249_66 : zt_code zq_T 249 66 = some (.iconst 5, 1, 0) := by decide +kernel
theorem cd_249_67 : zt_code zq_T 249 67 = some (.if_icmp .ne (18), 3, 0) := by decide +kernel
theorem cd_249_70 : zt_code zq_T 249 70 = some (.aload_n 0, 1, 0) := by decide +kernel
theorem cd_249_71 : zt_code zq_T 249 71 = some (.getfield 29, 3, 0) := by decide +kernel
theorem cd_249_74 : zt_code zq_T 249 74 = some (.aload_n 2, 1, 0) := by decide +kernel
theorem cd_249_75 : zt_code zq_T 249 75 = some (.getfield 73, 3, 0) := by decide +kernel
theorem cd_249_78 : zt_code zq_T 249 78 = some (.iconst 1, 1, 0) := by decide +kernel
theorem cd_249_79 : zt_code zq_T 249 79 = some (.aload_n 1, 1, 0) := by decide +kernel
theorem cd_249_80 : zt_code zq_T 249 80 = some (.getfield 90, 3, 0) := by decide +kernel
theorem cd_249_83 : zt_code zq_T 249 83 = some (.ishl, 1, 0) := by decide +kernel
theorem cd_249_84 : zt_code zq_T 249 84 = some (.iastore, 1, 0) := by decide +kernel
theorem cd_249_85 : zt_code zq_T 249 85 = some (.aload_n 2, 1, 0) := by decide +kernel
theorem cd_249_86 : zt_code zq_T 249 86 = some (.astore_n 1, 1, 0) := by decide +kernel
theorem cd_249_87 : zt_code zq_T 249 87 = some (.goto (-74), 3, 0) := by decide +kernel
theorem cd_249_90 : zt_code zq_T 249 90 = some (.aload_n 1, 1, 0) := by decide +kernel
theorem cd_249_91 : zt_code zq_T 249 91 = some (.ifnull (40), 3, 0) := by decide +kernel
theorem cd_249_94 : zt_code zq_T 249 94 = some (.aload_n 0, 1, 0) := by decide +kernel
theorem cd_249_95 : zt_code zq_T 249 95 = some (.getfield 32, 3, 0) := by decide +kernel
theorem cd_249_98 : zt_code zq_T 249 98 = some (.ifnull (33), 3, 0) := by decide +kernel
theorem cd_249_101 : zt_code zq_T 249 101 = some (.aload_n 0, 1, 0) := by decide +kernel
theorem cd_249_102 : zt_code zq_T 249 102 = some (.getfield 32, 3, 0) := by decide +kernel
theorem cd_249_105 : zt_code zq_T 249 105 = some (.getfield 63, 3, 0) := by decide +kernel
theorem cd_249_108 : zt_code zq_T 249 108 = some (.iconst 4, 1, 0) := by decide +kernel
theorem cd_249_109 : zt_code zq_T 249 109 = some (.if_icmp .ne (22), 3, 0) := by decide +kernel
theorem cd_249_112 : zt_code zq_T 249 112 = some (.aload_n 0, 1, 0) := by decide +kernel
theorem cd_249_113 : zt_code zq_T 249 113 = some (.getfield 25, 3, 0) := by decide +kernel
theorem cd_249_116 : zt_code zq_T 249 116 = some (.aload_n 0, 1, 0) := by decide +kernel
theorem cd_249_117 : zt_code zq_T 249 117 = some (.getfield 32, 3, 0) := by decide +kernel
theorem cd_249_120 : zt_code zq_T 249 120 = some (.getfield 73, 3, 0) := by decide +kernel
theorem cd_249_123 : zt_code zq_T 249 123 = some (.dup2, 1, 0) := by decide +kernel
theorem cd_249_124 : zt_code zq_T 249 124 = some (.iaload, 1, 0) := by decide +kernel
theorem cd_249_125 : zt_code zq_T 249 125 = some (.iconst 1, 1, 0) := by decide +kernel
theorem cd_249_126 : zt_code zq_T 249 126 = some (.iadd, 1, 0) := by decide +kernel
theorem cd_249_127 : zt_code zq_T 249 127 = some (.iastore, 1, 0) := by decide +kernel
theorem cd_249_128 : zt_code zq_T 249 128 = some (.goto (46), 3, 0) := by decide +kernel
theorem cd_249_131 : zt_code zq_T 249 131 = some (.aload_n 1, 1, 0) := by decide +kernel
theorem cd_249_132 : zt_code zq_T 249 132 = some (.ifnull (42), 3, 0) := by decide +kernel
theorem cd_249_135 : zt_code zq_T 249 135 = some (.aload_n 0, 1, 0) := by decide +kernel
theorem cd_249_136 : zt_code zq_T 249 136 = some (.getfield 32, 3, 0) := by decide +kernel
theorem cd_249_139 : zt_code zq_T 249 139 = some (.ifnull (35), 3, 0) := by decide +kernel
theorem cd_249_142 : zt_code zq_T 249 142 = some (.aload_n 0, 1, 0) := by decide +kernel
theorem cd_249_143 : zt_code zq_T 249 143 = some (.getfield 32, 3, 0) := by decide +kernel
theorem cd_249_146 : zt_code zq_T 249 146 = some (.getfield 63, 3, 0) := by decide +kernel
theorem cd_249_149 : zt_code zq_T 249 149 = some (.iconst 5, 1, 0) := by decide +kernel
theorem cd_249_150 : zt_code zq_T 249 150 = some (.if_icmp .ne (24), 3, 0) := by decide +kernel
theorem cd_249_153 : zt_code zq_T 249 153 = some (.aload_n 0, 1, 0) := by decide +kernel
theorem cd_249_154 : zt_code zq_T 249 154 = some (.getfield 29, 3, 0) := by decide +kernel
theorem cd_249_157 : zt_code zq_T 249 157 = some (.aload_n 0, 1, 0) := by decide +kernel
theorem cd_249_158 : zt_code zq_T 249 158 = some (.getfield 32, 3, 0) := by decide +kernel
theorem cd_249_161 : zt_code zq_T 249 161 = some (.getfield 73, 3, 0) := by decide +kernel
theorem cd_249_164 : zt_code zq_T 249 164 = some (.dup2, 1, 0) := by decide +kernel
theorem cd_249_165 : zt_code zq_T 249 165 = some (.iaload, 1, 0) := by decide +kernel
theorem cd_249_166 : zt_code zq_T 249 166 = some (.iconst 1, 1, 0) := by decide +kernel
theorem cd_249_167 : zt_code zq_T 249 167 = some (.aload_n 1, 1, 0) := by decide +kernel
theorem cd_249_168 : zt_code zq_T 249 168 = some (.getfield 90, 3, 0) := by decide +kernel
theorem cd_249_171 : zt_code zq_T 249 171 = some (.ishl, 1, 0) := by decide +kernel
theorem cd_249_172 : zt_code zq_T 249 172 = some (.ior, 1, 0) := by decide +kernel
theorem cd_249_173 : zt_code zq_T 249 173 = some (.iastore, 1, 0) := by decide +kernel
theorem cd_249_174 : zt_code zq_T 249 174 = some (.aload_n 0, 1, 0) := by decide +kernel
theorem cd_249_175 : zt_code zq_T 249 175 = some (.aload_n 0, 1, 0) := by decide +kernel
theorem cd_249_176 : zt_code zq_T 249 176 = some (.getfield 36, 3, 0) := by decide +kernel
theorem cd_249_179 : zt_code zq_T 249 179 = some (.putfield 18, 3, 0) := by decide +kernel
theorem cd_249_182 : zt_code zq_T 249 182 = some (.aload_n 0, 1, 0) := by decide +kernel
theorem cd_249_183 : zt_code zq_T 249 183 = some (.aload_n 0, 1, 0) := by decide +kernel
theorem cd_249_184 : zt_code zq_T 249 184 = some (.getfield 81, 3, 0) := by decide +kernel
theorem cd_249_187 : zt_code zq_T 249 187 = some (.putfield 22, 3, 0) := by decide +kernel
theorem cd_249_190 : zt_code zq_T 249 190 = some (.return_, 1, 0) := by decide +kernel
theorem cd_250_0 : zt_code zq_T 250 0 = some (.aload_n 0, 1, 0) := by decide +kernel
theorem cd_250_1 : zt_code zq_T 250 1 = some (.iconst 0, 1, 0) := by decide +kernel
theorem cd_250_2 : zt_code zq_T 250 2 = some (.invokevirtual 106, 3, 0) := by decide +kernel
theorem cd_250_5 : zt_code zq_T 250 5 = some (.ldc 55, 2, 0) := by decide +kernel
theorem cd_250_7 : zt_code zq_T 250 7 = some (.iand, 1, 0) := by decide +kernel
theorem cd_250_8 : zt_code zq_T 250 8 = some (.ifCond .eq (7), 3, 0) := by decide +kernel
theorem cd_250_11 : zt_code zq_T 250 11 = some (.iconst 1, 1, 0) := by decide +kernel
theorem cd_250_12 : zt_code zq_T 250 12 = some (.goto (4), 3, 0) := by decide +kernel
theorem cd_250_15 : zt_code zq_T 250 15 = some (.iconst 0, 1, 0) := by decide +kernel
theorem cd_250_16 : zt_code zq_T 250 16 = some (.ireturn, 1, 0) := by decide +kernel
theorem cd_251_0 : zt_code zq_T 251 0 = some (.aload_n 0, 1, 0) := by decide +kernel
theorem cd_251_1 : zt_code zq_T 251 1 = some (.getfield 12, 3, 0) := by decide +kernel
theorem cd_251_4 : zt_code zq_T 251 4 = some (.aload_n 0, 1, 0) := by decide +kernel
theorem cd_251_5 : zt_code zq_T 251 5 = some (.ldc 112, 2, 0) := by decide +kernel
theorem cd_251_7 : zt_code zq_T 251 7 = some (.invokevirtual 106, 3, 0) := by decide +kernel
theorem cd_251_10 : zt_code zq_T 251 10 = some (.ldc 80, 2, 0) := by decide +kernel
theorem cd_251_12 : zt_code zq_T 251 12 = some (.iand, 1, 0) := by decide +kernel
theorem cd_251_13 : zt_code zq_T 251 13 = some (.invokevirtual 113, 3, 0) := by decide +kernel
theorem cd_251_16 : zt_code zq_T 251 16 = some (.ireturn, 1, 0) := by decide +kernel
theorem cd_252_0 : zt_code zq_T 252 0 = some (.aload_n 0, 1, 0) := by decide +kernel
theorem cd_252_1 : zt_code zq_T 252 1 = some (.getfield 18, 3, 0) := by decide +kernel
theorem cd_252_4 : zt_code zq_T 252 4 = some (.iconst (-1), 1, 0) := by decide +kernel
theorem cd_252_5 : zt_code zq_T 252 5 = some (.if_icmp .eq (39), 3, 0) := by decide +kernel
theorem cd_252_8 : zt_code zq_T 252 8 = some (.aload_n 0, 1, 0) := by decide +kernel
theorem cd_252_9 : zt_code zq_T 252 9 = some (.getfield 12, 3, 0) := by decide +kernel
theorem cd_252_12 : zt_code zq_T 252 12 = some (.getfield 116, 3, 0) := by decide +kernel
theorem cd_252_15 : zt_code zq_T 252 15 = some (.aload_n 0, 1, 0) := by decide +kernel
theorem cd_252_16 : zt_code zq_T 252 16 = some (.getfield 18, 3, 0) := by decide +kernel
theorem cd_252_19 : zt_code zq_T 252 19 = some (.iaload, 1, 0) := by decide +kernel
theorem cd_252_20 : zt_code zq_T 252 20 = some (.iload_n 1, 1, 0) := by decide +kernel
theorem cd_252_21 : zt_code zq_T 252 21 = some (.if_icmp .eq (19), 3, 0) := by decide +kernel
theorem cd_252_24 : zt_code zq_T 252 24 = some (.aload_n 0, 1, 0) := by decide +kernel
theorem cd_252_25 : zt_code zq_T 252 25 = some (.getfield 12, 3, 0) := by decide +kernel
theorem cd_252_28 : zt_code zq_T 252 28 = some (.getfield 119, 3, 0) := by decide +kernel
theorem cd_252_31 : zt_code zq_T 252 31 = some (.aload_n 0, 1, 0) := by decide +kernel
theorem cd_252_32 : zt_code zq_T 252 32 = some (.getfield 18, 3, 0) := by decide +kernel
theorem cd_252_35 : zt_code zq_T 252 35 = some (.iaload, 1, 0) := by decide +kernel
theorem cd_252_36 : zt_code zq_T 252 36 = some (.iload_n 1, 1, 0) := by decide +kernel
theorem cd_252_37 : zt_code zq_T 252 37 = some (.if_icmp .ne (7), 3, 0) := by decide +kernel
theorem cd_252_40 : zt_code zq_T 252 40 = some (.iconst 1, 1, 0) := by decide +kernel
theorem cd_252_41 : zt_code zq_T 252 41 = some (.goto (4), 3, 0) := by decide +kernel
theorem cd_252_44 : zt_code zq_T 252 44 = some (.iconst 0, 1, 0) := by decide +kernel
theorem cd_252_45 : zt_code zq_T 252 45 = some (.istore_n 2, 1, 0) := by decide +kernel
theorem cd_252_46 : zt_code zq_T 252 46 = some (.iload_n 2, 1, 0) := by decide +kernel
theorem cd_252_47 : zt_code zq_T 252 47 = some (.ifCond .eq (12), 3, 0) := by decide +kernel
theorem cd_252_50 : zt_code zq_T 252 50 = some (.aload_n 0, 1, 0) := by decide +kernel
theorem cd_252_51 : zt_code zq_T 252 51 = some (.getfield 25, 3, 0) := by decide +kernel
theorem cd_252_54 : zt_code zq_T 252 54 = some (.iload_n 1, 1, 0) := by decide +kernel
theorem cd_252_55 : zt_code zq_T 252 55 = some (.iaload, 1, 0) := by decide +kernel
theorem cd_252_56 : zt_code zq_T 252 56 = some (.goto (4), 3, 0) := by decide +kernel
theorem cd_252_59 : zt_code zq_T 252 59 = some (.iconst 0, 1, 0) := by decide +kernel
theorem cd_252_60 : zt_code zq_T 252 60 = some (.ireturn, 1, 0) := by decide +kernel
theorem cd_253_0 : zt_code zq_T 253 0 = some (.aload_n 0, 1, 0) := by decide +kernel
theorem cd_253_1 : zt_code zq_T 253 1 = some (.getfield 12, 3, 0) := by decide +kernel
theorem cd_253_4 : zt_code zq_T 253 4 = some (.getfield 122, 3, 0) := by decide +kernel
theorem cd_253_7 : zt_code zq_T 253 7 = some (.iload_n 1, 1, 0) := by decide +kernel
theorem cd_253_8 : zt_code zq_T 253 8 = some (.aaload, 1, 0) := by decide +kernel
theorem cd_253_9 : zt_code zq_T 253 9 = some (.astore_n 2, 1, 0) := by decide +kernel
theorem cd_253_10 : zt_code zq_T 253 10 = some (.aload_n 0, 1, 0) := by decide +kernel
theorem cd_253_11 : zt_code zq_T 253 11 = some (.getfield 18, 3, 0) := by decide +kernel
theorem cd_253_14 : zt_code zq_T 253 14 = some (.iconst (-1), 1, 0) := by decide +kernel
theorem cd_253_15 : zt_code zq_T 253 15 = some (.if_icmp .eq (25), 3, 0) := by decide +kernel
theorem cd_253_18 : zt_code zq_T 253 18 = some (.aload_n 2, 1, 0) := by decide +kernel
theorem cd_253_19 : zt_code zq_T 253 19 = some (.ifnull (21), 3, 0) := by decide +kernel
theorem cd_253_22 : zt_code zq_T 253 22 = some (.aload_n 2, 1, 0) := by decide +kernel
theorem cd_253_23 : zt_code zq_T 253 23 = some (.getfield 125, 3, 0) := by decide +kernel
theorem cd_253_26 : zt_code zq_T 253 26 = some (.aload_n 0, 1, 0) := by decide +kernel
theorem cd_253_27 : zt_code zq_T 253 27 = some (.getfield 18, 3, 0) := by decide +kernel
theorem cd_253_30 : zt_code zq_T 253 30 = some (.ishr, 1, 0) := by decide +kernel
theorem cd_253_31 : zt_code zq_T 253 31 = some (.iconst 1, 1, 0) := by decide +kernel
theorem cd_253_32 : zt_code zq_T 253 32 = some (.iand, 1, 0) := by decide +kernel
theorem cd_253_33 : zt_code zq_T 253 33 = some (.ifCond .eq (7), 3, 0) := by decide +kernel
theorem cd_253_36 : zt_code zq_T 253 36 = some (.iconst 1, 1, 0) := by decide +kernel
theorem cd_253_37 : zt_code zq_T 253 37 = some (.goto (4), 3, 0) := by decide +kernel
theorem cd_253_40 : zt_code zq_T 253 40 = some (.iconst 0, 1, 0) := by decide +kernel
theorem cd_253_41 : zt_code zq_T 253 41 = some (.istore_n 3, 1, 0) := by decide +kernel
theorem cd_253_42 : zt_code zq_T 253 42 = some (.iload_n 3, 1, 0) := by decide +kernel
theorem cd_253_43 : zt_code zq_T 253 43 = some (.ifCond .eq (12), 3, 0) := by decide +kernel
theorem cd_253_46 : zt_code zq_T 253 46 = some (.aload_n 0, 1, 0) := by decide +kernel
theorem cd_253_47 : zt_code zq_T 253 47 = some (.getfield 29, 3, 0) := by decide +kernel
theorem cd_253_50 : zt_code zq_T 253 50 = some (.iload_n 1, 1, 0) := by decide +kernel
theorem cd_253_51 : zt_code zq_T 253 51 = some (.iaload, 1, 0) := by decide +kernel
theorem cd_253_52 : zt_code zq_T 253 52 = some (.goto (4), 3, 0) := by decide +kernel
theorem cd_253_55 : zt_code zq_T 253 55 = some (.iconst 0, 1, 0) := by decide +kernel
theorem cd_253_56 : zt_code zq_T 253 56 = some (.ireturn, 1, 0) := by decide +kernel
theorem cd_254_0 : zt_code zq_T 254 0 = some (.aload_n 0, 1, 0) := by decide +kernel
theorem cd_254_1 : zt_code zq_T 254 1 = some (.getfield 18, 3, 0) := by decide +kernel
theorem cd_254_4 : zt_code zq_T 254 4 = some (.iconst (-1), 1, 0) := by decide +kernel
theorem cd_254_5 : zt_code zq_T 254 5 = some (.if_icmp .ne (5), 3, 0) := by decide +kernel
theorem cd_254_8 : zt_code zq_T 254 8 = some (.iconst 0, 1, 0) := by decide +kernel
theorem cd_254_9 : zt_code zq_T 254 9 = some (.ireturn, 1, 0) := by decide +kernel
theorem cd_254_10 : zt_code zq_T 254 10 = some (.aload_n 0, 1, 0) := by decide +kernel
theorem cd_254_11 : zt_code zq_T 254 11 = some (.getfield 18, 3, 0) := by decide +kernel
theorem cd_254_14 : zt_code zq_T 254 14 = some (.iconst 1, 1, 0) := by decide +kernel
theorem cd_254_15 : zt_code zq_T 254 15 = some (.iadd, 1, 0) := by decide +kernel
theorem cd_254_16 : zt_code zq_T 254 16 = some (.istore_n 1, 1, 0) := by decide +kernel
theorem cd_254_17 : zt_code zq_T 254 17 = some (.iload_n 1, 1, 0) := by decide +kernel
theorem cd_254_18 : zt_code zq_T 254 18 = some (.aload_n 0, 1, 0) := by decide +kernel
theorem cd_254_19 : zt_code zq_T 254 19 = some (.aload_n 0, 1, 0) := by decide +kernel
theorem cd_254_20 : zt_code zq_T 254 20 = some (.getfield 12, 3, 0) := by decide +kernel
theorem cd_254_23 : zt_code zq_T 254 23 = some (.getfield 116, 3, 0) := by decide +kernel
theorem cd_254_26 : zt_code zq_T 254 26 = some (.aload_n 0, 1, 0) := by decide +kernel
theorem cd_254_27 : zt_code zq_T 254 27 = some (.getfield 18, 3, 0) := by decide +kernel
theorem cd_254_30 : zt_code zq_T 254 30 = some (.iaload, 1, 0) := by decide +kernel
theorem cd_254_31 : zt_code zq_T 254 31 = some (.invokevirtual 128, 3, 0) := by decide +kernel
theorem cd_254_34 : zt_code zq_T 254 34 = some (.iconst 5, 1, 0) := by decide +kernel
theorem cd_254_35 : zt_code zq_T 254 35 = some (.ishl, 1, 0) := by decide +kernel
theorem cd_254_36 : zt_code zq_T 254 36 = some (.ior, 1, 0) := by decide +kernel
theorem cd_254_37 : zt_code zq_T 254 37 = some (.istore_n 1, 1, 0) := by decide +kernel
theorem cd_254_38 : zt_code zq_T 254 38 = some (.iload_n 1, 1, 0) := by decide +kernel
theorem cd_254_39 : zt_code zq_T 254 39 = some (.aload_n 0, 1, 0) := by decide +kernel
theorem cd_254_40 : zt_code zq_T 254 40 = some (.aload_n 0, 1, 0) := by decide +kernel
theorem cd_254_41 : zt_code zq_T 254 41 = some (.getfield 12, 3, 0) := by decide +kernel
theorem cd_254_44 : zt_code zq_T 254 44 = some (.getfield 119, 3, 0) := by decide +kernel
theorem cd_254_47 : zt_code zq_T 254 47 = some (.aload_n 0, 1, 0) := by decide +kernel
theorem cd_254_48 : zt_code zq_T 254 48 = some (.getfield 18, 3, 0) := by decide +kernel
theorem cd_254_51 : zt_code zq_T 254 51 = some (.iaload, 1, 0) := by decide +kernel
theorem cd_254_52 : zt_code zq_T 254 52 = some (.invokevirtual 128, 3, 0) := by decide +kernel
theorem cd_254_55 : zt_code zq_T 254 55 = some (.bipush (9), 2, 0) := by decide +kernel
theorem cd_254_57 : zt_code zq_T 254 57 = some (.ishl, 1, 0) := by decide +kernel
theorem cd_254_58 : zt_code zq_T 254 58 = some (.ior, 1, 0) := by decide +kernel
theorem cd_254_59 : zt_code zq_T 254 59 = some (.istore_n 1, 1, 0) := by decide +kernel
theorem cd_254_60 : zt_code zq_T 254 60 = some (.iconst 0, 1, 0) := by decide +kernel
theorem cd_254_61 : zt_code zq_T 254 61 = some (.istore_n 2, 1, 0) := by decide +kernel
theorem cd_254_62 : zt_code zq_T 254 62 = some (.iload_n 2, 1, 0) := by decide +kernel
theorem cd_254_63 : zt_code zq_T 254 63 = some (.aload_n 0, 1, 0) := by decide +kernel
theorem cd_254_64 : zt_code zq_T 254 64 = some (.getfield 12, 3, 0) := by decide +kernel
theorem cd_254_67 : zt_code zq_T 254 67 = some (.getfield 131, 3, 0) := by decide +kernel
theorem cd_254_70 : zt_code zq_T 254 70 = some (.if_icmp .ge (24), 3, 0) := by decide +kernel
theorem cd_254_73 : zt_code zq_T 254 73 = some (.iload_n 1, 1, 0) := by decide +kernel
theorem cd_254_74 : zt_code zq_T 254 74 = some (.aload_n 0, 1, 0) := by decide +kernel
theorem cd_254_75 : zt_code zq_T 254 75 = some (.iload_n 2, 1, 0) := by decide +kernel
theorem cd_254_76 : zt_code zq_T 254 76 = some (.invokevirtual 134, 3, 0) := by decide +kernel
theorem cd_254_79 : zt_code zq_T 254 79 = some (.bipush (13), 2, 0) := by decide +kernel
theorem cd_254_81 : zt_code zq_T 254 81 = some (.iconst 4, 1, 0) := by decide +kernel
theorem cd_254_82 : zt_code zq_T 254 82 = some (.iload_n 2, 1, 0) := by decide +kernel
theorem cd_254_83 : zt_code zq_T 254 83 = some (.imul, 1, 0) := by decide +kernel
theorem cd_254_84 : zt_code zq_T 254 84 = some (.iadd, 1, 0) := by decide +kernel
theorem cd_254_85 : zt_code zq_T 254 85 = some (.ishl, 1, 0) := by decide +kernel
theorem cd_254_86 : zt_code zq_T 254 86 = some (.ior, 1, 0) := by decide +kernel
theorem cd_254_87 : zt_code zq_T 254 87 = some (.istore_n 1, 1, 0) := by decide +kernel
theorem cd_254_88 : zt_code zq_T 254 88 = some (.iinc 2 (1), 3, 0) := by decide +kernel
theorem cd_254_91 : zt_code zq_T 254 91 = some (.goto (-29), 3, 0) := by decide +kernel
theorem cd_254_94 : zt_code zq_T 254 94 = some (.iload_n 1, 1, 0) := by decide +kernel
theorem cd_254_95 : zt_code zq_T 254 95 = some (.ireturn, 1, 0) := by decide +kernel
theorem cd_255_0 : zt_code zq_T 255 0 = some (.iload_n 1, 1, 0) := by decide +kernel
theorem cd_255_1 : zt_code zq_T 255 1 = some (.iconst (-1), 1, 0) := by decide +kernel
theorem cd_255_2 : zt_code zq_T 255 2 = some (.if_icmp .ne (5), 3, 0) := by decide +kernel
theorem cd_255_5 : zt_code zq_T 255 5 = some (.iconst 0, 1, 0) := by decide +kernel
theorem cd_255_6 : zt_code zq_T 255 6 = some (.ireturn, 1, 0) := by decide +kernel
theorem cd_255_7 : zt_code zq_T 255 7 = some (.aload_n 0, 1, 0) := by decide +kernel
theorem cd_255_8 : zt_code zq_T 255 8 = some (.getfield 12, 3, 0) := by decide +kernel
theorem cd_255_11 : zt_code zq_T 255 11 = some (.getfield 96, 3, 0) := by decide +kernel
theorem cd_255_14 : zt_code zq_T 255 14 = some (.iload_n 1, 1, 0) := by decide +kernel
theorem cd_255_15 : zt_code zq_T 255 15 = some (.iaload, 1, 0) := by decide +kernel
theorem cd_255_16 : zt_code zq_T 255 16 = some (.iconst (-1), 1, 0) := by decide +kernel
theorem cd_255_17 : zt_code zq_T 255 17 = some (.if_icmp .ne (24), 3, 0) := by decide +kernel
theorem cd_255_20 : zt_code zq_T 255 20 = some (.aload_n 0, 1, 0) := by decide +kernel
theorem cd_255_21 : zt_code zq_T 255 21 = some (.getfield 25, 3, 0) := by decide +kernel
theorem cd_255_24 : zt_code zq_T 255 24 = some (.iload_n 1, 1, 0) := by decide +kernel
theorem cd_255_25 : zt_code zq_T 255 25 = some (.iaload, 1, 0) := by decide +kernel
theorem cd_255_26 : zt_code zq_T 255 26 = some (.aload_n 0, 1, 0) := by decide +kernel
theorem cd_255_27 : zt_code zq_T 255 27 = some (.getfield 12, 3, 0) := by decide +kernel
theorem cd_255_30 : zt_code zq_T 255 30 = some (.getfield 99, 3, 0) := by decide +kernel
theorem cd_255_33 : zt_code zq_T 255 33 = some (.iload_n 1, 1, 0) := by decide +kernel
theorem cd_255_34 : zt_code zq_T 255 34 = some (.iaload, 1, 0) := by decide +kernel
theorem cd_255_35 : zt_code zq_T 255 35 = some (.invokestatic 137, 3, 0) := by decide +kernel
theorem cd_255_38 : zt_code zq_T 255 38 = some (.goto (9), 3, 0) := by decide +kernel
theorem cd_255_41 : zt_code zq_T 255 41 = some (.aload_n 0, 1, 0) := by decide +kernel
theorem cd_255_42 : zt_code zq_T 255 42 = some (.getfield 25, 3, 0) := by decide +kernel
theorem cd_255_45 : zt_code zq_T 255 45 = some (.iload_n 1, 1, 0) := by decide +kernel
theorem cd_255_46 : zt_code zq_T 255 46 = some (.iaload, 1, 0) := by decide +kernel
theorem cd_255_47 : zt_code zq_T 255 47 = some (.ireturn, 1, 0) := by decide +kernel
theorem cd_256_0 : zt_code zq_T 256 0 = some (.aload_n 0, 1, 0) := by decide +kernel
theorem cd_256_1 : zt_code zq_T 256 1 = some (.aload_n 1, 1, 0) := by decide +kernel
theorem cd_256_2 : zt_code zq_T 256 2 = some (.invokevirtual 143, 3, 0) := by decide +kernel
theorem cd_256_5 : zt_code zq_T 256 5 = some (.aload_n 0, 1, 0) := by decide +kernel
theorem cd_256_6 : zt_code zq_T 256 6 = some (.iload_n 2, 1, 0) := by decide +kernel
theorem cd_256_7 : zt_code zq_T 256 7 = some (.bipush (31), 2, 0) := by decide +kernel
theorem cd_256_9 : zt_code zq_T 256 9 = some (.iand, 1, 0) := by decide +kernel
theorem cd_256_10 : zt_code zq_T 256 10 = some (.iconst 1, 1, 0) := by decide +kernel
theorem cd_256_11 : zt_code zq_T 256 11 = some (.isub, 1, 0) := by decide +kernel
theorem cd_256_12 : zt_code zq_T 256 12 = some (.putfield 18, 3, 0) := by decide +kernel
theorem cd_256_15 : zt_code zq_T 256 15 = some (.aload_n 0, 1, 0) := by decide +kernel
theorem cd_256_16 : zt_code zq_T 256 16 = some (.getfield 18, 3, 0) := by decide +kernel
theorem cd_256_19 : zt_code zq_T 256 19 = some (.iconst (-1), 1, 0) := by decide +kernel
theorem cd_256_20 : zt_code zq_T 256 20 = some (.if_icmp .ne (4), 3, 0) := by decide +kernel
theorem cd_256_23 : zt_code zq_T 256 23 = some (.return_, 1, 0) := by decide +kernel
theorem cd_256_24 : zt_code zq_T 256 24 = some (.aload_n 0, 1, 0) := by decide +kernel
theorem cd_256_25 : zt_code zq_T 256 25 = some (.aload_n 0, 1, 0) := by decide +kernel
theorem cd_256_26 : zt_code zq_T 256 26 = some (.getfield 12, 3, 0) := by decide +kernel
theorem cd_256_29 : zt_code zq_T 256 29 = some (.getfield 116, 3, 0) := by decide +kernel
theorem cd_256_32 : zt_code zq_T 256 32 = some (.aload_n 0, 1, 0) := by decide +kernel
theorem cd_256_33 : zt_code zq_T 256 33 = some (.getfield 18, 3, 0) := by decide +kernel
theorem cd_256_36 : zt_code zq_T 256 36 = some (.iaload, 1, 0) := by decide +kernel
theorem cd_256_37 : zt_code zq_T 256 37 = some (.iload_n 2, 1, 0) := by decide +kernel
theorem cd_256_38 : zt_code zq_T 256 38 = some (.iconst 5, 1, 0) := by decide +kernel
theorem cd_256_39 : zt_code zq_T 256 39 = some (.ishr, 1, 0) := by decide +kernel
theorem cd_256_40 : zt_code zq_T 256 40 = some (.bipush (15), 2, 0) := by decide +kernel
theorem cd_256_42 : zt_code zq_T 256 42 = some (.iand, 1, 0) := by decide +kernel
theorem cd_256_43 : zt_code zq_T 256 43 = some (.invokevirtual 147, 3, 0) := by decide +kernel
theorem cd_256_46 : zt_code zq_T 256 46 = some (.aload_n 0, 1, 0) := by decide +kernel
theorem cd_256_47 : zt_code zq_T 256 47 = some (.aload_n 0, 1, 0) := by decide +kernel
theorem cd_256_48 : zt_code zq_T 256 48 = some (.getfield 12, 3, 0) := by decide +kernel
theorem cd_256_51 : zt_code zq_T 256 51 = some (.getfield 119, 3, 0) := by decide +kernel
theorem cd_256_54 : zt_code zq_T 256 54 = some (.aload_n 0, 1, 0) := by decide +kernel
theorem cd_256_55 : zt_code zq_T 256 55 = some (.getfield 18, 3, 0) := by decide +kernel
theorem cd_256_58 : zt_code zq_T 256 58 = some (.iaload, 1, 0) := by decide +kernel
theorem cd_256_59 : zt_code zq_T 256 59 = some (.iload_n 2, 1, 0) := by decide +kernel
theorem cd_256_60 : zt_code zq_T 256 60 = some (.bipush (9), 2, 0) := by decide +kernel
theorem cd_256_62 : zt_code zq_T 256 62 = some (.ishr, 1, 0) := by decide +kernel
theorem cd_256_63 : zt_code zq_T 256 63 = some (.bipush (15), 2, 0) := by decide +kernel
theorem cd_256_65 : zt_code zq_T 256 65 = some (.iand, 1, 0) := by decide +kernel
theorem cd_256_66 : zt_code zq_T 256 66 = some (.invokevirtual 147, 3, 0) := by decide +kernel
theorem cd_256_69 : zt_code zq_T 256 69 = some (.iconst 0, 1, 0) := by decide +kernel
theorem cd_256_70 : zt_code zq_T 256 70 = some (.istore_n 3, 1, 0) := by decide +kernel
theorem cd_256_71 : zt_code zq_T 256 71 = some (.iload_n 3, 1, 0) := by decide +kernel
theorem cd_256_72 : zt_code zq_T 256 72 = some (.aload_n 0, 1, 0) := by decide +kernel
theorem cd_256_73 : zt_code zq_T 256 73 = some (.getfield 12, 3, 0) := by decide +kernel
theorem cd_256_76 : zt_code zq_T 256 76 = some (.getfield 131, 3, 0) := by decide +kernel
theorem cd_256_79 : zt_code zq_T 256 79 = some (.if_icmp .ge (26), 3, 0) := by decide +kernel
theorem cd_256_82 : zt_code zq_T 256 82 = some (.aload_n 0, 1, 0) := by decide +kernel
theorem cd_256_83 : zt_code zq_T 256 83 = some (.getfield 29, 3, 0) := by decide +kernel
theorem cd_256_86 : zt_code zq_T 256 86 = some (.iload_n 3, 1, 0) := by decide +kernel
theorem cd_256_87 : zt_code zq_T 256 87 = some (.iload_n 2, 1, 0) := by decide +kernel
theorem cd_256_88 : zt_code zq_T 256 88 = some (.bipush (13), 2, 0) := by decide +kernel
theorem cd_256_90 : zt_code zq_T 256 90 = some (.iconst 4, 1, 0) := by decide +kernel
theorem cd_256_91 : zt_code zq_T 256 91 = some (.iload_n 3, 1, 0) := by decide +kernel
theorem cd_256_92 : zt_code zq_T 256 92 = some (.imul, 1, 0) := by decide +kernel
theorem cd_256_93 : zt_code zq_T 256 93 = some (.iadd, 1, 0) := by decide +kernel
theorem cd_256_94 : zt_code zq_T 256 94 = some (.ishr, 1, 0) := by decide +kernel
theorem cd_256_95 : zt_code zq_T 256 95 = some (.bipush (15), 2, 0) := by decide +kernel
theorem cd_256_97 : zt_code zq_T 256 97 = some (.iand, 1, 0) := by decide +kernel
theorem cd_256_98 : zt_code zq_T 256 98 = some (.iastore, 1, 0) := by decide +kernel
theorem cd_256_99 : zt_code zq_T 256 99 = some (.iinc 3 (1), 3, 0) := by decide +kernel
theorem cd_256_102 : zt_code zq_T 256 102 = some (.goto (-31), 3, 0) := by decide +kernel
theorem cd_256_105 : zt_code zq_T 256 105 = some (.return_, 1, 0) := by decide +kernel
theorem cd_257_0 : zt_code zq_T 257 0 = some (.iload_n 1, 1, 0) := by decide +kernel
theorem cd_257_1 : zt_code zq_T 257 1 = some (.iconst (-1), 1, 0) := by decide +kernel
theorem cd_257_2 : zt_code zq_T 257 2 = some (.if_icmp .eq (10), 3, 0) := by decide +kernel
theorem cd_257_5 : zt_code zq_T 257 5 = some (.aload_n 0, 1, 0) := by decide +kernel
theorem cd_257_6 : zt_code zq_T 257 6 = some (.getfield 25, 3, 0) := by decide +kernel
theorem cd_257_9 : zt_code zq_T 257 9 = some (.iload_n 1, 1, 0) := by decide +kernel
theorem cd_257_10 : zt_code zq_T 257 10 = some (.iload_n 2, 1, 0) := by decide +kernel
theorem cd_257_11 : zt_code zq_T 257 11 = some (.iastore, 1, 0) := by decide +kernel
theorem cd_257_12 : zt_code zq_T 257 12 = some (.return_, 1, 0) := by decide +kernel
theorem cd_258_0 : zt_code zq_T 258 0 = some (.aload_n 0, 1, 0) := by decide +kernel
theorem cd_258_1 : zt_code zq_T 258 1 = some (.invokespecial 3, 3, 0) := by decide +kernel
theorem cd_258_4 : zt_code zq_T 258 4 = some (.aload_n 0, 1, 0) := by decide +kernel
theorem cd_258_5 : zt_code zq_T 258 5 = some (.bipush (48), 2, 0) := by decide +kernel
theorem cd_258_7 : zt_code zq_T 258 7 = some (.newarray .int, 2, 20) := by decide +kernel
theorem cd_258_9 : zt_code zq_T 258 9 = some (.putfield 11, 3, 0) := by decide +kernel
theorem cd_258_12 : zt_code zq_T 258 12 = some (.aload_n 0, 1, 0) := by decide +kernel
theorem cd_258_13 : zt_code zq_T 258 13 = some (.bipush (48), 2, 0) := by decide +kernel
theorem cd_258_15 : zt_code zq_T 258 15 = some (.newarray .int, 2, 20) := by decide +kernel
theorem cd_258_17 : zt_code zq_T 258 17 = some (.putfield 15, 3, 0) := by decide +kernel
theorem cd_258_20 : zt_code zq_T 258 20 = some (.aload_n 0, 1, 0) := by decide +kernel
theorem cd_258_21 : zt_code zq_T 258 21 = some (.bipush (48), 2, 0) := by decide +kernel
theorem cd_258_23 : zt_code zq_T 258 23 = some (.newarray .int, 2, 20) := by decide +kernel
theorem cd_258_25 : zt_code zq_T 258 25 = some (.putfield 18, 3, 0) := by decide +kernel
theorem cd_258_28 : zt_code zq_T 258 28 = some (.aload_n 0, 1, 0) := by decide +kernel
theorem cd_258_29 : zt_code zq_T 258 29 = some (.bipush (48), 2, 0) := by decide +kernel
theorem cd_258_31 : zt_code zq_T 258 31 = some (.newarray .int, 2, 20) := by decide +kernel
theorem cd_258_33 : zt_code zq_T 258 33 = some (.putfield 21, 3, 0) := by decide +kernel
theorem cd_258_36 : zt_code zq_T 258 36 = some (.return_, 1, 0) := by decide +kernel
theorem cd_259_0 : zt_code zq_T 259 0 = some (.iload_n 0, 1, 0) := by decide +kernel
theorem cd_259_1 : zt_code zq_T 259 1 = some (.iconst 4, 1, 0) := by decide +kernel
theorem cd_259_2 : zt_code zq_T 259 2 = some (.ishr, 1, 0) := by decide +kernel
theorem cd_259_3 : zt_code zq_T 259 3 = some (.ireturn, 1, 0) := by decide +kernel
theorem cd_260_0 : zt_code zq_T 260 0 = some (.iload_n 0, 1, 0) := by decide +kernel
theorem cd_260_1 : zt_code zq_T 260 1 = some (.bipush (15), 2, 0) := by decide +kernel
theorem cd_260_3 : zt_code zq_T 260 3 = some (.iand, 1, 0) := by decide +kernel
theorem cd_260_4 : zt_code zq_T 260 4 = some (.iconst 1, 1, 0) := by decide +kernel
theorem cd_260_5 : zt_code zq_T 260 5 = some (.isub, 1, 0) := by decide +kernel
theorem cd_260_6 : zt_code zq_T 260 6 = some (.ireturn, 1, 0) := by decide +kernel
theorem cd_261_0 : zt_code zq_T 261 0 = some (.aload_n 0, 1, 0) := by decide +kernel
theorem cd_261_1 : zt_code zq_T 261 1 = some (.iconst 0, 1, 0) := by decide +kernel
theorem cd_261_2 : zt_code zq_T 261 2 = some (.putfield 24, 3, 0) := by decide +kernel
theorem cd_261_5 : zt_code zq_T 261 5 = some (.aload_n 0, 1, 0) := by decide +kernel
theorem cd_261_6 : zt_code zq_T 261 6 = some (.iconst 0, 1, 0) := by decide +kernel
theorem cd_261_7 : zt_code zq_T 261 7 = some (.putfield 28, 3, 0) := by decide +kernel
theorem cd_261_10 : zt_code zq_T 261 10 = some (.aload_n 0, 1, 0) := by decide +kernel
theorem cd_261_11 : zt_code zq_T 261 11 = some (.iconst 0, 1, 0) := by decide +kernel
theorem cd_261_12 : zt_code zq_T 261 12 = some (.putfield 31, 3, 0) := by decide +kernel
theorem cd_261_15 : zt_code zq_T 261 15 = some (.iload_n 2, 1, 0) := by decide +kernel
theorem cd_261_16 : zt_code zq_T 261 16 = some (.iconst (-1), 1, 0) := by decide +kernel
theorem cd_261_17 : zt_code zq_T 261 17 = some (.if_icmp .ne (28), 3, 0) := by decide +kernel
theorem cd_261_20 : zt_code zq_T 261 20 = some (.aload_n 0, 1, 0) := by decide +kernel
theorem cd_261_21 : zt_code zq_T 261 21 = some (.aload_n 1, 1, 0) := by decide +kernel
theorem cd_261_22 : zt_code zq_T 261 22 = some (.getfield 34, 3, 0) := by decide +kernel
theorem cd_261_25 : zt_code zq_T 261 25 = some (.ifnonnull (7), 3, 0) := by decide +kernel
theorem cd_261_28 : zt_code zq_T 261 28 = some (.iconst 0, 1, 0) := by decide +kernel
theorem cd_261_29 : zt_code zq_T 261 29 = some (.goto (10), 3, 0) := by decide +kernel
theorem cd_261_32 : zt_code zq_T 261 32 = some (.aload_n 1, 1, 0) := by decide +kernel
theorem cd_261_33 : zt_code zq_T 261 33 = some (.getfield 34, 3, 0) := by decide +kernel
theorem cd_261_36 : zt_code zq_T 261 36 = some (.getfield 40, 3, 0) := by decide +kernel
theorem cd_261_39 : zt_code zq_T 261 39 = some (.iconst (-1), 1, 0) := by decide +kernel
theorem cd_261_40 : zt_code zq_T 261 40 = some (.iconst 0, 1, 0) := by decide +kernel
theorem cd_261_41 : zt_code zq_T 261 41 = some (.invokevirtual 45, 3, 0) := by decide +kernel
theorem cd_261_44 : zt_code zq_T 261 44 = some (.return_, 1, 0) := by decide +kernel
theorem cd_261_45 : zt_code zq_T 261 45 = some (.iconst 1, 1, 0) := by decide +kernel
theorem cd_261_46 : zt_code zq_T 261 46 = some (.istore_n 3, 1, 0) := by decide +kernel
theorem cd_261_47 : zt_code zq_T 261 47 = some (.aload_n 1, 1, 0) := by decide +kernel
theorem cd_261_48 : zt_code zq_T 261 48 = some (.getfield 49, 3, 0) := by decide +kernel
theorem cd_261_51 : zt_code zq_T 261 51 = some (.iload_n 2, 1, 0) := by decide +kernel
theorem cd_261_52 : zt_code zq_T 261 52 = some (.aaload, 1, 0) := by decide +kernel
theorem cd_261_53 : zt_code zq_T 261 53 = some (.astore 4, 2, 0) := by decide +kernel
theorem cd_261_55 : zt_code zq_T 261 55 = some (.aload 4, 2, 0) := by decide +kernel
theorem cd_261_57 : zt_code zq_T 261 57 = some (.ifnull (46), 3, 0) := by decide +kernel
theorem cd_261_60 : zt_code zq_T 261 60 = some (.iload_n 3, 1, 0) := by decide +kernel
theorem cd_261_61 : zt_code zq_T 261 61 = some (.ifCond .eq (42), 3, 0) := by decide +kernel
theorem cd_261_64 : zt_code zq_T 261 64 = some (.aload 4, 2, 0) := by decide +kernel
theorem cd_261_66 : zt_code zq_T 261 66 = some (.getfield 53, 3, 0) := by decide +kernel
theorem cd_261_69 : zt_code zq_T 261 69 = some (.ifnull (22), 3, 0) := by decide +kernel
theorem cd_261_72 : zt_code zq_T 261 72 = some (.aload_n 0, 1, 0) := by decide +kernel
theorem cd_261_73 : zt_code zq_T 261 73 = some (.aload_n 1, 1, 0) := by decide +kernel
theorem cd_261_74 : zt_code zq_T 261 74 = some (.aload 4, 2, 0) := by decide +kernel
theorem cd_261_76 : zt_code zq_T 261 76 = some (.aload 4, 2, 0) := by decide +kernel
theorem cd_261_78 : zt_code zq_T 261 78 = some (.getfield 53, 3, 0) := by decide +kernel
theorem cd_261_81 : zt_code zq_T 261 81 = some (.invokevirtual 56, 3, 0) := by decide +kernel
theorem cd_261_84 : zt_code zq_T 261 84 = some (.ifCond .eq (7), 3, 0) := by decide +kernel
theorem cd_261_87 : zt_code zq_T 261 87 = some (.iconst 1, 1, 0) := by decide +kernel
theorem cd_261_88 : zt_code zq_T 261 88 = some (.goto (4), 3, 0) := by decide +kernel
theorem cd_261_91 : zt_code zq_T 261 91 = some (.iconst 0, 1, 0) := by decide +kernel
theorem cd_261_92 : zt_code zq_T 261 92 = some (.istore_n 3, 1, 0) := by decide +kernel
theorem cd_261_93 : zt_code zq_T 261 93 = some (.aload 4, 2, 0) := by decide +kernel
theorem cd_261_95 : zt_code zq_T 261 95 = some (.getfield 53, 3, 0) := by decide +kernel
theorem cd_261_98 : zt_code zq_T 261 98 = some (.astore 4, 2, 0) := by decide +kernel
theorem cd_261_100 : zt_code zq_T 261 100 = some (.goto (-45), 3, 0) := by decide +kernel
theorem cd_261_103 : zt_code zq_T 261 103 = some (.return_, 1, 0) := by decide +kernel
theorem cd_262_0 : zt_code zq_T 262 0 = some (.aload_n 3, 1, 0) := by decide +kernel
theorem cd_262_1 : zt_code zq_T 262 1 = some (.getfield 60, 3, 0) := by decide +kernel
theorem cd_262_4 : zt_code zq_T 262 4 = some (.tableswitch (102) (2) (5) #[32, 102, 46, 38], 32, 0) := by decide +kernel
theorem cd_262_36 : zt_code zq_T 262 36 = some (.aload_n 0, 1, 0) := by decide +kernel
theorem cd_262_37 : zt_code zq_T 262 37 = some (.aload_n 2, 1, 0) := by decide +kernel
theorem cd_262_38 : zt_code zq_T 262 38 = some (.invokevirtual 63, 3, 0) := by decide +kernel
theorem cd_262_41 : zt_code zq_T 262 41 = some (.ireturn, 1, 0) := by decide +kernel
theorem cd_262_42 : zt_code zq_T 262 42 = some (.aload_n 0, 1, 0) := by decide +kernel
theorem cd_262_43 : zt_code zq_T 262 43 = some (.aload_n 2, 1, 0) := by decide +kernel
theorem cd_262_44 : zt_code zq_T 262 44 = some (.aload_n 3, 1, 0) := by decide +kernel
theorem cd_262_45 : zt_code zq_T 262 45 = some (.invokevirtual 67, 3, 0) := by decide +kernel
theorem cd_262_48 : zt_code zq_T 262 48 = some (.iconst 1, 1, 0) := by decide +kernel
theorem cd_262_49 : zt_code zq_T 262 49 = some (.ireturn, 1, 0) := by decide +kernel
theorem cd_262_50 : zt_code zq_T 262 50 = some (.aload_n 1, 1, 0) := by decide +kernel
theorem cd_262_51 : zt_code zq_T 262 51 = some (.getfield 71, 3, 0) := by decide +kernel
theorem cd_262_54 : zt_code zq_T 262 54 = some (.aload_n 3, 1, 0) := by decide +kernel
theorem cd_262_55 : zt_code zq_T 262 55 = some (.getfield 74, 3, 0) := by decide +kernel
theorem cd_262_58 : zt_code zq_T 262 58 = some (.iaload, 1, 0) := by decide +kernel
theorem cd_262_59 : zt_code zq_T 262 59 = some (.iconst 1, 1, 0) := by decide +kernel
theorem cd_262_60 : zt_code zq_T 262 60 = some (.if_icmp .eq (16), 3, 0) := by decide +kernel
theorem cd_262_63 : zt_code zq_T 262 63 = some (.aload_n 0, 1, 0) := by decide +kernel
theorem cd_262_64 : zt_code zq_T 262 64 = some (.aload_n 2, 1, 0) := by decide +kernel
theorem cd_262_65 : zt_code zq_T 262 65 = some (.getfield 40, 3, 0) := by decide +kernel
theorem cd_262_68 : zt_code zq_T 262 68 = some (.aload_n 3, 1, 0) := by decide +kernel
theorem cd_262_69 : zt_code zq_T 262 69 = some (.getfield 74, 3, 0) := by decide +kernel
theorem cd_262_72 : zt_code zq_T 262 72 = some (.iconst 0, 1, 0) := by decide +kernel
theorem cd_262_73 : zt_code zq_T 262 73 = some (.invokevirtual 45, 3, 0) := by decide +kernel
theorem cd_262_76 : zt_code zq_T 262 76 = some (.aload_n 1, 1, 0) := by decide +kernel
theorem cd_262_77 : zt_code zq_T 262 77 = some (.getfield 77, 3, 0) := by decide +kernel
theorem cd_262_80 : zt_code zq_T 262 80 = some (.aload_n 3, 1, 0) := by decide +kernel
theorem cd_262_81 : zt_code zq_T 262 81 = some (.getfield 74, 3, 0) := by decide +kernel
theorem cd_262_84 : zt_code zq_T 262 84 = some (.iaload, 1, 0) := by decide +kernel
theorem cd_262_85 : zt_code zq_T 262 85 = some (.iconst 1, 1, 0) := by decide +kernel
theorem cd_262_86 : zt_code zq_T 262 86 = some (.if_icmp .le (18), 3, 0) := by decide +kernel
theorem cd_262_89 : zt_code zq_T 262 89 = some (.aload_n 0, 1, 0) := by decide +kernel
theorem cd_262_90 : zt_code zq_T 262 90 = some (.dup, 1, 0) := by decide +kernel
theorem cd_262_91 : zt_code zq_T 262 91 = some (.getfield 28, 3, 0) := by decide +kernel
theorem cd_262_94 : zt_code zq_T 262 94 = some (.iconst 1, 1, 0) := by decide +kernel
theorem cd_262_95 : zt_code zq_T 262 95 = some (.aload_n 3, 1, 0) := by decide +kernel
theorem cd_262_96 : zt_code zq_T 262 96 = some (.getfield 74, 3, 0) := by decide +kernel
theorem cd_262_99 : zt_code zq_T 262 99 = some (.ishl, 1, 0) := by decide +kernel
theorem cd_262_100 : zt_code zq_T 262 100 = some (.ior, 1, 0) := by decide +kernel
theorem cd_262_101 : zt_code zq_T 262 101 = some (.putfield 28, 3, 0) := by decide +kernel
theorem cd_262_104 : zt_code zq_T 262 104 = some (.iconst 1, 1, 0) := by decide +kernel
theorem cd_262_105 : zt_code zq_T 262 105 = some (.ireturn, 1, 0) := by decide +kernel
theorem cd_262_106 : zt_code zq_T 262 106 = some (.iconst 1, 1, 0) := by decide +kernel
theorem cd_262_107 : zt_code zq_T 262 107 = some (.ireturn, 1, 0) := by decide +kernel
theorem cd_263_0 : zt_code zq_T 263 0 = some (.aload_n 1, 1, 0) := by decide +kernel
theorem cd_263_1 : zt_code zq_T 263 1 = some (.getfield 80, 3, 0) := by decide +kernel
theorem cd_263_4 : zt_code zq_T 263 4 = some (.astore_n 2, 1, 0) := by decide +kernel
theorem cd_263_5 : zt_code zq_T 263 5 = some (.aload_n 2, 1, 0) := by decide +kernel
theorem cd_263_6 : zt_code zq_T 263 6 = some (.ifnull (30), 3, 0) := by decide +kernel
theorem cd_263_9 : zt_code zq_T 263 9 = some (.aload_n 0, 1, 0) := by decide +kernel
theorem cd_263_10 : zt_code zq_T 263 10 = some (.aload_n 2, 1, 0) := by decide +kernel
theorem cd_263_11 : zt_code zq_T 263 11 = some (.getfield 40, 3, 0) := by decide +kernel
theorem cd_263_14 : zt_code zq_T 263 14 = some (.iconst (-1), 1, 0) := by decide +kernel
theorem cd_263_15 : zt_code zq_T 263 15 = some (.iconst 0, 1, 0) := by decide +kernel
theorem cd_263_16 : zt_code zq_T 263 16 = some (.invokevirtual 45, 3, 0) := by decide +kernel
theorem cd_263_19 : zt_code zq_T 263 19 = some (.aload_n 2, 1, 0) := by decide +kernel
theorem cd_263_20 : zt_code zq_T 263 20 = some (.getfield 83, 3, 0) := by decide +kernel
theorem cd_263_23 : zt_code zq_T 263 23 = some (.ifCond .ne (5), 3, 0) := by decide +kernel
theorem cd_263_26 : zt_code zq_T 263 26 = some (.iconst 0, 1, 0) := by decide +kernel
theorem cd_263_27 : zt_code zq_T 263 27 = some (.ireturn, 1, 0) := by decide +kernel
theorem cd_263_28 : zt_code zq_T 263 28 = some (.aload_n 2, 1, 0) := by decide +kernel
theorem cd_263_29 : zt_code zq_T 263 29 = some (.getfield 80, 3, 0) := by decide +kernel
theorem cd_263_32 : zt_code zq_T 263 32 = some (.astore_n 2, 1, 0) := by decide +kernel
theorem cd_263_33 : zt_code zq_T 263 33 = some (.goto (-28), 3, 0) := by decide +kernel
theorem cd_263_36 : zt_code zq_T 263 36 = some (.iconst 1, 1, 0) := by decide +kernel
theorem cd_263_37 : zt_code zq_T 263 37 = some (.ireturn, 1, 0) := by decide +kernel
theorem cd_264_0 : zt_code zq_T 264 0 = some (.iconst 4, 1, 0) := by decide +kernel
theorem cd_264_1 : zt_code zq_T 264 1 = some (.aload_n 2, 1, 0) := by decide +kernel
theorem cd_264_2 : zt_code zq_T 264 2 = some (.getfield 74, 3, 0) := by decide +kernel
theorem cd_264_5 : zt_code zq_T 264 5 = some (.imul, 1, 0) := by decide +kernel
theorem cd_264_6 : zt_code zq_T 264 6 = some (.istore_n 3, 1, 0) := by decide +kernel
theorem cd_264_7 : zt_code zq_T 264 7 = some (.aload_n 2, 1, 0) := by decide +kernel
theorem cd_264_8 : zt_code zq_T 264 8 = some (.getfield 87, 3, 0) := by decide +kernel
theorem cd_264_11 : zt_code zq_T 264 11 = some (.astore 4, 2, 0) := by decide +kernel
theorem cd_264_13 : zt_code zq_T 264 13 = some (.aload 4, 2, 0) := by decide +kernel
theorem cd_264_15 : zt_code zq_T 264 15 = some (.ifnull (38), 3, 0) := by decide +kernel
theorem cd_264_18 : zt_code zq_T 264 18 = some (.aload 4, 2, 0) := by decide +kernel
theorem cd_264_20 : zt_code zq_T 264 20 = some (.aload_n 1, 1, 0) := by decide +kernel
theorem cd_264_21 : zt_code zq_T 264 21 = some (.if_acmp .eq (22), 3, 0) := by decide +kernel
theorem cd_264_24 : zt_code zq_T 264 24 = some (.aload_n 0, 1, 0) := by decide +kernel
theorem cd_264_25 : zt_code zq_T 264 25 = some (.aload 4, 2, 0) := by decide +kernel
theorem cd_264_27 : zt_code zq_T 264 27 = some (.getfield 40, 3, 0) := by decide +kernel
theorem cd_264_30 : zt_code zq_T 264 30 = some (.iconst (-1), 1, 0) := by decide +kernel
theorem cd_264_31 : zt_code zq_T 264 31 = some (.iconst 1, 1, 0) := by decide +kernel
theorem cd_264_32 : zt_code zq_T 264 32 = some (.iload_n 3, 1, 0) := by decide +kernel
theorem cd_264_33 : zt_code zq_T 264 33 = some (.aload 4, 2, 0) := by decide +kernel
theorem cd_264_35 : zt_code zq_T 264 35 = some (.getfield 90, 3, 0) := by decide +kernel
theorem cd_264_38 : zt_code zq_T 264 38 = some (.iadd, 1, 0) := by decide +kernel
theorem cd_264_39 : zt_code zq_T 264 39 = some (.ishl, 1, 0) := by decide +kernel
theorem cd_264_40 : zt_code zq_T 264 40 = some (.invokevirtual 45, 3, 0) := by decide +kernel
theorem cd_264_43 : zt_code zq_T 264 43 = some (.aload 4, 2, 0) := by decide +kernel
theorem cd_264_45 : zt_code zq_T 264 45 = some (.getfield 80, 3, 0) := by decide +kernel
theorem cd_264_48 : zt_code zq_T 264 48 = some (.astore 4, 2, 0) := by decide +kernel
theorem cd_264_50 : zt_code zq_T 264 50 = some (.goto (-37), 3, 0) := by decide +kernel
theorem cd_264_53 : zt_code zq_T 264 53 = some (.aload_n 0, 1, 0) := by decide +kernel
theorem cd_264_54 : zt_code zq_T 264 54 = some (.dup, 1, 0) := by decide +kernel
theorem cd_264_55 : zt_code zq_T 264 55 = some (.getfield 31, 3, 0) := by decide +kernel
theorem cd_264_58 : zt_code zq_T 264 58 = some (.aload_n 2, 1, 0) := by decide +kernel
theorem cd_264_59 : zt_code zq_T 264 59 = some (.getfield 93, 3, 0) := by decide +kernel
theorem cd_264_62 : zt_code zq_T 264 62 = some (.iload_n 3, 1, 0) := by decide +kernel
theorem cd_264_63 : zt_code zq_T 264 63 = some (.ishl, 1, 0) := by decide +kernel
theorem cd_264_64 : zt_code zq_T 264 64 = some (.ior, 1, 0) := by decide +kernel
theorem cd_264_65 : zt_code zq_T 264 65 = some (.putfield 31, 3, 0) := by decide +kernel
theorem cd_264_68 : zt_code zq_T 264 68 = some (.return_, 1, 0) := by decide +kernel
theorem cd_265_0 : zt_code zq_T 265 0 = some (.iconst 0, 1, 0) := by decide +kernel
theorem cd_265_1 : zt_code zq_T 265 1 = some (.istore 4, 2, 0) := by decide +kernel
theorem cd_265_3 : zt_code zq_T 265 3 = some (.iload 4, 2, 0) := by decide +kernel
theorem cd_265_5 : zt_code zq_T 265 5 = some (.bipush (16), 2, 0) := by decide +kernel
theorem cd_265_7 : zt_code zq_T 265 7 = some (.if_icmp .ge (90), 3, 0) := by decide +kernel
theorem cd_265_10 : zt_code zq_T 265 10 = some (.aload_n 0, 1, 0) := by decide +kernel
theorem cd_265_11 : zt_code zq_T 265 11 = some (.getfield 24, 3, 0) := by decide +kernel
theorem cd_265_14 : zt_code zq_T 265 14 = some (.bipush (48), 2, 0) := by decide +kernel
theorem cd_265_16 : zt_code zq_T 265 16 = some (.if_icmp .ge (81), 3, 0) := by decide +kernel
theorem cd_265_19 : zt_code zq_T 265 19 = some (.iload_n 1, 1, 0) := by decide +kernel
theorem cd_265_20 : zt_code zq_T 265 20 = some (.iload 4, 2, 0) := by decide +kernel
theorem cd_265_22 : zt_code zq_T 265 22 = some (.ishr, 1, 0) := by decide +kernel
theorem cd_265_23 : zt_code zq_T 265 23 = some (.iconst 1, 1, 0) := by decide +kernel
theorem cd_265_24 : zt_code zq_T 265 24 = some (.iand, 1, 0) := by decide +kernel
theorem cd_265_25 : zt_code zq_T 265 25 = some (.ifCond .eq (66), 3, 0) := by decide +kernel
theorem cd_265_28 : zt_code zq_T 265 28 = some (.aload_n 0, 1, 0) := by decide +kernel
theorem cd_265_29 : zt_code zq_T 265 29 = some (.getfield 11, 3, 0) := by decide +kernel
theorem cd_265_32 : zt_code zq_T 265 32 = some (.aload_n 0, 1, 0) := by decide +kernel
theorem cd_265_33 : zt_code zq_T 265 33 = some (.getfield 24, 3, 0) := by decide +kernel
theorem cd_265_36 : zt_code zq_T 265 36 = some (.iload 4, 2, 0) := by decide +kernel
theorem cd_265_38 : zt_code zq_T 265 38 = some (.iconst 4, 1, 0) := by decide +kernel
theorem cd_265_39 : zt_code zq_T 265 39 = some (.ishl, 1, 0) := by decide +kernel
theorem cd_265_40 : zt_code zq_T 265 40 = some (.iload_n 2, 1, 0) := by decide +kernel
theorem cd_265_41 : zt_code zq_T 265 41 = some (.iconst 1, 1, 0) := by decide +kernel
theorem cd_265_42 : zt_code zq_T 265 42 = some (.iadd, 1, 0) := by decide +kernel
theorem cd_265_43 : zt_code zq_T 265 43 = some (.ior, 1, 0) := by decide +kernel
theorem cd_265_44 : zt_code zq_T 265 44 = some (.iastore, 1, 0) := by decide +kernel
theorem cd_265_45 : zt_code zq_T 265 45 = some (.aload_n 0, 1, 0) := by decide +kernel
theorem cd_265_46 : zt_code zq_T 265 46 = some (.getfield 15, 3, 0) := by decide +kernel
theorem cd_265_49 : zt_code zq_T 265 49 = some (.aload_n 0, 1, 0) := by decide +kernel
theorem cd_265_50 : zt_code zq_T 265 50 = some (.getfield 24, 3, 0) := by decide +kernel
theorem cd_265_53 : zt_code zq_T 265 53 = some (.aload_n 0, 1, 0) := by decide +kernel
theorem cd_265_54 : zt_code zq_T 265 54 = some (.getfield 28, 3, 0) := by decide +kernel
theorem cd_265_57 : zt_code zq_T 265 57 = some (.iastore, 1, 0) := by decide +kernel
theorem cd_265_58 : zt_code zq_T 265 58 = some (.aload_n 0, 1, 0) := by decide +kernel
theorem cd_265_59 : zt_code zq_T 265 59 = some (.getfield 18, 3, 0) := by decide +kernel
theorem cd_265_62 : zt_code zq_T 265 62 = some (.aload_n 0, 1, 0) := by decide +kernel
theorem cd_265_63 : zt_code zq_T 265 63 = some (.getfield 24, 3, 0) := by decide +kernel
theorem cd_265_66 : zt_code zq_T 265 66 = some (.aload_n 0, 1, 0) := by decide +kernel
theorem cd_265_67 : zt_code zq_T 265 67 = some (.getfield 31, 3, 0) := by decide +kernel
theorem cd_265_70 : zt_code zq_T 265 70 = some (.iastore, 1, 0) := by decide +kernel
theorem cd_265_71 : zt_code zq_T 265 71 = some (.aload_n 0, 1, 0) := by decide +kernel
theorem cd_265_72 : zt_code zq_T 265 72 = some (.getfield 21, 3, 0) := by decide +kernel
theorem cd_265_75 : zt_code zq_T 265 75 = some (.aload_n 0, 1, 0) := by decide +kernel
theorem cd_265_76 : zt_code zq_T 265 76 = some (.getfield 24, 3, 0) := by decide +kernel
theorem cd_265_79 : zt_code zq_T 265 79 = some (.iload_n 3, 1, 0) := by decide +kernel
theorem cd_265_80 : zt_code zq_T 265 80 = some (.iastore, 1, 0) := by decide +kernel
theorem cd_265_81 : zt_code zq_T 265 81 = some (.aload_n 0, 1, 0) := by decide +kernel
theorem cd_265_82 : zt_code zq_T 265 82 = some (.dup, 1, 0) := by decide +kernel
theorem cd_265_83 : zt_code zq_T 265 83 = some (.getfield 24, 3, 0) := by decide +kernel
theorem cd_265_86 : zt_code zq_T 265 86 = some (.iconst 1, 1, 0) := by decide +kernel
theorem cd_265_87 : zt_code zq_T 265 87 = some (.iadd, 1, 0) := by decide +kernel
theorem cd_265_88 : zt_code zq_T 265 88 = some (.putfield 24, 3, 0) := by decide +kernel
theorem cd_265_91 : zt_code zq_T 265 91 = some (.iinc 4 (1), 3, 0) := by decide +kernel
theorem cd_265_94 : zt_code zq_T 265 94 = some (.goto (-91), 3, 0) := by decide +kernel
theorem cd_265_97 : zt_code zq_T 265 97 = some (.return_, 1, 0) := by decide +kernel
theorem cd_266_0 : zt_code zq_T 266 0 = some (.aload_n 0, 1, 0) := by decide +kernel
theorem cd_266_1 : zt_code zq_T 266 1 = some (.aload_n 1, 1, 0) := by decide +kernel
theorem cd_266_2 : zt_code zq_T 266 2 = some (.iload_n 2, 1, 0) := by decide +kernel
theorem cd_266_3 : zt_code zq_T 266 3 = some (.invokevirtual 96, 3, 0) := by decide +kernel
theorem cd_266_6 : zt_code zq_T 266 6 = some (.iconst 0, 1, 0) := by decide +kernel
theorem cd_266_7 : zt_code zq_T 266 7 = some (.istore_n 3, 1, 0) := by decide +kernel
theorem cd_266_8 : zt_code zq_T 266 8 = some (.iconst 0, 1, 0) := by decide +kernel
theorem cd_266_9 : zt_code zq_T 266 9 = some (.istore 4, 2, 0) := by decide +kernel
theorem cd_266_11 : zt_code zq_T 266 11 = some (.iload 4, 2, 0) := by decide +kernel
theorem cd_266_13 : zt_code zq_T 266 13 = some (.aload_n 0, 1, 0) := by decide +kernel
theorem cd_266_14 : zt_code zq_T 266 14 = some (.getfield 24, 3, 0) := by decide +kernel
theorem cd_266_17 : zt_code zq_T 266 17 = some (.if_icmp .ge (24), 3, 0) := by decide +kernel
theorem cd_266_20 : zt_code zq_T 266 20 = some (.iload_n 3, 1, 0) := by decide +kernel
theorem cd_266_21 : zt_code zq_T 266 21 = some (.iconst 1, 1, 0) := by decide +kernel
theorem cd_266_22 : zt_code zq_T 266 22 = some (.aload_n 0, 1, 0) := by decide +kernel
theorem cd_266_23 : zt_code zq_T 266 23 = some (.getfield 11, 3, 0) := by decide +kernel
theorem cd_266_26 : zt_code zq_T 266 26 = some (.iload 4, 2, 0) := by decide +kernel
theorem cd_266_28 : zt_code zq_T 266 28 = some (.iaload, 1, 0) := by decide +kernel
theorem cd_266_29 : zt_code zq_T 266 29 = some (.invokestatic 100, 3, 0) := by decide +kernel
theorem cd_266_32 : zt_code zq_T 266 32 = some (.ishl, 1, 0) := by decide +kernel
theorem cd_266_33 : zt_code zq_T 266 33 = some (.ior, 1, 0) := by decide +kernel
theorem cd_266_34 : zt_code zq_T 266 34 = some (.istore_n 3, 1, 0) := by decide +kernel
theorem cd_266_35 : zt_code zq_T 266 35 = some (.iinc 4 (1), 3, 0) := by decide +kernel
theorem cd_266_38 : zt_code zq_T 266 38 = some (.goto (-27), 3, 0) := by decide +kernel
theorem cd_266_41 : zt_code zq_T 266 41 = some (.iload_n 3, 1, 0) := by decide +kernel
theorem cd_266_42 : zt_code zq_T 266 42 = some (.ireturn, 1, 0) := by decide +kernel
theorem cd_267_0 : zt_code zq_T 267 0 = some (.aload_n 1, 1, 0) := by decide +kernel
theorem cd_267_1 : zt_code zq_T 267 1 = some (.getfield 104, 3, 0) := by decide +kernel
theorem cd_267_4 : zt_code zq_T 267 4 = some (.aload_n 0, 1, 0) := by decide +kernel
theorem cd_267_5 : zt_code zq_T 267 5 = some (.getfield 11, 3, 0) := by decide +kernel
theorem cd_267_8 : zt_code zq_T 267 8 = some (.iload_n 2, 1, 0) := by decide +kernel
theorem cd_267_9 : zt_code zq_T 267 9 = some (.iaload, 1, 0) := by decide +kernel
theorem cd_267_10 : zt_code zq_T 267 10 = some (.invokestatic 100, 3, 0) := by decide +kernel
theorem cd_267_13 : zt_code zq_T 267 13 = some (.iaload, 1, 0) := by decide +kernel
theorem cd_267_14 : zt_code zq_T 267 14 = some (.aload_n 1, 1, 0) := by decide +kernel
theorem cd_267_15 : zt_code zq_T 267 15 = some (.getfield 104, 3, 0) := by decide +kernel
theorem cd_267_18 : zt_code zq_T 267 18 = some (.aload_n 0, 1, 0) := by decide +kernel
theorem cd_267_19 : zt_code zq_T 267 19 = some (.getfield 11, 3, 0) := by decide +kernel
theorem cd_267_22 : zt_code zq_T 267 22 = some (.iload_n 3, 1, 0) := by decide +kernel
theorem cd_267_23 : zt_code zq_T 267 23 = some (.iaload, 1, 0) := by decide +kernel
theorem cd_267_24 : zt_code zq_T 267 24 = some (.invokestatic 100, 3, 0) := by decide +kernel
theorem cd_267_27 : zt_code zq_T 267 27 = some (.iaload, 1, 0) := by decide +kernel
theorem cd_267_28 : zt_code zq_T 267 28 = some (.if_icmp .ne (81), 3, 0) := by decide +kernel
theorem cd_267_31 : zt_code zq_T 267 31 = some (.aload_n 0, 1, 0) := by decide +kernel
theorem cd_267_32 : zt_code zq_T 267 32 = some (.getfield 18, 3, 0) := by decide +kernel
theorem cd_267_35 : zt_code zq_T 267 35 = some (.iload_n 2, 1, 0) := by decide +kernel
theorem cd_267_36 : zt_code zq_T 267 36 = some (.iaload, 1, 0) := by decide +kernel
theorem cd_267_37 : zt_code zq_T 267 37 = some (.aload_n 0, 1, 0) := by decide +kernel
theorem cd_267_38 : zt_code zq_T 267 38 = some (.getfield 18, 3, 0) := by decide +kernel
theorem cd_267_41 : zt_code zq_T 267 41 = some (.iload_n 3, 1, 0) := by decide +kernel
theorem cd_267_42 : zt_code zq_T 267 42 = some (.iaload, 1, 0) := by decide +kernel
theorem cd_267_43 : zt_code zq_T 267 43 = some (.ior, 1, 0) := by decide +kernel
theorem cd_267_44 : zt_code zq_T 267 44 = some (.aload_n 0, 1, 0) := by decide +kernel
theorem cd_267_45 : zt_code zq_T 267 45 = some (.getfield 21, 3, 0) := by decide +kernel
theorem cd_267_48 : zt_code zq_T 267 48 = some (.iload_n 2, 1, 0) := by decide +kernel
theorem cd_267_49 : zt_code zq_T 267 49 = some (.iaload, 1, 0) := by decide +kernel
theorem cd_267_50 : zt_code zq_T 267 50 = some (.aload_n 0, 1, 0) := by decide +kernel
theorem cd_267_51 : zt_code zq_T 267 51 = some (.getfield 21, 3, 0) := by decide +kernel
theorem cd_267_54 : zt_code zq_T 267 54 = some (.iload_n 3, 1, 0) := by decide +kernel
theorem cd_267_55 : zt_code zq_T 267 55 = some (.iaload, 1, 0) := by decide +kernel
theorem cd_267_56 : zt_code zq_T 267 56 = some (.ior, 1, 0) := by decide +kernel
theorem cd_267_57 : zt_code zq_T 267 57 = some (.iand, 1, 0) := by decide +kernel
theorem cd_267_58 : zt_code zq_T 267 58 = some (.ifCond .ne (51), 3, 0) := by decide +kernel
theorem cd_267_61 : zt_code zq_T 267 61 = some (.aload_n 1, 1, 0) := by decide +kernel
theorem cd_267_62 : zt_code zq_T 267 62 = some (.aload_n 0, 1, 0) := by decide +kernel
theorem cd_267_63 : zt_code zq_T 267 63 = some (.getfield 11, 3, 0) := by decide +kernel
theorem cd_267_66 : zt_code zq_T 267 66 = some (.iload_n 2, 1, 0) := by decide +kernel
theorem cd_267_67 : zt_code zq_T 267 67 = some (.iaload, 1, 0) := by decide +kernel
theorem cd_267_68 : zt_code zq_T 267 68 = some (.invokestatic 107, 3, 0) := by decide +kernel
theorem cd_267_71 : zt_code zq_T 267 71 = some (.aload_n 0, 1, 0) := by decide +kernel
theorem cd_267_72 : zt_code zq_T 267 72 = some (.getfield 15, 3, 0) := by decide +kernel
theorem cd_267_75 : zt_code zq_T 267 75 = some (.iload_n 3, 1, 0) := by decide +kernel
theorem cd_267_76 : zt_code zq_T 267 76 = some (.iaload, 1, 0) := by decide +kernel
theorem cd_267_77 : zt_code zq_T 267 77 = some (.invokestatic 110, 3, 0) := by decide +kernel
theorem cd_267_80 : zt_code zq_T 267 80 = some (.ifCond .eq (29), 3, 0) := by decide +kernel
theorem cd_267_83 : zt_code zq_T 267 83 = some (.aload_n 1, 1, 0) := by decide +kernel
theorem cd_267_84 : zt_code zq_T 267 84 = some (.aload_n 0, 1, 0) := by decide +kernel
theorem cd_267_85 : zt_code zq_T 267 85 = some (.getfield 11, 3, 0) := by decide +kernel
theorem cd_267_88 : zt_code zq_T 267 88 = some (.iload_n 3, 1, 0) := by decide +kernel
theorem cd_267_89 : zt_code zq_T 267 89 = some (.iaload, 1, 0) := by decide +kernel
theorem cd_267_90 : zt_code zq_T 267 90 = some (.invokestatic 107, 3, 0) := by decide +kernel
theorem cd_267_93 : zt_code zq_T 267 93 = some (.aload_n 0, 1, 0) := by decide +kernel
theorem cd_267_94 : zt_code zq_T 267 94 = some (.getfield 15, 3, 0) := by decide +kernel
theorem cd_267_97 : zt_code zq_T 267 97 = some (.iload_n 2, 1, 0) := by decide +kernel
theorem cd_267_98 : zt_code zq_T 267 98 = some (.iaload, 1, 0) := by decide +kernel
theorem cd_267_99 : zt_code zq_T 267 99 = some (.invokestatic 110, 3, 0) := by decide +kernel
theorem cd_267_102 : zt_code zq_T 267 102 = some (.ifCond .eq (7), 3, 0) := by decide +kernel
theorem cd_267_105 : zt_code zq_T 267 105 = some (.iconst 1, 1, 0) := by decide +kernel
theorem cd_267_106 : zt_code zq_T 267 106 = some (.goto (4), 3, 0) := by decide +kernel
theorem cd_267_109 : zt_code zq_T 267 109 = some (.iconst 0, 1, 0) := by decide +kernel
theorem cd_267_110 : zt_code zq_T 267 110 = some (.ireturn, 1, 0) := by decide +kernel
theorem cd_268_0 : zt_code zq_T 268 0 = some (.iload_n 1, 1, 0) := by decide +kernel
theorem cd_268_1 : zt_code zq_T 268 1 = some (.iconst (-1), 1, 0) := by decide +kernel
theorem cd_268_2 : zt_code zq_T 268 2 = some (.if_icmp .eq (36), 3, 0) := by decide +kernel
theorem cd_268_5 : zt_code zq_T 268 5 = some (.iload_n 2, 1, 0) := by decide +kernel
theorem cd_268_6 : zt_code zq_T 268 6 = some (.iload_n 1, 1, 0) := by decide +kernel
theorem cd_268_7 : zt_code zq_T 268 7 = some (.ishr, 1, 0) := by decide +kernel
theorem cd_268_8 : zt_code zq_T 268 8 = some (.iconst 1, 1, 0) := by decide +kernel
theorem cd_268_9 : zt_code zq_T 268 9 = some (.iand, 1, 0) := by decide +kernel
theorem cd_268_10 : zt_code zq_T 268 10 = some (.ifCond .eq (28), 3, 0) := by decide +kernel
theorem cd_268_13 : zt_code zq_T 268 13 = some (.aload_n 0, 1, 0) := by decide +kernel
theorem cd_268_14 : zt_code zq_T 268 14 = some (.getfield 71, 3, 0) := by decide +kernel
theorem cd_268_17 : zt_code zq_T 268 17 = some (.iload_n 1, 1, 0) := by decide +kernel
theorem cd_268_18 : zt_code zq_T 268 18 = some (.iaload, 1, 0) := by decide +kernel
theorem cd_268_19 : zt_code zq_T 268 19 = some (.iconst (-1), 1, 0) := by decide +kernel
theorem cd_268_20 : zt_code zq_T 268 20 = some (.if_icmp .eq (18), 3, 0) := by decide +kernel
theorem cd_268_23 : zt_code zq_T 268 23 = some (.aload_n 0, 1, 0) := by decide +kernel
theorem cd_268_24 : zt_code zq_T 268 24 = some (.getfield 114, 3, 0) := by decide +kernel
theorem cd_268_27 : zt_code zq_T 268 27 = some (.iload_n 1, 1, 0) := by decide +kernel
theorem cd_268_28 : zt_code zq_T 268 28 = some (.iaload, 1, 0) := by decide +kernel
theorem cd_268_29 : zt_code zq_T 268 29 = some (.aload_n 0, 1, 0) := by decide +kernel
theorem cd_268_30 : zt_code zq_T 268 30 = some (.getfield 71, 3, 0) := by decide +kernel
theorem cd_268_33 : zt_code zq_T 268 33 = some (.iload_n 1, 1, 0) := by decide +kernel
theorem cd_268_34 : zt_code zq_T 268 34 = some (.iaload, 1, 0) := by decide +kernel
theorem cd_268_35 : zt_code zq_T 268 35 = some (.if_icmp .ge (7), 3, 0) := by decide +kernel
theorem cd_268_38 : zt_code zq_T 268 38 = some (.iconst 1, 1, 0) := by decide +kernel
theorem cd_268_39 : zt_code zq_T 268 39 = some (.goto (4), 3, 0) := by decide +kernel
theorem cd_268_42 : zt_code zq_T 268 42 = some (.iconst 0, 1, 0) := by decide +kernel
theorem cd_268_43 : zt_code zq_T 268 43 = some (.ireturn, 1, 0) := by decide +kernel
theorem cd_269_0 : zt_code zq_T 269 0 = some (.aload_n 0, 1, 0) := by decide +kernel
theorem cd_269_1 : zt_code zq_T 269 1 = some (.getfield 11, 3, 0) := by decide +kernel
theorem cd_269_4 : zt_code zq_T 269 4 = some (.iload_n 1, 1, 0) := by decide +kernel
theorem cd_269_5 : zt_code zq_T 269 5 = some (.iaload, 1, 0) := by decide +kernel
theorem cd_269_6 : zt_code zq_T 269 6 = some (.invokestatic 100, 3, 0) := by decide +kernel
theorem cd_269_9 : zt_code zq_T 269 9 = some (.aload_n 0, 1, 0) := by decide +kernel
theorem cd_269_10 : zt_code zq_T 269 10 = some (.getfield 11, 3, 0) := by decide +kernel
theorem cd_269_13 : zt_code zq_T 269 13 = some (.iload_n 2, 1, 0) := by decide +kernel
theorem cd_269_14 : zt_code zq_T 269 14 = some (.iaload, 1, 0) := by decide +kernel
theorem cd_269_15 : zt_code zq_T 269 15 = some (.invokestatic 100, 3, 0) := by decide +kernel
theorem cd_269_18 : zt_code zq_T 269 18 = some (.if_icmp .eq (7), 3, 0) := by decide +kernel
theorem cd_269_21 : zt_code zq_T 269 21 = some (.iconst 1, 1, 0) := by decide +kernel
theorem cd_269_22 : zt_code zq_T 269 22 = some (.goto (4), 3, 0) := by decide +kernel
theorem cd_269_25 : zt_code zq_T 269 25 = some (.iconst 0, 1, 0) := by decide +kernel
theorem cd_269_26 : zt_code zq_T 269 26 = some (.ireturn, 1, 0) := by decide +kernel
theorem cd_270_0 : zt_code zq_T 270 0 = some (.aload_n 0, 1, 0) := by decide +kernel
theorem cd_270_1 : zt_code zq_T 270 1 = some (.getfield 15, 3, 0) := by decide +kernel
theorem cd_270_4 : zt_code zq_T 270 4 = some (.iload_n 1, 1, 0) := by decide +kernel
theorem cd_270_5 : zt_code zq_T 270 5 = some (.iaload, 1, 0) := by decide +kernel
theorem cd_270_6 : zt_code zq_T 270 6 = some (.aload_n 0, 1, 0) := by decide +kernel
theorem cd_270_7 : zt_code zq_T 270 7 = some (.getfield 15, 3, 0) := by decide +kernel
theorem cd_270_10 : zt_code zq_T 270 10 = some (.iload_n 2, 1, 0) := by decide +kernel
theorem cd_270_11 : zt_code zq_T 270 11 = some (.iaload, 1, 0) := by decide +kernel
theorem cd_270_12 : zt_code zq_T 270 12 = some (.ior, 1, 0) := by decide +kernel
theorem cd_270_13 : zt_code zq_T 270 13 = some (.ireturn, 1, 0) := by decide +kernel
theorem cd_271_0 : zt_code zq_T 271 0 = some (.aload_n 0, 1, 0) := by decide +kernel
theorem cd_271_1 : zt_code zq_T 271 1 = some (.getfield 18, 3, 0) := by decide +kernel
theorem cd_271_4 : zt_code zq_T 271 4 = some (.iload_n 1, 1, 0) := by decide +kernel
theorem cd_271_5 : zt_code zq_T 271 5 = some (.iaload, 1, 0) := by decide +kernel
theorem cd_271_6 : zt_code zq_T 271 6 = some (.aload_n 0, 1, 0) := by decide +kernel
theorem cd_271_7 : zt_code zq_T 271 7 = some (.getfield 18, 3, 0) := by decide +kernel
theorem cd_271_10 : zt_code zq_T 271 10 = some (.iload_n 2, 1, 0) := by decide +kernel
theorem cd_271_11 : zt_code zq_T 271 11 = some (.iaload, 1, 0) := by decide +kernel
theorem cd_271_12 : zt_code zq_T 271 12 = some (.ior, 1, 0) := by decide +kernel
theorem cd_271_13 : zt_code zq_T 271 13 = some (.ireturn, 1, 0) := by decide +kernel
theorem cd_272_0 : zt_code zq_T 272 0 = some (.aload_n 0, 1, 0) := by decide +kernel
theorem cd_272_1 : zt_code zq_T 272 1 = some (.getfield 11, 3, 0) := by decide +kernel
theorem cd_272_4 : zt_code zq_T 272 4 = some (.iload_n 1, 1, 0) := by decide +kernel
theorem cd_272_5 : zt_code zq_T 272 5 = some (.iaload, 1, 0) := by decide +kernel
theorem cd_272_6 : zt_code zq_T 272 6 = some (.aload_n 0, 1, 0) := by decide +kernel
theorem cd_272_7 : zt_code zq_T 272 7 = some (.getfield 11, 3, 0) := by decide +kernel
theorem cd_272_10 : zt_code zq_T 272 10 = some (.iload_n 2, 1, 0) := by decide +kernel
theorem cd_272_11 : zt_code zq_T 272 11 = some (.iaload, 1, 0) := by decide +kernel
theorem cd_272_12 : zt_code zq_T 272 12 = some (.invokestatic 117, 3, 0) := by decide +kernel
theorem cd_272_15 : zt_code zq_T 272 15 = some (.ireturn, 1, 0) := by decide +kernel
theorem cd_273_0 : zt_code zq_T 273 0 = some (.aload_n 0, 1, 0) := by decide +kernel
theorem cd_273_1 : zt_code zq_T 273 1 = some (.getfield 11, 3, 0) := by decide +kernel
theorem cd_273_4 : zt_code zq_T 273 4 = some (.iload_n 1, 1, 0) := by decide +kernel
theorem cd_273_5 : zt_code zq_T 273 5 = some (.iaload, 1, 0) := by decide +kernel
theorem cd_273_6 : zt_code zq_T 273 6 = some (.aload_n 0, 1, 0) := by decide +kernel
theorem cd_273_7 : zt_code zq_T 273 7 = some (.getfield 11, 3, 0) := by decide +kernel
theorem cd_273_10 : zt_code zq_T 273 10 = some (.iload_n 2, 1, 0) := by decide +kernel
theorem cd_273_11 : zt_code zq_T 273 11 = some (.iaload, 1, 0) := by decide +kernel
theorem cd_273_12 : zt_code zq_T 273 12 = some (.invokestatic 123, 3, 0) := by decide +kernel
theorem cd_273_15 : zt_code zq_T 273 15 = some (.ireturn, 1, 0) := by decide +kernel
theorem cd_274_0 : zt_code zq_T 274 0 = some (.aload_n 1, 1, 0) := by decide +kernel
theorem cd_274_1 : zt_code zq_T 274 1 = some (.iconst 0, 1, 0) := by decide +kernel
theorem cd_274_2 : zt_code zq_T 274 2 = some (.putfield 126, 3, 0) := by decide +kernel
theorem cd_274_5 : zt_code zq_T 274 5 = some (.aload_n 1, 1, 0) := by decide +kernel
theorem cd_274_6 : zt_code zq_T 274 6 = some (.iconst 1, 1, 0) := by decide +kernel
theorem cd_274_7 : zt_code zq_T 274 7 = some (.putfield 129, 3, 0) := by decide +kernel
theorem cd_274_10 : zt_code zq_T 274 10 = some (.iconst (-1), 1, 0) := by decide +kernel
theorem cd_274_11 : zt_code zq_T 274 11 = some (.istore_n 2, 1, 0) := by decide +kernel
theorem cd_274_12 : zt_code zq_T 274 12 = some (.iload_n 2, 1, 0) := by decide +kernel
theorem cd_274_13 : zt_code zq_T 274 13 = some (.aload_n 1, 1, 0) := by decide +kernel
theorem cd_274_14 : zt_code zq_T 274 14 = some (.getfield 132, 3, 0) := by decide +kernel
theorem cd_274_17 : zt_code zq_T 274 17 = some (.if_icmp .ge (93), 3, 0) := by decide +kernel
theorem cd_274_20 : zt_code zq_T 274 20 = some (.aload_n 0, 1, 0) := by decide +kernel
theorem cd_274_21 : zt_code zq_T 274 21 = some (.aload_n 1, 1, 0) := by decide +kernel
theorem cd_274_22 : zt_code zq_T 274 22 = some (.iload_n 2, 1, 0) := by decide +kernel
theorem cd_274_23 : zt_code zq_T 274 23 = some (.invokevirtual 96, 3, 0) := by decide +kernel
theorem cd_274_26 : zt_code zq_T 274 26 = some (.iconst 1, 1, 0) := by decide +kernel
theorem cd_274_27 : zt_code zq_T 274 27 = some (.istore_n 3, 1, 0) := by decide +kernel
theorem cd_274_28 : zt_code zq_T 274 28 = some (.iload_n 3, 1, 0) := by decide +kernel
theorem cd_274_29 : zt_code zq_T 274 29 = some (.aload_n 0, 1, 0) := by decide +kernel
theorem cd_274_30 : zt_code zq_T 274 30 = some (.getfield 24, 3, 0) := by decide +kernel
theorem cd_274_33 : zt_code zq_T 274 33 = some (.if_icmp .ge (71), 3, 0) := by decide +kernel
theorem cd_274_36 : zt_code zq_T 274 36 = some (.iconst 0, 1, 0) := by decide +kernel
theorem cd_274_37 : zt_code zq_T 274 37 = some (.istore 4, 2, 0) := by decide +kernel
theorem cd_274_39 : zt_code zq_T 274 39 = some (.iload 4, 2, 0) := by decide +kernel
theorem cd_274_41 : zt_code zq_T 274 41 = some (.iload_n 3, 1, 0) := by decide +kernel
theorem cd_274_42 : zt_code zq_T 274 42 = some (.if_icmp .ge (56), 3, 0) := by decide +kernel
theorem cd_274_45 : zt_code zq_T 274 45 = some (.aload_n 0, 1, 0) := by decide +kernel
theorem cd_274_46 : zt_code zq_T 274 46 = some (.aload_n 1, 1, 0) := by decide +kernel
theorem cd_274_47 : zt_code zq_T 274 47 = some (.iload 4, 2, 0) := by decide +kernel
theorem cd_274_49 : zt_code zq_T 274 49 = some (.iload_n 3, 1, 0) := by decide +kernel
theorem cd_274_50 : zt_code zq_T 274 50 = some (.invokevirtual 135, 3, 0) := by decide +kernel
theorem cd_274_53 : zt_code zq_T 274 53 = some (.ifCond .eq (39), 3, 0) := by decide +kernel
theorem cd_274_56 : zt_code zq_T 274 56 = some (.aload_n 1, 1, 0) := by decide +kernel
theorem cd_274_57 : zt_code zq_T 274 57 = some (.dup, 1, 0) := by decide +kernel
theorem cd_274_58 : zt_code zq_T 274 58 = some (.getfield 126, 3, 0) := by decide +kernel
theorem cd_274_61 : zt_code zq_T 274 61 = some (.iconst 1, 1, 0) := by decide +kernel
theorem cd_274_62 : zt_code zq_T 274 62 = some (.iadd, 1, 0) := by decide +kernel
theorem cd_274_63 : zt_code zq_T 274 63 = some (.putfield 126, 3, 0) := by decide +kernel
theorem cd_274_66 : zt_code zq_T 274 66 = some (.aload_n 1, 1, 0) := by decide +kernel
theorem cd_274_67 : zt_code zq_T 274 67 = some (.aload_n 1, 1, 0) := by decide +kernel
theorem cd_274_68 : zt_code zq_T 274 68 = some (.getfield 129, 3, 0) := by decide +kernel
theorem cd_274_71 : zt_code zq_T 274 71 = some (.ifCond .eq (17), 3, 0) := by decide +kernel
theorem cd_274_74 : zt_code zq_T 274 74 = some (.aload_n 0, 1, 0) := by decide +kernel
theorem cd_274_75 : zt_code zq_T 274 75 = some (.iload 4, 2, 0) := by decide +kernel
theorem cd_274_77 : zt_code zq_T 274 77 = some (.iload_n 3, 1, 0) := by decide +kernel
theorem cd_274_78 : zt_code zq_T 274 78 = some (.invokevirtual 138, 3, 0) := by decide +kernel
theorem cd_274_81 : zt_code zq_T 274 81 = some (.ifCond .ne (7), 3, 0) := by decide +kernel
theorem cd_274_84 : zt_code zq_T 274 84 = some (.iconst 1, 1, 0) := by decide +kernel
theorem cd_274_85 : zt_code zq_T 274 85 = some (.goto (4), 3, 0) := by decide +kernel
theorem cd_274_88 : zt_code zq_T 274 88 = some (.iconst 0, 1, 0) := by decide +kernel
theorem cd_274_89 : zt_code zq_T 274 89 = some (.putfield 129, 3, 0) := by decide +kernel
theorem cd_274_92 : zt_code zq_T 274 92 = some (.iinc 4 (1), 3, 0) := by decide +kernel
theorem cd_274_95 : zt_code zq_T 274 95 = some (.goto (-56), 3, 0) := by decide +kernel
theorem cd_274_98 : zt_code zq_T 274 98 = some (.iinc 3 (1), 3, 0) := by decide +kernel
theorem cd_274_101 : zt_code zq_T 274 101 = some (.goto (-73), 3, 0) := by decide +kernel
theorem cd_274_104 : zt_code zq_T 274 104 = some (.iinc 2 (1), 3, 0) := by decide +kernel
theorem cd_274_107 : zt_code zq_T 274 107 = some (.goto (-95), 3, 0) := by decide +kernel
theorem cd_274_110 : zt_code zq_T 274 110 = some (.aload_n 1, 1, 0) := by decide +kernel
theorem cd_274_111 : zt_code zq_T 274 111 = some (.aload_n 1, 1, 0) := by decide +kernel
theorem cd_274_112 : zt_code zq_T 274 112 = some (.getfield 126, 3, 0) := by decide +kernel
theorem cd_274_115 : zt_code zq_T 274 115 = some (.ifCond .ne (7), 3, 0) := by decide +kernel
theorem cd_274_118 : zt_code zq_T 274 118 = some (.iconst 1, 1, 0) := by decide +kernel
theorem cd_274_119 : zt_code zq_T 274 119 = some (.goto (4), 3, 0) := by decide +kernel
theorem cd_274_122 : zt_code zq_T 274 122 = some (.iconst 0, 1, 0) := by decide +kernel
theorem cd_274_123 : zt_code zq_T 274 123 = some (.putfield 142, 3, 0) := by decide +kernel
theorem cd_274_126 : zt_code zq_T 274 126 = some (.return_, 1, 0) := by decide +kernel
theorem cd_275_0 : zt_code zq_T 275 0 = some (.aload_n 0, 1, 0) := by decide +kernel
theorem cd_275_1 : zt_code zq_T 275 1 = some (.invokespecial 3, 3, 0) := by decide +kernel
theorem cd_275_4 : zt_code zq_T 275 4 = some (.aload_n 0, 1, 0) := by decide +kernel
theorem cd_275_5 : zt_code zq_T 275 5 = some (.iconst (-1), 1, 0) := by decide +kernel
theorem cd_275_6 : zt_code zq_T 275 6 = some (.putfield 9, 3, 0) := by decide +kernel
theorem cd_275_9 : zt_code zq_T 275 9 = some (.aload_n 0, 1, 0) := by decide +kernel
theorem cd_275_10 : zt_code zq_T 275 10 = some (.sipush (2304), 3, 0) := by decide +kernel
theorem cd_275_13 : zt_code zq_T 275 13 = some (.newarray .int, 2, 20) := by decide +kernel
theorem cd_275_15 : zt_code zq_T 275 15 = some (.putfield 15, 3, 0) := by decide +kernel
theorem cd_275_18 : zt_code zq_T 275 18 = some (.return_, 1, 0) := by decide +kernel
theorem cd_276_0 : zt_code zq_T 276 0 = some (.aload_n 0, 1, 0) := by decide +kernel
theorem cd_276_1 : zt_code zq_T 276 1 = some (.iconst (-1), 1, 0) := by decide +kernel
theorem cd_276_2 : zt_code zq_T 276 2 = some (.putfield 9, 3, 0) := by decide +kernel
theorem cd_276_5 : zt_code zq_T 276 5 = some (.return_, 1, 0) := by decide +kernel
theorem cd_277_0 : zt_code zq_T 277 0 = some (.aload_n 0, 1, 0) := by decide +kernel
theorem cd_277_1 : zt_code zq_T 277 1 = some (.iconst 0, 1, 0) := by decide +kernel
theorem cd_277_2 : zt_code zq_T 277 2 = some (.putfield 19, 3, 0) := by decide +kernel
theorem cd_277_5 : zt_code zq_T 277 5 = some (.aload_n 0, 1, 0) := by decide +kernel
theorem cd_277_6 : zt_code zq_T 277 6 = some (.iconst 0, 1, 0) := by decide +kernel
theorem cd_277_7 : zt_code zq_T 277 7 = some (.putfield 23, 3, 0) := by decide +kernel
theorem cd_277_10 : zt_code zq_T 277 10 = some (.iload_n 2, 1, 0) := by decide +kernel
theorem cd_277_11 : zt_code zq_T 277 11 = some (.ifCond .eq (13), 3, 0) := by decide +kernel
theorem cd_277_14 : zt_code zq_T 277 14 = some (.aload_n 1, 1, 0) := by decide +kernel
theorem cd_277_15 : zt_code zq_T 277 15 = some (.getfield 26, 3, 0) := by decide +kernel
theorem cd_277_18 : zt_code zq_T 277 18 = some (.ifCond .eq (14), 3, 0) := by decide +kernel
theorem cd_277_21 : zt_code zq_T 277 21 = some (.goto (10), 3, 0) := by decide +kernel
theorem cd_277_24 : zt_code zq_T 277 24 = some (.aload_n 1, 1, 0) := by decide +kernel
theorem cd_277_25 : zt_code zq_T 277 25 = some (.getfield 31, 3, 0) := by decide +kernel
theorem cd_277_28 : zt_code zq_T 277 28 = some (.ifCond .eq (4), 3, 0) := by decide +kernel
theorem cd_277_31 : zt_code zq_T 277 31 = some (.return_, 1, 0) := by decide +kernel
theorem cd_277_32 : zt_code zq_T 277 32 = some (.iconst (-1), 1, 0) := by decide +kernel
theorem cd_277_33 : zt_code zq_T 277 33 = some (.istore 5, 2, 0) := by decide +kernel
theorem cd_277_35 : zt_code zq_T 277 35 = some (.iload 5, 2, 0) := by decide +kernel
theorem cd_277_37 : zt_code zq_T 277 37 = some (.aload_n 1, 1, 0) := by decide +kernel
theorem cd_277_38 : zt_code zq_T 277 38 = some (.getfield 34, 3, 0) := by decide +kernel
theorem cd_277_41 : zt_code zq_T 277 41 = some (.if_icmp .ge (124), 3, 0) := by decide +kernel
theorem cd_277_44 : zt_code zq_T 277 44 = some (.aload_n 3, 1, 0) := by decide +kernel
theorem cd_277_45 : zt_code zq_T 277 45 = some (.aload_n 1, 1, 0) := by decide +kernel
theorem cd_277_46 : zt_code zq_T 277 46 = some (.iload 5, 2, 0) := by decide +kernel
theorem cd_277_48 : zt_code zq_T 277 48 = some (.invokevirtual 36, 3, 0) := by decide +kernel
theorem cd_277_51 : zt_code zq_T 277 51 = some (.iconst 1, 1, 0) := by decide +kernel
theorem cd_277_52 : zt_code zq_T 277 52 = some (.istore 6, 2, 0) := by decide +kernel
theorem cd_277_54 : zt_code zq_T 277 54 = some (.iload 6, 2, 0) := by decide +kernel
theorem cd_277_56 : zt_code zq_T 277 56 = some (.aload_n 3, 1, 0) := by decide +kernel
theorem cd_277_57 : zt_code zq_T 277 57 = some (.getfield 42, 3, 0) := by decide +kernel
theorem cd_277_60 : zt_code zq_T 277 60 = some (.if_icmp .ge (99), 3, 0) := by decide +kernel
theorem cd_277_63 : zt_code zq_T 277 63 = some (.iconst 0, 1, 0) := by decide +kernel
theorem cd_277_64 : zt_code zq_T 277 64 = some (.istore 7, 2, 0) := by decide +kernel
theorem cd_277_66 : zt_code zq_T 277 66 = some (.iload 7, 2, 0) := by decide +kernel
theorem cd_277_68 : zt_code zq_T 277 68 = some (.iload 6, 2, 0) := by decide +kernel
theorem cd_277_70 : zt_code zq_T 277 70 = some (.if_icmp .ge (83), 3, 0) := by decide +kernel
theorem cd_277_73 : zt_code zq_T 277 73 = some (.aload_n 3, 1, 0) := by decide +kernel
theorem cd_277_74 : zt_code zq_T 277 74 = some (.aload_n 1, 1, 0) := by decide +kernel
theorem cd_277_75 : zt_code zq_T 277 75 = some (.iload 7, 2, 0) := by decide +kernel
theorem cd_277_77 : zt_code zq_T 277 77 = some (.iload 6, 2, 0) := by decide +kernel
theorem cd_277_79 : zt_code zq_T 277 79 = some (.invokevirtual 45, 3, 0) := by decide +kernel
theorem cd_277_82 : zt_code zq_T 277 82 = some (.ifCond .eq (65), 3, 0) := by decide +kernel
theorem cd_277_85 : zt_code zq_T 277 85 = some (.iload_n 2, 1, 0) := by decide +kernel
theorem cd_277_86 : zt_code zq_T 277 86 = some (.ifCond .eq (14), 3, 0) := by decide +kernel
theorem cd_277_89 : zt_code zq_T 277 89 = some (.aload_n 3, 1, 0) := by decide +kernel
theorem cd_277_90 : zt_code zq_T 277 90 = some (.iload 7, 2, 0) := by decide +kernel
theorem cd_277_92 : zt_code zq_T 277 92 = some (.iload 6, 2, 0) := by decide +kernel
theorem cd_277_94 : zt_code zq_T 277 94 = some (.invokevirtual 49, 3, 0) := by decide +kernel
theorem cd_277_97 : zt_code zq_T 277 97 = some (.ifCond .eq (50), 3, 0) := by decide +kernel
theorem cd_277_100 : zt_code zq_T 277 100 = some (.aload_n 0, 1, 0) := by decide +kernel
theorem cd_277_101 : zt_code zq_T 277 101 = some (.aload_n 1, 1, 0) := by decide +kernel
theorem cd_277_102 : zt_code zq_T 277 102 = some (.iload 5, 2, 0) := by decide +kernel
theorem cd_277_104 : zt_code zq_T 277 104 = some (.aload_n 3, 1, 0) := by decide +kernel
theorem cd_277_105 : zt_code zq_T 277 105 = some (.iload 7, 2, 0) := by decide +kernel
theorem cd_277_107 : zt_code zq_T 277 107 = some (.iload 6, 2, 0) := by decide +kernel
theorem cd_277_109 : zt_code zq_T 277 109 = some (.invokevirtual 53, 3, 0) := by decide +kernel
theorem cd_277_112 : zt_code zq_T 277 112 = some (.aload_n 3, 1, 0) := by decide +kernel
theorem cd_277_113 : zt_code zq_T 277 113 = some (.iload 7, 2, 0) := by decide +kernel
theorem cd_277_115 : zt_code zq_T 277 115 = some (.iload 6, 2, 0) := by decide +kernel
theorem cd_277_117 : zt_code zq_T 277 117 = some (.invokevirtual 57, 3, 0) := by decide +kernel
theorem cd_277_120 : zt_code zq_T 277 120 = some (.aload 4, 2, 0) := by decide +kernel
theorem cd_277_122 : zt_code zq_T 277 122 = some (.invokevirtual 60, 3, 0) := by decide +kernel
theorem cd_277_125 : zt_code zq_T 277 125 = some (.aload_n 0, 1, 0) := by decide +kernel
theorem cd_277_126 : zt_code zq_T 277 126 = some (.iload 5, 2, 0) := by decide +kernel
theorem cd_277_128 : zt_code zq_T 277 128 = some (.aload_n 3, 1, 0) := by decide +kernel
theorem cd_277_129 : zt_code zq_T 277 129 = some (.iload 7, 2, 0) := by decide +kernel
theorem cd_277_131 : zt_code zq_T 277 131 = some (.iload 6, 2, 0) := by decide +kernel
theorem cd_277_133 : zt_code zq_T 277 133 = some (.invokevirtual 64, 3, 0) := by decide +kernel
theorem cd_277_136 : zt_code zq_T 277 136 = some (.aload_n 3, 1, 0) := by decide +kernel
theorem cd_277_137 : zt_code zq_T 277 137 = some (.iload 7, 2, 0) := by decide +kernel
theorem cd_277_139 : zt_code zq_T 277 139 = some (.iload 6, 2, 0) := by decide +kernel
theorem cd_277_141 : zt_code zq_T 277 141 = some (.invokevirtual 67, 3, 0) := by decide +kernel
theorem cd_277_144 : zt_code zq_T 277 144 = some (.invokevirtual 70, 3, 0) := by decide +kernel
theorem cd_277_147 : zt_code zq_T 277 147 = some (.iinc 7 (1), 3, 0) := by decide +kernel
theorem cd_277_150 : zt_code zq_T 277 150 = some (.goto (-84), 3, 0) := by decide +kernel
theorem cd_277_153 : zt_code zq_T 277 153 = some (.iinc 6 (1), 3, 0) := by decide +kernel
theorem cd_277_156 : zt_code zq_T 277 156 = some (.goto (-102), 3, 0) := by decide +kernel
theorem cd_277_159 : zt_code zq_T 277 159 = some (.iinc 5 (1), 3, 0) := by decide +kernel
theorem cd_277_162 : zt_code zq_T 277 162 = some (.goto (-127), 3, 0) := by decide +kernel
theorem cd_277_165 : zt_code zq_T 277 165 = some (.return_, 1, 0) := by decide +kernel
theorem cd_278_0 : zt_code zq_T 278 0 = some (.aload_n 0, 1, 0) := by decide +kernel
theorem cd_278_1 : zt_code zq_T 278 1 = some (.getfield 74, 3, 0) := by decide +kernel
theorem cd_278_4 : zt_code zq_T 278 4 = some (.iload_n 2, 1, 0) := by decide +kernel
theorem cd_278_5 : zt_code zq_T 278 5 = some (.if_icmp .ne (24), 3, 0) := by decide +kernel
theorem cd_278_8 : zt_code zq_T 278 8 = some (.aload_n 0, 1, 0) := by decide +kernel
theorem cd_278_9 : zt_code zq_T 278 9 = some (.getfield 77, 3, 0) := by decide +kernel
theorem cd_278_12 : zt_code zq_T 278 12 = some (.iload_n 3, 1, 0) := by decide +kernel
theorem cd_278_13 : zt_code zq_T 278 13 = some (.if_icmp .ne (16), 3, 0) := by decide +kernel
theorem cd_278_16 : zt_code zq_T 278 16 = some (.aload_n 0, 1, 0) := by decide +kernel
theorem cd_278_17 : zt_code zq_T 278 17 = some (.getfield 80, 3, 0) := by decide +kernel
theorem cd_278_20 : zt_code zq_T 278 20 = some (.iload 4, 2, 0) := by decide +kernel
theorem cd_278_22 : zt_code zq_T 278 22 = some (.if_icmp .ne (7), 3, 0) := by decide +kernel
theorem cd_278_25 : zt_code zq_T 278 25 = some (.iconst 1, 1, 0) := by decide +kernel
theorem cd_278_26 : zt_code zq_T 278 26 = some (.goto (4), 3, 0) := by decide +kernel
theorem cd_278_29 : zt_code zq_T 278 29 = some (.iconst 0, 1, 0) := by decide +kernel
theorem cd_278_30 : zt_code zq_T 278 30 = some (.istore 6, 2, 0) := by decide +kernel
theorem cd_278_32 : zt_code zq_T 278 32 = some (.aload_n 0, 1, 0) := by decide +kernel
theorem cd_278_33 : zt_code zq_T 278 33 = some (.getfield 23, 3, 0) := by decide +kernel
theorem cd_278_36 : zt_code zq_T 278 36 = some (.ifCond .eq (21), 3, 0) := by decide +kernel
theorem cd_278_39 : zt_code zq_T 278 39 = some (.iload 6, 2, 0) := by decide +kernel
theorem cd_278_41 : zt_code zq_T 278 41 = some (.ifCond .eq (16), 3, 0) := by decide +kernel
theorem cd_278_44 : zt_code zq_T 278 44 = some (.aload_n 0, 1, 0) := by decide +kernel
theorem cd_278_45 : zt_code zq_T 278 45 = some (.aload_n 0, 1, 0) := by decide +kernel
theorem cd_278_46 : zt_code zq_T 278 46 = some (.getfield 83, 3, 0) := by decide +kernel
theorem cd_278_49 : zt_code zq_T 278 49 = some (.iconst 0, 1, 0) := by decide +kernel
theorem cd_278_50 : zt_code zq_T 278 50 = some (.invokestatic 86, 3, 0) := by decide +kernel
theorem cd_278_53 : zt_code zq_T 278 53 = some (.putfield 83, 3, 0) := by decide +kernel
theorem cd_278_56 : zt_code zq_T 278 56 = some (.return_, 1, 0) := by decide +kernel
theorem cd_278_57 : zt_code zq_T 278 57 = some (.aload_n 0, 1, 0) := by decide +kernel
theorem cd_278_58 : zt_code zq_T 278 58 = some (.iconst 1, 1, 0) := by decide +kernel
theorem cd_278_59 : zt_code zq_T 278 59 = some (.putfield 23, 3, 0) := by decide +kernel
theorem cd_278_62 : zt_code zq_T 278 62 = some (.aload_n 0, 1, 0) := by decide +kernel
theorem cd_278_63 : zt_code zq_T 278 63 = some (.iload_n 2, 1, 0) := by decide +kernel
theorem cd_278_64 : zt_code zq_T 278 64 = some (.putfield 74, 3, 0) := by decide +kernel
theorem cd_278_67 : zt_code zq_T 278 67 = some (.aload_n 0, 1, 0) := by decide +kernel
theorem cd_278_68 : zt_code zq_T 278 68 = some (.iload_n 3, 1, 0) := by decide +kernel
theorem cd_278_69 : zt_code zq_T 278 69 = some (.putfield 77, 3, 0) := by decide +kernel
theorem cd_278_72 : zt_code zq_T 278 72 = some (.aload_n 0, 1, 0) := by decide +kernel
theorem cd_278_73 : zt_code zq_T 278 73 = some (.iload 4, 2, 0) := by decide +kernel
theorem cd_278_75 : zt_code zq_T 278 75 = some (.putfield 80, 3, 0) := by decide +kernel
theorem cd_278_78 : zt_code zq_T 278 78 = some (.aload 5, 2, 0) := by decide +kernel
theorem cd_278_80 : zt_code zq_T 278 80 = some (.aload_n 1, 1, 0) := by decide +kernel
theorem cd_278_81 : zt_code zq_T 278 81 = some (.iload_n 2, 1, 0) := by decide +kernel
theorem cd_278_82 : zt_code zq_T 278 82 = some (.iload_n 3, 1, 0) := by decide +kernel
theorem cd_278_83 : zt_code zq_T 278 83 = some (.iload 4, 2, 0) := by decide +kernel
theorem cd_278_85 : zt_code zq_T 278 85 = some (.invokevirtual 91, 3, 0) := by decide +kernel
theorem cd_278_88 : zt_code zq_T 278 88 = some (.istore 7, 2, 0) := by decide +kernel
theorem cd_278_90 : zt_code zq_T 278 90 = some (.aload_n 0, 1, 0) := by decide +kernel
theorem cd_278_91 : zt_code zq_T 278 91 = some (.getfield 19, 3, 0) := by decide +kernel
theorem cd_278_94 : zt_code zq_T 278 94 = some (.ifCond .eq (18), 3, 0) := by decide +kernel
theorem cd_278_97 : zt_code zq_T 278 97 = some (.iload 7, 2, 0) := by decide +kernel
theorem cd_278_99 : zt_code zq_T 278 99 = some (.aload_n 0, 1, 0) := by decide +kernel
theorem cd_278_100 : zt_code zq_T 278 100 = some (.getfield 97, 3, 0) := by decide +kernel
theorem cd_278_103 : zt_code zq_T 278 103 = some (.if_icmp .le (9), 3, 0) := by decide +kernel
theorem cd_278_106 : zt_code zq_T 278 106 = some (.aload_n 0, 1, 0) := by decide +kernel
theorem cd_278_107 : zt_code zq_T 278 107 = some (.iconst 1, 1, 0) := by decide +kernel
theorem cd_278_108 : zt_code zq_T 278 108 = some (.putfield 83, 3, 0) := by decide +kernel
theorem cd_278_111 : zt_code zq_T 278 111 = some (.return_, 1, 0) := by decide +kernel
theorem cd_278_112 : zt_code zq_T 278 112 = some (.aload 5, 2, 0) := by decide +kernel
theorem cd_278_114 : zt_code zq_T 278 114 = some (.aload_n 1, 1, 0) := by decide +kernel
theorem cd_278_115 : zt_code zq_T 278 115 = some (.iload_n 2, 1, 0) := by decide +kernel
theorem cd_278_116 : zt_code zq_T 278 116 = some (.iload_n 3, 1, 0) := by decide +kernel
theorem cd_278_117 : zt_code zq_T 278 117 = some (.iload 4, 2, 0) := by decide +kernel
theorem cd_278_119 : zt_code zq_T 278 119 = some (.invokevirtual 100, 3, 0) := by decide +kernel
theorem cd_278_122 : zt_code zq_T 278 122 = some (.aload_n 0, 1, 0) := by decide +kernel
theorem cd_278_123 : zt_code zq_T 278 123 = some (.aload_n 0, 1, 0) := by decide +kernel
theorem cd_278_124 : zt_code zq_T 278 124 = some (.getfield 19, 3, 0) := by decide +kernel
theorem cd_278_127 : zt_code zq_T 278 127 = some (.ifCond .eq (21), 3, 0) := by decide +kernel
theorem cd_278_130 : zt_code zq_T 278 130 = some (.iload 7, 2, 0) := by decide +kernel
theorem cd_278_132 : zt_code zq_T 278 132 = some (.aload_n 0, 1, 0) := by decide +kernel
theorem cd_278_133 : zt_code zq_T 278 133 = some (.getfield 97, 3, 0) := by decide +kernel
theorem cd_278_136 : zt_code zq_T 278 136 = some (.if_icmp .ne (12), 3, 0) := by decide +kernel
theorem cd_278_139 : zt_code zq_T 278 139 = some (.aload_n 0, 1, 0) := by decide +kernel
theorem cd_278_140 : zt_code zq_T 278 140 = some (.aload 5, 2, 0) := by decide +kernel
theorem cd_278_142 : zt_code zq_T 278 142 = some (.invokevirtual 104, 3, 0) := by decide +kernel
theorem cd_278_145 : zt_code zq_T 278 145 = some (.goto (4), 3, 0) := by decide +kernel
theorem cd_278_148 : zt_code zq_T 278 148 = some (.iconst (-1), 1, 0) := by decide +kernel
theorem cd_278_149 : zt_code zq_T 278 149 = some (.putfield 83, 3, 0) := by decide +kernel
theorem cd_278_152 : zt_code zq_T 278 152 = some (.aload_n 0, 1, 0) := by decide +kernel
theorem cd_278_153 : zt_code zq_T 278 153 = some (.getfield 83, 3, 0) := by decide +kernel
theorem cd_278_156 : zt_code zq_T 278 156 = some (.ifCond .ge (9), 3, 0) := by decide +kernel
theorem cd_278_159 : zt_code zq_T 278 159 = some (.aload_n 0, 1, 0) := by decide +kernel
theorem cd_278_160 : zt_code zq_T 278 160 = some (.aload 5, 2, 0) := by decide +kernel
theorem cd_278_162 : zt_code zq_T 278 162 = some (.invokevirtual 108, 3, 0) := by decide +kernel
theorem cd_278_165 : zt_code zq_T 278 165 = some (.return_, 1, 0) := by decide +kernel
theorem cd_279_0 : zt_code zq_T 279 0 = some (.iconst 0, 1, 0) := by decide +kernel
theorem cd_279_1 : zt_code zq_T 279 1 = some (.istore_n 2, 1, 0) := by decide +kernel
theorem cd_279_2 : zt_code zq_T 279 2 = some (.iload_n 2, 1, 0) := by decide +kernel
theorem cd_279_3 : zt_code zq_T 279 3 = some (.aload_n 0, 1, 0) := by decide +kernel
theorem cd_279_4 : zt_code zq_T 279 4 = some (.getfield 97, 3, 0) := by decide +kernel
theorem cd_279_7 : zt_code zq_T 279 7 = some (.if_icmp .ge (53), 3, 0) := by decide +kernel
theorem cd_279_10 : zt_code zq_T 279 10 = some (.iload_n 2, 1, 0) := by decide +kernel
theorem cd_279_11 : zt_code zq_T 279 11 = some (.aload_n 1, 1, 0) := by decide +kernel
theorem cd_279_12 : zt_code zq_T 279 12 = some (.getfield 112, 3, 0) := by decide +kernel
theorem cd_279_15 : zt_code zq_T 279 15 = some (.if_icmp .ge (45), 3, 0) := by decide +kernel
theorem cd_279_18 : zt_code zq_T 279 18 = some (.aload_n 1, 1, 0) := by decide +kernel
theorem cd_279_19 : zt_code zq_T 279 19 = some (.getfield 113, 3, 0) := by decide +kernel
theorem cd_279_22 : zt_code zq_T 279 22 = some (.iload_n 2, 1, 0) := by decide +kernel
theorem cd_279_23 : zt_code zq_T 279 23 = some (.iaload, 1, 0) := by decide +kernel
theorem cd_279_24 : zt_code zq_T 279 24 = some (.aload_n 0, 1, 0) := by decide +kernel
theorem cd_279_25 : zt_code zq_T 279 25 = some (.getfield 15, 3, 0) := by decide +kernel
theorem cd_279_28 : zt_code zq_T 279 28 = some (.iload_n 2, 1, 0) := by decide +kernel
theorem cd_279_29 : zt_code zq_T 279 29 = some (.iaload, 1, 0) := by decide +kernel
theorem cd_279_30 : zt_code zq_T 279 30 = some (.if_icmp .eq (24), 3, 0) := by decide +kernel
theorem cd_279_33 : zt_code zq_T 279 33 = some (.aload_n 1, 1, 0) := by decide +kernel
theorem cd_279_34 : zt_code zq_T 279 34 = some (.getfield 113, 3, 0) := by decide +kernel
theorem cd_279_37 : zt_code zq_T 279 37 = some (.iload_n 2, 1, 0) := by decide +kernel
theorem cd_279_38 : zt_code zq_T 279 38 = some (.iaload, 1, 0) := by decide +kernel
theorem cd_279_39 : zt_code zq_T 279 39 = some (.aload_n 0, 1, 0) := by decide +kernel
theorem cd_279_40 : zt_code zq_T 279 40 = some (.getfield 15, 3, 0) := by decide +kernel
theorem cd_279_43 : zt_code zq_T 279 43 = some (.iload_n 2, 1, 0) := by decide +kernel
theorem cd_279_44 : zt_code zq_T 279 44 = some (.iaload, 1, 0) := by decide +kernel
theorem cd_279_45 : zt_code zq_T 279 45 = some (.if_icmp .ge (7), 3, 0) := by decide +kernel
theorem cd_279_48 : zt_code zq_T 279 48 = some (.iconst (-1), 1, 0) := by decide +kernel
theorem cd_279_49 : zt_code zq_T 279 49 = some (.goto (4), 3, 0) := by decide +kernel
theorem cd_279_52 : zt_code zq_T 279 52 = some (.iconst 1, 1, 0) := by decide +kernel
theorem cd_279_53 : zt_code zq_T 279 53 = some (.ireturn, 1, 0) := by decide +kernel
theorem cd_279_54 : zt_code zq_T 279 54 = some (.iinc 2 (1), 3, 0) := by decide +kernel
theorem cd_279_57 : zt_code zq_T 279 57 = some (.goto (-55), 3, 0) := by decide +kernel
theorem cd_279_60 : zt_code zq_T 279 60 = some (.iconst 0, 1, 0) := by decide +kernel
theorem cd_279_61 : zt_code zq_T 279 61 = some (.ireturn, 1, 0) := by decide +kernel
theorem cd_280_0 : zt_code zq_T 280 0 = some (.aload_n 0, 1, 0) := by decide +kernel
theorem cd_280_1 : zt_code zq_T 280 1 = some (.aload_n 1, 1, 0) := by decide +kernel
theorem cd_280_2 : zt_code zq_T 280 2 = some (.getfield 112, 3, 0) := by decide +kernel
theorem cd_280_5 : zt_code zq_T 280 5 = some (.sipush (2304), 3, 0) := by decide +kernel
theorem cd_280_8 : zt_code zq_T 280 8 = some (.invokestatic 114, 3, 0) := by decide +kernel
theorem cd_280_11 : zt_code zq_T 280 11 = some (.putfield 97, 3, 0) := by decide +kernel
theorem cd_280_14 : zt_code zq_T 280 14 = some (.iconst 0, 1, 0) := by decide +kernel
theorem cd_280_15 : zt_code zq_T 280 15 = some (.istore_n 2, 1, 0) := by decide +kernel
theorem cd_280_16 : zt_code zq_T 280 16 = some (.iload_n 2, 1, 0) := by decide +kernel
theorem cd_280_17 : zt_code zq_T 280 17 = some (.aload_n 0, 1, 0) := by decide +kernel
theorem cd_280_18 : zt_code zq_T 280 18 = some (.getfield 97, 3, 0) := by decide +kernel
theorem cd_280_21 : zt_code zq_T 280 21 = some (.if_icmp .ge (21), 3, 0) := by decide +kernel
theorem cd_280_24 : zt_code zq_T 280 24 = some (.aload_n 0, 1, 0) := by decide +kernel
theorem cd_280_25 : zt_code zq_T 280 25 = some (.getfield 15, 3, 0) := by decide +kernel
theorem cd_280_28 : zt_code zq_T 280 28 = some (.iload_n 2, 1, 0) := by decide +kernel
theorem cd_280_29 : zt_code zq_T 280 29 = some (.aload_n 1, 1, 0) := by decide +kernel
theorem cd_280_30 : zt_code zq_T 280 30 = some (.getfield 113, 3, 0) := by decide +kernel
theorem cd_280_33 : zt_code zq_T 280 33 = some (.iload_n 2, 1, 0) := by decide +kernel
theorem cd_280_34 : zt_code zq_T 280 34 = some (.iaload, 1, 0) := by decide +kernel
theorem cd_280_35 : zt_code zq_T 280 35 = some (.iastore, 1, 0) := by decide +kernel
theorem cd_280_36 : zt_code zq_T 280 36 = some (.iinc 2 (1), 3, 0) := by decide +kernel
theorem cd_280_39 : zt_code zq_T 280 39 = some (.goto (-23), 3, 0) := by decide +kernel
theorem cd_280_42 : zt_code zq_T 280 42 = some (.return_, 1, 0) := by decide +kernel
theorem cd_281_0 : zt_code zq_T 281 0 = some (.iload_n 1, 1, 0) := by decide +kernel
theorem cd_281_1 : zt_code zq_T 281 1 = some (.aload_n 0, 1, 0) := by decide +kernel
theorem cd_281_2 : zt_code zq_T 281 2 = some (.getfield 117, 3, 0) := by decide +kernel
theorem cd_281_5 : zt_code zq_T 281 5 = some (.if_icmp .ne (31), 3, 0) := by decide +kernel
theorem cd_281_8 : zt_code zq_T 281 8 = some (.iload_n 2, 1, 0) := by decide +kernel
theorem cd_281_9 : zt_code zq_T 281 9 = some (.aload_n 0, 1, 0) := by decide +kernel
theorem cd_281_10 : zt_code zq_T 281 10 = some (.getfield 120, 3, 0) := by decide +kernel
theorem cd_281_13 : zt_code zq_T 281 13 = some (.if_icmp .lt (19), 3, 0) := by decide +kernel
theorem cd_281_16 : zt_code zq_T 281 16 = some (.iload_n 2, 1, 0) := by decide +kernel
theorem cd_281_17 : zt_code zq_T 281 17 = some (.aload_n 0, 1, 0) := by decide +kernel
theorem cd_281_18 : zt_code zq_T 281 18 = some (.getfield 120, 3, 0) := by decide +kernel
theorem cd_281_21 : zt_code zq_T 281 21 = some (.if_icmp .ne (15), 3, 0) := by decide +kernel
theorem cd_281_24 : zt_code zq_T 281 24 = some (.iload_n 3, 1, 0) := by decide +kernel
theorem cd_281_25 : zt_code zq_T 281 25 = some (.aload_n 0, 1, 0) := by decide +kernel
theorem cd_281_26 : zt_code zq_T 281 26 = some (.getfield 123, 3, 0) := by decide +kernel
theorem cd_281_29 : zt_code zq_T 281 29 = some (.if_icmp .ge (7), 3, 0) := by decide +kernel
theorem cd_281_32 : zt_code zq_T 281 32 = some (.iconst 1, 1, 0) := by decide +kernel
theorem cd_281_33 : zt_code zq_T 281 33 = some (.goto (4), 3, 0) := by decide +kernel
theorem cd_281_36 : zt_code zq_T 281 36 = some (.iconst 0, 1, 0) := by decide +kernel
theorem cd_281_37 : zt_code zq_T 281 37 = some (.istore 4, 2, 0) := by decide +kernel
theorem cd_281_39 : zt_code zq_T 281 39 = some (.aload_n 0, 1, 0) := by decide +kernel
theorem cd_281_40 : zt_code zq_T 281 40 = some (.getfield 83, 3, 0) := by decide +kernel
theorem cd_281_43 : zt_code zq_T 281 43 = some (.ifCond .lt (15), 3, 0) := by decide +kernel
theorem cd_281_46 : zt_code zq_T 281 46 = some (.aload_n 0, 1, 0) := by decide +kernel
theorem cd_281_47 : zt_code zq_T 281 47 = some (.getfield 83, 3, 0) := by decide +kernel
theorem cd_281_50 : zt_code zq_T 281 50 = some (.ifCond .ne (28), 3, 0) := by decide +kernel
theorem cd_281_53 : zt_code zq_T 281 53 = some (.iload 4, 2, 0) := by decide +kernel
theorem cd_281_55 : zt_code zq_T 281 55 = some (.ifCond .eq (23), 3, 0) := by decide +kernel
theorem cd_281_58 : zt_code zq_T 281 58 = some (.aload_n 0, 1, 0) := by decide +kernel
theorem cd_281_59 : zt_code zq_T 281 59 = some (.iconst 1, 1, 0) := by decide +kernel
theorem cd_281_60 : zt_code zq_T 281 60 = some (.putfield 19, 3, 0) := by decide +kernel
theorem cd_281_63 : zt_code zq_T 281 63 = some (.aload_n 0, 1, 0) := by decide +kernel
theorem cd_281_64 : zt_code zq_T 281 64 = some (.iload_n 1, 1, 0) := by decide +kernel
theorem cd_281_65 : zt_code zq_T 281 65 = some (.putfield 117, 3, 0) := by decide +kernel
theorem cd_281_68 : zt_code zq_T 281 68 = some (.aload_n 0, 1, 0) := by decide +kernel
theorem cd_281_69 : zt_code zq_T 281 69 = some (.iload_n 2, 1, 0) := by decide +kernel
theorem cd_281_70 : zt_code zq_T 281 70 = some (.putfield 120, 3, 0) := by decide +kernel
theorem cd_281_73 : zt_code zq_T 281 73 = some (.aload_n 0, 1, 0) := by decide +kernel
theorem cd_281_74 : zt_code zq_T 281 74 = some (.iload_n 3, 1, 0) := by decide +kernel
theorem cd_281_75 : zt_code zq_T 281 75 = some (.putfield 123, 3, 0) := by decide +kernel
theorem cd_281_78 : zt_code zq_T 281 78 = some (.return_, 1, 0) := by decide +kernel
theorem cd_282_0 : zt_code zq_T 282 0 = some (.aload_n 0, 1, 0) := by decide +kernel
theorem cd_282_1 : zt_code zq_T 282 1 = some (.invokespecial 1, 3, 0) := by decide +kernel
theorem cd_282_4 : zt_code zq_T 282 4 = some (.aload_n 0, 1, 0) := by decide +kernel
theorem cd_282_5 : zt_code zq_T 282 5 = some (.sipush (400), 3, 0) := by decide +kernel
theorem cd_282_8 : zt_code zq_T 282 8 = some (.newarray .int, 2, 20) := by decide +kernel
theorem cd_282_10 : zt_code zq_T 282 10 = some (.putfield 9, 3, 0) := by decide +kernel
theorem cd_282_13 : zt_code zq_T 282 13 = some (.aload_n 0, 1, 0) := by decide +kernel
theorem cd_282_14 : zt_code zq_T 282 14 = some (.iconst 0, 1, 0) := by decide +kernel
theorem cd_282_15 : zt_code zq_T 282 15 = some (.putfield 13, 3, 0) := by decide +kernel
theorem cd_282_18 : zt_code zq_T 282 18 = some (.aload_n 0, 1, 0) := by decide +kernel
theorem cd_282_19 : zt_code zq_T 282 19 = some (.new 17, 3, 0) := by decide +kernel
theorem cd_282_22 : zt_code zq_T 282 22 = some (.dup, 1, 0) := by decide +kernel
theorem cd_282_23 : zt_code zq_T 282 23 = some (.invokespecial 19, 3, 0) := by decide +kernel
theorem cd_282_26 : zt_code zq_T 282 26 = some (.putfield 20, 3, 0) := by decide +kernel
theorem cd_282_29 : zt_code zq_T 282 29 = some (.aload_n 0, 1, 0) := by decide +kernel
theorem cd_282_30 : zt_code zq_T 282 30 = some (.new 17, 3, 0) := by decide +kernel
theorem cd_282_33 : zt_code zq_T 282 33 = some (.dup, 1, 0) := by decide +kernel
theorem cd_282_34 : zt_code zq_T 282 34 = some (.invokespecial 19, 3, 0) := by decide +kernel
theorem cd_282_37 : zt_code zq_T 282 37 = some (.putfield 24, 3, 0) := by decide +kernel
theorem cd_282_40 : zt_code zq_T 282 40 = some (.aload_n 0, 1, 0) := by decide +kernel
theorem cd_282_41 : zt_code zq_T 282 41 = some (.new 27, 3, 0) := by decide +kernel
theorem cd_282_44 : zt_code zq_T 282 44 = some (.dup, 1, 0) := by decide +kernel
theorem cd_282_45 : zt_code zq_T 282 45 = some (.invokespecial 29, 3, 0) := by decide +kernel
theorem cd_282_48 : zt_code zq_T 282 48 = some (.putfield 30, 3, 0) := by decide +kernel
theorem cd_282_51 : zt_code zq_T 282 51 = some (.aload_n 0, 1, 0) := by decide +kernel
theorem cd_282_52 : zt_code zq_T 282 52 = some (.new 27, 3, 0) := by decide +kernel
theorem cd_282_55 : zt_code zq_T 282 55 = some (.dup, 1, 0) := by decide +kernel
theorem cd_282_56 : zt_code zq_T 282 56 = some (.invokespecial 29, 3, 0) := by decide +kernel
theorem cd_282_59 : zt_code zq_T 282 59 = some (.putfield 34, 3, 0) := by decide +kernel
theorem cd_282_62 : zt_code zq_T 282 62 = some (.aload_n 0, 1, 0) := by decide +kernel
theorem cd_282_63 : zt_code zq_T 282 63 = some (.new 37, 3, 0) := by decide +kernel
theorem cd_282_66 : zt_code zq_T 282 66 = some (.dup, 1, 0) := by decide +kernel
theorem cd_282_67 : zt_code zq_T 282 67 = some (.invokespecial 39, 3, 0) := by decide +kernel
theorem cd_282_70 : zt_code zq_T 282 70 = some (.putfield 40, 3, 0) := by decide +kernel
theorem cd_282_73 : zt_code zq_T 282 73 = some (.aload_n 0, 1, 0) := by decide +kernel
theorem cd_282_74 : zt_code zq_T 282 74 = some (.new 44, 3, 0) := by decide +kernel
theorem cd_282_77 : zt_code zq_T 282 77 = some (.dup, 1, 0) := by decide +kernel
theorem cd_282_78 : zt_code zq_T 282 78 = some (.invokespecial 46, 3, 0) := by decide +kernel
theorem cd_282_81 : zt_code zq_T 282 81 = some (.putfield 47, 3, 0) := by decide +kernel
theorem cd_282_84 : zt_code zq_T 282 84 = some (.aload_n 0, 1, 0) := by decide +kernel
theorem cd_282_85 : zt_code zq_T 282 85 = some (.new 51, 3, 0) := by decide +kernel
theorem cd_282_88 : zt_code zq_T 282 88 = some (.dup, 1, 0) := by decide +kernel
theorem cd_282_89 : zt_code zq_T 282 89 = some (.invokespecial 53, 3, 0) := by decide +kernel
theorem cd_282_92 : zt_code zq_T 282 92 = some (.putfield 54, 3, 0) := by decide +kernel
theorem cd_282_95 : zt_code zq_T 282 95 = some (.aload_n 0, 1, 0) := by decide +kernel
theorem cd_282_96 : zt_code zq_T 282 96 = some (.new 58, 3, 0) := by decide +kernel
theorem cd_282_99 : zt_code zq_T 282 99 = some (.dup, 1, 0) := by decide +kernel
theorem cd_282_100 : zt_code zq_T 282 100 = some (.invokespecial 60, 3, 0) := by decide +kernel
theorem cd_282_103 : zt_code zq_T 282 103 = some (.putfield 61, 3, 0) := by decide +kernel
theorem cd_282_106 : zt_code zq_T 282 106 = some (.aload_n 0, 1, 0) := by decide +kernel
theorem cd_282_107 : zt_code zq_T 282 107 = some (.new 58, 3, 0) := by decide +kernel
theorem cd_282_110 : zt_code zq_T 282 110 = some (.dup, 1, 0) := by decide +kernel
theorem cd_282_111 : zt_code zq_T 282 111 = some (.invokespecial 60, 3, 0) := by decide +kernel
theorem cd_282_114 : zt_code zq_T 282 114 = some (.putfield 65, 3, 0) := by decide +kernel
theorem cd_282_117 : zt_code zq_T 282 117 = some (.aload_n 0, 1, 0) := by decide +kernel
theorem cd_282_118 : zt_code zq_T 282 118 = some (.new 68, 3, 0) := by decide +kernel
theorem cd_282_121 : zt_code zq_T 282 121 = some (.dup, 1, 0) := by decide +kernel
theorem cd_282_122 : zt_code zq_T 282 122 = some (.invokespecial 70, 3, 0) := by decide +kernel
theorem cd_282_125 : zt_code zq_T 282 125 = some (.putfield 71, 3, 0) := by decide +kernel
theorem cd_282_128 : zt_code zq_T 282 128 = some (.aload_n 0, 1, 0) := by decide +kernel
theorem cd_282_129 : zt_code zq_T 282 129 = some (.new 75, 3, 0) := by decide +kernel
theorem cd_282_132 : zt_code zq_T 282 132 = some (.dup, 1, 0) := by decide +kernel
theorem cd_282_133 : zt_code zq_T 282 133 = some (.invokespecial 77, 3, 0) := by decide +kernel
theorem cd_282_136 : zt_code zq_T 282 136 = some (.putfield 78, 3, 0) := by decide +kernel
theorem cd_282_139 : zt_code zq_T 282 139 = some (.aload_n 0, 1, 0) := by decide +kernel
theorem cd_282_140 : zt_code zq_T 282 140 = some (.new 82, 3, 0) := by decide +kernel
theorem cd_282_143 : zt_code zq_T 282 143 = some (.dup, 1, 0) := by decide +kernel
theorem cd_282_144 : zt_code zq_T 282 144 = some (.invokespecial 84, 3, 0) := by decide +kernel
theorem cd_282_147 : zt_code zq_T 282 147 = some (.putfield 85, 3, 0) := by decide +kernel
theorem cd_282_150 : zt_code zq_T 282 150 = some (.aload_n 0, 1, 0) := by decide +kernel
theorem cd_282_151 : zt_code zq_T 282 151 = some (.iconst (-1), 1, 0) := by decide +kernel
theorem cd_282_152 : zt_code zq_T 282 152 = some (.putfield 89, 3, 0) := by decide +kernel
theorem cd_282_155 : zt_code zq_T 282 155 = some (.return_, 1, 0) := by decide +kernel
theorem cd_283_0 : zt_code zq_T 283 0 = some (.iload_n 1, 1, 0) := by decide +kernel
theorem cd_283_1 : zt_code zq_T 283 1 = some (.invokestatic 92, 3, 0) := by decide +kernel
theorem cd_283_4 : zt_code zq_T 283 4 = some (.iload_n 2, 1, 0) := by decide +kernel
theorem cd_283_5 : zt_code zq_T 283 5 = some (.invokestatic 92, 3, 0) := by decide +kernel
theorem cd_283_8 : zt_code zq_T 283 8 = some (.iadd, 1, 0) := by decide +kernel
theorem cd_283_9 : zt_code zq_T 283 9 = some (.iload_n 3, 1, 0) := by decide +kernel
theorem cd_283_10 : zt_code zq_T 283 10 = some (.invokestatic 92, 3, 0) := by decide +kernel
theorem cd_283_13 : zt_code zq_T 283 13 = some (.iadd, 1, 0) := by decide +kernel
theorem cd_283_14 : zt_code zq_T 283 14 = some (.iload 4, 2, 0) := by decide +kernel
theorem cd_283_16 : zt_code zq_T 283 16 = some (.invokestatic 92, 3, 0) := by decide +kernel
theorem cd_283_19 : zt_code zq_T 283 19 = some (.iadd, 1, 0) := by decide +kernel
theorem cd_283_20 : zt_code zq_T 283 20 = some (.iload 5, 2, 0) := by decide +kernel
theorem cd_283_22 : zt_code zq_T 283 22 = some (.invokestatic 92, 3, 0) := by decide +kernel
theorem cd_283_25 : zt_code zq_T 283 25 = some (.iadd, 1, 0) := by decide +kernel
theorem cd_283_26 : zt_code zq_T 283 26 = some (.istore 6, 2, 0) := by decide +kernel
theorem cd_283_28 : zt_code zq_T 283 28 = some (.aload_n 0, 1, 0) := by decide +kernel
theorem cd_283_29 : zt_code zq_T 283 29 = some (.getfield 13, 3, 0) := by decide +kernel
theorem cd_283_32 : zt_code zq_T 283 32 = some (.iload 6, 2, 0) := by decide +kernel
theorem cd_283_34 : zt_code zq_T 283 34 = some (.iadd, 1, 0) := by decide +kernel
theorem cd_283_35 : zt_code zq_T 283 35 = some (.sipush (400), 3, 0) := by decide +kernel
theorem cd_283_38 : zt_code zq_T 283 38 = some (.if_icmp .le (5), 3, 0) := by decide +kernel
theorem cd_283_41 : zt_code zq_T 283 41 = some (.iconst (-1), 1, 0) := by decide +kernel
theorem cd_283_42 : zt_code zq_T 283 42 = some (.ireturn, 1, 0) := by decide +kernel
theorem cd_283_43 : zt_code zq_T 283 43 = some (.aload_n 0, 1, 0) := by decide +kernel
theorem cd_283_44 : zt_code zq_T 283 44 = some (.iload_n 1, 1, 0) := by decide +kernel
theorem cd_283_45 : zt_code zq_T 283 45 = some (.invokevirtual 96, 3, 0) := by decide +kernel
theorem cd_283_48 : zt_code zq_T 283 48 = some (.aload_n 0, 1, 0) := by decide +kernel
theorem cd_283_49 : zt_code zq_T 283 49 = some (.iload_n 2, 1, 0) := by decide +kernel
theorem cd_283_50 : zt_code zq_T 283 50 = some (.invokevirtual 96, 3, 0) := by decide +kernel
theorem cd_283_53 : zt_code zq_T 283 53 = some (.aload_n 0, 1, 0) := by decide +kernel
theorem cd_283_54 : zt_code zq_T 283 54 = some (.iload_n 3, 1, 0) := by decide +kernel
theorem cd_283_55 : zt_code zq_T 283 55 = some (.invokevirtual 96, 3, 0) := by decide +kernel
theorem cd_283_58 : zt_code zq_T 283 58 = some (.aload_n 0, 1, 0) := by decide +kernel
theorem cd_283_59 : zt_code zq_T 283 59 = some (.iload 4, 2, 0) := by decide +kernel
theorem cd_283_61 : zt_code zq_T 283 61 = some (.invokevirtual 96, 3, 0) := by decide +kernel
theorem cd_283_64 : zt_code zq_T 283 64 = some (.aload_n 0, 1, 0) := by decide +kernel
theorem cd_283_65 : zt_code zq_T 283 65 = some (.iload 5, 2, 0) := by decide +kernel
theorem cd_283_67 : zt_code zq_T 283 67 = some (.invokevirtual 96, 3, 0) := by decide +kernel
theorem cd_283_70 : zt_code zq_T 283 70 = some (.aload_n 0, 1, 0) := by decide +kernel
theorem cd_283_71 : zt_code zq_T 283 71 = some (.getfield 13, 3, 0) := by decide +kernel
theorem cd_283_74 : zt_code zq_T 283 74 = some (.ireturn, 1, 0) := by decide +kernel
theorem cd_284_0 : zt_code zq_T 284 0 = some (.iconst 0, 1, 0) := by decide +kernel
theorem cd_284_1 : zt_code zq_T 284 1 = some (.istore_n 1, 1, 0) := by decide +kernel
theorem cd_284_2 : zt_code zq_T 284 2 = some (.bipush (24), 2, 0) := by decide +kernel
theorem cd_284_4 : zt_code zq_T 284 4 = some (.istore_n 2, 1, 0) := by decide +kernel
theorem cd_284_5 : zt_code zq_T 284 5 = some (.iload_n 2, 1, 0) := by decide +kernel
theorem cd_284_6 : zt_code zq_T 284 6 = some (.ifCond .lt (22), 3, 0) := by decide +kernel
theorem cd_284_9 : zt_code zq_T 284 9 = some (.iload_n 0, 1, 0) := by decide +kernel
theorem cd_284_10 : zt_code zq_T 284 10 = some (.iload_n 2, 1, 0) := by decide +kernel
theorem cd_284_11 : zt_code zq_T 284 11 = some (.iushr, 1, 0) := by decide +kernel
theorem cd_284_12 : zt_code zq_T 284 12 = some (.sipush (255), 3, 0) := by decide +kernel
theorem cd_284_15 : zt_code zq_T 284 15 = some (.iand, 1, 0) := by decide +kernel
theorem cd_284_16 : zt_code zq_T 284 16 = some (.ifCond .eq (6), 3, 0) := by decide +kernel
theorem cd_284_19 : zt_code zq_T 284 19 = some (.iinc 1 (1), 3, 0) := by decide +kernel
theorem cd_284_22 : zt_code zq_T 284 22 = some (.iinc 2 (-8), 3, 0) := by decide +kernel
theorem cd_284_25 : zt_code zq_T 284 25 = some (.goto (-20), 3, 0) := by decide +kernel
theorem cd_284_28 : zt_code zq_T 284 28 = some (.iload_n 1, 1, 0) := by decide +kernel
theorem cd_284_29 : zt_code zq_T 284 29 = some (.ireturn, 1, 0) := by decide +kernel
theorem cd_285_0 : zt_code zq_T 285 0 = some (.bipush (24), 2, 0) := by decide +kernel
theorem cd_285_2 : zt_code zq_T 285 2 = some (.istore_n 2, 1, 0) := by decide +kernel
theorem cd_285_3 : zt_code zq_T 285 3 = some (.iload_n 2, 1, 0) := by decide +kernel
theorem cd_285_4 : zt_code zq_T 285 4 = some (.ifCond .lt (51), 3, 0) := by decide +kernel
theorem cd_285_7 : zt_code zq_T 285 7 = some (.iload_n 1, 1, 0) := by decide +kernel
theorem cd_285_8 : zt_code zq_T 285 8 = some (.iload_n 2, 1, 0) := by decide +kernel
theorem cd_285_9 : zt_code zq_T 285 9 = some (.iushr, 1, 0) := by decide +kernel
theorem cd_285_10 : zt_code zq_T 285 10 = some (.sipush (255), 3, 0) := by decide +kernel
theorem cd_285_13 : zt_code zq_T 285 13 = some (.iand, 1, 0) := by decide +kernel
theorem cd_285_14 : zt_code zq_T 285 14 = some (.istore_n 3, 1, 0) := by decide +kernel
theorem cd_285_15 : zt_code zq_T 285 15 = some (.iload_n 3, 1, 0) := by decide +kernel
theorem cd_285_16 : zt_code zq_T 285 16 = some (.ifCond .eq (33), 3, 0) := by decide +kernel
theorem cd_285_19 : zt_code zq_T 285 19 = some (.aload_n 0, 1, 0) := by decide +kernel
theorem cd_285_20 : zt_code zq_T 285 20 = some (.getfield 13, 3, 0) := by decide +kernel
theorem cd_285_23 : zt_code zq_T 285 23 = some (.sipush (400), 3, 0) := by decide +kernel
theorem cd_285_26 : zt_code zq_T 285 26 = some (.if_icmp .ge (23), 3, 0) := by decide +kernel
theorem cd_285_29 : zt_code zq_T 285 29 = some (.aload_n 0, 1, 0) := by decide +kernel
theorem cd_285_30 : zt_code zq_T 285 30 = some (.getfield 9, 3, 0) := by decide +kernel
theorem cd_285_33 : zt_code zq_T 285 33 = some (.aload_n 0, 1, 0) := by decide +kernel
theorem cd_285_34 : zt_code zq_T 285 34 = some (.getfield 13, 3, 0) := by decide +kernel
theorem cd_285_37 : zt_code zq_T 285 37 = some (.iload_n 3, 1, 0) := by decide +kernel
theorem cd_285_38 : zt_code zq_T 285 38 = some (.iastore, 1, 0) := by decide +kernel
theorem cd_285_39 : zt_code zq_T 285 39 = some (.aload_n 0, 1, 0) := by decide +kernel
theorem cd_285_40 : zt_code zq_T 285 40 = some (.dup, 1, 0) := by decide +kernel
theorem cd_285_41 : zt_code zq_T 285 41 = some (.getfield 13, 3, 0) := by decide +kernel
theorem cd_285_44 : zt_code zq_T 285 44 = some (.iconst 1, 1, 0) := by decide +kernel
theorem cd_285_45 : zt_code zq_T 285 45 = some (.iadd, 1, 0) := by decide +kernel
theorem cd_285_46 : zt_code zq_T 285 46 = some (.putfield 13, 3, 0) := by decide +kernel
theorem cd_285_49 : zt_code zq_T 285 49 = some (.iinc 2 (-8), 3, 0) := by decide +kernel
theorem cd_285_52 : zt_code zq_T 285 52 = some (.goto (-49), 3, 0) := by decide +kernel
theorem cd_285_55 : zt_code zq_T 285 55 = some (.return_, 1, 0) := by decide +kernel
theorem cd_286_0 : zt_code zq_T 286 0 = some (.iload_n 1, 1, 0) := by decide +kernel
theorem cd_286_1 : zt_code zq_T 286 1 = some (.ifCond .lt (11), 3, 0) := by decide +kernel
theorem cd_286_4 : zt_code zq_T 286 4 = some (.iload_n 1, 1, 0) := by decide +kernel
theorem cd_286_5 : zt_code zq_T 286 5 = some (.aload_n 0, 1, 0) := by decide +kernel
theorem cd_286_6 : zt_code zq_T 286 6 = some (.getfield 13, 3, 0) := by decide +kernel
theorem cd_286_9 : zt_code zq_T 286 9 = some (.if_icmp .le (5), 3, 0) := by decide +kernel
theorem cd_286_12 : zt_code zq_T 286 12 = some (.iconst 0, 1, 0) := by decide +kernel
theorem cd_286_13 : zt_code zq_T 286 13 = some (.ireturn, 1, 0) := by decide +kernel
theorem cd_286_14 : zt_code zq_T 286 14 = some (.aload_n 0, 1, 0) := by decide +kernel
theorem cd_286_15 : zt_code zq_T 286 15 = some (.iload_n 1, 1, 0) := by decide +kernel
theorem cd_286_16 : zt_code zq_T 286 16 = some (.putfield 13, 3, 0) := by decide +kernel
theorem cd_286_19 : zt_code zq_T 286 19 = some (.iconst 1, 1, 0) := by decide +kernel
theorem cd_286_20 : zt_code zq_T 286 20 = some (.ireturn, 1, 0) := by decide +kernel
theorem cd_287_0 : zt_code zq_T 287 0 = some (.iload_n 1, 1, 0) := by decide +kernel
theorem cd_287_1 : zt_code zq_T 287 1 = some (.ifCond .ne (19), 3, 0) := by decide +kernel
theorem cd_287_4 : zt_code zq_T 287 4 = some (.aload_n 0, 1, 0) := by decide +kernel
theorem cd_287_5 : zt_code zq_T 287 5 = some (.getfield 24, 3, 0) := by decide +kernel
theorem cd_287_8 : zt_code zq_T 287 8 = some (.aload_n 0, 1, 0) := by decide +kernel
theorem cd_287_9 : zt_code zq_T 287 9 = some (.getfield 9, 3, 0) := by decide +kernel
theorem cd_287_12 : zt_code zq_T 287 12 = some (.aload_n 0, 1, 0) := by decide +kernel
theorem cd_287_13 : zt_code zq_T 287 13 = some (.getfield 13, 3, 0) := by decide +kernel
theorem cd_287_16 : zt_code zq_T 287 16 = some (.invokevirtual 100, 3, 0) := by decide +kernel
theorem cd_287_19 : zt_code zq_T 287 19 = some (.ireturn, 1, 0) := by decide +kernel
theorem cd_287_20 : zt_code zq_T 287 20 = some (.iload_n 1, 1, 0) := by decide +kernel
theorem cd_287_21 : zt_code zq_T 287 21 = some (.iconst 1, 1, 0) := by decide +kernel
theorem cd_287_22 : zt_code zq_T 287 22 = some (.if_icmp .ne (19), 3, 0) := by decide +kernel
theorem cd_287_25 : zt_code zq_T 287 25 = some (.aload_n 0, 1, 0) := by decide +kernel
theorem cd_287_26 : zt_code zq_T 287 26 = some (.getfield 34, 3, 0) := by decide +kernel
theorem cd_287_29 : zt_code zq_T 287 29 = some (.aload_n 0, 1, 0) := by decide +kernel
theorem cd_287_30 : zt_code zq_T 287 30 = some (.getfield 9, 3, 0) := by decide +kernel
theorem cd_287_33 : zt_code zq_T 287 33 = some (.aload_n 0, 1, 0) := by decide +kernel
theorem cd_287_34 : zt_code zq_T 287 34 = some (.getfield 13, 3, 0) := by decide +kernel
theorem cd_287_37 : zt_code zq_T 287 37 = some (.invokevirtual 104, 3, 0) := by decide +kernel
theorem cd_287_40 : zt_code zq_T 287 40 = some (.ireturn, 1, 0) := by decide +kernel
theorem cd_287_41 : zt_code zq_T 287 41 = some (.bipush (-2), 2, 0) := by decide +kernel
theorem cd_287_43 : zt_code zq_T 287 43 = some (.ireturn, 1, 0) := by decide +kernel
theorem cd_288_0 : zt_code zq_T 288 0 = some (.aload_n 0, 1, 0) := by decide +kernel
theorem cd_288_1 : zt_code zq_T 288 1 = some (.getfield 24, 3, 0) := by decide +kernel
theorem cd_288_4 : zt_code zq_T 288 4 = some (.aload_n 0, 1, 0) := by decide +kernel
theorem cd_288_5 : zt_code zq_T 288 5 = some (.getfield 9, 3, 0) := by decide +kernel
theorem cd_288_8 : zt_code zq_T 288 8 = some (.aload_n 0, 1, 0) := by decide +kernel
theorem cd_288_9 : zt_code zq_T 288 9 = some (.getfield 13, 3, 0) := by decide +kernel
theorem cd_288_12 : zt_code zq_T 288 12 = some (.invokevirtual 100, 3, 0) := by decide +kernel
theorem cd_288_15 : zt_code zq_T 288 15 = some (.iconst (-1), 1, 0) := by decide +kernel
theorem cd_288_16 : zt_code zq_T 288 16 = some (.if_icmp .eq (5), 3, 0) := by decide +kernel
theorem cd_288_19 : zt_code zq_T 288 19 = some (.iconst (-1), 1, 0) := by decide +kernel
theorem cd_288_20 : zt_code zq_T 288 20 = some (.ireturn, 1, 0) := by decide +kernel
theorem cd_288_21 : zt_code zq_T 288 21 = some (.aload_n 0, 1, 0) := by decide +kernel
theorem cd_288_22 : zt_code zq_T 288 22 = some (.getfield 20, 3, 0) := by decide +kernel
theorem cd_288_25 : zt_code zq_T 288 25 = some (.astore_n 1, 1, 0) := by decide +kernel
theorem cd_288_26 : zt_code zq_T 288 26 = some (.aload_n 0, 1, 0) := by decide +kernel
theorem cd_288_27 : zt_code zq_T 288 27 = some (.aload_n 0, 1, 0) := by decide +kernel
theorem cd_288_28 : zt_code zq_T 288 28 = some (.getfield 24, 3, 0) := by decide +kernel
theorem cd_288_31 : zt_code zq_T 288 31 = some (.putfield 20, 3, 0) := by decide +kernel
theorem cd_288_34 : zt_code zq_T 288 34 = some (.aload_n 0, 1, 0) := by decide +kernel
theorem cd_288_35 : zt_code zq_T 288 35 = some (.aload_n 1, 1, 0) := by decide +kernel
theorem cd_288_36 : zt_code zq_T 288 36 = some (.putfield 24, 3, 0) := by decide +kernel
theorem cd_288_39 : zt_code zq_T 288 39 = some (.aload_n 0, 1, 0) := by decide +kernel
theorem cd_288_40 : zt_code zq_T 288 40 = some (.iconst 0, 1, 0) := by decide +kernel
theorem cd_288_41 : zt_code zq_T 288 41 = some (.putfield 13, 3, 0) := by decide +kernel
theorem cd_288_44 : zt_code zq_T 288 44 = some (.aload_n 0, 1, 0) := by decide +kernel
theorem cd_288_45 : zt_code zq_T 288 45 = some (.getfield 78, 3, 0) := by decide +kernel
theorem cd_288_48 : zt_code zq_T 288 48 = some (.invokevirtual 105, 3, 0) := by decide +kernel
theorem cd_288_51 : zt_code zq_T 288 51 = some (.iconst 0, 1, 0) := by decide +kernel
theorem cd_288_52 : zt_code zq_T 288 52 = some (.istore_n 2, 1, 0) := by decide +kernel
theorem cd_288_53 : zt_code zq_T 288 53 = some (.iload_n 2, 1, 0) := by decide +kernel
theorem cd_288_54 : zt_code zq_T 288 54 = some (.aload_n 0, 1, 0) := by decide +kernel
theorem cd_288_55 : zt_code zq_T 288 55 = some (.getfield 20, 3, 0) := by decide +kernel
theorem cd_288_58 : zt_code zq_T 288 58 = some (.getfield 108, 3, 0) := by decide +kernel
theorem cd_288_61 : zt_code zq_T 288 61 = some (.if_icmp .ge (41), 3, 0) := by decide +kernel
theorem cd_288_64 : zt_code zq_T 288 64 = some (.aload_n 0, 1, 0) := by decide +kernel
theorem cd_288_65 : zt_code zq_T 288 65 = some (.getfield 40, 3, 0) := by decide +kernel
theorem cd_288_68 : zt_code zq_T 288 68 = some (.aload_n 0, 1, 0) := by decide +kernel
theorem cd_288_69 : zt_code zq_T 288 69 = some (.getfield 20, 3, 0) := by decide +kernel
theorem cd_288_72 : zt_code zq_T 288 72 = some (.getfield 111, 3, 0) := by decide +kernel
theorem cd_288_75 : zt_code zq_T 288 75 = some (.iload_n 2, 1, 0) := by decide +kernel
theorem cd_288_76 : zt_code zq_T 288 76 = some (.aaload, 1, 0) := by decide +kernel
theorem cd_288_77 : zt_code zq_T 288 77 = some (.invokevirtual 115, 3, 0) := by decide +kernel
theorem cd_288_80 : zt_code zq_T 288 80 = some (.aload_n 0, 1, 0) := by decide +kernel
theorem cd_288_81 : zt_code zq_T 288 81 = some (.getfield 47, 3, 0) := by decide +kernel
theorem cd_288_84 : zt_code zq_T 288 84 = some (.aload_n 0, 1, 0) := by decide +kernel
theorem cd_288_85 : zt_code zq_T 288 85 = some (.getfield 20, 3, 0) := by decide +kernel
theorem cd_288_88 : zt_code zq_T 288 88 = some (.getfield 111, 3, 0) := by decide +kernel
theorem cd_288_91 : zt_code zq_T 288 91 = some (.iload_n 2, 1, 0) := by decide +kernel
theorem cd_288_92 : zt_code zq_T 288 92 = some (.aaload, 1, 0) := by decide +kernel
theorem cd_288_93 : zt_code zq_T 288 93 = some (.invokevirtual 119, 3, 0) := by decide +kernel
theorem cd_288_96 : zt_code zq_T 288 96 = some (.iinc 2 (1), 3, 0) := by decide +kernel
theorem cd_288_99 : zt_code zq_T 288 99 = some (.goto (-46), 3, 0) := by decide +kernel
theorem cd_288_102 : zt_code zq_T 288 102 = some (.aload_n 0, 1, 0) := by decide +kernel
theorem cd_288_103 : zt_code zq_T 288 103 = some (.invokevirtual 122, 3, 0) := by decide +kernel
theorem cd_288_106 : zt_code zq_T 288 106 = some (.aload_n 0, 1, 0) := by decide +kernel
theorem cd_288_107 : zt_code zq_T 288 107 = some (.getfield 20, 3, 0) := by decide +kernel
theorem cd_288_110 : zt_code zq_T 288 110 = some (.getfield 108, 3, 0) := by decide +kernel
theorem cd_288_113 : zt_code zq_T 288 113 = some (.ireturn, 1, 0) := by decide +kernel
theorem cd_289_0 : zt_code zq_T 289 0 = some (.aload_n 0, 1, 0) := by decide +kernel
theorem cd_289_1 : zt_code zq_T 289 1 = some (.getfield 34, 3, 0) := by decide +kernel
theorem cd_289_4 : zt_code zq_T 289 4 = some (.aload_n 0, 1, 0) := by decide +kernel
theorem cd_289_5 : zt_code zq_T 289 5 = some (.getfield 9, 3, 0) := by decide +kernel
theorem cd_289_8 : zt_code zq_T 289 8 = some (.aload_n 0, 1, 0) := by decide +kernel
theorem cd_289_9 : zt_code zq_T 289 9 = some (.getfield 13, 3, 0) := by decide +kernel
theorem cd_289_12 : zt_code zq_T 289 12 = some (.invokevirtual 104, 3, 0) := by decide +kernel
theorem cd_289_15 : zt_code zq_T 289 15 = some (.iconst (-1), 1, 0) := by decide +kernel
theorem cd_289_16 : zt_code zq_T 289 16 = some (.if_icmp .eq (5), 3, 0) := by decide +kernel
theorem cd_289_19 : zt_code zq_T 289 19 = some (.iconst (-1), 1, 0) := by decide +kernel
theorem cd_289_20 : zt_code zq_T 289 20 = some (.ireturn, 1, 0) := by decide +kernel
theorem cd_289_21 : zt_code zq_T 289 21 = some (.aload_n 0, 1, 0) := by decide +kernel
theorem cd_289_22 : zt_code zq_T 289 22 = some (.getfield 30, 3, 0) := by decide +kernel
theorem cd_289_25 : zt_code zq_T 289 25 = some (.astore_n 1, 1, 0) := by decide +kernel
theorem cd_289_26 : zt_code zq_T 289 26 = some (.aload_n 0, 1, 0) := by decide +kernel
theorem cd_289_27 : zt_code zq_T 289 27 = some (.aload_n 0, 1, 0) := by decide +kernel
theorem cd_289_28 : zt_code zq_T 289 28 = some (.getfield 34, 3, 0) := by decide +kernel
theorem cd_289_31 : zt_code zq_T 289 31 = some (.putfield 30, 3, 0) := by decide +kernel
theorem cd_289_34 : zt_code zq_T 289 34 = some (.aload_n 0, 1, 0) := by decide +kernel
theorem cd_289_35 : zt_code zq_T 289 35 = some (.aload_n 1, 1, 0) := by decide +kernel
theorem cd_289_36 : zt_code zq_T 289 36 = some (.putfield 34, 3, 0) := by decide +kernel
theorem cd_289_39 : zt_code zq_T 289 39 = some (.aload_n 0, 1, 0) := by decide +kernel
theorem cd_289_40 : zt_code zq_T 289 40 = some (.iconst 0, 1, 0) := by decide +kernel
theorem cd_289_41 : zt_code zq_T 289 41 = some (.putfield 13, 3, 0) := by decide +kernel
theorem cd_289_44 : zt_code zq_T 289 44 = some (.aload_n 0, 1, 0) := by decide +kernel
theorem cd_289_45 : zt_code zq_T 289 45 = some (.getfield 30, 3, 0) := by decide +kernel
theorem cd_289_48 : zt_code zq_T 289 48 = some (.aload_n 0, 1, 0) := by decide +kernel
theorem cd_289_49 : zt_code zq_T 289 49 = some (.getfield 20, 3, 0) := by decide +kernel
theorem cd_289_52 : zt_code zq_T 289 52 = some (.aload_n 0, 1, 0) := by decide +kernel
theorem cd_289_53 : zt_code zq_T 289 53 = some (.getfield 71, 3, 0) := by decide +kernel
theorem cd_289_56 : zt_code zq_T 289 56 = some (.invokevirtual 125, 3, 0) := by decide +kernel
theorem cd_289_59 : zt_code zq_T 289 59 = some (.aload_n 0, 1, 0) := by decide +kernel
theorem cd_289_60 : zt_code zq_T 289 60 = some (.getfield 30, 3, 0) := by decide +kernel
theorem cd_289_63 : zt_code zq_T 289 63 = some (.getfield 129, 3, 0) := by decide +kernel
theorem cd_289_66 : zt_code zq_T 289 66 = some (.ireturn, 1, 0) := by decide +kernel
theorem cd_290_0 : zt_code zq_T 290 0 = some (.aload_n 0, 1, 0) := by decide +kernel
theorem cd_290_1 : zt_code zq_T 290 1 = some (.getfield 61, 3, 0) := by decide +kernel
theorem cd_290_4 : zt_code zq_T 290 4 = some (.invokevirtual 130, 3, 0) := by decide +kernel
theorem cd_290_7 : zt_code zq_T 290 7 = some (.aload_n 0, 1, 0) := by decide +kernel
theorem cd_290_8 : zt_code zq_T 290 8 = some (.getfield 65, 3, 0) := by decide +kernel
theorem cd_290_11 : zt_code zq_T 290 11 = some (.invokevirtual 130, 3, 0) := by decide +kernel
theorem cd_290_14 : zt_code zq_T 290 14 = some (.aload_n 0, 1, 0) := by decide +kernel
theorem cd_290_15 : zt_code zq_T 290 15 = some (.getfield 85, 3, 0) := by decide +kernel
theorem cd_290_18 : zt_code zq_T 290 18 = some (.invokevirtual 131, 3, 0) := by decide +kernel
theorem cd_290_21 : zt_code zq_T 290 21 = some (.aload_n 0, 1, 0) := by decide +kernel
theorem cd_290_22 : zt_code zq_T 290 22 = some (.iconst (-1), 1, 0) := by decide +kernel
theorem cd_290_23 : zt_code zq_T 290 23 = some (.putfield 89, 3, 0) := by decide +kernel
theorem cd_290_26 : zt_code zq_T 290 26 = some (.aload_n 0, 1, 0) := by decide +kernel
theorem cd_290_27 : zt_code zq_T 290 27 = some (.getfield 78, 3, 0) := by decide +kernel
theorem cd_290_30 : zt_code zq_T 290 30 = some (.iconst 0, 1, 0) := by decide +kernel
theorem cd_290_31 : zt_code zq_T 290 31 = some (.putfield 132, 3, 0) := by decide +kernel
theorem cd_290_34 : zt_code zq_T 290 34 = some (.aload_n 0, 1, 0) := by decide +kernel
theorem cd_290_35 : zt_code zq_T 290 35 = some (.getfield 30, 3, 0) := by decide +kernel
theorem cd_290_38 : zt_code zq_T 290 38 = some (.aload_n 0, 1, 0) := by decide +kernel
theorem cd_290_39 : zt_code zq_T 290 39 = some (.getfield 20, 3, 0) := by decide +kernel
theorem cd_290_42 : zt_code zq_T 290 42 = some (.aload_n 0, 1, 0) := by decide +kernel
theorem cd_290_43 : zt_code zq_T 290 43 = some (.getfield 71, 3, 0) := by decide +kernel
theorem cd_290_46 : zt_code zq_T 290 46 = some (.invokevirtual 125, 3, 0) := by decide +kernel
theorem cd_290_49 : zt_code zq_T 290 49 = some (.return_, 1, 0) := by decide +kernel
theorem cd_291_0 : zt_code zq_T 291 0 = some (.iload_n 1, 1, 0) := by decide +kernel
theorem cd_291_1 : zt_code zq_T 291 1 = some (.ifCond .lt (26), 3, 0) := by decide +kernel
theorem cd_291_4 : zt_code zq_T 291 4 = some (.iload_n 1, 1, 0) := by decide +kernel
theorem cd_291_5 : zt_code zq_T 291 5 = some (.aload_n 0, 1, 0) := by decide +kernel
theorem cd_291_6 : zt_code zq_T 291 6 = some (.getfield 20, 3, 0) := by decide +kernel
theorem cd_291_9 : zt_code zq_T 291 9 = some (.getfield 108, 3, 0) := by decide +kernel
theorem cd_291_12 : zt_code zq_T 291 12 = some (.if_icmp .ge (15), 3, 0) := by decide +kernel
theorem cd_291_15 : zt_code zq_T 291 15 = some (.aload_n 0, 1, 0) := by decide +kernel
theorem cd_291_16 : zt_code zq_T 291 16 = some (.getfield 20, 3, 0) := by decide +kernel
theorem cd_291_19 : zt_code zq_T 291 19 = some (.getfield 111, 3, 0) := by decide +kernel
theorem cd_291_22 : zt_code zq_T 291 22 = some (.iload_n 1, 1, 0) := by decide +kernel
theorem cd_291_23 : zt_code zq_T 291 23 = some (.aaload, 1, 0) := by decide +kernel
theorem cd_291_24 : zt_code zq_T 291 24 = some (.goto (4), 3, 0) := by decide +kernel
theorem cd_291_27 : zt_code zq_T 291 27 = some (.aconst_null, 1, 5) := by decide +kernel
theorem cd_291_28 : zt_code zq_T 291 28 = some (.areturn, 1, 0) := by decide +kernel
theorem cd_292_0 : zt_code zq_T 292 0 = some (.iload_n 0, 1, 0) := by decide +kernel
theorem cd_292_1 : zt_code zq_T 292 1 = some (.ifCond .eq (7), 3, 0) := by decide +kernel
theorem cd_292_4 : zt_code zq_T 292 4 = some (.iconst 1, 1, 0) := by decide +kernel
theorem cd_292_5 : zt_code zq_T 292 5 = some (.goto (4), 3, 0) := by decide +kernel
theorem cd_292_8 : zt_code zq_T 292 8 = some (.iconst 0, 1, 0) := by decide +kernel
theorem cd_292_9 : zt_code zq_T 292 9 = some (.ireturn, 1, 0) := by decide +kernel
theorem cd_293_0 : zt_code zq_T 293 0 = some (.aload_n 0, 1, 0) := by decide +kernel
theorem cd_293_1 : zt_code zq_T 293 1 = some (.iload_n 1, 1, 0) := by decide +kernel
theorem cd_293_2 : zt_code zq_T 293 2 = some (.invokevirtual 136, 3, 0) := by decide +kernel
theorem cd_293_5 : zt_code zq_T 293 5 = some (.astore_n 3, 1, 0) := by decide +kernel
theorem cd_293_6 : zt_code zq_T 293 6 = some (.aload_n 3, 1, 0) := by decide +kernel
theorem cd_293_7 : zt_code zq_T 293 7 = some (.ifnull (10), 3, 0) := by decide +kernel
theorem cd_293_10 : zt_code zq_T 293 10 = some (.aload_n 3, 1, 0) := by decide +kernel
theorem cd_293_11 : zt_code zq_T 293 11 = some (.getfield 140, 3, 0) := by decide +kernel
theorem cd_293_14 : zt_code zq_T 293 14 = some (.ifnonnull (13), 3, 0) := by decide +kernel
theorem cd_293_27 : zt_code zq_T 293 27 = some (.iload_n 2, 1, 0) := by decide +kernel
theorem cd_293_28 : zt_code zq_T 293 28 = some (.tableswitch (140) (0) (10) #[60, 65, 70, 75, 80, 91, 99, 107, 112, 120, 128], 60, 0) := by decide +kernel
theorem cd_293_88 : zt_code zq_T 293 88 = some (.aload_n 3, 1, 0) := by decide +kernel
theorem cd_293_89 : zt_code zq_T 293 89 = some (.getfield 153, 3, 0) := by decide +kernel
theorem cd_293_92 : zt_code zq_T 293 92 = some (.ireturn, 1, 0) := by decide +kernel
theorem cd_293_93 : zt_code zq_T 293 93 = some (.aload_n 3, 1, 0) := by decide +kernel
theorem cd_293_94 : zt_code zq_T 293 94 = some (.getfield 156, 3, 0) := by decide +kernel
theorem cd_293_97 : zt_code zq_T 293 97 = some (.ireturn, 1, 0) := by decide +kernel
theorem cd_293_98 : zt_code zq_T 293 98 = some (.aload_n 3, 1, 0) := by decide +kernel
theorem cd_293_99 : zt_code zq_T 293 99 = some (.getfield 159, 3, 0) := by decide +kernel
theorem cd_293_102 : zt_code zq_T 293 102 = some (.ireturn, 1, 0) := by decide +kernel
theorem cd_293_103 : zt_code zq_T 293 103 = some (.aload_n 3, 1, 0) := by decide +kernel
theorem cd_293_104 : zt_code zq_T 293 104 = some (.getfield 162, 3, 0) := by decide +kernel
theorem cd_293_107 : zt_code zq_T 293 107 = some (.ireturn, 1, 0) := by decide +kernel
theorem cd_293_108 : zt_code zq_T 293 108 = some (.aload_n 3, 1, 0) := by decide +kernel
theorem cd_293_109 : zt_code zq_T 293 109 = some (.getfield 140, 3, 0) := by decide +kernel
theorem cd_293_112 : zt_code zq_T 293 112 = some (.getfield 165, 3, 0) := by decide +kernel
theorem cd_293_115 : zt_code zq_T 293 115 = some (.invokestatic 170, 3, 0) := by decide +kernel
theorem cd_293_118 : zt_code zq_T 293 118 = some (.ireturn, 1, 0) := by decide +kernel
theorem cd_293_119 : zt_code zq_T 293 119 = some (.aload_n 3, 1, 0) := by decide +kernel
theorem cd_293_120 : zt_code zq_T 293 120 = some (.getfield 174, 3, 0) := by decide +kernel
theorem cd_293_123 : zt_code zq_T 293 123 = some (.invokestatic 170, 3, 0) := by decide +kernel
theorem cd_293_126 : zt_code zq_T 293 126 = some (.ireturn, 1, 0) := by decide +kernel
theorem cd_293_127 : zt_code zq_T 293 127 = some (.aload_n 3, 1, 0) := by decide +kernel
theorem cd_293_128 : zt_code zq_T 293 128 = some (.getfield 177, 3, 0) := by decide +kernel
theorem cd_293_131 : zt_code zq_T 293 131 = some (.invokestatic 170, 3, 0) := by decide +kernel
theorem cd_293_134 : zt_code zq_T 293 134 = some (.ireturn, 1, 0) := by decide +kernel
theorem cd_293_135 : zt_code zq_T 293 135 = some (.aload_n 3, 1, 0) := by decide +kernel
theorem cd_293_136 : zt_code zq_T 293 136 = some (.getfield 180, 3, 0) := by decide +kernel
theorem cd_293_139 : zt_code zq_T 293 139 = some (.ireturn, 1, 0) := by decide +kernel
theorem cd_293_140 : zt_code zq_T 293 140 = some (.aload_n 3, 1, 0) := by decide +kernel
theorem cd_293_141 : zt_code zq_T 293 141 = some (.getfield 140, 3, 0) := by decide +kernel
theorem cd_293_144 : zt_code zq_T 293 144 = some (.getfield 183, 3, 0) := by decide +kernel
theorem cd_293_147 : zt_code zq_T 293 147 = some (.ireturn, 1, 0) := by decide +kernel
theorem cd_293_148 : zt_code zq_T 293 148 = some (.aload_n 3, 1, 0) := by decide +kernel
theorem cd_293_149 : zt_code zq_T 293 149 = some (.getfield 140, 3, 0) := by decide +kernel
theorem cd_293_152 : zt_code zq_T 293 152 = some (.getfield 186, 3, 0) := by decide +kernel
theorem cd_293_155 : zt_code zq_T 293 155 = some (.ireturn, 1, 0) := by decide +kernel
theorem cd_293_156 : zt_code zq_T 293 156 = some (.aload_n 3, 1, 0) := by decide +kernel
theorem cd_293_157 : zt_code zq_T 293 157 = some (.aload_n 3, 1, 0) := by decide +kernel
theorem cd_293_158 : zt_code zq_T 293 158 = some (.getfield 140, 3, 0) := by decide +kernel
theorem cd_293_161 : zt_code zq_T 293 161 = some (.getfield 189, 3, 0) := by decide +kernel
theorem cd_293_164 : zt_code zq_T 293 164 = some (.invokevirtual 192, 3, 0) := by decide +kernel
theorem cd_293_167 : zt_code zq_T 293 167 = some (.ireturn, 1, 0) := by decide +kernel
theorem cd_294_0 : zt_code zq_T 294 0 = some (.aload_n 0, 1, 0) := by decide +kernel
theorem cd_294_1 : zt_code zq_T 294 1 = some (.iload_n 1, 1, 0) := by decide +kernel
theorem cd_294_2 : zt_code zq_T 294 2 = some (.invokevirtual 136, 3, 0) := by decide +kernel
theorem cd_294_5 : zt_code zq_T 294 5 = some (.astore 4, 2, 0) := by decide +kernel
theorem cd_294_7 : zt_code zq_T 294 7 = some (.aload 4, 2, 0) := by decide +kernel
theorem cd_294_9 : zt_code zq_T 294 9 = some (.ifnull (24), 3, 0) := by decide +kernel
theorem cd_294_12 : zt_code zq_T 294 12 = some (.aload 4, 2, 0) := by decide +kernel
theorem cd_294_14 : zt_code zq_T 294 14 = some (.getfield 140, 3, 0) := by decide +kernel
theorem cd_294_17 : zt_code zq_T 294 17 = some (.ifnull (16), 3, 0) := by decide +kernel
theorem cd_294_20 : zt_code zq_T 294 20 = some (.iload_n 2, 1, 0) := by decide +kernel
theorem cd_294_21 : zt_code zq_T 294 21 = some (.ifCond .lt (12), 3, 0) := by decide +kernel
theorem cd_294_24 : zt_code zq_T 294 24 = some (.iload_n 2, 1, 0) := by decide +kernel
theorem cd_294_25 : zt_code zq_T 294 25 = some (.aload 4, 2, 0) := by decide +kernel
theorem cd_294_27 : zt_code zq_T 294 27 = some (.getfield 156, 3, 0) := by decide +kernel
theorem cd_294_30 : zt_code zq_T 294 30 = some (.if_icmp .lt (6), 3, 0) := by decide +kernel
theorem cd_294_33 : zt_code zq_T 294 33 = some (.bipush (-2), 2, 0) := by decide +kernel
theorem cd_294_35 : zt_code zq_T 294 35 = some (.ireturn, 1, 0) := by decide +kernel
theorem cd_294_36 : zt_code zq_T 294 36 = some (.iload_n 3, 1, 0) := by decide +kernel
theorem cd_294_37 : zt_code zq_T 294 37 = some (.tableswitch (111) (0) (6) #[43, 51, 64, 77, 88, 96, 104], 43, 0) := by decide +kernel
theorem cd_294_80 : zt_code zq_T 294 80 = some (.aload 4, 2, 0) := by decide +kernel
theorem cd_294_82 : zt_code zq_T 294 82 = some (.getfield 197, 3, 0) := by decide +kernel
theorem cd_294_85 : zt_code zq_T 294 85 = some (.iload_n 2, 1, 0) := by decide +kernel
theorem cd_294_86 : zt_code zq_T 294 86 = some (.iaload, 1, 0) := by decide +kernel
theorem cd_294_87 : zt_code zq_T 294 87 = some (.ireturn, 1, 0) := by decide +kernel
theorem cd_294_88 : zt_code zq_T 294 88 = some (.aload 4, 2, 0) := by decide +kernel
theorem cd_294_90 : zt_code zq_T 294 90 = some (.getfield 140, 3, 0) := by decide +kernel
theorem cd_294_93 : zt_code zq_T 294 93 = some (.getfield 200, 3, 0) := by decide +kernel
theorem cd_294_96 : zt_code zq_T 294 96 = some (.iload_n 2, 1, 0) := by decide +kernel
theorem cd_294_97 : zt_code zq_T 294 97 = some (.ishr, 1, 0) := by decide +kernel
theorem cd_294_98 : zt_code zq_T 294 98 = some (.iconst 1, 1, 0) := by decide +kernel
theorem cd_294_99 : zt_code zq_T 294 99 = some (.iand, 1, 0) := by decide +kernel
theorem cd_294_100 : zt_code zq_T 294 100 = some (.ireturn, 1, 0) := by decide +kernel
theorem cd_294_101 : zt_code zq_T 294 101 = some (.aload 4, 2, 0) := by decide +kernel
theorem cd_294_103 : zt_code zq_T 294 103 = some (.getfield 140, 3, 0) := by decide +kernel
theorem cd_294_106 : zt_code zq_T 294 106 = some (.getfield 203, 3, 0) := by decide +kernel
theorem cd_294_109 : zt_code zq_T 294 109 = some (.iload_n 2, 1, 0) := by decide +kernel
theorem cd_294_110 : zt_code zq_T 294 110 = some (.ishr, 1, 0) := by decide +kernel
theorem cd_294_111 : zt_code zq_T 294 111 = some (.iconst 1, 1, 0) := by decide +kernel
theorem cd_294_112 : zt_code zq_T 294 112 = some (.iand, 1, 0) := by decide +kernel
theorem cd_294_113 : zt_code zq_T 294 113 = some (.ireturn, 1, 0) := by decide +kernel
theorem cd_294_114 : zt_code zq_T 294 114 = some (.aload_n 0, 1, 0) := by decide +kernel
theorem cd_294_115 : zt_code zq_T 294 115 = some (.getfield 47, 3, 0) := by decide +kernel
theorem cd_294_118 : zt_code zq_T 294 118 = some (.aload 4, 2, 0) := by decide +kernel
theorem cd_294_120 : zt_code zq_T 294 120 = some (.iload_n 2, 1, 0) := by decide +kernel
theorem cd_294_121 : zt_code zq_T 294 121 = some (.invokevirtual 206, 3, 0) := by decide +kernel
theorem cd_294_124 : zt_code zq_T 294 124 = some (.ireturn, 1, 0) := by decide +kernel
theorem cd_294_125 : zt_code zq_T 294 125 = some (.aload 4, 2, 0) := by decide +kernel
theorem cd_294_127 : zt_code zq_T 294 127 = some (.getfield 210, 3, 0) := by decide +kernel
theorem cd_294_130 : zt_code zq_T 294 130 = some (.iload_n 2, 1, 0) := by decide +kernel
theorem cd_294_131 : zt_code zq_T 294 131 = some (.iaload, 1, 0) := by decide +kernel
theorem cd_294_132 : zt_code zq_T 294 132 = some (.ireturn, 1, 0) := by decide +kernel
theorem cd_294_133 : zt_code zq_T 294 133 = some (.aload 4, 2, 0) := by decide +kernel
theorem cd_294_135 : zt_code zq_T 294 135 = some (.getfield 213, 3, 0) := by decide +kernel
theorem cd_294_138 : zt_code zq_T 294 138 = some (.iload_n 2, 1, 0) := by decide +kernel
theorem cd_294_139 : zt_code zq_T 294 139 = some (.iaload, 1, 0) := by decide +kernel
theorem cd_294_140 : zt_code zq_T 294 140 = some (.ireturn, 1, 0) := by decide +kernel
theorem cd_294_141 : zt_code zq_T 294 141 = some (.aload 4, 2, 0) := by decide +kernel
theorem cd_294_143 : zt_code zq_T 294 143 = some (.iload_n 2, 1, 0) := by decide +kernel
theorem cd_294_144 : zt_code zq_T 294 144 = some (.invokevirtual 216, 3, 0) := by decide +kernel
theorem cd_294_147 : zt_code zq_T 294 147 = some (.ireturn, 1, 0) := by decide +kernel
theorem cd_294_148 : zt_code zq_T 294 148 = some (.bipush (-2), 2, 0) := by decide +kernel
theorem cd_294_150 : zt_code zq_T 294 150 = some (.ireturn, 1, 0) := by decide +kernel
theorem cd_295_0 : zt_code zq_T 295 0 = some (.aload_n 0, 1, 0) := by decide +kernel
theorem cd_295_1 : zt_code zq_T 295 1 = some (.iload_n 1, 1, 0) := by decide +kernel
theorem cd_295_2 : zt_code zq_T 295 2 = some (.invokevirtual 136, 3, 0) := by decide +kernel
theorem cd_295_5 : zt_code zq_T 295 5 = some (.astore 4, 2, 0) := by decide +kernel
theorem cd_295_7 : zt_code zq_T 295 7 = some (.aload 4, 2, 0) := by decide +kernel
theorem cd_295_9 : zt_code zq_T 295 9 = some (.ifnull (16), 3, 0) := by decide +kernel
theorem cd_295_12 : zt_code zq_T 295 12 = some (.iload_n 2, 1, 0) := by decide +kernel
theorem cd_295_13 : zt_code zq_T 295 13 = some (.ifCond .lt (12), 3, 0) := by decide +kernel
theorem cd_295_16 : zt_code zq_T 295 16 = some (.iload_n 2, 1, 0) := by decide +kernel
theorem cd_295_17 : zt_code zq_T 295 17 = some (.aload 4, 2, 0) := by decide +kernel
theorem cd_295_19 : zt_code zq_T 295 19 = some (.getfield 159, 3, 0) := by decide +kernel
theorem cd_295_22 : zt_code zq_T 295 22 = some (.if_icmp .lt (6), 3, 0) := by decide +kernel
theorem cd_295_25 : zt_code zq_T 295 25 = some (.bipush (-2), 2, 0) := by decide +kernel
theorem cd_295_27 : zt_code zq_T 295 27 = some (.ireturn, 1, 0) := by decide +kernel
theorem cd_295_28 : zt_code zq_T 295 28 = some (.aload 4, 2, 0) := by decide +kernel
theorem cd_295_30 : zt_code zq_T 295 30 = some (.getfield 219, 3, 0) := by decide +kernel
theorem cd_295_33 : zt_code zq_T 295 33 = some (.iload_n 2, 1, 0) := by decide +kernel
theorem cd_295_34 : zt_code zq_T 295 34 = some (.aaload, 1, 0) := by decide +kernel
theorem cd_295_35 : zt_code zq_T 295 35 = some (.astore 5, 2, 0) := by decide +kernel
theorem cd_295_37 : zt_code zq_T 295 37 = some (.aload 5, 2, 0) := by decide +kernel
theorem cd_295_39 : zt_code zq_T 295 39 = some (.ifnull (11), 3, 0) := by decide +kernel
theorem cd_295_42 : zt_code zq_T 295 42 = some (.aload 5, 2, 0) := by decide +kernel
theorem cd_295_44 : zt_code zq_T 295 44 = some (.getfield 223, 3, 0) := by decide +kernel
theorem cd_295_47 : zt_code zq_T 295 47 = some (.ifnonnull (6), 3, 0) := by decide +kernel
theorem cd_295_50 : zt_code zq_T 295 50 = some (.bipush (-2), 2, 0) := by decide +kernel
theorem cd_295_52 : zt_code zq_T 295 52 = some (.ireturn, 1, 0) := by decide +kernel
theorem cd_295_53 : zt_code zq_T 295 53 = some (.iload_n 3, 1, 0) := by decide +kernel
theorem cd_295_54 : zt_code zq_T 295 54 = some (.tableswitch (77) (0) (4) #[34, 42, 50, 59, 65], 34, 0) := by decide +kernel
theorem cd_295_88 : zt_code zq_T 295 88 = some (.aload 4, 2, 0) := by decide +kernel
theorem cd_295_90 : zt_code zq_T 295 90 = some (.getfield 226, 3, 0) := by decide +kernel
theorem cd_295_93 : zt_code zq_T 295 93 = some (.iload_n 2, 1, 0) := by decide +kernel
theorem cd_295_94 : zt_code zq_T 295 94 = some (.iaload, 1, 0) := by decide +kernel
theorem cd_295_95 : zt_code zq_T 295 95 = some (.ireturn, 1, 0) := by decide +kernel
theorem cd_295_96 : zt_code zq_T 295 96 = some (.aload 4, 2, 0) := by decide +kernel
theorem cd_295_98 : zt_code zq_T 295 98 = some (.getfield 229, 3, 0) := by decide +kernel
theorem cd_295_101 : zt_code zq_T 295 101 = some (.iload_n 2, 1, 0) := by decide +kernel
theorem cd_295_102 : zt_code zq_T 295 102 = some (.iaload, 1, 0) := by decide +kernel
theorem cd_295_103 : zt_code zq_T 295 103 = some (.ireturn, 1, 0) := by decide +kernel
theorem cd_295_104 : zt_code zq_T 295 104 = some (.aload 5, 2, 0) := by decide +kernel
theorem cd_295_106 : zt_code zq_T 295 106 = some (.invokevirtual 232, 3, 0) := by decide +kernel
theorem cd_295_109 : zt_code zq_T 295 109 = some (.invokestatic 236, 3, 0) := by decide +kernel
theorem cd_295_112 : zt_code zq_T 295 112 = some (.ireturn, 1, 0) := by decide +kernel
theorem cd_295_113 : zt_code zq_T 295 113 = some (.aload 5, 2, 0) := by decide +kernel
theorem cd_295_115 : zt_code zq_T 295 115 = some (.getfield 189, 3, 0) := by decide +kernel
theorem cd_295_118 : zt_code zq_T 295 118 = some (.ireturn, 1, 0) := by decide +kernel
theorem cd_295_119 : zt_code zq_T 295 119 = some (.aload 5, 2, 0) := by decide +kernel
theorem cd_295_121 : zt_code zq_T 295 121 = some (.getfield 223, 3, 0) := by decide +kernel
theorem cd_295_124 : zt_code zq_T 295 124 = some (.getfield 165, 3, 0) := by decide +kernel
theorem cd_295_127 : zt_code zq_T 295 127 = some (.invokestatic 170, 3, 0) := by decide +kernel
theorem cd_295_130 : zt_code zq_T 295 130 = some (.ireturn, 1, 0) := by decide +kernel
theorem cd_295_131 : zt_code zq_T 295 131 = some (.bipush (-2), 2, 0) := by decide +kernel
theorem cd_295_133 : zt_code zq_T 295 133 = some (.ireturn, 1, 0) := by decide +kernel
theorem cd_296_0 : zt_code zq_T 296 0 = some (.aload_n 0, 1, 0) := by decide +kernel
theorem cd_296_1 : zt_code zq_T 296 1 = some (.iload_n 1, 1, 0) := by decide +kernel
theorem cd_296_2 : zt_code zq_T 296 2 = some (.invokevirtual 136, 3, 0) := by decide +kernel
theorem cd_296_5 : zt_code zq_T 296 5 = some (.astore 4, 2, 0) := by decide +kernel
theorem cd_296_7 : zt_code zq_T 296 7 = some (.aload 4, 2, 0) := by decide +kernel
theorem cd_296_9 : zt_code zq_T 296 9 = some (.ifnull (26), 3, 0) := by decide +kernel
theorem cd_296_12 : zt_code zq_T 296 12 = some (.iload_n 2, 1, 0) := by decide +kernel
theorem cd_296_13 : zt_code zq_T 296 13 = some (.ifCond .lt (22), 3, 0) := by decide +kernel
theorem cd_296_16 : zt_code zq_T 296 16 = some (.iload_n 2, 1, 0) := by decide +kernel
theorem cd_296_17 : zt_code zq_T 296 17 = some (.aload 4, 2, 0) := by decide +kernel
theorem cd_296_19 : zt_code zq_T 296 19 = some (.getfield 162, 3, 0) := by decide +kernel
theorem cd_296_22 : zt_code zq_T 296 22 = some (.if_icmp .ge (13), 3, 0) := by decide +kernel
theorem cd_296_25 : zt_code zq_T 296 25 = some (.aload 4, 2, 0) := by decide +kernel
theorem cd_296_27 : zt_code zq_T 296 27 = some (.getfield 240, 3, 0) := by decide +kernel
theorem cd_296_30 : zt_code zq_T 296 30 = some (.iload_n 2, 1, 0) := by decide +kernel
theorem cd_296_31 : zt_code zq_T 296 31 = some (.aaload, 1, 0) := by decide +kernel
theorem cd_296_32 : zt_code zq_T 296 32 = some (.ifnonnull (5), 3, 0) := by decide +kernel
theorem cd_296_35 : zt_code zq_T 296 35 = some (.iconst (-1), 1, 0) := by decide +kernel
theorem cd_296_36 : zt_code zq_T 296 36 = some (.ireturn, 1, 0) := by decide +kernel
theorem cd_296_37 : zt_code zq_T 296 37 = some (.iconst 0, 1, 0) := by decide +kernel
theorem cd_296_38 : zt_code zq_T 296 38 = some (.istore 5, 2, 0) := by decide +kernel
theorem cd_296_40 : zt_code zq_T 296 40 = some (.aload 4, 2, 0) := by decide +kernel
theorem cd_296_42 : zt_code zq_T 296 42 = some (.getfield 240, 3, 0) := by decide +kernel
theorem cd_296_45 : zt_code zq_T 296 45 = some (.iload_n 2, 1, 0) := by decide +kernel
theorem cd_296_46 : zt_code zq_T 296 46 = some (.aaload, 1, 0) := by decide +kernel
theorem cd_296_47 : zt_code zq_T 296 47 = some (.getfield 223, 3, 0) := by decide +kernel
theorem cd_296_50 : zt_code zq_T 296 50 = some (.astore 6, 2, 0) := by decide +kernel
theorem cd_296_52 : zt_code zq_T 296 52 = some (.aload 6, 2, 0) := by decide +kernel
theorem cd_296_54 : zt_code zq_T 296 54 = some (.ifnull (28), 3, 0) := by decide +kernel
theorem cd_296_57 : zt_code zq_T 296 57 = some (.iinc 5 (1), 3, 0) := by decide +kernel
theorem cd_296_60 : zt_code zq_T 296 60 = some (.iload 5, 2, 0) := by decide +kernel
theorem cd_296_62 : zt_code zq_T 296 62 = some (.iload_n 3, 1, 0) := by decide +kernel
theorem cd_296_63 : zt_code zq_T 296 63 = some (.if_icmp .ne (9), 3, 0) := by decide +kernel
theorem cd_296_66 : zt_code zq_T 296 66 = some (.aload 6, 2, 0) := by decide +kernel
theorem cd_296_68 : zt_code zq_T 296 68 = some (.getfield 189, 3, 0) := by decide +kernel
theorem cd_296_71 : zt_code zq_T 296 71 = some (.ireturn, 1, 0) := by decide +kernel
theorem cd_296_72 : zt_code zq_T 296 72 = some (.aload 6, 2, 0) := by decide +kernel
theorem cd_296_74 : zt_code zq_T 296 74 = some (.getfield 243, 3, 0) := by decide +kernel
theorem cd_296_77 : zt_code zq_T 296 77 = some (.astore 6, 2, 0) := by decide +kernel
theorem cd_296_79 : zt_code zq_T 296 79 = some (.goto (-27), 3, 0) := by decide +kernel
theorem cd_296_82 : zt_code zq_T 296 82 = some (.iload_n 3, 1, 0) := by decide +kernel
theorem cd_296_83 : zt_code zq_T 296 83 = some (.ifCond .ne (8), 3, 0) := by decide +kernel
theorem cd_296_86 : zt_code zq_T 296 86 = some (.iload 5, 2, 0) := by decide +kernel
theorem cd_296_88 : zt_code zq_T 296 88 = some (.goto (4), 3, 0) := by decide +kernel
theorem cd_296_91 : zt_code zq_T 296 91 = some (.iconst (-1), 1, 0) := by decide +kernel
theorem cd_296_92 : zt_code zq_T 296 92 = some (.ireturn, 1, 0) := by decide +kernel
theorem cd_297_0 : zt_code zq_T 297 0 = some (.iload_n 2, 1, 0) := by decide +kernel
theorem cd_297_1 : zt_code zq_T 297 1 = some (.ifCond .eq (10), 3, 0) := by decide +kernel
theorem cd_297_4 : zt_code zq_T 297 4 = some (.aload_n 0, 1, 0) := by decide +kernel
theorem cd_297_5 : zt_code zq_T 297 5 = some (.getfield 65, 3, 0) := by decide +kernel
theorem cd_297_8 : zt_code zq_T 297 8 = some (.goto (7), 3, 0) := by decide +kernel
theorem cd_297_11 : zt_code zq_T 297 11 = some (.aload_n 0, 1, 0) := by decide +kernel
theorem cd_297_12 : zt_code zq_T 297 12 = some (.getfield 61, 3, 0) := by decide +kernel
theorem cd_297_15 : zt_code zq_T 297 15 = some (.astore_n 3, 1, 0) := by decide +kernel
theorem cd_297_16 : zt_code zq_T 297 16 = some (.aload_n 0, 1, 0) := by decide +kernel
theorem cd_297_17 : zt_code zq_T 297 17 = some (.iload_n 1, 1, 0) := by decide +kernel
theorem cd_297_18 : zt_code zq_T 297 18 = some (.invokevirtual 136, 3, 0) := by decide +kernel
theorem cd_297_21 : zt_code zq_T 297 21 = some (.astore 4, 2, 0) := by decide +kernel
theorem cd_297_23 : zt_code zq_T 297 23 = some (.aload 4, 2, 0) := by decide +kernel
theorem cd_297_25 : zt_code zq_T 297 25 = some (.ifnonnull (5), 3, 0) := by decide +kernel
theorem cd_297_28 : zt_code zq_T 297 28 = some (.aconst_null, 1, 10) := by decide +kernel
theorem cd_297_29 : zt_code zq_T 297 29 = some (.areturn, 1, 0) := by decide +kernel
theorem cd_297_30 : zt_code zq_T 297 30 = some (.aload_n 3, 1, 0) := by decide +kernel
theorem cd_297_31 : zt_code zq_T 297 31 = some (.getfield 246, 3, 0) := by decide +kernel
theorem cd_297_34 : zt_code zq_T 297 34 = some (.iload_n 1, 1, 0) := by decide +kernel
theorem cd_297_35 : zt_code zq_T 297 35 = some (.if_icmp .eq (23), 3, 0) := by decide +kernel
theorem cd_297_38 : zt_code zq_T 297 38 = some (.aload_n 3, 1, 0) := by decide +kernel
theorem cd_297_39 : zt_code zq_T 297 39 = some (.aload 4, 2, 0) := by decide +kernel
theorem cd_297_41 : zt_code zq_T 297 41 = some (.iload_n 2, 1, 0) := by decide +kernel
theorem cd_297_42 : zt_code zq_T 297 42 = some (.aload_n 0, 1, 0) := by decide +kernel
theorem cd_297_43 : zt_code zq_T 297 43 = some (.getfield 47, 3, 0) := by decide +kernel
theorem cd_297_46 : zt_code zq_T 297 46 = some (.aload_n 0, 1, 0) := by decide +kernel
theorem cd_297_47 : zt_code zq_T 297 47 = some (.getfield 54, 3, 0) := by decide +kernel
theorem cd_297_50 : zt_code zq_T 297 50 = some (.invokevirtual 249, 3, 0) := by decide +kernel
theorem cd_297_53 : zt_code zq_T 297 53 = some (.aload_n 3, 1, 0) := by decide +kernel
theorem cd_297_54 : zt_code zq_T 297 54 = some (.iload_n 1, 1, 0) := by decide +kernel
theorem cd_297_55 : zt_code zq_T 297 55 = some (.putfield 246, 3, 0) := by decide +kernel
theorem cd_297_58 : zt_code zq_T 297 58 = some (.aload_n 3, 1, 0) := by decide +kernel
theorem cd_297_59 : zt_code zq_T 297 59 = some (.getfield 253, 3, 0) := by decide +kernel
theorem cd_297_62 : zt_code zq_T 297 62 = some (.ifCond .eq (7), 3, 0) := by decide +kernel
theorem cd_297_65 : zt_code zq_T 297 65 = some (.aload_n 3, 1, 0) := by decide +kernel
theorem cd_297_66 : zt_code zq_T 297 66 = some (.goto (4), 3, 0) := by decide +kernel
theorem cd_297_69 : zt_code zq_T 297 69 = some (.aconst_null, 1, 10) := by decide +kernel
theorem cd_297_70 : zt_code zq_T 297 70 = some (.areturn, 1, 0) := by decide +kernel
theorem cd_298_0 : zt_code zq_T 298 0 = some (.aload_n 0, 1, 0) := by decide +kernel
theorem cd_298_1 : zt_code zq_T 298 1 = some (.iload_n 1, 1, 0) := by decide +kernel
theorem cd_298_2 : zt_code zq_T 298 2 = some (.iload_n 2, 1, 0) := by decide +kernel
theorem cd_298_3 : zt_code zq_T 298 3 = some (.invokevirtual 256, 3, 0) := by decide +kernel
theorem cd_298_6 : zt_code zq_T 298 6 = some (.astore 4, 2, 0) := by decide +kernel
theorem cd_298_8 : zt_code zq_T 298 8 = some (.aload 4, 2, 0) := by decide +kernel
theorem cd_298_10 : zt_code zq_T 298 10 = some (.ifnonnull (7), 3, 0) := by decide +kernel
theorem cd_298_13 : zt_code zq_T 298 13 = some (.ldc_w 260, 3, 0) := by decide +kernel
theorem cd_298_16 : zt_code zq_T 298 16 = some (.ireturn, 1, 0) := by decide +kernel
theorem cd_298_17 : zt_code zq_T 298 17 = some (.iload_n 3, 1, 0) := by decide +kernel
theorem cd_298_18 : zt_code zq_T 298 18 = some (.tableswitch (86) (0) (5) #[38, 44, 53, 62, 71, 80], 38, 0) := by decide +kernel
theorem cd_298_56 : zt_code zq_T 298 56 = some (.aload 4, 2, 0) := by decide +kernel
theorem cd_298_58 : zt_code zq_T 298 58 = some (.getfield 261, 3, 0) := by decide +kernel
theorem cd_298_61 : zt_code zq_T 298 61 = some (.ireturn, 1, 0) := by decide +kernel
theorem cd_298_62 : zt_code zq_T 298 62 = some (.aload 4, 2, 0) := by decide +kernel
theorem cd_298_64 : zt_code zq_T 298 64 = some (.getfield 264, 3, 0) := by decide +kernel
theorem cd_298_67 : zt_code zq_T 298 67 = some (.invokestatic 267, 3, 0) := by decide +kernel
theorem cd_298_70 : zt_code zq_T 298 70 = some (.ireturn, 1, 0) := by decide +kernel
theorem cd_298_71 : zt_code zq_T 298 71 = some (.aload 4, 2, 0) := by decide +kernel
theorem cd_298_73 : zt_code zq_T 298 73 = some (.getfield 264, 3, 0) := by decide +kernel
theorem cd_298_76 : zt_code zq_T 298 76 = some (.invokestatic 270, 3, 0) := by decide +kernel
theorem cd_298_79 : zt_code zq_T 298 79 = some (.ireturn, 1, 0) := by decide +kernel
theorem cd_298_80 : zt_code zq_T 298 80 = some (.aload 4, 2, 0) := by decide +kernel
theorem cd_298_82 : zt_code zq_T 298 82 = some (.getfield 273, 3, 0) := by decide +kernel
theorem cd_298_85 : zt_code zq_T 298 85 = some (.invokestatic 267, 3, 0) := by decide +kernel
theorem cd_298_88 : zt_code zq_T 298 88 = some (.ireturn, 1, 0) := by decide +kernel
theorem cd_298_89 : zt_code zq_T 298 89 = some (.aload 4, 2, 0) := by decide +kernel
theorem cd_298_91 : zt_code zq_T 298 91 = some (.getfield 273, 3, 0) := by decide +kernel
theorem cd_298_94 : zt_code zq_T 298 94 = some (.invokestatic 270, 3, 0) := by decide +kernel
theorem cd_298_97 : zt_code zq_T 298 97 = some (.ireturn, 1, 0) := by decide +kernel
theorem cd_298_98 : zt_code zq_T 298 98 = some (.aload 4, 2, 0) := by decide +kernel
theorem cd_298_100 : zt_code zq_T 298 100 = some (.getfield 276, 3, 0) := by decide +kernel
theorem cd_298_103 : zt_code zq_T 298 103 = some (.ireturn, 1, 0) := by decide +kernel
theorem cd_298_104 : zt_code zq_T 298 104 = some (.ldc_w 260, 3, 0) := by decide +kernel
theorem cd_298_107 : zt_code zq_T 298 107 = some (.ireturn, 1, 0) := by decide +kernel
theorem cd_299_0 : zt_code zq_T 299 0 = some (.aload_n 0, 1, 0) := by decide +kernel
theorem cd_299_1 : zt_code zq_T 299 1 = some (.iload_n 1, 1, 0) := by decide +kernel
theorem cd_299_2 : zt_code zq_T 299 2 = some (.iload_n 2, 1, 0) := by decide +kernel
theorem cd_299_3 : zt_code zq_T 299 3 = some (.invokevirtual 256, 3, 0) := by decide +kernel
theorem cd_299_6 : zt_code zq_T 299 6 = some (.astore 4, 2, 0) := by decide +kernel
theorem cd_299_8 : zt_code zq_T 299 8 = some (.aload 4, 2, 0) := by decide +kernel
theorem cd_299_10 : zt_code zq_T 299 10 = some (.ifnull (16), 3, 0) := by decide +kernel
theorem cd_299_13 : zt_code zq_T 299 13 = some (.iload_n 3, 1, 0) := by decide +kernel
theorem cd_299_14 : zt_code zq_T 299 14 = some (.ifCond .lt (12), 3, 0) := by decide +kernel
theorem cd_299_17 : zt_code zq_T 299 17 = some (.iload_n 3, 1, 0) := by decide +kernel
theorem cd_299_18 : zt_code zq_T 299 18 = some (.aload 4, 2, 0) := by decide +kernel
theorem cd_299_20 : zt_code zq_T 299 20 = some (.getfield 276, 3, 0) := by decide +kernel
theorem cd_299_23 : zt_code zq_T 299 23 = some (.if_icmp .le (5), 3, 0) := by decide +kernel
theorem cd_299_26 : zt_code zq_T 299 26 = some (.iconst (-1), 1, 0) := by decide +kernel
theorem cd_299_27 : zt_code zq_T 299 27 = some (.ireturn, 1, 0) := by decide +kernel
theorem cd_299_28 : zt_code zq_T 299 28 = some (.iload_n 3, 1, 0) := by decide +kernel
theorem cd_299_29 : zt_code zq_T 299 29 = some (.aload 4, 2, 0) := by decide +kernel
theorem cd_299_31 : zt_code zq_T 299 31 = some (.getfield 276, 3, 0) := by decide +kernel
theorem cd_299_34 : zt_code zq_T 299 34 = some (.if_icmp .ne (25), 3, 0) := by decide +kernel
theorem cd_299_37 : zt_code zq_T 299 37 = some (.aload_n 0, 1, 0) := by decide +kernel
theorem cd_299_38 : zt_code zq_T 299 38 = some (.getfield 20, 3, 0) := by decide +kernel
theorem cd_299_41 : zt_code zq_T 299 41 = some (.getfield 111, 3, 0) := by decide +kernel
theorem cd_299_44 : zt_code zq_T 299 44 = some (.iload_n 1, 1, 0) := by decide +kernel
theorem cd_299_45 : zt_code zq_T 299 45 = some (.aaload, 1, 0) := by decide +kernel
theorem cd_299_46 : zt_code zq_T 299 46 = some (.getfield 197, 3, 0) := by decide +kernel
theorem cd_299_49 : zt_code zq_T 299 49 = some (.aload 4, 2, 0) := by decide +kernel
theorem cd_299_51 : zt_code zq_T 299 51 = some (.getfield 264, 3, 0) := by decide +kernel
theorem cd_299_54 : zt_code zq_T 299 54 = some (.invokestatic 267, 3, 0) := by decide +kernel
theorem cd_299_57 : zt_code zq_T 299 57 = some (.iaload, 1, 0) := by decide +kernel
theorem cd_299_58 : zt_code zq_T 299 58 = some (.ireturn, 1, 0) := by decide +kernel
theorem cd_299_59 : zt_code zq_T 299 59 = some (.aload 4, 2, 0) := by decide +kernel
theorem cd_299_61 : zt_code zq_T 299 61 = some (.getfield 279, 3, 0) := by decide +kernel
theorem cd_299_64 : zt_code zq_T 299 64 = some (.iload_n 3, 1, 0) := by decide +kernel
theorem cd_299_65 : zt_code zq_T 299 65 = some (.iaload, 1, 0) := by decide +kernel
theorem cd_299_66 : zt_code zq_T 299 66 = some (.ireturn, 1, 0) := by decide +kernel
theorem cd_300_0 : zt_code zq_T 300 0 = some (.aload_n 0, 1, 0) := by decide +kernel
theorem cd_300_1 : zt_code zq_T 300 1 = some (.iload_n 1, 1, 0) := by decide +kernel
theorem cd_300_2 : zt_code zq_T 300 2 = some (.invokevirtual 136, 3, 0) := by decide +kernel
theorem cd_300_5 : zt_code zq_T 300 5 = some (.astore_n 3, 1, 0) := by decide +kernel
theorem cd_300_6 : zt_code zq_T 300 6 = some (.aload_n 3, 1, 0) := by decide +kernel
theorem cd_300_7 : zt_code zq_T 300 7 = some (.ifnull (25), 3, 0) := by decide +kernel
theorem cd_300_10 : zt_code zq_T 300 10 = some (.aload_n 3, 1, 0) := by decide +kernel
theorem cd_300_11 : zt_code zq_T 300 11 = some (.getfield 140, 3, 0) := by decide +kernel
theorem cd_300_14 : zt_code zq_T 300 14 = some (.ifnull (18), 3, 0) := by decide +kernel
theorem cd_300_17 : zt_code zq_T 300 17 = some (.iload_n 2, 1, 0) := by decide +kernel
theorem cd_300_18 : zt_code zq_T 300 18 = some (.ifCond .lt (14), 3, 0) := by decide +kernel
theorem cd_300_21 : zt_code zq_T 300 21 = some (.iload_n 2, 1, 0) := by decide +kernel
theorem cd_300_22 : zt_code zq_T 300 22 = some (.aload_n 3, 1, 0) := by decide +kernel
theorem cd_300_23 : zt_code zq_T 300 23 = some (.getfield 140, 3, 0) := by decide +kernel
theorem cd_300_26 : zt_code zq_T 300 26 = some (.getfield 183, 3, 0) := by decide +kernel
theorem cd_300_29 : zt_code zq_T 300 29 = some (.if_icmp .lt (5), 3, 0) := by decide +kernel
theorem cd_300_32 : zt_code zq_T 300 32 = some (.iconst (-1), 1, 0) := by decide +kernel
theorem cd_300_33 : zt_code zq_T 300 33 = some (.ireturn, 1, 0) := by decide +kernel
theorem cd_300_34 : zt_code zq_T 300 34 = some (.aload_n 0, 1, 0) := by decide +kernel
theorem cd_300_35 : zt_code zq_T 300 35 = some (.getfield 89, 3, 0) := by decide +kernel
theorem cd_300_38 : zt_code zq_T 300 38 = some (.iload_n 1, 1, 0) := by decide +kernel
theorem cd_300_39 : zt_code zq_T 300 39 = some (.if_icmp .eq (16), 3, 0) := by decide +kernel
theorem cd_300_42 : zt_code zq_T 300 42 = some (.aload_n 0, 1, 0) := by decide +kernel
theorem cd_300_43 : zt_code zq_T 300 43 = some (.getfield 54, 3, 0) := by decide +kernel
theorem cd_300_46 : zt_code zq_T 300 46 = some (.aload_n 3, 1, 0) := by decide +kernel
theorem cd_300_47 : zt_code zq_T 300 47 = some (.invokevirtual 281, 3, 0) := by decide +kernel
theorem cd_300_50 : zt_code zq_T 300 50 = some (.aload_n 0, 1, 0) := by decide +kernel
theorem cd_300_51 : zt_code zq_T 300 51 = some (.iload_n 1, 1, 0) := by decide +kernel
theorem cd_300_52 : zt_code zq_T 300 52 = some (.putfield 89, 3, 0) := by decide +kernel
theorem cd_300_55 : zt_code zq_T 300 55 = some (.aload_n 0, 1, 0) := by decide +kernel
theorem cd_300_56 : zt_code zq_T 300 56 = some (.getfield 54, 3, 0) := by decide +kernel
theorem cd_300_59 : zt_code zq_T 300 59 = some (.iload_n 2, 1, 0) := by decide +kernel
theorem cd_300_60 : zt_code zq_T 300 60 = some (.invokevirtual 284, 3, 0) := by decide +kernel
theorem cd_300_63 : zt_code zq_T 300 63 = some (.ireturn, 1, 0) := by decide +kernel
theorem cd_301_0 : zt_code zq_T 301 0 = some (.aload_n 0, 1, 0) := by decide +kernel
theorem cd_301_1 : zt_code zq_T 301 1 = some (.iload_n 1, 1, 0) := by decide +kernel
theorem cd_301_2 : zt_code zq_T 301 2 = some (.invokevirtual 136, 3, 0) := by decide +kernel
theorem cd_301_5 : zt_code zq_T 301 5 = some (.astore_n 3, 1, 0) := by decide +kernel
theorem cd_301_6 : zt_code zq_T 301 6 = some (.aload_n 3, 1, 0) := by decide +kernel
theorem cd_301_7 : zt_code zq_T 301 7 = some (.ifnull (26), 3, 0) := by decide +kernel
theorem cd_301_10 : zt_code zq_T 301 10 = some (.aload_n 3, 1, 0) := by decide +kernel
theorem cd_301_11 : zt_code zq_T 301 11 = some (.getfield 140, 3, 0) := by decide +kernel
theorem cd_301_14 : zt_code zq_T 301 14 = some (.ifnull (19), 3, 0) := by decide +kernel
theorem cd_301_17 : zt_code zq_T 301 17 = some (.aload_n 3, 1, 0) := by decide +kernel
theorem cd_301_18 : zt_code zq_T 301 18 = some (.getfield 177, 3, 0) := by decide +kernel
theorem cd_301_21 : zt_code zq_T 301 21 = some (.ifCond .eq (12), 3, 0) := by decide +kernel
theorem cd_301_24 : zt_code zq_T 301 24 = some (.iload_n 2, 1, 0) := by decide +kernel
theorem cd_301_25 : zt_code zq_T 301 25 = some (.ifCond .lt (8), 3, 0) := by decide +kernel
theorem cd_301_28 : zt_code zq_T 301 28 = some (.iload_n 2, 1, 0) := by decide +kernel
theorem cd_301_29 : zt_code zq_T 301 29 = some (.iconst 4, 1, 0) := by decide +kernel
theorem cd_301_30 : zt_code zq_T 301 30 = some (.if_icmp .le (5), 3, 0) := by decide +kernel
theorem cd_301_33 : zt_code zq_T 301 33 = some (.iconst (-1), 1, 0) := by decide +kernel
theorem cd_301_34 : zt_code zq_T 301 34 = some (.ireturn, 1, 0) := by decide +kernel
theorem cd_301_35 : zt_code zq_T 301 35 = some (.iload_n 2, 1, 0) := by decide +kernel
theorem cd_301_36 : zt_code zq_T 301 36 = some (.ifCond .ne (16), 3, 0) := by decide +kernel
theorem cd_301_39 : zt_code zq_T 301 39 = some (.aload_n 3, 1, 0) := by decide +kernel
theorem cd_301_40 : zt_code zq_T 301 40 = some (.getfield 140, 3, 0) := by decide +kernel
theorem cd_301_43 : zt_code zq_T 301 43 = some (.getfield 165, 3, 0) := by decide +kernel
theorem cd_301_46 : zt_code zq_T 301 46 = some (.invokestatic 170, 3, 0) := by decide +kernel
theorem cd_301_49 : zt_code zq_T 301 49 = some (.goto (12), 3, 0) := by decide +kernel
theorem cd_301_52 : zt_code zq_T 301 52 = some (.aload_n 3, 1, 0) := by decide +kernel
theorem cd_301_53 : zt_code zq_T 301 53 = some (.getfield 140, 3, 0) := by decide +kernel
theorem cd_301_56 : zt_code zq_T 301 56 = some (.getfield 287, 3, 0) := by decide +kernel
theorem cd_301_59 : zt_code zq_T 301 59 = some (.iload_n 2, 1, 0) := by decide +kernel
theorem cd_301_60 : zt_code zq_T 301 60 = some (.iaload, 1, 0) := by decide +kernel
theorem cd_301_61 : zt_code zq_T 301 61 = some (.ireturn, 1, 0) := by decide +kernel
theorem cd_302_0 : zt_code zq_T 302 0 = some (.aload_n 0, 1, 0) := by decide +kernel
theorem cd_302_1 : zt_code zq_T 302 1 = some (.iload_n 1, 1, 0) := by decide +kernel
theorem cd_302_2 : zt_code zq_T 302 2 = some (.invokevirtual 136, 3, 0) := by decide +kernel
theorem cd_302_5 : zt_code zq_T 302 5 = some (.astore 4, 2, 0) := by decide +kernel
theorem cd_302_7 : zt_code zq_T 302 7 = some (.aload_n 0, 1, 0) := by decide +kernel
theorem cd_302_8 : zt_code zq_T 302 8 = some (.iload_n 2, 1, 0) := by decide +kernel
theorem cd_302_9 : zt_code zq_T 302 9 = some (.invokevirtual 136, 3, 0) := by decide +kernel
theorem cd_302_12 : zt_code zq_T 302 12 = some (.astore 5, 2, 0) := by decide +kernel
theorem cd_302_14 : zt_code zq_T 302 14 = some (.aload 4, 2, 0) := by decide +kernel
theorem cd_302_16 : zt_code zq_T 302 16 = some (.ifnull (29), 3, 0) := by decide +kernel
theorem cd_302_19 : zt_code zq_T 302 19 = some (.aload 5, 2, 0) := by decide +kernel
theorem cd_302_21 : zt_code zq_T 302 21 = some (.ifnull (24), 3, 0) := by decide +kernel
theorem cd_302_24 : zt_code zq_T 302 24 = some (.aload 4, 2, 0) := by decide +kernel
theorem cd_302_26 : zt_code zq_T 302 26 = some (.getfield 177, 3, 0) := by decide +kernel
theorem cd_302_29 : zt_code zq_T 302 29 = some (.ifCond .eq (16), 3, 0) := by decide +kernel
theorem cd_302_32 : zt_code zq_T 302 32 = some (.aload 5, 2, 0) := by decide +kernel
theorem cd_302_34 : zt_code zq_T 302 34 = some (.getfield 177, 3, 0) := by decide +kernel
theorem cd_302_37 : zt_code zq_T 302 37 = some (.ifCond .eq (8), 3, 0) := by decide +kernel
theorem cd_302_40 : zt_code zq_T 302 40 = some (.iload_n 1, 1, 0) := by decide +kernel
theorem cd_302_41 : zt_code zq_T 302 41 = some (.iload_n 2, 1, 0) := by decide +kernel
theorem cd_302_42 : zt_code zq_T 302 42 = some (.if_icmp .ne (5), 3, 0) := by decide +kernel
theorem cd_302_45 : zt_code zq_T 302 45 = some (.iconst (-1), 1, 0) := by decide +kernel
theorem cd_302_46 : zt_code zq_T 302 46 = some (.ireturn, 1, 0) := by decide +kernel
theorem cd_302_47 : zt_code zq_T 302 47 = some (.aload_n 0, 1, 0) := by decide +kernel
theorem cd_302_48 : zt_code zq_T 302 48 = some (.getfield 85, 3, 0) := by decide +kernel
theorem cd_302_51 : zt_code zq_T 302 51 = some (.iload_n 1, 1, 0) := by decide +kernel
theorem cd_302_52 : zt_code zq_T 302 52 = some (.iload_n 2, 1, 0) := by decide +kernel
theorem cd_302_53 : zt_code zq_T 302 53 = some (.invokevirtual 290, 3, 0) := by decide +kernel
theorem cd_302_56 : zt_code zq_T 302 56 = some (.ifCond .ne (27), 3, 0) := by decide +kernel
theorem cd_302_59 : zt_code zq_T 302 59 = some (.aload_n 0, 1, 0) := by decide +kernel
theorem cd_302_60 : zt_code zq_T 302 60 = some (.getfield 85, 3, 0) := by decide +kernel
theorem cd_302_63 : zt_code zq_T 302 63 = some (.aload 4, 2, 0) := by decide +kernel
theorem cd_302_65 : zt_code zq_T 302 65 = some (.aload 5, 2, 0) := by decide +kernel
theorem cd_302_67 : zt_code zq_T 302 67 = some (.aload_n 0, 1, 0) := by decide +kernel
theorem cd_302_68 : zt_code zq_T 302 68 = some (.getfield 71, 3, 0) := by decide +kernel
theorem cd_302_71 : zt_code zq_T 302 71 = some (.invokevirtual 294, 3, 0) := by decide +kernel
theorem cd_302_74 : zt_code zq_T 302 74 = some (.aload_n 0, 1, 0) := by decide +kernel
theorem cd_302_75 : zt_code zq_T 302 75 = some (.getfield 85, 3, 0) := by decide +kernel
theorem cd_302_78 : zt_code zq_T 302 78 = some (.iload_n 1, 1, 0) := by decide +kernel
theorem cd_302_79 : zt_code zq_T 302 79 = some (.iload_n 2, 1, 0) := by decide +kernel
theorem cd_302_80 : zt_code zq_T 302 80 = some (.invokevirtual 297, 3, 0) := by decide +kernel
theorem cd_302_83 : zt_code zq_T 302 83 = some (.iload_n 3, 1, 0) := by decide +kernel
theorem cd_302_84 : zt_code zq_T 302 84 = some (.iconst (-1), 1, 0) := by decide +kernel
theorem cd_302_85 : zt_code zq_T 302 85 = some (.if_icmp .ne (11), 3, 0) := by decide +kernel
theorem cd_302_88 : zt_code zq_T 302 88 = some (.aload_n 0, 1, 0) := by decide +kernel
theorem cd_302_89 : zt_code zq_T 302 89 = some (.getfield 85, 3, 0) := by decide +kernel
theorem cd_302_92 : zt_code zq_T 302 92 = some (.getfield 301, 3, 0) := by decide +kernel
theorem cd_302_95 : zt_code zq_T 302 95 = some (.ireturn, 1, 0) := by decide +kernel
theorem cd_302_96 : zt_code zq_T 302 96 = some (.iload_n 3, 1, 0) := by decide +kernel
theorem cd_302_97 : zt_code zq_T 302 97 = some (.ifCond .lt (26), 3, 0) := by decide +kernel
theorem cd_302_100 : zt_code zq_T 302 100 = some (.iload_n 3, 1, 0) := by decide +kernel
theorem cd_302_101 : zt_code zq_T 302 101 = some (.aload_n 0, 1, 0) := by decide +kernel
theorem cd_302_102 : zt_code zq_T 302 102 = some (.getfield 85, 3, 0) := by decide +kernel
theorem cd_302_105 : zt_code zq_T 302 105 = some (.getfield 301, 3, 0) := by decide +kernel
theorem cd_302_108 : zt_code zq_T 302 108 = some (.if_icmp .ge (15), 3, 0) := by decide +kernel
theorem cd_302_111 : zt_code zq_T 302 111 = some (.aload_n 0, 1, 0) := by decide +kernel
theorem cd_302_112 : zt_code zq_T 302 112 = some (.getfield 85, 3, 0) := by decide +kernel
theorem cd_302_115 : zt_code zq_T 302 115 = some (.getfield 302, 3, 0) := by decide +kernel
theorem cd_302_118 : zt_code zq_T 302 118 = some (.iload_n 3, 1, 0) := by decide +kernel
theorem cd_302_119 : zt_code zq_T 302 119 = some (.iaload, 1, 0) := by decide +kernel
theorem cd_302_120 : zt_code zq_T 302 120 = some (.goto (4), 3, 0) := by decide +kernel
theorem cd_302_123 : zt_code zq_T 302 123 = some (.iconst (-1), 1, 0) := by decide +kernel
theorem cd_302_124 : zt_code zq_T 302 124 = some (.ireturn, 1, 0) := by decide +kernel
theorem cd_303_0 : zt_code zq_T 303 0 = some (.aload_n 0, 1, 0) := by decide +kernel
theorem cd_303_1 : zt_code zq_T 303 1 = some (.iload_n 1, 1, 0) := by decide +kernel
theorem cd_303_2 : zt_code zq_T 303 2 = some (.invokevirtual 136, 3, 0) := by decide +kernel
theorem cd_303_5 : zt_code zq_T 303 5 = some (.astore_n 2, 1, 0) := by decide +kernel
theorem cd_303_6 : zt_code zq_T 303 6 = some (.aload_n 2, 1, 0) := by decide +kernel
theorem cd_303_7 : zt_code zq_T 303 7 = some (.ifnull (10), 3, 0) := by decide +kernel
theorem cd_303_10 : zt_code zq_T 303 10 = some (.aload_n 2, 1, 0) := by decide +kernel
theorem cd_303_11 : zt_code zq_T 303 11 = some (.getfield 177, 3, 0) := by decide +kernel
theorem cd_303_14 : zt_code zq_T 303 14 = some (.ifCond .ne (5), 3, 0) := by decide +kernel
theorem cd_303_17 : zt_code zq_T 303 17 = some (.iconst (-1), 1, 0) := by decide +kernel
theorem cd_303_18 : zt_code zq_T 303 18 = some (.ireturn, 1, 0) := by decide +kernel
theorem cd_303_19 : zt_code zq_T 303 19 = some (.aload_n 0, 1, 0) := by decide +kernel
theorem cd_303_20 : zt_code zq_T 303 20 = some (.getfield 9, 3, 0) := by decide +kernel
theorem cd_303_23 : zt_code zq_T 303 23 = some (.aload_n 0, 1, 0) := by decide +kernel
theorem cd_303_24 : zt_code zq_T 303 24 = some (.getfield 13, 3, 0) := by decide +kernel
theorem cd_303_27 : zt_code zq_T 303 27 = some (.invokestatic 303, 3, 0) := by decide +kernel
theorem cd_303_30 : zt_code zq_T 303 30 = some (.istore_n 3, 1, 0) := by decide +kernel
theorem cd_303_31 : zt_code zq_T 303 31 = some (.iload_n 3, 1, 0) := by decide +kernel
theorem cd_303_32 : zt_code zq_T 303 32 = some (.iconst (-1), 1, 0) := by decide +kernel
theorem cd_303_33 : zt_code zq_T 303 33 = some (.if_icmp .eq (8), 3, 0) := by decide +kernel
theorem cd_303_36 : zt_code zq_T 303 36 = some (.bipush (-2), 2, 0) := by decide +kernel
theorem cd_303_38 : zt_code zq_T 303 38 = some (.iload_n 3, 1, 0) := by decide +kernel
theorem cd_303_39 : zt_code zq_T 303 39 = some (.isub, 1, 0) := by decide +kernel
theorem cd_303_40 : zt_code zq_T 303 40 = some (.ireturn, 1, 0) := by decide +kernel
theorem cd_303_41 : zt_code zq_T 303 41 = some (.aload_n 0, 1, 0) := by decide +kernel
theorem cd_303_42 : zt_code zq_T 303 42 = some (.getfield 78, 3, 0) := by decide +kernel
theorem cd_303_45 : zt_code zq_T 303 45 = some (.aload_n 0, 1, 0) := by decide +kernel
theorem cd_303_46 : zt_code zq_T 303 46 = some (.getfield 9, 3, 0) := by decide +kernel
theorem cd_303_49 : zt_code zq_T 303 49 = some (.aload_n 0, 1, 0) := by decide +kernel
theorem cd_303_50 : zt_code zq_T 303 50 = some (.getfield 13, 3, 0) := by decide +kernel
theorem cd_303_53 : zt_code zq_T 303 53 = some (.aload_n 2, 1, 0) := by decide +kernel
theorem cd_303_54 : zt_code zq_T 303 54 = some (.aload_n 0, 1, 0) := by decide +kernel
theorem cd_303_55 : zt_code zq_T 303 55 = some (.getfield 71, 3, 0) := by decide +kernel
theorem cd_303_58 : zt_code zq_T 303 58 = some (.invokevirtual 306, 3, 0) := by decide +kernel
theorem cd_303_61 : zt_code zq_T 303 61 = some (.aload_n 0, 1, 0) := by decide +kernel
theorem cd_303_62 : zt_code zq_T 303 62 = some (.getfield 78, 3, 0) := by decide +kernel
theorem cd_303_65 : zt_code zq_T 303 65 = some (.iload_n 1, 1, 0) := by decide +kernel
theorem cd_303_66 : zt_code zq_T 303 66 = some (.putfield 310, 3, 0) := by decide +kernel
theorem cd_303_69 : zt_code zq_T 303 69 = some (.aload_n 0, 1, 0) := by decide +kernel
theorem cd_303_70 : zt_code zq_T 303 70 = some (.iconst 0, 1, 0) := by decide +kernel
theorem cd_303_71 : zt_code zq_T 303 71 = some (.putfield 13, 3, 0) := by decide +kernel
theorem cd_303_74 : zt_code zq_T 303 74 = some (.aload_n 0, 1, 0) := by decide +kernel
theorem cd_303_75 : zt_code zq_T 303 75 = some (.getfield 78, 3, 0) := by decide +kernel
theorem cd_303_78 : zt_code zq_T 303 78 = some (.invokevirtual 311, 3, 0) := by decide +kernel
theorem cd_303_81 : zt_code zq_T 303 81 = some (.invokestatic 170, 3, 0) := by decide +kernel
theorem cd_303_84 : zt_code zq_T 303 84 = some (.ireturn, 1, 0) := by decide +kernel
theorem cd_304_0 : zt_code zq_T 304 0 = some (.aload_n 0, 1, 0) := by decide +kernel
theorem cd_304_1 : zt_code zq_T 304 1 = some (.getfield 78, 3, 0) := by decide +kernel
theorem cd_304_4 : zt_code zq_T 304 4 = some (.getfield 310, 3, 0) := by decide +kernel
theorem cd_304_7 : zt_code zq_T 304 7 = some (.iconst (-1), 1, 0) := by decide +kernel
theorem cd_304_8 : zt_code zq_T 304 8 = some (.if_icmp .ne (5), 3, 0) := by decide +kernel
theorem cd_304_11 : zt_code zq_T 304 11 = some (.iconst (-1), 1, 0) := by decide +kernel
theorem cd_304_12 : zt_code zq_T 304 12 = some (.ireturn, 1, 0) := by decide +kernel
theorem cd_304_13 : zt_code zq_T 304 13 = some (.iload_n 1, 1, 0) := by decide +kernel
theorem cd_304_14 : zt_code zq_T 304 14 = some (.tableswitch (77) (0) (4) #[34, 42, 50, 58, 66], 34, 0) := by decide +kernel
theorem cd_304_48 : zt_code zq_T 304 48 = some (.aload_n 0, 1, 0) := by decide +kernel
theorem cd_304_49 : zt_code zq_T 304 49 = some (.getfield 78, 3, 0) := by decide +kernel
theorem cd_304_52 : zt_code zq_T 304 52 = some (.getfield 310, 3, 0) := by decide +kernel
theorem cd_304_55 : zt_code zq_T 304 55 = some (.ireturn, 1, 0) := by decide +kernel
theorem cd_304_56 : zt_code zq_T 304 56 = some (.aload_n 0, 1, 0) := by decide +kernel
theorem cd_304_57 : zt_code zq_T 304 57 = some (.getfield 78, 3, 0) := by decide +kernel
theorem cd_304_60 : zt_code zq_T 304 60 = some (.getfield 315, 3, 0) := by decide +kernel
theorem cd_304_63 : zt_code zq_T 304 63 = some (.ireturn, 1, 0) := by decide +kernel
theorem cd_304_64 : zt_code zq_T 304 64 = some (.aload_n 0, 1, 0) := by decide +kernel
theorem cd_304_65 : zt_code zq_T 304 65 = some (.getfield 78, 3, 0) := by decide +kernel
theorem cd_304_68 : zt_code zq_T 304 68 = some (.getfield 316, 3, 0) := by decide +kernel
theorem cd_304_71 : zt_code zq_T 304 71 = some (.ireturn, 1, 0) := by decide +kernel
theorem cd_304_72 : zt_code zq_T 304 72 = some (.aload_n 0, 1, 0) := by decide +kernel
theorem cd_304_73 : zt_code zq_T 304 73 = some (.getfield 78, 3, 0) := by decide +kernel
theorem cd_304_76 : zt_code zq_T 304 76 = some (.getfield 319, 3, 0) := by decide +kernel
theorem cd_304_79 : zt_code zq_T 304 79 = some (.ireturn, 1, 0) := by decide +kernel
theorem cd_304_80 : zt_code zq_T 304 80 = some (.aload_n 0, 1, 0) := by decide +kernel
theorem cd_304_81 : zt_code zq_T 304 81 = some (.getfield 78, 3, 0) := by decide +kernel
theorem cd_304_84 : zt_code zq_T 304 84 = some (.getfield 322, 3, 0) := by decide +kernel
theorem cd_304_87 : zt_code zq_T 304 87 = some (.invokestatic 170, 3, 0) := by decide +kernel
theorem cd_304_90 : zt_code zq_T 304 90 = some (.ireturn, 1, 0) := by decide +kernel
theorem cd_304_91 : zt_code zq_T 304 91 = some (.iconst (-1), 1, 0) := by decide +kernel
theorem cd_304_92 : zt_code zq_T 304 92 = some (.ireturn, 1, 0) := by decide +kernel
theorem cd_305_0 : zt_code zq_T 305 0 = some (.aload_n 0, 1, 0) := by decide +kernel
theorem cd_305_1 : zt_code zq_T 305 1 = some (.getfield 78, 3, 0) := by decide +kernel
theorem cd_305_4 : zt_code zq_T 305 4 = some (.getfield 310, 3, 0) := by decide +kernel
theorem cd_305_7 : zt_code zq_T 305 7 = some (.iconst (-1), 1, 0) := by decide +kernel
theorem cd_305_8 : zt_code zq_T 305 8 = some (.if_icmp .eq (18), 3, 0) := by decide +kernel
theorem cd_305_11 : zt_code zq_T 305 11 = some (.iload_n 1, 1, 0) := by decide +kernel
theorem cd_305_12 : zt_code zq_T 305 12 = some (.ifCond .lt (14), 3, 0) := by decide +kernel
theorem cd_305_15 : zt_code zq_T 305 15 = some (.iload_n 1, 1, 0) := by decide +kernel
theorem cd_305_16 : zt_code zq_T 305 16 = some (.aload_n 0, 1, 0) := by decide +kernel
theorem cd_305_17 : zt_code zq_T 305 17 = some (.getfield 78, 3, 0) := by decide +kernel
theorem cd_305_20 : zt_code zq_T 305 20 = some (.getfield 316, 3, 0) := by decide +kernel
theorem cd_305_23 : zt_code zq_T 305 23 = some (.if_icmp .lt (7), 3, 0) := by decide +kernel
theorem cd_305_26 : zt_code zq_T 305 26 = some (.ldc_w 260, 3, 0) := by decide +kernel
theorem cd_305_29 : zt_code zq_T 305 29 = some (.ireturn, 1, 0) := by decide +kernel
theorem cd_305_30 : zt_code zq_T 305 30 = some (.iload_n 2, 1, 0) := by decide +kernel
theorem cd_305_31 : zt_code zq_T 305 31 = some (.ifCond .ne (13), 3, 0) := by decide +kernel
theorem cd_305_34 : zt_code zq_T 305 34 = some (.aload_n 0, 1, 0) := by decide +kernel
theorem cd_305_35 : zt_code zq_T 305 35 = some (.getfield 78, 3, 0) := by decide +kernel
theorem cd_305_38 : zt_code zq_T 305 38 = some (.getfield 325, 3, 0) := by decide +kernel
theorem cd_305_41 : zt_code zq_T 305 41 = some (.iload_n 1, 1, 0) := by decide +kernel
theorem cd_305_42 : zt_code zq_T 305 42 = some (.iaload, 1, 0) := by decide +kernel
theorem cd_305_43 : zt_code zq_T 305 43 = some (.ireturn, 1, 0) := by decide +kernel
theorem cd_305_44 : zt_code zq_T 305 44 = some (.iload_n 2, 1, 0) := by decide +kernel
theorem cd_305_45 : zt_code zq_T 305 45 = some (.iconst 1, 1, 0) := by decide +kernel
theorem cd_305_46 : zt_code zq_T 305 46 = some (.if_icmp .ne (15), 3, 0) := by decide +kernel
theorem cd_305_49 : zt_code zq_T 305 49 = some (.aload_n 0, 1, 0) := by decide +kernel
theorem cd_305_50 : zt_code zq_T 305 50 = some (.getfield 78, 3, 0) := by decide +kernel
theorem cd_305_53 : zt_code zq_T 305 53 = some (.getfield 328, 3, 0) := by decide +kernel
theorem cd_305_56 : zt_code zq_T 305 56 = some (.iload_n 1, 1, 0) := by decide +kernel
theorem cd_305_57 : zt_code zq_T 305 57 = some (.iaload, 1, 0) := by decide +kernel
theorem cd_305_58 : zt_code zq_T 305 58 = some (.goto (6), 3, 0) := by decide +kernel
theorem cd_305_61 : zt_code zq_T 305 61 = some (.ldc_w 260, 3, 0) := by decide +kernel
theorem cd_305_64 : zt_code zq_T 305 64 = some (.ireturn, 1, 0) := by decide +kernel
theorem cd_306_0 : zt_code zq_T 306 0 = some (.aload_n 0, 1, 0) := by decide +kernel
theorem cd_306_1 : zt_code zq_T 306 1 = some (.getfield 78, 3, 0) := by decide +kernel
theorem cd_306_4 : zt_code zq_T 306 4 = some (.getfield 310, 3, 0) := by decide +kernel
theorem cd_306_7 : zt_code zq_T 306 7 = some (.iconst (-1), 1, 0) := by decide +kernel
theorem cd_306_8 : zt_code zq_T 306 8 = some (.if_icmp .eq (18), 3, 0) := by decide +kernel
theorem cd_306_11 : zt_code zq_T 306 11 = some (.iload_n 1, 1, 0) := by decide +kernel
theorem cd_306_12 : zt_code zq_T 306 12 = some (.ifCond .lt (14), 3, 0) := by decide +kernel
theorem cd_306_15 : zt_code zq_T 306 15 = some (.iload_n 1, 1, 0) := by decide +kernel
theorem cd_306_16 : zt_code zq_T 306 16 = some (.aload_n 0, 1, 0) := by decide +kernel
theorem cd_306_17 : zt_code zq_T 306 17 = some (.getfield 78, 3, 0) := by decide +kernel
theorem cd_306_20 : zt_code zq_T 306 20 = some (.getfield 331, 3, 0) := by decide +kernel
theorem cd_306_23 : zt_code zq_T 306 23 = some (.if_icmp .lt (7), 3, 0) := by decide +kernel
theorem cd_306_26 : zt_code zq_T 306 26 = some (.ldc_w 260, 3, 0) := by decide +kernel
theorem cd_306_29 : zt_code zq_T 306 29 = some (.ireturn, 1, 0) := by decide +kernel
theorem cd_306_30 : zt_code zq_T 306 30 = some (.aload_n 0, 1, 0) := by decide +kernel
theorem cd_306_31 : zt_code zq_T 306 31 = some (.getfield 78, 3, 0) := by decide +kernel
theorem cd_306_34 : zt_code zq_T 306 34 = some (.getfield 332, 3, 0) := by decide +kernel
theorem cd_306_37 : zt_code zq_T 306 37 = some (.iload_n 1, 1, 0) := by decide +kernel
theorem cd_306_38 : zt_code zq_T 306 38 = some (.iaload, 1, 0) := by decide +kernel
theorem cd_306_39 : zt_code zq_T 306 39 = some (.ireturn, 1, 0) := by decide +kernel
theorem cd_307_0 : zt_code zq_T 307 0 = some (.aload_n 0, 1, 0) := by decide +kernel
theorem cd_307_1 : zt_code zq_T 307 1 = some (.getfield 78, 3, 0) := by decide +kernel
theorem cd_307_4 : zt_code zq_T 307 4 = some (.getfield 310, 3, 0) := by decide +kernel
theorem cd_307_7 : zt_code zq_T 307 7 = some (.iconst (-1), 1, 0) := by decide +kernel
theorem cd_307_8 : zt_code zq_T 307 8 = some (.if_icmp .eq (18), 3, 0) := by decide +kernel
theorem cd_307_11 : zt_code zq_T 307 11 = some (.iload_n 1, 1, 0) := by decide +kernel
theorem cd_307_12 : zt_code zq_T 307 12 = some (.ifCond .lt (14), 3, 0) := by decide +kernel
theorem cd_307_15 : zt_code zq_T 307 15 = some (.iload_n 1, 1, 0) := by decide +kernel
theorem cd_307_16 : zt_code zq_T 307 16 = some (.aload_n 0, 1, 0) := by decide +kernel
theorem cd_307_17 : zt_code zq_T 307 17 = some (.getfield 78, 3, 0) := by decide +kernel
theorem cd_307_20 : zt_code zq_T 307 20 = some (.getfield 335, 3, 0) := by decide +kernel
theorem cd_307_23 : zt_code zq_T 307 23 = some (.if_icmp .lt (7), 3, 0) := by decide +kernel
theorem cd_307_26 : zt_code zq_T 307 26 = some (.ldc_w 260, 3, 0) := by decide +kernel
theorem cd_307_29 : zt_code zq_T 307 29 = some (.ireturn, 1, 0) := by decide +kernel
theorem cd_307_30 : zt_code zq_T 307 30 = some (.aload_n 0, 1, 0) := by decide +kernel
theorem cd_307_31 : zt_code zq_T 307 31 = some (.getfield 78, 3, 0) := by decide +kernel
theorem cd_307_34 : zt_code zq_T 307 34 = some (.getfield 336, 3, 0) := by decide +kernel
theorem cd_307_37 : zt_code zq_T 307 37 = some (.iload_n 1, 1, 0) := by decide +kernel
theorem cd_307_38 : zt_code zq_T 307 38 = some (.iaload, 1, 0) := by decide +kernel
theorem cd_307_39 : zt_code zq_T 307 39 = some (.ireturn, 1, 0) := by decide +kernel
theorem cd_308_0 : zt_code zq_T 308 0 = some (.aload_n 0, 1, 0) := by decide +kernel
theorem cd_308_1 : zt_code zq_T 308 1 = some (.aload_n 0, 1, 0) := by decide +kernel
theorem cd_308_2 : zt_code zq_T 308 2 = some (.getfield 78, 3, 0) := by decide +kernel
theorem cd_308_5 : zt_code zq_T 308 5 = some (.getfield 310, 3, 0) := by decide +kernel
theorem cd_308_8 : zt_code zq_T 308 8 = some (.invokevirtual 136, 3, 0) := by decide +kernel
theorem cd_308_11 : zt_code zq_T 308 11 = some (.astore_n 2, 1, 0) := by decide +kernel
theorem cd_308_12 : zt_code zq_T 308 12 = some (.aload_n 2, 1, 0) := by decide +kernel
theorem cd_308_13 : zt_code zq_T 308 13 = some (.ifnull (10), 3, 0) := by decide +kernel
theorem cd_308_16 : zt_code zq_T 308 16 = some (.aload_n 2, 1, 0) := by decide +kernel
theorem cd_308_17 : zt_code zq_T 308 17 = some (.getfield 177, 3, 0) := by decide +kernel
theorem cd_308_20 : zt_code zq_T 308 20 = some (.ifCond .ne (5), 3, 0) := by decide +kernel
theorem cd_308_23 : zt_code zq_T 308 23 = some (.iconst (-1), 1, 0) := by decide +kernel
theorem cd_308_24 : zt_code zq_T 308 24 = some (.ireturn, 1, 0) := by decide +kernel
theorem cd_308_25 : zt_code zq_T 308 25 = some (.aload_n 0, 1, 0) := by decide +kernel
theorem cd_308_26 : zt_code zq_T 308 26 = some (.getfield 78, 3, 0) := by decide +kernel
theorem cd_308_29 : zt_code zq_T 308 29 = some (.getfield 132, 3, 0) := by decide +kernel
theorem cd_308_32 : zt_code zq_T 308 32 = some (.ifCond .ne (15), 3, 0) := by decide +kernel
theorem cd_308_35 : zt_code zq_T 308 35 = some (.aload_n 0, 1, 0) := by decide +kernel
theorem cd_308_36 : zt_code zq_T 308 36 = some (.getfield 78, 3, 0) := by decide +kernel
theorem cd_308_39 : zt_code zq_T 308 39 = some (.aload_n 2, 1, 0) := by decide +kernel
theorem cd_308_40 : zt_code zq_T 308 40 = some (.aload_n 0, 1, 0) := by decide +kernel
theorem cd_308_41 : zt_code zq_T 308 41 = some (.getfield 71, 3, 0) := by decide +kernel
theorem cd_308_44 : zt_code zq_T 308 44 = some (.invokevirtual 339, 3, 0) := by decide +kernel
theorem cd_308_47 : zt_code zq_T 308 47 = some (.iload_n 1, 1, 0) := by decide +kernel
theorem cd_308_48 : zt_code zq_T 308 48 = some (.tableswitch (52) (0) (2) #[28, 36, 44], 28, 0) := by decide +kernel
theorem cd_308_76 : zt_code zq_T 308 76 = some (.aload_n 0, 1, 0) := by decide +kernel
theorem cd_308_77 : zt_code zq_T 308 77 = some (.getfield 78, 3, 0) := by decide +kernel
theorem cd_308_80 : zt_code zq_T 308 80 = some (.getfield 343, 3, 0) := by decide +kernel
theorem cd_308_83 : zt_code zq_T 308 83 = some (.ireturn, 1, 0) := by decide +kernel
theorem cd_308_84 : zt_code zq_T 308 84 = some (.aload_n 0, 1, 0) := by decide +kernel
theorem cd_308_85 : zt_code zq_T 308 85 = some (.getfield 78, 3, 0) := by decide +kernel
theorem cd_308_88 : zt_code zq_T 308 88 = some (.getfield 346, 3, 0) := by decide +kernel
theorem cd_308_91 : zt_code zq_T 308 91 = some (.ireturn, 1, 0) := by decide +kernel
theorem cd_308_92 : zt_code zq_T 308 92 = some (.aload_n 0, 1, 0) := by decide +kernel
theorem cd_308_93 : zt_code zq_T 308 93 = some (.getfield 78, 3, 0) := by decide +kernel
theorem cd_308_96 : zt_code zq_T 308 96 = some (.getfield 349, 3, 0) := by decide +kernel
theorem cd_308_99 : zt_code zq_T 308 99 = some (.ireturn, 1, 0) := by decide +kernel
theorem cd_308_100 : zt_code zq_T 308 100 = some (.iconst (-1), 1, 0) := by decide +kernel
theorem cd_308_101 : zt_code zq_T 308 101 = some (.ireturn, 1, 0) := by decide +kernel
theorem cd_309_0 : zt_code zq_T 309 0 = some (.iload_n 1, 1, 0) := by decide +kernel
theorem cd_309_1 : zt_code zq_T 309 1 = some (.ifCond .lt (14), 3, 0) := by decide +kernel
theorem cd_309_4 : zt_code zq_T 309 4 = some (.iload_n 1, 1, 0) := by decide +kernel
theorem cd_309_5 : zt_code zq_T 309 5 = some (.aload_n 0, 1, 0) := by decide +kernel
theorem cd_309_6 : zt_code zq_T 309 6 = some (.getfield 30, 3, 0) := by decide +kernel
theorem cd_309_9 : zt_code zq_T 309 9 = some (.getfield 129, 3, 0) := by decide +kernel
theorem cd_309_12 : zt_code zq_T 309 12 = some (.if_icmp .lt (6), 3, 0) := by decide +kernel
theorem cd_309_15 : zt_code zq_T 309 15 = some (.bipush (-2), 2, 0) := by decide +kernel
theorem cd_309_17 : zt_code zq_T 309 17 = some (.ireturn, 1, 0) := by decide +kernel
theorem cd_309_18 : zt_code zq_T 309 18 = some (.iload_n 2, 1, 0) := by decide +kernel
theorem cd_309_19 : zt_code zq_T 309 19 = some (.tableswitch (125) (0) (7) #[45, 55, 65, 75, 85, 95, 105, 115], 45, 0) := by decide +kernel
theorem cd_309_64 : zt_code zq_T 309 64 = some (.aload_n 0, 1, 0) := by decide +kernel
theorem cd_309_65 : zt_code zq_T 309 65 = some (.getfield 30, 3, 0) := by decide +kernel
theorem cd_309_68 : zt_code zq_T 309 68 = some (.getfield 352, 3, 0) := by decide +kernel
theorem cd_309_71 : zt_code zq_T 309 71 = some (.iload_n 1, 1, 0) := by decide +kernel
theorem cd_309_72 : zt_code zq_T 309 72 = some (.iaload, 1, 0) := by decide +kernel
theorem cd_309_73 : zt_code zq_T 309 73 = some (.ireturn, 1, 0) := by decide +kernel
theorem cd_309_74 : zt_code zq_T 309 74 = some (.aload_n 0, 1, 0) := by decide +kernel
theorem cd_309_75 : zt_code zq_T 309 75 = some (.getfield 30, 3, 0) := by decide +kernel
theorem cd_309_78 : zt_code zq_T 309 78 = some (.getfield 354, 3, 0) := by decide +kernel
theorem cd_309_81 : zt_code zq_T 309 81 = some (.iload_n 1, 1, 0) := by decide +kernel
theorem cd_309_82 : zt_code zq_T 309 82 = some (.iaload, 1, 0) := by decide +kernel
theorem cd_309_83 : zt_code zq_T 309 83 = some (.ireturn, 1, 0) := by decide +kernel
theorem cd_309_84 : zt_code zq_T 309 84 = some (.aload_n 0, 1, 0) := by decide +kernel
theorem cd_309_85 : zt_code zq_T 309 85 = some (.getfield 30, 3, 0) := by decide +kernel
theorem cd_309_88 : zt_code zq_T 309 88 = some (.getfield 357, 3, 0) := by decide +kernel
theorem cd_309_91 : zt_code zq_T 309 91 = some (.iload_n 1, 1, 0) := by decide +kernel
theorem cd_309_92 : zt_code zq_T 309 92 = some (.iaload, 1, 0) := by decide +kernel
theorem cd_309_93 : zt_code zq_T 309 93 = some (.ireturn, 1, 0) := by decide +kernel
theorem cd_309_94 : zt_code zq_T 309 94 = some (.aload_n 0, 1, 0) := by decide +kernel
theorem cd_309_95 : zt_code zq_T 309 95 = some (.getfield 30, 3, 0) := by decide +kernel
theorem cd_309_98 : zt_code zq_T 309 98 = some (.getfield 360, 3, 0) := by decide +kernel
theorem cd_309_101 : zt_code zq_T 309 101 = some (.iload_n 1, 1, 0) := by decide +kernel
theorem cd_309_102 : zt_code zq_T 309 102 = some (.iaload, 1, 0) := by decide +kernel
theorem cd_309_103 : zt_code zq_T 309 103 = some (.ireturn, 1, 0) := by decide +kernel
theorem cd_309_104 : zt_code zq_T 309 104 = some (.aload_n 0, 1, 0) := by decide +kernel
theorem cd_309_105 : zt_code zq_T 309 105 = some (.getfield 30, 3, 0) := by decide +kernel
theorem cd_309_108 : zt_code zq_T 309 108 = some (.getfield 363, 3, 0) := by decide +kernel
theorem cd_309_111 : zt_code zq_T 309 111 = some (.iload_n 1, 1, 0) := by decide +kernel
theorem cd_309_112 : zt_code zq_T 309 112 = some (.iaload, 1, 0) := by decide +kernel
theorem cd_309_113 : zt_code zq_T 309 113 = some (.ireturn, 1, 0) := by decide +kernel
theorem cd_309_114 : zt_code zq_T 309 114 = some (.aload_n 0, 1, 0) := by decide +kernel
theorem cd_309_115 : zt_code zq_T 309 115 = some (.getfield 30, 3, 0) := by decide +kernel
theorem cd_309_118 : zt_code zq_T 309 118 = some (.getfield 366, 3, 0) := by decide +kernel
theorem cd_309_121 : zt_code zq_T 309 121 = some (.iload_n 1, 1, 0) := by decide +kernel
theorem cd_309_122 : zt_code zq_T 309 122 = some (.iaload, 1, 0) := by decide +kernel
theorem cd_309_123 : zt_code zq_T 309 123 = some (.ireturn, 1, 0) := by decide +kernel
theorem cd_309_124 : zt_code zq_T 309 124 = some (.aload_n 0, 1, 0) := by decide +kernel
theorem cd_309_125 : zt_code zq_T 309 125 = some (.getfield 30, 3, 0) := by decide +kernel
theorem cd_309_128 : zt_code zq_T 309 128 = some (.getfield 368, 3, 0) := by decide +kernel
theorem cd_309_131 : zt_code zq_T 309 131 = some (.iload_n 1, 1, 0) := by decide +kernel
theorem cd_309_132 : zt_code zq_T 309 132 = some (.iaload, 1, 0) := by decide +kernel
theorem cd_309_133 : zt_code zq_T 309 133 = some (.ireturn, 1, 0) := by decide +kernel
theorem cd_309_134 : zt_code zq_T 309 134 = some (.aload_n 0, 1, 0) := by decide +kernel
theorem cd_309_135 : zt_code zq_T 309 135 = some (.getfield 30, 3, 0) := by decide +kernel
theorem cd_309_138 : zt_code zq_T 309 138 = some (.getfield 370, 3, 0) := by decide +kernel
theorem cd_309_141 : zt_code zq_T 309 141 = some (.iload_n 1, 1, 0) := by decide +kernel
theorem cd_309_142 : zt_code zq_T 309 142 = some (.iaload, 1, 0) := by decide +kernel
theorem cd_309_143 : zt_code zq_T 309 143 = some (.ireturn, 1, 0) := by decide +kernel
theorem cd_309_144 : zt_code zq_T 309 144 = some (.bipush (-2), 2, 0) := by decide +kernel
theorem cd_309_146 : zt_code zq_T 309 146 = some (.ireturn, 1, 0) := by decide +kernel
theorem cd_310_0 : zt_code zq_T 310 0 = some (.aload_n 0, 1, 0) := by decide +kernel
theorem cd_310_1 : zt_code zq_T 310 1 = some (.getfield 30, 3, 0) := by decide +kernel
theorem cd_310_4 : zt_code zq_T 310 4 = some (.getfield 129, 3, 0) := by decide +kernel
theorem cd_310_7 : zt_code zq_T 310 7 = some (.ifCond .ne (5), 3, 0) := by decide +kernel
theorem cd_310_10 : zt_code zq_T 310 10 = some (.iconst (-1), 1, 0) := by decide +kernel
theorem cd_310_11 : zt_code zq_T 310 11 = some (.ireturn, 1, 0) := by decide +kernel
theorem cd_310_12 : zt_code zq_T 310 12 = some (.iload_n 1, 1, 0) := by decide +kernel
theorem cd_310_13 : zt_code zq_T 310 13 = some (.iconst (-1), 1, 0) := by decide +kernel
theorem cd_310_14 : zt_code zq_T 310 14 = some (.if_icmp .ne (13), 3, 0) := by decide +kernel
theorem cd_310_17 : zt_code zq_T 310 17 = some (.aload_n 0, 1, 0) := by decide +kernel
theorem cd_310_18 : zt_code zq_T 310 18 = some (.getfield 30, 3, 0) := by decide +kernel
theorem cd_310_21 : zt_code zq_T 310 21 = some (.invokevirtual 372, 3, 0) := by decide +kernel
theorem cd_310_24 : zt_code zq_T 310 24 = some (.goto (11), 3, 0) := by decide +kernel
theorem cd_310_27 : zt_code zq_T 310 27 = some (.aload_n 0, 1, 0) := by decide +kernel
theorem cd_310_28 : zt_code zq_T 310 28 = some (.getfield 30, 3, 0) := by decide +kernel
theorem cd_310_31 : zt_code zq_T 310 31 = some (.iload_n 1, 1, 0) := by decide +kernel
theorem cd_310_32 : zt_code zq_T 310 32 = some (.invokevirtual 376, 3, 0) := by decide +kernel
theorem cd_310_35 : zt_code zq_T 310 35 = some (.ireturn, 1, 0) := by decide +kernel
theorem cd_311_0 : zt_code zq_T 311 0 = some (.iload_n 1, 1, 0) := by decide +kernel
theorem cd_311_1 : zt_code zq_T 311 1 = some (.ifCond .lt (26), 3, 0) := by decide +kernel
theorem cd_311_4 : zt_code zq_T 311 4 = some (.iload_n 1, 1, 0) := by decide +kernel
theorem cd_311_5 : zt_code zq_T 311 5 = some (.aload_n 0, 1, 0) := by decide +kernel
theorem cd_311_6 : zt_code zq_T 311 6 = some (.getfield 30, 3, 0) := by decide +kernel
theorem cd_311_9 : zt_code zq_T 311 9 = some (.getfield 129, 3, 0) := by decide +kernel
theorem cd_311_12 : zt_code zq_T 311 12 = some (.if_icmp .ge (15), 3, 0) := by decide +kernel
theorem cd_311_15 : zt_code zq_T 311 15 = some (.aload_n 0, 1, 0) := by decide +kernel
theorem cd_311_16 : zt_code zq_T 311 16 = some (.getfield 30, 3, 0) := by decide +kernel
theorem cd_311_19 : zt_code zq_T 311 19 = some (.getfield 363, 3, 0) := by decide +kernel
theorem cd_311_22 : zt_code zq_T 311 22 = some (.iload_n 1, 1, 0) := by decide +kernel
theorem cd_311_23 : zt_code zq_T 311 23 = some (.iaload, 1, 0) := by decide +kernel
theorem cd_311_24 : zt_code zq_T 311 24 = some (.ifCond .eq (5), 3, 0) := by decide +kernel
theorem cd_311_27 : zt_code zq_T 311 27 = some (.iconst (-1), 1, 0) := by decide +kernel
theorem cd_311_28 : zt_code zq_T 311 28 = some (.ireturn, 1, 0) := by decide +kernel
theorem cd_311_29 : zt_code zq_T 311 29 = some (.aload_n 0, 1, 0) := by decide +kernel
theorem cd_311_30 : zt_code zq_T 311 30 = some (.getfield 30, 3, 0) := by decide +kernel
theorem cd_311_33 : zt_code zq_T 311 33 = some (.iload_n 1, 1, 0) := by decide +kernel
theorem cd_311_34 : zt_code zq_T 311 34 = some (.invokevirtual 379, 3, 0) := by decide +kernel
theorem cd_311_37 : zt_code zq_T 311 37 = some (.iload_n 2, 1, 0) := by decide +kernel
theorem cd_311_38 : zt_code zq_T 311 38 = some (.iconst (-1), 1, 0) := by decide +kernel
theorem cd_311_39 : zt_code zq_T 311 39 = some (.if_icmp .ne (11), 3, 0) := by decide +kernel
theorem cd_311_42 : zt_code zq_T 311 42 = some (.aload_n 0, 1, 0) := by decide +kernel
theorem cd_311_43 : zt_code zq_T 311 43 = some (.getfield 30, 3, 0) := by decide +kernel
theorem cd_311_46 : zt_code zq_T 311 46 = some (.getfield 382, 3, 0) := by decide +kernel
theorem cd_311_49 : zt_code zq_T 311 49 = some (.ireturn, 1, 0) := by decide +kernel
theorem cd_311_50 : zt_code zq_T 311 50 = some (.iload_n 2, 1, 0) := by decide +kernel
theorem cd_311_51 : zt_code zq_T 311 51 = some (.ifCond .lt (26), 3, 0) := by decide +kernel
theorem cd_311_54 : zt_code zq_T 311 54 = some (.iload_n 2, 1, 0) := by decide +kernel
theorem cd_311_55 : zt_code zq_T 311 55 = some (.aload_n 0, 1, 0) := by decide +kernel
theorem cd_311_56 : zt_code zq_T 311 56 = some (.getfield 30, 3, 0) := by decide +kernel
theorem cd_311_59 : zt_code zq_T 311 59 = some (.getfield 382, 3, 0) := by decide +kernel
theorem cd_311_62 : zt_code zq_T 311 62 = some (.if_icmp .ge (15), 3, 0) := by decide +kernel
theorem cd_311_65 : zt_code zq_T 311 65 = some (.aload_n 0, 1, 0) := by decide +kernel
theorem cd_311_66 : zt_code zq_T 311 66 = some (.getfield 30, 3, 0) := by decide +kernel
theorem cd_311_69 : zt_code zq_T 311 69 = some (.getfield 385, 3, 0) := by decide +kernel
theorem cd_311_72 : zt_code zq_T 311 72 = some (.iload_n 2, 1, 0) := by decide +kernel
theorem cd_311_73 : zt_code zq_T 311 73 = some (.iaload, 1, 0) := by decide +kernel
theorem cd_311_74 : zt_code zq_T 311 74 = some (.goto (4), 3, 0) := by decide +kernel
theorem cd_311_77 : zt_code zq_T 311 77 = some (.iconst (-1), 1, 0) := by decide +kernel
theorem cd_311_78 : zt_code zq_T 311 78 = some (.ireturn, 1, 0) := by decide +kernel
theorem cd_312_0 : zt_code zq_T 312 0 = some (.aload_n 0, 1, 0) := by decide +kernel
theorem cd_312_1 : zt_code zq_T 312 1 = some (.iload_n 1, 1, 0) := by decide +kernel
theorem cd_312_2 : zt_code zq_T 312 2 = some (.invokevirtual 136, 3, 0) := by decide +kernel
theorem cd_312_5 : zt_code zq_T 312 5 = some (.astore 5, 2, 0) := by decide +kernel
theorem cd_312_7 : zt_code zq_T 312 7 = some (.aload 5, 2, 0) := by decide +kernel
theorem cd_312_9 : zt_code zq_T 312 9 = some (.ifnull (16), 3, 0) := by decide +kernel
theorem cd_312_12 : zt_code zq_T 312 12 = some (.iload_n 2, 1, 0) := by decide +kernel
theorem cd_312_13 : zt_code zq_T 312 13 = some (.ifCond .lt (12), 3, 0) := by decide +kernel
theorem cd_312_16 : zt_code zq_T 312 16 = some (.iload_n 2, 1, 0) := by decide +kernel
theorem cd_312_17 : zt_code zq_T 312 17 = some (.aload 5, 2, 0) := by decide +kernel
theorem cd_312_19 : zt_code zq_T 312 19 = some (.getfield 159, 3, 0) := by decide +kernel
theorem cd_312_22 : zt_code zq_T 312 22 = some (.if_icmp .lt (5), 3, 0) := by decide +kernel
theorem cd_312_25 : zt_code zq_T 312 25 = some (.iconst (-1), 1, 0) := by decide +kernel
theorem cd_312_26 : zt_code zq_T 312 26 = some (.ireturn, 1, 0) := by decide +kernel
theorem cd_312_27 : zt_code zq_T 312 27 = some (.iload 4, 2, 0) := by decide +kernel
theorem cd_312_29 : zt_code zq_T 312 29 = some (.iconst (-1), 1, 0) := by decide +kernel
theorem cd_312_30 : zt_code zq_T 312 30 = some (.if_icmp .eq (22), 3, 0) := by decide +kernel
theorem cd_312_33 : zt_code zq_T 312 33 = some (.iload 4, 2, 0) := by decide +kernel
theorem cd_312_35 : zt_code zq_T 312 35 = some (.iconst 1, 1, 0) := by decide +kernel
theorem cd_312_36 : zt_code zq_T 312 36 = some (.if_icmp .lt (20), 3, 0) := by decide +kernel
theorem cd_312_39 : zt_code zq_T 312 39 = some (.iload 4, 2, 0) := by decide +kernel
theorem cd_312_41 : zt_code zq_T 312 41 = some (.iload_n 3, 1, 0) := by decide +kernel
theorem cd_312_42 : zt_code zq_T 312 42 = some (.if_icmp .lt (14), 3, 0) := by decide +kernel
theorem cd_312_45 : zt_code zq_T 312 45 = some (.iload 4, 2, 0) := by decide +kernel
theorem cd_312_47 : zt_code zq_T 312 47 = some (.bipush (12), 2, 0) := by decide +kernel
theorem cd_312_49 : zt_code zq_T 312 49 = some (.if_icmp .gt (7), 3, 0) := by decide +kernel
theorem cd_312_52 : zt_code zq_T 312 52 = some (.iconst 1, 1, 0) := by decide +kernel
theorem cd_312_53 : zt_code zq_T 312 53 = some (.goto (4), 3, 0) := by decide +kernel
theorem cd_312_56 : zt_code zq_T 312 56 = some (.iconst 0, 1, 0) := by decide +kernel
theorem cd_312_57 : zt_code zq_T 312 57 = some (.istore 6, 2, 0) := by decide +kernel
theorem cd_312_59 : zt_code zq_T 312 59 = some (.iload_n 3, 1, 0) := by decide +kernel
theorem cd_312_60 : zt_code zq_T 312 60 = some (.ifCond .lt (14), 3, 0) := by decide +kernel
theorem cd_312_63 : zt_code zq_T 312 63 = some (.iload_n 3, 1, 0) := by decide +kernel
theorem cd_312_64 : zt_code zq_T 312 64 = some (.bipush (12), 2, 0) := by decide +kernel
theorem cd_312_66 : zt_code zq_T 312 66 = some (.if_icmp .gt (8), 3, 0) := by decide +kernel
theorem cd_312_69 : zt_code zq_T 312 69 = some (.iload 6, 2, 0) := by decide +kernel
theorem cd_312_71 : zt_code zq_T 312 71 = some (.ifCond .ne (6), 3, 0) := by decide +kernel
theorem cd_312_74 : zt_code zq_T 312 74 = some (.bipush (-2), 2, 0) := by decide +kernel
theorem cd_312_76 : zt_code zq_T 312 76 = some (.ireturn, 1, 0) := by decide +kernel
theorem cd_312_77 : zt_code zq_T 312 77 = some (.aload 5, 2, 0) := by decide +kernel
theorem cd_312_79 : zt_code zq_T 312 79 = some (.getfield 226, 3, 0) := by decide +kernel
theorem cd_312_82 : zt_code zq_T 312 82 = some (.iload_n 2, 1, 0) := by decide +kernel
theorem cd_312_83 : zt_code zq_T 312 83 = some (.iaload, 1, 0) := by decide +kernel
theorem cd_312_84 : zt_code zq_T 312 84 = some (.iload_n 3, 1, 0) := by decide +kernel
theorem cd_312_85 : zt_code zq_T 312 85 = some (.if_icmp .ne (18), 3, 0) := by decide +kernel
theorem cd_312_88 : zt_code zq_T 312 88 = some (.aload 5, 2, 0) := by decide +kernel
theorem cd_312_90 : zt_code zq_T 312 90 = some (.getfield 229, 3, 0) := by decide +kernel
theorem cd_312_93 : zt_code zq_T 312 93 = some (.iload_n 2, 1, 0) := by decide +kernel
theorem cd_312_94 : zt_code zq_T 312 94 = some (.iaload, 1, 0) := by decide +kernel
theorem cd_312_95 : zt_code zq_T 312 95 = some (.iload 4, 2, 0) := by decide +kernel
theorem cd_312_97 : zt_code zq_T 312 97 = some (.if_icmp .ne (6), 3, 0) := by decide +kernel
theorem cd_312_100 : zt_code zq_T 312 100 = some (.bipush (-3), 2, 0) := by decide +kernel
theorem cd_312_102 : zt_code zq_T 312 102 = some (.ireturn, 1, 0) := by decide +kernel
theorem cd_312_103 : zt_code zq_T 312 103 = some (.aload 5, 2, 0) := by decide +kernel
theorem cd_312_105 : zt_code zq_T 312 105 = some (.getfield 226, 3, 0) := by decide +kernel
theorem cd_312_108 : zt_code zq_T 312 108 = some (.iload_n 2, 1, 0) := by decide +kernel
theorem cd_312_109 : zt_code zq_T 312 109 = some (.iload_n 3, 1, 0) := by decide +kernel
theorem cd_312_110 : zt_code zq_T 312 110 = some (.iastore, 1, 0) := by decide +kernel
theorem cd_312_111 : zt_code zq_T 312 111 = some (.aload 5, 2, 0) := by decide +kernel
theorem cd_312_113 : zt_code zq_T 312 113 = some (.getfield 229, 3, 0) := by decide +kernel
theorem cd_312_116 : zt_code zq_T 312 116 = some (.iload_n 2, 1, 0) := by decide +kernel
theorem cd_312_117 : zt_code zq_T 312 117 = some (.iload 4, 2, 0) := by decide +kernel
theorem cd_312_119 : zt_code zq_T 312 119 = some (.iastore, 1, 0) := by decide +kernel
theorem cd_312_120 : zt_code zq_T 312 120 = some (.aload_n 0, 1, 0) := by decide +kernel
theorem cd_312_121 : zt_code zq_T 312 121 = some (.aload 5, 2, 0) := by decide +kernel
theorem cd_312_123 : zt_code zq_T 312 123 = some (.invokevirtual 388, 3, 0) := by decide +kernel
theorem cd_312_126 : zt_code zq_T 312 126 = some (.ireturn, 1, 0) := by decide +kernel
theorem cd_313_0 : zt_code zq_T 313 0 = some (.aload_n 0, 1, 0) := by decide +kernel
theorem cd_313_1 : zt_code zq_T 313 1 = some (.iload_n 1, 1, 0) := by decide +kernel
theorem cd_313_2 : zt_code zq_T 313 2 = some (.invokevirtual 136, 3, 0) := by decide +kernel
theorem cd_313_5 : zt_code zq_T 313 5 = some (.astore 4, 2, 0) := by decide +kernel
theorem cd_313_7 : zt_code zq_T 313 7 = some (.aload 4, 2, 0) := by decide +kernel
theorem cd_313_9 : zt_code zq_T 313 9 = some (.ifnull (16), 3, 0) := by decide +kernel
theorem cd_313_12 : zt_code zq_T 313 12 = some (.iload_n 2, 1, 0) := by decide +kernel
theorem cd_313_13 : zt_code zq_T 313 13 = some (.ifCond .lt (12), 3, 0) := by decide +kernel
theorem cd_313_16 : zt_code zq_T 313 16 = some (.iload_n 2, 1, 0) := by decide +kernel
theorem cd_313_17 : zt_code zq_T 313 17 = some (.aload 4, 2, 0) := by decide +kernel
theorem cd_313_19 : zt_code zq_T 313 19 = some (.getfield 156, 3, 0) := by decide +kernel
theorem cd_313_22 : zt_code zq_T 313 22 = some (.if_icmp .lt (5), 3, 0) := by decide +kernel
theorem cd_313_25 : zt_code zq_T 313 25 = some (.iconst (-1), 1, 0) := by decide +kernel
theorem cd_313_26 : zt_code zq_T 313 26 = some (.ireturn, 1, 0) := by decide +kernel
theorem cd_313_27 : zt_code zq_T 313 27 = some (.iload_n 3, 1, 0) := by decide +kernel
theorem cd_313_28 : zt_code zq_T 313 28 = some (.ifCond .lt (9), 3, 0) := by decide +kernel
theorem cd_313_31 : zt_code zq_T 313 31 = some (.iload_n 3, 1, 0) := by decide +kernel
theorem cd_313_32 : zt_code zq_T 313 32 = some (.bipush (26), 2, 0) := by decide +kernel
theorem cd_313_34 : zt_code zq_T 313 34 = some (.if_icmp .lt (6), 3, 0) := by decide +kernel
theorem cd_313_37 : zt_code zq_T 313 37 = some (.bipush (-2), 2, 0) := by decide +kernel
theorem cd_313_39 : zt_code zq_T 313 39 = some (.ireturn, 1, 0) := by decide +kernel
theorem cd_313_40 : zt_code zq_T 313 40 = some (.aload 4, 2, 0) := by decide +kernel
theorem cd_313_42 : zt_code zq_T 313 42 = some (.getfield 197, 3, 0) := by decide +kernel
theorem cd_313_45 : zt_code zq_T 313 45 = some (.iload_n 2, 1, 0) := by decide +kernel
theorem cd_313_46 : zt_code zq_T 313 46 = some (.iaload, 1, 0) := by decide +kernel
theorem cd_313_47 : zt_code zq_T 313 47 = some (.iload_n 3, 1, 0) := by decide +kernel
theorem cd_313_48 : zt_code zq_T 313 48 = some (.if_icmp .ne (6), 3, 0) := by decide +kernel
theorem cd_313_51 : zt_code zq_T 313 51 = some (.bipush (-3), 2, 0) := by decide +kernel
theorem cd_313_53 : zt_code zq_T 313 53 = some (.ireturn, 1, 0) := by decide +kernel
theorem cd_313_54 : zt_code zq_T 313 54 = some (.aload 4, 2, 0) := by decide +kernel
theorem cd_313_56 : zt_code zq_T 313 56 = some (.getfield 197, 3, 0) := by decide +kernel
theorem cd_313_59 : zt_code zq_T 313 59 = some (.iload_n 2, 1, 0) := by decide +kernel
theorem cd_313_60 : zt_code zq_T 313 60 = some (.iload_n 3, 1, 0) := by decide +kernel
theorem cd_313_61 : zt_code zq_T 313 61 = some (.iastore, 1, 0) := by decide +kernel
theorem cd_313_62 : zt_code zq_T 313 62 = some (.aload_n 0, 1, 0) := by decide +kernel
theorem cd_313_63 : zt_code zq_T 313 63 = some (.aload 4, 2, 0) := by decide +kernel
theorem cd_313_65 : zt_code zq_T 313 65 = some (.invokevirtual 388, 3, 0) := by decide +kernel
theorem cd_313_68 : zt_code zq_T 313 68 = some (.ireturn, 1, 0) := by decide +kernel
theorem cd_314_0 : zt_code zq_T 314 0 = some (.aload_n 0, 1, 0) := by decide +kernel
theorem cd_314_1 : zt_code zq_T 314 1 = some (.getfield 40, 3, 0) := by decide +kernel
theorem cd_314_4 : zt_code zq_T 314 4 = some (.aload_n 1, 1, 0) := by decide +kernel
theorem cd_314_5 : zt_code zq_T 314 5 = some (.invokevirtual 115, 3, 0) := by decide +kernel
theorem cd_314_8 : zt_code zq_T 314 8 = some (.aload_n 0, 1, 0) := by decide +kernel
theorem cd_314_9 : zt_code zq_T 314 9 = some (.getfield 47, 3, 0) := by decide +kernel
theorem cd_314_12 : zt_code zq_T 314 12 = some (.aload_n 1, 1, 0) := by decide +kernel
theorem cd_314_13 : zt_code zq_T 314 13 = some (.invokevirtual 119, 3, 0) := by decide +kernel
theorem cd_314_16 : zt_code zq_T 314 16 = some (.aload_n 0, 1, 0) := by decide +kernel
theorem cd_314_17 : zt_code zq_T 314 17 = some (.invokevirtual 122, 3, 0) := by decide +kernel
theorem cd_314_20 : zt_code zq_T 314 20 = some (.aload_n 1, 1, 0) := by decide +kernel
theorem cd_314_21 : zt_code zq_T 314 21 = some (.getfield 177, 3, 0) := by decide +kernel
theorem cd_314_24 : zt_code zq_T 314 24 = some (.invokestatic 170, 3, 0) := by decide +kernel
theorem cd_314_27 : zt_code zq_T 314 27 = some (.ireturn, 1, 0) := by decide +kernel
theorem cd_315_0 : zt_code zq_T 315 0 = some (.iload_n 1, 1, 0) := by decide +kernel
theorem cd_315_1 : zt_code zq_T 315 1 = some (.tableswitch (108) (0) (7) #[47, 52, 60, 68, 76, 84, 92, 100], 47, 0) := by decide +kernel
theorem cd_315_48 : zt_code zq_T 315 48 = some (.aload_n 0, 1, 0) := by decide +kernel
theorem cd_315_49 : zt_code zq_T 315 49 = some (.getfield 13, 3, 0) := by decide +kernel
theorem cd_315_52 : zt_code zq_T 315 52 = some (.ireturn, 1, 0) := by decide +kernel
theorem cd_315_53 : zt_code zq_T 315 53 = some (.aload_n 0, 1, 0) := by decide +kernel
theorem cd_315_54 : zt_code zq_T 315 54 = some (.getfield 20, 3, 0) := by decide +kernel
theorem cd_315_57 : zt_code zq_T 315 57 = some (.getfield 108, 3, 0) := by decide +kernel
theorem cd_315_60 : zt_code zq_T 315 60 = some (.ireturn, 1, 0) := by decide +kernel
theorem cd_315_61 : zt_code zq_T 315 61 = some (.aload_n 0, 1, 0) := by decide +kernel
theorem cd_315_62 : zt_code zq_T 315 62 = some (.getfield 30, 3, 0) := by decide +kernel
theorem cd_315_65 : zt_code zq_T 315 65 = some (.getfield 129, 3, 0) := by decide +kernel
theorem cd_315_68 : zt_code zq_T 315 68 = some (.ireturn, 1, 0) := by decide +kernel
theorem cd_315_69 : zt_code zq_T 315 69 = some (.aload_n 0, 1, 0) := by decide +kernel
theorem cd_315_70 : zt_code zq_T 315 70 = some (.getfield 30, 3, 0) := by decide +kernel
theorem cd_315_73 : zt_code zq_T 315 73 = some (.invokevirtual 372, 3, 0) := by decide +kernel
theorem cd_315_76 : zt_code zq_T 315 76 = some (.ireturn, 1, 0) := by decide +kernel
theorem cd_315_77 : zt_code zq_T 315 77 = some (.aload_n 0, 1, 0) := by decide +kernel
theorem cd_315_78 : zt_code zq_T 315 78 = some (.getfield 20, 3, 0) := by decide +kernel
theorem cd_315_81 : zt_code zq_T 315 81 = some (.invokevirtual 392, 3, 0) := by decide +kernel
theorem cd_315_84 : zt_code zq_T 315 84 = some (.ireturn, 1, 0) := by decide +kernel
theorem cd_315_85 : zt_code zq_T 315 85 = some (.aload_n 0, 1, 0) := by decide +kernel
theorem cd_315_86 : zt_code zq_T 315 86 = some (.getfield 20, 3, 0) := by decide +kernel
theorem cd_315_89 : zt_code zq_T 315 89 = some (.invokevirtual 395, 3, 0) := by decide +kernel
theorem cd_315_92 : zt_code zq_T 315 92 = some (.ireturn, 1, 0) := by decide +kernel
theorem cd_315_93 : zt_code zq_T 315 93 = some (.aload_n 0, 1, 0) := by decide +kernel
theorem cd_315_94 : zt_code zq_T 315 94 = some (.getfield 30, 3, 0) := by decide +kernel
theorem cd_315_97 : zt_code zq_T 315 97 = some (.invokevirtual 398, 3, 0) := by decide +kernel
theorem cd_315_100 : zt_code zq_T 315 100 = some (.ireturn, 1, 0) := by decide +kernel
theorem cd_315_101 : zt_code zq_T 315 101 = some (.aload_n 0, 1, 0) := by decide +kernel
theorem cd_315_102 : zt_code zq_T 315 102 = some (.getfield 30, 3, 0) := by decide +kernel
theorem cd_315_105 : zt_code zq_T 315 105 = some (.invokevirtual 401, 3, 0) := by decide +kernel
theorem cd_315_108 : zt_code zq_T 315 108 = some (.ireturn, 1, 0) := by decide +kernel
theorem cd_315_109 : zt_code zq_T 315 109 = some (.iconst (-1), 1, 0) := by decide +kernel
theorem cd_315_110 : zt_code zq_T 315 110 = some (.ireturn, 1, 0) := by decide +kernel
