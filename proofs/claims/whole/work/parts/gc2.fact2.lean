/-! facts -/
theorem cd_32_20 : zt_code zq_T 32 20 = some (.aload_n 0, 1, 0) := by decide +kernel
theorem cd_32_21 : zt_code zq_T 32 21 = some (.getfield 17, 3, 0) := by decide +kernel
theorem cd_32_24 : zt_code zq_T 32 24 = some (.aload_n 0, 1, 0) := by decide +kernel
theorem cd_32_25 : zt_code zq_T 32 25 = some (.getfield 13, 3, 0) := by decide +kernel
theorem cd_32_28 : zt_code zq_T 32 28 = some (.invokestatic 226, 3, 0) := by decide +kernel
theorem cd_32_31 : zt_code zq_T 32 31 = some (.aload_n 0, 1, 0) := by decide +kernel
theorem cd_32_32 : zt_code zq_T 32 32 = some (.getfield 23, 3, 0) := by decide +kernel
theorem cd_32_35 : zt_code zq_T 32 35 = some (.aload_n 0, 1, 0) := by decide +kernel
theorem cd_32_36 : zt_code zq_T 32 36 = some (.getfield 20, 3, 0) := by decide +kernel
theorem cd_32_39 : zt_code zq_T 32 39 = some (.invokestatic 226, 3, 0) := by decide +kernel
theorem cd_32_42 : zt_code zq_T 32 42 = some (.aload_n 0, 1, 0) := by decide +kernel
theorem cd_32_43 : zt_code zq_T 32 43 = some (.getfield 29, 3, 0) := by decide +kernel
theorem cd_32_46 : zt_code zq_T 32 46 = some (.aload_n 0, 1, 0) := by decide +kernel
theorem cd_32_47 : zt_code zq_T 32 47 = some (.getfield 26, 3, 0) := by decide +kernel
theorem cd_32_50 : zt_code zq_T 32 50 = some (.invokestatic 226, 3, 0) := by decide +kernel
theorem cd_32_53 : zt_code zq_T 32 53 = some (.aload_n 0, 1, 0) := by decide +kernel
theorem cd_32_54 : zt_code zq_T 32 54 = some (.getfield 35, 3, 0) := by decide +kernel
theorem cd_32_57 : zt_code zq_T 32 57 = some (.aload_n 0, 1, 0) := by decide +kernel
theorem cd_32_58 : zt_code zq_T 32 58 = some (.getfield 32, 3, 0) := by decide +kernel
theorem cd_32_61 : zt_code zq_T 32 61 = some (.invokestatic 226, 3, 0) := by decide +kernel
theorem cd_32_64 : zt_code zq_T 32 64 = some (.aload_n 0, 1, 0) := by decide +kernel
theorem cd_32_65 : zt_code zq_T 32 65 = some (.getfield 41, 3, 0) := by decide +kernel
theorem cd_32_68 : zt_code zq_T 32 68 = some (.aload_n 0, 1, 0) := by decide +kernel
theorem cd_32_69 : zt_code zq_T 32 69 = some (.getfield 38, 3, 0) := by decide +kernel
theorem cd_32_72 : zt_code zq_T 32 72 = some (.invokestatic 226, 3, 0) := by decide +kernel
theorem cd_32_75 : zt_code zq_T 32 75 = some (.aload_n 0, 1, 0) := by decide +kernel
theorem cd_32_76 : zt_code zq_T 32 76 = some (.aload_n 0, 1, 0) := by decide +kernel
theorem cd_32_77 : zt_code zq_T 32 77 = some (.getfield 150, 3, 0) := by decide +kernel
theorem cd_32_80 : zt_code zq_T 32 80 = some (.putfield 230, 3, 0) := by decide +kernel
theorem cd_32_83 : zt_code zq_T 32 83 = some (.aload_n 0, 1, 0) := by decide +kernel
theorem cd_32_84 : zt_code zq_T 32 84 = some (.iconst 0, 1, 0) := by decide +kernel
theorem cd_32_85 : zt_code zq_T 32 85 = some (.putfield 233, 3, 0) := by decide +kernel
theorem cd_32_88 : zt_code zq_T 32 88 = some (.aload_n 0, 1, 0) := by decide +kernel
theorem cd_32_89 : zt_code zq_T 32 89 = some (.getfield 230, 3, 0) := by decide +kernel
theorem cd_32_92 : zt_code zq_T 32 92 = some (.ireturn, 1, 0) := by decide +kernel
theorem cd_33_0 : zt_code zq_T 33 0 = some (.aload_n 0, 1, 0) := by decide +kernel
theorem cd_33_1 : zt_code zq_T 33 1 = some (.iconst 0, 1, 0) := by decide +kernel
theorem cd_33_2 : zt_code zq_T 33 2 = some (.putfield 114, 3, 0) := by decide +kernel
theorem cd_33_5 : zt_code zq_T 33 5 = some (.aload_n 0, 1, 0) := by decide +kernel
theorem cd_33_6 : zt_code zq_T 33 6 = some (.invokevirtual 223, 3, 0) := by decide +kernel
theorem cd_33_9 : zt_code zq_T 33 9 = some (.iconst (-1), 1, 0) := by decide +kernel
theorem cd_33_10 : zt_code zq_T 33 10 = some (.if_icmp .eq (5), 3, 0) := by decide +kernel
theorem cd_33_13 : zt_code zq_T 33 13 = some (.iconst (-1), 1, 0) := by decide +kernel
theorem cd_33_14 : zt_code zq_T 33 14 = some (.ireturn, 1, 0) := by decide +kernel
theorem cd_33_15 : zt_code zq_T 33 15 = some (.aload_n 0, 1, 0) := by decide +kernel
theorem cd_33_16 : zt_code zq_T 33 16 = some (.iconst 0, 1, 0) := by decide +kernel
theorem cd_33_17 : zt_code zq_T 33 17 = some (.putfield 117, 3, 0) := by decide +kernel
theorem cd_33_20 : zt_code zq_T 33 20 = some (.aload_n 0, 1, 0) := by decide +kernel
theorem cd_33_21 : zt_code zq_T 33 21 = some (.getfield 47, 3, 0) := by decide +kernel
theorem cd_33_24 : zt_code zq_T 33 24 = some (.aload_n 0, 1, 0) := by decide +kernel
theorem cd_33_25 : zt_code zq_T 33 25 = some (.getfield 44, 3, 0) := by decide +kernel
theorem cd_33_28 : zt_code zq_T 33 28 = some (.invokestatic 226, 3, 0) := by decide +kernel
theorem cd_33_31 : zt_code zq_T 33 31 = some (.aload_n 0, 1, 0) := by decide +kernel
theorem cd_33_32 : zt_code zq_T 33 32 = some (.aload_n 0, 1, 0) := by decide +kernel
theorem cd_33_33 : zt_code zq_T 33 33 = some (.getfield 214, 3, 0) := by decide +kernel
theorem cd_33_36 : zt_code zq_T 33 36 = some (.putfield 237, 3, 0) := by decide +kernel
theorem cd_33_39 : zt_code zq_T 33 39 = some (.aload_n 0, 1, 0) := by decide +kernel
theorem cd_33_40 : zt_code zq_T 33 40 = some (.getfield 237, 3, 0) := by decide +kernel
theorem cd_33_43 : zt_code zq_T 33 43 = some (.ireturn, 1, 0) := by decide +kernel
theorem cd_34_0 : zt_code zq_T 34 0 = some (.iload_n 1, 1, 0) := by decide +kernel
theorem cd_34_1 : zt_code zq_T 34 1 = some (.i2l, 1, 0) := by decide +kernel
theorem cd_34_2 : zt_code zq_T 34 2 = some (.lconst 0, 1, 0) := by decide +kernel
theorem cd_34_3 : zt_code zq_T 34 3 = some (.aload_n 0, 1, 0) := by decide +kernel
theorem cd_34_4 : zt_code zq_T 34 4 = some (.getfield 230, 3, 0) := by decide +kernel
theorem cd_34_7 : zt_code zq_T 34 7 = some (.iconst 1, 1, 0) := by decide +kernel
theorem cd_34_8 : zt_code zq_T 34 8 = some (.isub, 1, 0) := by decide +kernel
theorem cd_34_9 : zt_code zq_T 34 9 = some (.i2l, 1, 0) := by decide +kernel
theorem cd_34_10 : zt_code zq_T 34 10 = some (.invokestatic 204, 3, 0) := by decide +kernel
theorem cd_34_13 : zt_code zq_T 34 13 = some (.ireturn, 1, 0) := by decide +kernel
theorem cd_35_0 : zt_code zq_T 35 0 = some (.aload_n 0, 1, 0) := by decide +kernel
theorem cd_35_1 : zt_code zq_T 35 1 = some (.getfield 20, 3, 0) := by decide +kernel
theorem cd_35_4 : zt_code zq_T 35 4 = some (.iconst 5, 1, 0) := by decide +kernel
theorem cd_35_5 : zt_code zq_T 35 5 = some (.iload_n 1, 1, 0) := by decide +kernel
theorem cd_35_6 : zt_code zq_T 35 6 = some (.imul, 1, 0) := by decide +kernel
theorem cd_35_7 : zt_code zq_T 35 7 = some (.iload_n 2, 1, 0) := by decide +kernel
theorem cd_35_8 : zt_code zq_T 35 8 = some (.iadd, 1, 0) := by decide +kernel
theorem cd_35_9 : zt_code zq_T 35 9 = some (.iaload, 1, 0) := by decide +kernel
theorem cd_35_10 : zt_code zq_T 35 10 = some (.ireturn, 1, 0) := by decide +kernel
theorem cd_36_0 : zt_code zq_T 36 0 = some (.aload_n 0, 1, 0) := by decide +kernel
theorem cd_36_1 : zt_code zq_T 36 1 = some (.getfield 13, 3, 0) := by decide +kernel
theorem cd_36_4 : zt_code zq_T 36 4 = some (.bipush (6), 2, 0) := by decide +kernel
theorem cd_36_6 : zt_code zq_T 36 6 = some (.iload_n 1, 1, 0) := by decide +kernel
theorem cd_36_7 : zt_code zq_T 36 7 = some (.imul, 1, 0) := by decide +kernel
theorem cd_36_8 : zt_code zq_T 36 8 = some (.iload_n 2, 1, 0) := by decide +kernel
theorem cd_36_9 : zt_code zq_T 36 9 = some (.iadd, 1, 0) := by decide +kernel
theorem cd_36_10 : zt_code zq_T 36 10 = some (.iaload, 1, 0) := by decide +kernel
theorem cd_36_11 : zt_code zq_T 36 11 = some (.ireturn, 1, 0) := by decide +kernel
theorem cd_37_0 : zt_code zq_T 37 0 = some (.aload_n 0, 1, 0) := by decide +kernel
theorem cd_37_1 : zt_code zq_T 37 1 = some (.getfield 26, 3, 0) := by decide +kernel
theorem cd_37_4 : zt_code zq_T 37 4 = some (.iconst 3, 1, 0) := by decide +kernel
theorem cd_37_5 : zt_code zq_T 37 5 = some (.bipush (8), 2, 0) := by decide +kernel
theorem cd_37_7 : zt_code zq_T 37 7 = some (.iload_n 1, 1, 0) := by decide +kernel
theorem cd_37_8 : zt_code zq_T 37 8 = some (.imul, 1, 0) := by decide +kernel
theorem cd_37_9 : zt_code zq_T 37 9 = some (.iload_n 2, 1, 0) := by decide +kernel
theorem cd_37_10 : zt_code zq_T 37 10 = some (.iadd, 1, 0) := by decide +kernel
theorem cd_37_11 : zt_code zq_T 37 11 = some (.imul, 1, 0) := by decide +kernel
theorem cd_37_12 : zt_code zq_T 37 12 = some (.iaload, 1, 0) := by decide +kernel
theorem cd_37_13 : zt_code zq_T 37 13 = some (.ireturn, 1, 0) := by decide +kernel
theorem cd_38_0 : zt_code zq_T 38 0 = some (.aload_n 0, 1, 0) := by decide +kernel
theorem cd_38_1 : zt_code zq_T 38 1 = some (.getfield 26, 3, 0) := by decide +kernel
theorem cd_38_4 : zt_code zq_T 38 4 = some (.iconst 3, 1, 0) := by decide +kernel
theorem cd_38_5 : zt_code zq_T 38 5 = some (.bipush (8), 2, 0) := by decide +kernel
theorem cd_38_7 : zt_code zq_T 38 7 = some (.iload_n 1, 1, 0) := by decide +kernel
theorem cd_38_8 : zt_code zq_T 38 8 = some (.imul, 1, 0) := by decide +kernel
theorem cd_38_9 : zt_code zq_T 38 9 = some (.iload_n 2, 1, 0) := by decide +kernel
theorem cd_38_10 : zt_code zq_T 38 10 = some (.iadd, 1, 0) := by decide +kernel
theorem cd_38_11 : zt_code zq_T 38 11 = some (.imul, 1, 0) := by decide +kernel
theorem cd_38_12 : zt_code zq_T 38 12 = some (.iconst 1, 1, 0) := by decide +kernel
theorem cd_38_13 : zt_code zq_T 38 13 = some (.iadd, 1, 0) := by decide +kernel
theorem cd_38_14 : zt_code zq_T 38 14 = some (.iaload, 1, 0) := by decide +kernel
theorem cd_38_15 : zt_code zq_T 38 15 = some (.ireturn, 1, 0) := by decide +kernel
theorem cd_39_0 : zt_code zq_T 39 0 = some (.aload_n 0, 1, 0) := by decide +kernel
theorem cd_39_1 : zt_code zq_T 39 1 = some (.getfield 32, 3, 0) := by decide +kernel
theorem cd_39_4 : zt_code zq_T 39 4 = some (.iconst 2, 1, 0) := by decide +kernel
theorem cd_39_5 : zt_code zq_T 39 5 = some (.bipush (16), 2, 0) := by decide +kernel
theorem cd_39_7 : zt_code zq_T 39 7 = some (.iload_n 1, 1, 0) := by decide +kernel
theorem cd_39_8 : zt_code zq_T 39 8 = some (.imul, 1, 0) := by decide +kernel
theorem cd_39_9 : zt_code zq_T 39 9 = some (.iload_n 2, 1, 0) := by decide +kernel
theorem cd_39_10 : zt_code zq_T 39 10 = some (.iadd, 1, 0) := by decide +kernel
theorem cd_39_11 : zt_code zq_T 39 11 = some (.imul, 1, 0) := by decide +kernel
theorem cd_39_12 : zt_code zq_T 39 12 = some (.iaload, 1, 0) := by decide +kernel
theorem cd_39_13 : zt_code zq_T 39 13 = some (.ireturn, 1, 0) := by decide +kernel
theorem cd_40_0 : zt_code zq_T 40 0 = some (.aload_n 0, 1, 0) := by decide +kernel
theorem cd_40_1 : zt_code zq_T 40 1 = some (.getfield 32, 3, 0) := by decide +kernel
theorem cd_40_4 : zt_code zq_T 40 4 = some (.iconst 2, 1, 0) := by decide +kernel
theorem cd_40_5 : zt_code zq_T 40 5 = some (.bipush (16), 2, 0) := by decide +kernel
theorem cd_40_7 : zt_code zq_T 40 7 = some (.iload_n 1, 1, 0) := by decide +kernel
theorem cd_40_8 : zt_code zq_T 40 8 = some (.imul, 1, 0) := by decide +kernel
theorem cd_40_9 : zt_code zq_T 40 9 = some (.iload_n 2, 1, 0) := by decide +kernel
theorem cd_40_10 : zt_code zq_T 40 10 = some (.iadd, 1, 0) := by decide +kernel
theorem cd_40_11 : zt_code zq_T 40 11 = some (.imul, 1, 0) := by decide +kernel
theorem cd_40_12 : zt_code zq_T 40 12 = some (.iconst 1, 1, 0) := by decide +kernel
theorem cd_40_13 : zt_code zq_T 40 13 = some (.iadd, 1, 0) := by decide +kernel
theorem cd_40_14 : zt_code zq_T 40 14 = some (.iaload, 1, 0) := by decide +kernel
theorem cd_40_15 : zt_code zq_T 40 15 = some (.ireturn, 1, 0) := by decide +kernel
theorem cd_41_0 : zt_code zq_T 41 0 = some (.aload_n 0, 1, 0) := by decide +kernel
theorem cd_41_1 : zt_code zq_T 41 1 = some (.iload_n 2, 1, 0) := by decide +kernel
theorem cd_41_2 : zt_code zq_T 41 2 = some (.iconst 0, 1, 0) := by decide +kernel
theorem cd_41_3 : zt_code zq_T 41 3 = some (.invokevirtual 240, 3, 0) := by decide +kernel
theorem cd_41_6 : zt_code zq_T 41 6 = some (.istore_n 3, 1, 0) := by decide +kernel
theorem cd_41_7 : zt_code zq_T 41 7 = some (.iload_n 3, 1, 0) := by decide +kernel
theorem cd_41_8 : zt_code zq_T 41 8 = some (.ifCond .eq (8), 3, 0) := by decide +kernel
theorem cd_41_11 : zt_code zq_T 41 11 = some (.iload_n 3, 1, 0) := by decide +kernel
theorem cd_41_12 : zt_code zq_T 41 12 = some (.iconst 1, 1, 0) := by decide +kernel
theorem cd_41_13 : zt_code zq_T 41 13 = some (.if_icmp .ne (14), 3, 0) := by decide +kernel
theorem cd_41_16 : zt_code zq_T 41 16 = some (.iload_n 3, 1, 0) := by decide +kernel
theorem cd_41_17 : zt_code zq_T 41 17 = some (.iconst 1, 1, 0) := by decide +kernel
theorem cd_41_18 : zt_code zq_T 41 18 = some (.if_icmp .ne (7), 3, 0) := by decide +kernel
theorem cd_41_21 : zt_code zq_T 41 21 = some (.iconst 1, 1, 0) := by decide +kernel
theorem cd_41_22 : zt_code zq_T 41 22 = some (.goto (4), 3, 0) := by decide +kernel
theorem cd_41_25 : zt_code zq_T 41 25 = some (.iconst 0, 1, 0) := by decide +kernel
theorem cd_41_26 : zt_code zq_T 41 26 = some (.ireturn, 1, 0) := by decide +kernel
theorem cd_41_27 : zt_code zq_T 41 27 = some (.iload_n 3, 1, 0) := by decide +kernel
theorem cd_41_28 : zt_code zq_T 41 28 = some (.iconst 5, 1, 0) := by decide +kernel
theorem cd_41_29 : zt_code zq_T 41 29 = some (.if_icmp .ne (19), 3, 0) := by decide +kernel
theorem cd_41_32 : zt_code zq_T 41 32 = some (.aload_n 0, 1, 0) := by decide +kernel
theorem cd_41_33 : zt_code zq_T 41 33 = some (.iload_n 1, 1, 0) := by decide +kernel
theorem cd_41_34 : zt_code zq_T 41 34 = some (.aload_n 0, 1, 0) := by decide +kernel
theorem cd_41_35 : zt_code zq_T 41 35 = some (.iload_n 2, 1, 0) := by decide +kernel
theorem cd_41_36 : zt_code zq_T 41 36 = some (.iconst 1, 1, 0) := by decide +kernel
theorem cd_41_37 : zt_code zq_T 41 37 = some (.invokevirtual 240, 3, 0) := by decide +kernel
theorem cd_41_40 : zt_code zq_T 41 40 = some (.invokevirtual 242, 3, 0) := by decide +kernel
theorem cd_41_43 : zt_code zq_T 41 43 = some (.ifCond .ne (5), 3, 0) := by decide +kernel
theorem cd_41_46 : zt_code zq_T 41 46 = some (.iconst 1, 1, 0) := by decide +kernel
theorem cd_41_47 : zt_code zq_T 41 47 = some (.ireturn, 1, 0) := by decide +kernel
theorem cd_41_48 : zt_code zq_T 41 48 = some (.aload_n 0, 1, 0) := by decide +kernel
theorem cd_41_49 : zt_code zq_T 41 49 = some (.iload_n 2, 1, 0) := by decide +kernel
theorem cd_41_50 : zt_code zq_T 41 50 = some (.iconst 3, 1, 0) := by decide +kernel
theorem cd_41_51 : zt_code zq_T 41 51 = some (.invokevirtual 240, 3, 0) := by decide +kernel
theorem cd_41_54 : zt_code zq_T 41 54 = some (.istore 4, 2, 0) := by decide +kernel
theorem cd_41_56 : zt_code zq_T 41 56 = some (.iload 4, 2, 0) := by decide +kernel
theorem cd_41_58 : zt_code zq_T 41 58 = some (.iconst (-1), 1, 0) := by decide +kernel
theorem cd_41_59 : zt_code zq_T 41 59 = some (.if_icmp .eq (46), 3, 0) := by decide +kernel
theorem cd_41_62 : zt_code zq_T 41 62 = some (.aload_n 0, 1, 0) := by decide +kernel
theorem cd_41_63 : zt_code zq_T 41 63 = some (.iload_n 1, 1, 0) := by decide +kernel
theorem cd_41_64 : zt_code zq_T 41 64 = some (.iload 4, 2, 0) := by decide +kernel
theorem cd_41_66 : zt_code zq_T 41 66 = some (.invokevirtual 245, 3, 0) := by decide +kernel
theorem cd_41_69 : zt_code zq_T 41 69 = some (.iload_n 3, 1, 0) := by decide +kernel
theorem cd_41_70 : zt_code zq_T 41 70 = some (.iconst 3, 1, 0) := by decide +kernel
theorem cd_41_71 : zt_code zq_T 41 71 = some (.if_icmp .ne (7), 3, 0) := by decide +kernel
theorem cd_41_74 : zt_code zq_T 41 74 = some (.iconst 1, 1, 0) := by decide +kernel
theorem cd_41_75 : zt_code zq_T 41 75 = some (.goto (4), 3, 0) := by decide +kernel
theorem cd_41_78 : zt_code zq_T 41 78 = some (.iconst 0, 1, 0) := by decide +kernel
theorem cd_41_79 : zt_code zq_T 41 79 = some (.if_icmp .ne (14), 3, 0) := by decide +kernel
theorem cd_41_82 : zt_code zq_T 41 82 = some (.iload_n 3, 1, 0) := by decide +kernel
theorem cd_41_83 : zt_code zq_T 41 83 = some (.iconst 3, 1, 0) := by decide +kernel
theorem cd_41_84 : zt_code zq_T 41 84 = some (.if_icmp .ne (7), 3, 0) := by decide +kernel
theorem cd_41_87 : zt_code zq_T 41 87 = some (.iconst 1, 1, 0) := by decide +kernel
theorem cd_41_88 : zt_code zq_T 41 88 = some (.goto (4), 3, 0) := by decide +kernel
theorem cd_41_91 : zt_code zq_T 41 91 = some (.iconst 0, 1, 0) := by decide +kernel
theorem cd_41_92 : zt_code zq_T 41 92 = some (.ireturn, 1, 0) := by decide +kernel
theorem cd_41_93 : zt_code zq_T 41 93 = some (.aload_n 0, 1, 0) := by decide +kernel
theorem cd_41_94 : zt_code zq_T 41 94 = some (.iload 4, 2, 0) := by decide +kernel
theorem cd_41_96 : zt_code zq_T 41 96 = some (.iconst 4, 1, 0) := by decide +kernel
theorem cd_41_97 : zt_code zq_T 41 97 = some (.invokevirtual 240, 3, 0) := by decide +kernel
theorem cd_41_100 : zt_code zq_T 41 100 = some (.istore 4, 2, 0) := by decide +kernel
theorem cd_41_102 : zt_code zq_T 41 102 = some (.goto (-46), 3, 0) := by decide +kernel
theorem cd_41_105 : zt_code zq_T 41 105 = some (.iload_n 3, 1, 0) := by decide +kernel
theorem cd_41_106 : zt_code zq_T 41 106 = some (.iconst 3, 1, 0) := by decide +kernel
theorem cd_41_107 : zt_code zq_T 41 107 = some (.if_icmp .eq (7), 3, 0) := by decide +kernel
theorem cd_41_110 : zt_code zq_T 41 110 = some (.iconst 1, 1, 0) := by decide +kernel
theorem cd_41_111 : zt_code zq_T 41 111 = some (.goto (4), 3, 0) := by decide +kernel
theorem cd_41_114 : zt_code zq_T 41 114 = some (.iconst 0, 1, 0) := by decide +kernel
theorem cd_41_115 : zt_code zq_T 41 115 = some (.ireturn, 1, 0) := by decide +kernel
theorem cd_42_0 : zt_code zq_T 42 0 = some (.iload_n 1, 1, 0) := by decide +kernel
theorem cd_42_1 : zt_code zq_T 42 1 = some (.istore_n 3, 1, 0) := by decide +kernel
theorem cd_42_2 : zt_code zq_T 42 2 = some (.iload_n 3, 1, 0) := by decide +kernel
theorem cd_42_3 : zt_code zq_T 42 3 = some (.iconst (-1), 1, 0) := by decide +kernel
theorem cd_42_4 : zt_code zq_T 42 4 = some (.if_icmp .eq (18), 3, 0) := by decide +kernel
theorem cd_42_7 : zt_code zq_T 42 7 = some (.iload_n 3, 1, 0) := by decide +kernel
theorem cd_42_8 : zt_code zq_T 42 8 = some (.iload_n 2, 1, 0) := by decide +kernel
theorem cd_42_9 : zt_code zq_T 42 9 = some (.if_icmp .eq (13), 3, 0) := by decide +kernel
theorem cd_42_12 : zt_code zq_T 42 12 = some (.aload_n 0, 1, 0) := by decide +kernel
theorem cd_42_13 : zt_code zq_T 42 13 = some (.iload_n 3, 1, 0) := by decide +kernel
theorem cd_42_14 : zt_code zq_T 42 14 = some (.iconst 2, 1, 0) := by decide +kernel
theorem cd_42_15 : zt_code zq_T 42 15 = some (.invokevirtual 240, 3, 0) := by decide +kernel
theorem cd_42_18 : zt_code zq_T 42 18 = some (.istore_n 3, 1, 0) := by decide +kernel
theorem cd_42_19 : zt_code zq_T 42 19 = some (.goto (-17), 3, 0) := by decide +kernel
theorem cd_42_22 : zt_code zq_T 42 22 = some (.iload_n 3, 1, 0) := by decide +kernel
theorem cd_42_23 : zt_code zq_T 42 23 = some (.iload_n 2, 1, 0) := by decide +kernel
theorem cd_42_24 : zt_code zq_T 42 24 = some (.if_icmp .ne (7), 3, 0) := by decide +kernel
theorem cd_42_27 : zt_code zq_T 42 27 = some (.iconst 1, 1, 0) := by decide +kernel
theorem cd_42_28 : zt_code zq_T 42 28 = some (.goto (4), 3, 0) := by decide +kernel
theorem cd_42_31 : zt_code zq_T 42 31 = some (.iconst 0, 1, 0) := by decide +kernel
theorem cd_42_32 : zt_code zq_T 42 32 = some (.ireturn, 1, 0) := by decide +kernel
theorem cd_43_0 : zt_code zq_T 43 0 = some (.aload_n 0, 1, 0) := by decide +kernel
theorem cd_43_1 : zt_code zq_T 43 1 = some (.iload_n 1, 1, 0) := by decide +kernel
theorem cd_43_2 : zt_code zq_T 43 2 = some (.iload_n 3, 1, 0) := by decide +kernel
theorem cd_43_3 : zt_code zq_T 43 3 = some (.invokevirtual 249, 3, 0) := by decide +kernel
theorem cd_43_6 : zt_code zq_T 43 6 = some (.istore 4, 2, 0) := by decide +kernel
theorem cd_43_8 : zt_code zq_T 43 8 = some (.aload_n 0, 1, 0) := by decide +kernel
theorem cd_43_9 : zt_code zq_T 43 9 = some (.iload 4, 2, 0) := by decide +kernel
theorem cd_43_11 : zt_code zq_T 43 11 = some (.iload_n 2, 1, 0) := by decide +kernel
theorem cd_43_12 : zt_code zq_T 43 12 = some (.invokevirtual 252, 3, 0) := by decide +kernel
theorem cd_43_15 : zt_code zq_T 43 15 = some (.ifCond .ne (5), 3, 0) := by decide +kernel
theorem cd_43_18 : zt_code zq_T 43 18 = some (.iconst 0, 1, 0) := by decide +kernel
theorem cd_43_19 : zt_code zq_T 43 19 = some (.ireturn, 1, 0) := by decide +kernel
theorem cd_43_20 : zt_code zq_T 43 20 = some (.iload 4, 2, 0) := by decide +kernel
theorem cd_43_22 : zt_code zq_T 43 22 = some (.iload_n 2, 1, 0) := by decide +kernel
theorem cd_43_23 : zt_code zq_T 43 23 = some (.if_icmp .eq (70), 3, 0) := by decide +kernel
theorem cd_43_26 : zt_code zq_T 43 26 = some (.aload_n 0, 1, 0) := by decide +kernel
theorem cd_43_27 : zt_code zq_T 43 27 = some (.iload 4, 2, 0) := by decide +kernel
theorem cd_43_29 : zt_code zq_T 43 29 = some (.iconst 2, 1, 0) := by decide +kernel
theorem cd_43_30 : zt_code zq_T 43 30 = some (.invokevirtual 240, 3, 0) := by decide +kernel
theorem cd_43_33 : zt_code zq_T 43 33 = some (.istore 5, 2, 0) := by decide +kernel
theorem cd_43_35 : zt_code zq_T 43 35 = some (.aload_n 0, 1, 0) := by decide +kernel
theorem cd_43_36 : zt_code zq_T 43 36 = some (.iload 5, 2, 0) := by decide +kernel
theorem cd_43_38 : zt_code zq_T 43 38 = some (.iconst 0, 1, 0) := by decide +kernel
theorem cd_43_39 : zt_code zq_T 43 39 = some (.invokevirtual 240, 3, 0) := by decide +kernel
theorem cd_43_42 : zt_code zq_T 43 42 = some (.iconst 2, 1, 0) := by decide +kernel
theorem cd_43_43 : zt_code zq_T 43 43 = some (.if_icmp .ne (43), 3, 0) := by decide +kernel
theorem cd_43_46 : zt_code zq_T 43 46 = some (.aload_n 0, 1, 0) := by decide +kernel
theorem cd_43_47 : zt_code zq_T 43 47 = some (.iload 5, 2, 0) := by decide +kernel
theorem cd_43_49 : zt_code zq_T 43 49 = some (.iconst 3, 1, 0) := by decide +kernel
theorem cd_43_50 : zt_code zq_T 43 50 = some (.invokevirtual 240, 3, 0) := by decide +kernel
theorem cd_43_53 : zt_code zq_T 43 53 = some (.istore 6, 2, 0) := by decide +kernel
theorem cd_43_55 : zt_code zq_T 43 55 = some (.iload 6, 2, 0) := by decide +kernel
theorem cd_43_57 : zt_code zq_T 43 57 = some (.iload 4, 2, 0) := by decide +kernel
theorem cd_43_59 : zt_code zq_T 43 59 = some (.if_icmp .eq (27), 3, 0) := by decide +kernel
theorem cd_43_62 : zt_code zq_T 43 62 = some (.aload_n 0, 1, 0) := by decide +kernel
theorem cd_43_63 : zt_code zq_T 43 63 = some (.iload_n 1, 1, 0) := by decide +kernel
theorem cd_43_64 : zt_code zq_T 43 64 = some (.iload 6, 2, 0) := by decide +kernel
theorem cd_43_66 : zt_code zq_T 43 66 = some (.invokevirtual 245, 3, 0) := by decide +kernel
theorem cd_43_69 : zt_code zq_T 43 69 = some (.ifCond .ne (5), 3, 0) := by decide +kernel
theorem cd_43_72 : zt_code zq_T 43 72 = some (.iconst 0, 1, 0) := by decide +kernel
theorem cd_43_73 : zt_code zq_T 43 73 = some (.ireturn, 1, 0) := by decide +kernel
theorem cd_43_74 : zt_code zq_T 43 74 = some (.aload_n 0, 1, 0) := by decide +kernel
theorem cd_43_75 : zt_code zq_T 43 75 = some (.iload 6, 2, 0) := by decide +kernel
theorem cd_43_77 : zt_code zq_T 43 77 = some (.iconst 4, 1, 0) := by decide +kernel
theorem cd_43_78 : zt_code zq_T 43 78 = some (.invokevirtual 240, 3, 0) := by decide +kernel
theorem cd_43_81 : zt_code zq_T 43 81 = some (.istore 6, 2, 0) := by decide +kernel
theorem cd_43_83 : zt_code zq_T 43 83 = some (.goto (-28), 3, 0) := by decide +kernel
theorem cd_43_86 : zt_code zq_T 43 86 = some (.iload 5, 2, 0) := by decide +kernel
theorem cd_43_88 : zt_code zq_T 43 88 = some (.istore 4, 2, 0) := by decide +kernel
theorem cd_43_90 : zt_code zq_T 43 90 = some (.goto (-70), 3, 0) := by decide +kernel
theorem cd_43_93 : zt_code zq_T 43 93 = some (.iconst 1, 1, 0) := by decide +kernel
theorem cd_43_94 : zt_code zq_T 43 94 = some (.ireturn, 1, 0) := by decide +kernel
theorem cd_44_0 : zt_code zq_T 44 0 = some (.aload_n 0, 1, 0) := by decide +kernel
theorem cd_44_1 : zt_code zq_T 44 1 = some (.iload_n 2, 1, 0) := by decide +kernel
theorem cd_44_2 : zt_code zq_T 44 2 = some (.iconst 4, 1, 0) := by decide +kernel
theorem cd_44_3 : zt_code zq_T 44 3 = some (.invokevirtual 240, 3, 0) := by decide +kernel
theorem cd_44_6 : zt_code zq_T 44 6 = some (.istore_n 3, 1, 0) := by decide +kernel
theorem cd_44_7 : zt_code zq_T 44 7 = some (.iload_n 3, 1, 0) := by decide +kernel
theorem cd_44_8 : zt_code zq_T 44 8 = some (.iconst (-1), 1, 0) := by decide +kernel
theorem cd_44_9 : zt_code zq_T 44 9 = some (.if_icmp .eq (24), 3, 0) := by decide +kernel
theorem cd_44_12 : zt_code zq_T 44 12 = some (.aload_n 0, 1, 0) := by decide +kernel
theorem cd_44_13 : zt_code zq_T 44 13 = some (.iload_n 1, 1, 0) := by decide +kernel
theorem cd_44_14 : zt_code zq_T 44 14 = some (.iload_n 3, 1, 0) := by decide +kernel
theorem cd_44_15 : zt_code zq_T 44 15 = some (.invokevirtual 245, 3, 0) := by decide +kernel
theorem cd_44_18 : zt_code zq_T 44 18 = some (.ifCond .ne (5), 3, 0) := by decide +kernel
theorem cd_44_21 : zt_code zq_T 44 21 = some (.iconst 0, 1, 0) := by decide +kernel
theorem cd_44_22 : zt_code zq_T 44 22 = some (.ireturn, 1, 0) := by decide +kernel
theorem cd_44_23 : zt_code zq_T 44 23 = some (.aload_n 0, 1, 0) := by decide +kernel
theorem cd_44_24 : zt_code zq_T 44 24 = some (.iload_n 3, 1, 0) := by decide +kernel
theorem cd_44_25 : zt_code zq_T 44 25 = some (.iconst 4, 1, 0) := by decide +kernel
theorem cd_44_26 : zt_code zq_T 44 26 = some (.invokevirtual 240, 3, 0) := by decide +kernel
theorem cd_44_29 : zt_code zq_T 44 29 = some (.istore_n 3, 1, 0) := by decide +kernel
theorem cd_44_30 : zt_code zq_T 44 30 = some (.goto (-23), 3, 0) := by decide +kernel
theorem cd_44_33 : zt_code zq_T 44 33 = some (.iconst 1, 1, 0) := by decide +kernel
theorem cd_44_34 : zt_code zq_T 44 34 = some (.ireturn, 1, 0) := by decide +kernel
theorem cd_45_0 : zt_code zq_T 45 0 = some (.aload_n 0, 1, 0) := by decide +kernel
theorem cd_45_1 : zt_code zq_T 45 1 = some (.iload_n 1, 1, 0) := by decide +kernel
theorem cd_45_2 : zt_code zq_T 45 2 = some (.iload_n 2, 1, 0) := by decide +kernel
theorem cd_45_3 : zt_code zq_T 45 3 = some (.invokevirtual 249, 3, 0) := by decide +kernel
theorem cd_45_6 : zt_code zq_T 45 6 = some (.istore_n 3, 1, 0) := by decide +kernel
theorem cd_45_7 : zt_code zq_T 45 7 = some (.aload_n 0, 1, 0) := by decide +kernel
theorem cd_45_8 : zt_code zq_T 45 8 = some (.iload_n 3, 1, 0) := by decide +kernel
theorem cd_45_9 : zt_code zq_T 45 9 = some (.iconst 2, 1, 0) := by decide +kernel
theorem cd_45_10 : zt_code zq_T 45 10 = some (.invokevirtual 240, 3, 0) := by decide +kernel
theorem cd_45_13 : zt_code zq_T 45 13 = some (.iconst (-1), 1, 0) := by decide +kernel
theorem cd_45_14 : zt_code zq_T 45 14 = some (.if_icmp .eq (39), 3, 0) := by decide +kernel
theorem cd_45_17 : zt_code zq_T 45 17 = some (.aload_n 0, 1, 0) := by decide +kernel
theorem cd_45_18 : zt_code zq_T 45 18 = some (.aload_n 0, 1, 0) := by decide +kernel
theorem cd_45_19 : zt_code zq_T 45 19 = some (.iload_n 3, 1, 0) := by decide +kernel
theorem cd_45_20 : zt_code zq_T 45 20 = some (.iconst 2, 1, 0) := by decide +kernel
theorem cd_45_21 : zt_code zq_T 45 21 = some (.invokevirtual 240, 3, 0) := by decide +kernel
theorem cd_45_24 : zt_code zq_T 45 24 = some (.iconst 0, 1, 0) := by decide +kernel
theorem cd_45_25 : zt_code zq_T 45 25 = some (.invokevirtual 240, 3, 0) := by decide +kernel
theorem cd_45_28 : zt_code zq_T 45 28 = some (.iconst 2, 1, 0) := by decide +kernel
theorem cd_45_29 : zt_code zq_T 45 29 = some (.if_icmp .ne (14), 3, 0) := by decide +kernel
theorem cd_45_32 : zt_code zq_T 45 32 = some (.aload_n 0, 1, 0) := by decide +kernel
theorem cd_45_33 : zt_code zq_T 45 33 = some (.iload_n 1, 1, 0) := by decide +kernel
theorem cd_45_34 : zt_code zq_T 45 34 = some (.iload_n 3, 1, 0) := by decide +kernel
theorem cd_45_35 : zt_code zq_T 45 35 = some (.invokevirtual 255, 3, 0) := by decide +kernel
theorem cd_45_38 : zt_code zq_T 45 38 = some (.ifCond .ne (5), 3, 0) := by decide +kernel
theorem cd_45_41 : zt_code zq_T 45 41 = some (.iconst 0, 1, 0) := by decide +kernel
theorem cd_45_42 : zt_code zq_T 45 42 = some (.ireturn, 1, 0) := by decide +kernel
theorem cd_45_43 : zt_code zq_T 45 43 = some (.aload_n 0, 1, 0) := by decide +kernel
theorem cd_45_44 : zt_code zq_T 45 44 = some (.iload_n 3, 1, 0) := by decide +kernel
theorem cd_45_45 : zt_code zq_T 45 45 = some (.iconst 2, 1, 0) := by decide +kernel
theorem cd_45_46 : zt_code zq_T 45 46 = some (.invokevirtual 240, 3, 0) := by decide +kernel
theorem cd_45_49 : zt_code zq_T 45 49 = some (.istore_n 3, 1, 0) := by decide +kernel
theorem cd_45_50 : zt_code zq_T 45 50 = some (.goto (-43), 3, 0) := by decide +kernel
theorem cd_45_53 : zt_code zq_T 45 53 = some (.iconst 1, 1, 0) := by decide +kernel
theorem cd_45_54 : zt_code zq_T 45 54 = some (.ireturn, 1, 0) := by decide +kernel
theorem cd_46_0 : zt_code zq_T 46 0 = some (.iconst 0, 1, 0) := by decide +kernel
theorem cd_46_1 : zt_code zq_T 46 1 = some (.istore_n 3, 1, 0) := by decide +kernel
theorem cd_46_2 : zt_code zq_T 46 2 = some (.aload_n 0, 1, 0) := by decide +kernel
theorem cd_46_3 : zt_code zq_T 46 3 = some (.iload_n 1, 1, 0) := by decide +kernel
theorem cd_46_4 : zt_code zq_T 46 4 = some (.iconst 3, 1, 0) := by decide +kernel
theorem cd_46_5 : zt_code zq_T 46 5 = some (.invokevirtual 240, 3, 0) := by decide +kernel
theorem cd_46_8 : zt_code zq_T 46 8 = some (.istore 4, 2, 0) := by decide +kernel
theorem cd_46_10 : zt_code zq_T 46 10 = some (.iload 4, 2, 0) := by decide +kernel
theorem cd_46_12 : zt_code zq_T 46 12 = some (.iload_n 2, 1, 0) := by decide +kernel
theorem cd_46_13 : zt_code zq_T 46 13 = some (.if_icmp .eq (18), 3, 0) := by decide +kernel
theorem cd_46_16 : zt_code zq_T 46 16 = some (.iinc 3 (1), 3, 0) := by decide +kernel
theorem cd_46_19 : zt_code zq_T 46 19 = some (.aload_n 0, 1, 0) := by decide +kernel
theorem cd_46_20 : zt_code zq_T 46 20 = some (.iload 4, 2, 0) := by decide +kernel
theorem cd_46_22 : zt_code zq_T 46 22 = some (.iconst 4, 1, 0) := by decide +kernel
theorem cd_46_23 : zt_code zq_T 46 23 = some (.invokevirtual 240, 3, 0) := by decide +kernel
theorem cd_46_26 : zt_code zq_T 46 26 = some (.istore 4, 2, 0) := by decide +kernel
theorem cd_46_28 : zt_code zq_T 46 28 = some (.goto (-18), 3, 0) := by decide +kernel
theorem cd_46_31 : zt_code zq_T 46 31 = some (.iload_n 3, 1, 0) := by decide +kernel
theorem cd_46_32 : zt_code zq_T 46 32 = some (.ireturn, 1, 0) := by decide +kernel
theorem cd_47_0 : zt_code zq_T 47 0 = some (.iconst 0, 1, 0) := by decide +kernel
theorem cd_47_1 : zt_code zq_T 47 1 = some (.istore 5, 2, 0) := by decide +kernel
theorem cd_47_3 : zt_code zq_T 47 3 = some (.iload 5, 2, 0) := by decide +kernel
theorem cd_47_5 : zt_code zq_T 47 5 = some (.aload_n 0, 1, 0) := by decide +kernel
theorem cd_47_6 : zt_code zq_T 47 6 = some (.iload_n 1, 1, 0) := by decide +kernel
theorem cd_47_7 : zt_code zq_T 47 7 = some (.iconst 2, 1, 0) := by decide +kernel
theorem cd_47_8 : zt_code zq_T 47 8 = some (.invokevirtual 258, 3, 0) := by decide +kernel
theorem cd_47_11 : zt_code zq_T 47 11 = some (.if_icmp .ge (75), 3, 0) := by decide +kernel
theorem cd_47_14 : zt_code zq_T 47 14 = some (.aload_n 0, 1, 0) := by decide +kernel
theorem cd_47_15 : zt_code zq_T 47 15 = some (.iload_n 1, 1, 0) := by decide +kernel
theorem cd_47_16 : zt_code zq_T 47 16 = some (.iload_n 3, 1, 0) := by decide +kernel
theorem cd_47_17 : zt_code zq_T 47 17 = some (.iload 5, 2, 0) := by decide +kernel
theorem cd_47_19 : zt_code zq_T 47 19 = some (.invokevirtual 261, 3, 0) := by decide +kernel
theorem cd_47_22 : zt_code zq_T 47 22 = some (.ifCond .ne (6), 3, 0) := by decide +kernel
theorem cd_47_25 : zt_code zq_T 47 25 = some (.goto (55), 3, 0) := by decide +kernel
theorem cd_47_28 : zt_code zq_T 47 28 = some (.aload_n 0, 1, 0) := by decide +kernel
theorem cd_47_29 : zt_code zq_T 47 29 = some (.getfield 50, 3, 0) := by decide +kernel
theorem cd_47_32 : zt_code zq_T 47 32 = some (.aload_n 0, 1, 0) := by decide +kernel
theorem cd_47_33 : zt_code zq_T 47 33 = some (.getfield 265, 3, 0) := by decide +kernel
theorem cd_47_36 : zt_code zq_T 47 36 = some (.iload 5, 2, 0) := by decide +kernel
theorem cd_47_38 : zt_code zq_T 47 38 = some (.iastore, 1, 0) := by decide +kernel
theorem cd_47_39 : zt_code zq_T 47 39 = some (.aload_n 0, 1, 0) := by decide +kernel
theorem cd_47_40 : zt_code zq_T 47 40 = some (.getfield 53, 3, 0) := by decide +kernel
theorem cd_47_43 : zt_code zq_T 47 43 = some (.aload_n 0, 1, 0) := by decide +kernel
theorem cd_47_44 : zt_code zq_T 47 44 = some (.getfield 265, 3, 0) := by decide +kernel
theorem cd_47_47 : zt_code zq_T 47 47 = some (.iload 4, 2, 0) := by decide +kernel
theorem cd_47_49 : zt_code zq_T 47 49 = some (.iastore, 1, 0) := by decide +kernel
theorem cd_47_50 : zt_code zq_T 47 50 = some (.aload_n 0, 1, 0) := by decide +kernel
theorem cd_47_51 : zt_code zq_T 47 51 = some (.getfield 56, 3, 0) := by decide +kernel
theorem cd_47_54 : zt_code zq_T 47 54 = some (.aload_n 0, 1, 0) := by decide +kernel
theorem cd_47_55 : zt_code zq_T 47 55 = some (.getfield 265, 3, 0) := by decide +kernel
theorem cd_47_58 : zt_code zq_T 47 58 = some (.iload_n 2, 1, 0) := by decide +kernel
theorem cd_47_59 : zt_code zq_T 47 59 = some (.iastore, 1, 0) := by decide +kernel
theorem cd_47_60 : zt_code zq_T 47 60 = some (.aload_n 0, 1, 0) := by decide +kernel
theorem cd_47_61 : zt_code zq_T 47 61 = some (.getfield 59, 3, 0) := by decide +kernel
theorem cd_47_64 : zt_code zq_T 47 64 = some (.aload_n 0, 1, 0) := by decide +kernel
theorem cd_47_65 : zt_code zq_T 47 65 = some (.getfield 265, 3, 0) := by decide +kernel
theorem cd_47_68 : zt_code zq_T 47 68 = some (.iload_n 3, 1, 0) := by decide +kernel
theorem cd_47_69 : zt_code zq_T 47 69 = some (.iastore, 1, 0) := by decide +kernel
theorem cd_47_70 : zt_code zq_T 47 70 = some (.aload_n 0, 1, 0) := by decide +kernel
theorem cd_47_71 : zt_code zq_T 47 71 = some (.dup, 1, 0) := by decide +kernel
theorem cd_47_72 : zt_code zq_T 47 72 = some (.getfield 265, 3, 0) := by decide +kernel
theorem cd_47_75 : zt_code zq_T 47 75 = some (.iconst 1, 1, 0) := by decide +kernel
theorem cd_47_76 : zt_code zq_T 47 76 = some (.iadd, 1, 0) := by decide +kernel
theorem cd_47_77 : zt_code zq_T 47 77 = some (.putfield 265, 3, 0) := by decide +kernel
theorem cd_47_80 : zt_code zq_T 47 80 = some (.iinc 5 (1), 3, 0) := by decide +kernel
theorem cd_47_83 : zt_code zq_T 47 83 = some (.goto (-80), 3, 0) := by decide +kernel
theorem cd_47_86 : zt_code zq_T 47 86 = some (.return_, 1, 0) := by decide +kernel
theorem cd_48_0 : zt_code zq_T 48 0 = some (.iconst 1, 1, 0) := by decide +kernel
theorem cd_48_1 : zt_code zq_T 48 1 = some (.istore_n 3, 1, 0) := by decide +kernel
theorem cd_48_2 : zt_code zq_T 48 2 = some (.aload_n 0, 1, 0) := by decide +kernel
theorem cd_48_3 : zt_code zq_T 48 3 = some (.iload_n 2, 1, 0) := by decide +kernel
theorem cd_48_4 : zt_code zq_T 48 4 = some (.iconst 4, 1, 0) := by decide +kernel
theorem cd_48_5 : zt_code zq_T 48 5 = some (.invokevirtual 240, 3, 0) := by decide +kernel
theorem cd_48_8 : zt_code zq_T 48 8 = some (.istore 4, 2, 0) := by decide +kernel
theorem cd_48_10 : zt_code zq_T 48 10 = some (.iload 4, 2, 0) := by decide +kernel
theorem cd_48_12 : zt_code zq_T 48 12 = some (.iconst (-1), 1, 0) := by decide +kernel
theorem cd_48_13 : zt_code zq_T 48 13 = some (.if_icmp .eq (41), 3, 0) := by decide +kernel
theorem cd_48_16 : zt_code zq_T 48 16 = some (.iload_n 3, 1, 0) := by decide +kernel
theorem cd_48_17 : zt_code zq_T 48 17 = some (.ifCond .eq (37), 3, 0) := by decide +kernel
theorem cd_48_20 : zt_code zq_T 48 20 = some (.aload_n 0, 1, 0) := by decide +kernel
theorem cd_48_21 : zt_code zq_T 48 21 = some (.iload_n 1, 1, 0) := by decide +kernel
theorem cd_48_22 : zt_code zq_T 48 22 = some (.aload_n 0, 1, 0) := by decide +kernel
theorem cd_48_23 : zt_code zq_T 48 23 = some (.iload_n 2, 1, 0) := by decide +kernel
theorem cd_48_24 : zt_code zq_T 48 24 = some (.iconst 2, 1, 0) := by decide +kernel
theorem cd_48_25 : zt_code zq_T 48 25 = some (.invokevirtual 240, 3, 0) := by decide +kernel
theorem cd_48_28 : zt_code zq_T 48 28 = some (.iload 4, 2, 0) := by decide +kernel
theorem cd_48_30 : zt_code zq_T 48 30 = some (.iconst (-1), 1, 0) := by decide +kernel
theorem cd_48_31 : zt_code zq_T 48 31 = some (.invokevirtual 268, 3, 0) := by decide +kernel
theorem cd_48_34 : zt_code zq_T 48 34 = some (.aload_n 0, 1, 0) := by decide +kernel
theorem cd_48_35 : zt_code zq_T 48 35 = some (.iload_n 1, 1, 0) := by decide +kernel
theorem cd_48_36 : zt_code zq_T 48 36 = some (.iload 4, 2, 0) := by decide +kernel
theorem cd_48_38 : zt_code zq_T 48 38 = some (.invokevirtual 245, 3, 0) := by decide +kernel
theorem cd_48_41 : zt_code zq_T 48 41 = some (.istore_n 3, 1, 0) := by decide +kernel
theorem cd_48_42 : zt_code zq_T 48 42 = some (.aload_n 0, 1, 0) := by decide +kernel
theorem cd_48_43 : zt_code zq_T 48 43 = some (.iload 4, 2, 0) := by decide +kernel
theorem cd_48_45 : zt_code zq_T 48 45 = some (.iconst 4, 1, 0) := by decide +kernel
theorem cd_48_46 : zt_code zq_T 48 46 = some (.invokevirtual 240, 3, 0) := by decide +kernel
theorem cd_48_49 : zt_code zq_T 48 49 = some (.istore 4, 2, 0) := by decide +kernel
theorem cd_48_51 : zt_code zq_T 48 51 = some (.goto (-41), 3, 0) := by decide +kernel
theorem cd_48_54 : zt_code zq_T 48 54 = some (.iload_n 3, 1, 0) := by decide +kernel
theorem cd_48_55 : zt_code zq_T 48 55 = some (.ireturn, 1, 0) := by decide +kernel
theorem cd_49_0 : zt_code zq_T 49 0 = some (.aload_n 0, 1, 0) := by decide +kernel
theorem cd_49_1 : zt_code zq_T 49 1 = some (.iconst 0, 1, 0) := by decide +kernel
theorem cd_49_2 : zt_code zq_T 49 2 = some (.putfield 265, 3, 0) := by decide +kernel
theorem cd_49_5 : zt_code zq_T 49 5 = some (.iload_n 2, 1, 0) := by decide +kernel
theorem cd_49_6 : zt_code zq_T 49 6 = some (.iconst (-1), 1, 0) := by decide +kernel
theorem cd_49_7 : zt_code zq_T 49 7 = some (.if_icmp .ne (17), 3, 0) := by decide +kernel
theorem cd_49_10 : zt_code zq_T 49 10 = some (.aload_n 0, 1, 0) := by decide +kernel
theorem cd_49_11 : zt_code zq_T 49 11 = some (.iload_n 1, 1, 0) := by decide +kernel
theorem cd_49_12 : zt_code zq_T 49 12 = some (.iconst (-1), 1, 0) := by decide +kernel
theorem cd_49_13 : zt_code zq_T 49 13 = some (.aload_n 0, 1, 0) := by decide +kernel
theorem cd_49_14 : zt_code zq_T 49 14 = some (.iload_n 1, 1, 0) := by decide +kernel
theorem cd_49_15 : zt_code zq_T 49 15 = some (.iconst 1, 1, 0) := by decide +kernel
theorem cd_49_16 : zt_code zq_T 49 16 = some (.invokevirtual 258, 3, 0) := by decide +kernel
theorem cd_49_19 : zt_code zq_T 49 19 = some (.iconst (-1), 1, 0) := by decide +kernel
theorem cd_49_20 : zt_code zq_T 49 20 = some (.invokevirtual 268, 3, 0) := by decide +kernel
theorem cd_49_23 : zt_code zq_T 49 23 = some (.return_, 1, 0) := by decide +kernel
theorem cd_49_24 : zt_code zq_T 49 24 = some (.iconst 1, 1, 0) := by decide +kernel
theorem cd_49_25 : zt_code zq_T 49 25 = some (.istore_n 3, 1, 0) := by decide +kernel
theorem cd_49_26 : zt_code zq_T 49 26 = some (.aload_n 0, 1, 0) := by decide +kernel
theorem cd_49_27 : zt_code zq_T 49 27 = some (.iload_n 1, 1, 0) := by decide +kernel
theorem cd_49_28 : zt_code zq_T 49 28 = some (.iload_n 2, 1, 0) := by decide +kernel
theorem cd_49_29 : zt_code zq_T 49 29 = some (.invokevirtual 249, 3, 0) := by decide +kernel
theorem cd_49_32 : zt_code zq_T 49 32 = some (.istore 4, 2, 0) := by decide +kernel
theorem cd_49_34 : zt_code zq_T 49 34 = some (.aload_n 0, 1, 0) := by decide +kernel
theorem cd_49_35 : zt_code zq_T 49 35 = some (.iload 4, 2, 0) := by decide +kernel
theorem cd_49_37 : zt_code zq_T 49 37 = some (.iconst 2, 1, 0) := by decide +kernel
theorem cd_49_38 : zt_code zq_T 49 38 = some (.invokevirtual 240, 3, 0) := by decide +kernel
theorem cd_49_41 : zt_code zq_T 49 41 = some (.iconst (-1), 1, 0) := by decide +kernel
theorem cd_49_42 : zt_code zq_T 49 42 = some (.if_icmp .eq (145), 3, 0) := by decide +kernel
theorem cd_49_45 : zt_code zq_T 49 45 = some (.iload_n 3, 1, 0) := by decide +kernel
theorem cd_49_46 : zt_code zq_T 49 46 = some (.ifCond .eq (141), 3, 0) := by decide +kernel
theorem cd_49_49 : zt_code zq_T 49 49 = some (.aload_n 0, 1, 0) := by decide +kernel
theorem cd_49_50 : zt_code zq_T 49 50 = some (.iload 4, 2, 0) := by decide +kernel
theorem cd_49_52 : zt_code zq_T 49 52 = some (.iconst 2, 1, 0) := by decide +kernel
theorem cd_49_53 : zt_code zq_T 49 53 = some (.invokevirtual 240, 3, 0) := by decide +kernel
theorem cd_49_56 : zt_code zq_T 49 56 = some (.istore 5, 2, 0) := by decide +kernel
theorem cd_49_58 : zt_code zq_T 49 58 = some (.aload_n 0, 1, 0) := by decide +kernel
theorem cd_49_59 : zt_code zq_T 49 59 = some (.iload 5, 2, 0) := by decide +kernel
theorem cd_49_61 : zt_code zq_T 49 61 = some (.iconst 0, 1, 0) := by decide +kernel
theorem cd_49_62 : zt_code zq_T 49 62 = some (.invokevirtual 240, 3, 0) := by decide +kernel
theorem cd_49_65 : zt_code zq_T 49 65 = some (.iconst 2, 1, 0) := by decide +kernel
theorem cd_49_66 : zt_code zq_T 49 66 = some (.if_icmp .ne (11), 3, 0) := by decide +kernel
theorem cd_49_69 : zt_code zq_T 49 69 = some (.aload_n 0, 1, 0) := by decide +kernel
theorem cd_49_70 : zt_code zq_T 49 70 = some (.iload_n 1, 1, 0) := by decide +kernel
theorem cd_49_71 : zt_code zq_T 49 71 = some (.iload 4, 2, 0) := by decide +kernel
theorem cd_49_73 : zt_code zq_T 49 73 = some (.invokevirtual 272, 3, 0) := by decide +kernel
theorem cd_49_76 : zt_code zq_T 49 76 = some (.istore_n 3, 1, 0) := by decide +kernel
theorem cd_49_77 : zt_code zq_T 49 77 = some (.aload_n 0, 1, 0) := by decide +kernel
theorem cd_49_78 : zt_code zq_T 49 78 = some (.iload 5, 2, 0) := by decide +kernel
theorem cd_49_80 : zt_code zq_T 49 80 = some (.iconst 0, 1, 0) := by decide +kernel
theorem cd_49_81 : zt_code zq_T 49 81 = some (.invokevirtual 240, 3, 0) := by decide +kernel
theorem cd_49_84 : zt_code zq_T 49 84 = some (.iconst 4, 1, 0) := by decide +kernel
theorem cd_49_85 : zt_code zq_T 49 85 = some (.if_icmp .ne (47), 3, 0) := by decide +kernel
theorem cd_49_88 : zt_code zq_T 49 88 = some (.aload_n 0, 1, 0) := by decide +kernel
theorem cd_49_89 : zt_code zq_T 49 89 = some (.iload 5, 2, 0) := by decide +kernel
theorem cd_49_91 : zt_code zq_T 49 91 = some (.iconst 3, 1, 0) := by decide +kernel
theorem cd_49_92 : zt_code zq_T 49 92 = some (.invokevirtual 240, 3, 0) := by decide +kernel
theorem cd_49_95 : zt_code zq_T 49 95 = some (.istore 6, 2, 0) := by decide +kernel
theorem cd_49_97 : zt_code zq_T 49 97 = some (.iload 6, 2, 0) := by decide +kernel
theorem cd_49_99 : zt_code zq_T 49 99 = some (.iconst (-1), 1, 0) := by decide +kernel
theorem cd_49_100 : zt_code zq_T 49 100 = some (.if_icmp .eq (32), 3, 0) := by decide +kernel
theorem cd_49_103 : zt_code zq_T 49 103 = some (.iload 6, 2, 0) := by decide +kernel
theorem cd_49_105 : zt_code zq_T 49 105 = some (.iload 4, 2, 0) := by decide +kernel
theorem cd_49_107 : zt_code zq_T 49 107 = some (.if_icmp .eq (13), 3, 0) := by decide +kernel
theorem cd_49_110 : zt_code zq_T 49 110 = some (.aload_n 0, 1, 0) := by decide +kernel
theorem cd_49_111 : zt_code zq_T 49 111 = some (.iload_n 1, 1, 0) := by decide +kernel
theorem cd_49_112 : zt_code zq_T 49 112 = some (.iload 5, 2, 0) := by decide +kernel
theorem cd_49_114 : zt_code zq_T 49 114 = some (.iload 6, 2, 0) := by decide +kernel
theorem cd_49_116 : zt_code zq_T 49 116 = some (.iconst (-1), 1, 0) := by decide +kernel
theorem cd_49_117 : zt_code zq_T 49 117 = some (.invokevirtual 268, 3, 0) := by decide +kernel
theorem cd_49_120 : zt_code zq_T 49 120 = some (.aload_n 0, 1, 0) := by decide +kernel
theorem cd_49_121 : zt_code zq_T 49 121 = some (.iload 6, 2, 0) := by decide +kernel
theorem cd_49_123 : zt_code zq_T 49 123 = some (.iconst 4, 1, 0) := by decide +kernel
theorem cd_49_124 : zt_code zq_T 49 124 = some (.invokevirtual 240, 3, 0) := by decide +kernel
theorem cd_49_127 : zt_code zq_T 49 127 = some (.istore 6, 2, 0) := by decide +kernel
theorem cd_49_129 : zt_code zq_T 49 129 = some (.goto (-32), 3, 0) := by decide +kernel
theorem cd_49_132 : zt_code zq_T 49 132 = some (.aload_n 0, 1, 0) := by decide +kernel
theorem cd_49_133 : zt_code zq_T 49 133 = some (.iload 5, 2, 0) := by decide +kernel
theorem cd_49_135 : zt_code zq_T 49 135 = some (.iconst 0, 1, 0) := by decide +kernel
theorem cd_49_136 : zt_code zq_T 49 136 = some (.invokevirtual 240, 3, 0) := by decide +kernel
theorem cd_49_139 : zt_code zq_T 49 139 = some (.iconst 5, 1, 0) := by decide +kernel
theorem cd_49_140 : zt_code zq_T 49 140 = some (.if_icmp .ne (35), 3, 0) := by decide +kernel
theorem cd_49_143 : zt_code zq_T 49 143 = some (.aload_n 0, 1, 0) := by decide +kernel
theorem cd_49_144 : zt_code zq_T 49 144 = some (.iload_n 1, 1, 0) := by decide +kernel
theorem cd_49_145 : zt_code zq_T 49 145 = some (.aload_n 0, 1, 0) := by decide +kernel
theorem cd_49_146 : zt_code zq_T 49 146 = some (.iload 5, 2, 0) := by decide +kernel
theorem cd_49_148 : zt_code zq_T 49 148 = some (.iconst 1, 1, 0) := by decide +kernel
theorem cd_49_149 : zt_code zq_T 49 149 = some (.invokevirtual 240, 3, 0) := by decide +kernel
theorem cd_49_152 : zt_code zq_T 49 152 = some (.invokevirtual 275, 3, 0) := by decide +kernel
theorem cd_49_155 : zt_code zq_T 49 155 = some (.iconst 1, 1, 0) := by decide +kernel
theorem cd_49_156 : zt_code zq_T 49 156 = some (.if_icmp .eq (19), 3, 0) := by decide +kernel
theorem cd_49_159 : zt_code zq_T 49 159 = some (.aload_n 0, 1, 0) := by decide +kernel
theorem cd_49_160 : zt_code zq_T 49 160 = some (.iload_n 1, 1, 0) := by decide +kernel
theorem cd_49_161 : zt_code zq_T 49 161 = some (.iload 5, 2, 0) := by decide +kernel
theorem cd_49_163 : zt_code zq_T 49 163 = some (.iload 4, 2, 0) := by decide +kernel
theorem cd_49_165 : zt_code zq_T 49 165 = some (.aload_n 0, 1, 0) := by decide +kernel
theorem cd_49_166 : zt_code zq_T 49 166 = some (.iload 5, 2, 0) := by decide +kernel
theorem cd_49_168 : zt_code zq_T 49 168 = some (.iconst 1, 1, 0) := by decide +kernel
theorem cd_49_169 : zt_code zq_T 49 169 = some (.invokevirtual 240, 3, 0) := by decide +kernel
theorem cd_49_172 : zt_code zq_T 49 172 = some (.invokevirtual 268, 3, 0) := by decide +kernel
theorem cd_49_175 : zt_code zq_T 49 175 = some (.aload_n 0, 1, 0) := by decide +kernel
theorem cd_49_176 : zt_code zq_T 49 176 = some (.iload 4, 2, 0) := by decide +kernel
theorem cd_49_178 : zt_code zq_T 49 178 = some (.iconst 2, 1, 0) := by decide +kernel
theorem cd_49_179 : zt_code zq_T 49 179 = some (.invokevirtual 240, 3, 0) := by decide +kernel
theorem cd_49_182 : zt_code zq_T 49 182 = some (.istore 4, 2, 0) := by decide +kernel
theorem cd_49_184 : zt_code zq_T 49 184 = some (.goto (-150), 3, 0) := by decide +kernel
theorem cd_49_187 : zt_code zq_T 49 187 = some (.return_, 1, 0) := by decide +kernel
theorem cd_50_0 : zt_code zq_T 50 0 = some (.aload_n 0, 1, 0) := by decide +kernel
theorem cd_50_1 : zt_code zq_T 50 1 = some (.getfield 56, 3, 0) := by decide +kernel
theorem cd_50_4 : zt_code zq_T 50 4 = some (.iload_n 2, 1, 0) := by decide +kernel
theorem cd_50_5 : zt_code zq_T 50 5 = some (.iaload, 1, 0) := by decide +kernel
theorem cd_50_6 : zt_code zq_T 50 6 = some (.iload_n 1, 1, 0) := by decide +kernel
theorem cd_50_7 : zt_code zq_T 50 7 = some (.if_icmp .eq (21), 3, 0) := by decide +kernel
theorem cd_50_10 : zt_code zq_T 50 10 = some (.aload_n 0, 1, 0) := by decide +kernel
theorem cd_50_11 : zt_code zq_T 50 11 = some (.iload_n 1, 1, 0) := by decide +kernel
theorem cd_50_12 : zt_code zq_T 50 12 = some (.aload_n 0, 1, 0) := by decide +kernel
theorem cd_50_13 : zt_code zq_T 50 13 = some (.getfield 56, 3, 0) := by decide +kernel
theorem cd_50_16 : zt_code zq_T 50 16 = some (.iload_n 2, 1, 0) := by decide +kernel
theorem cd_50_17 : zt_code zq_T 50 17 = some (.iaload, 1, 0) := by decide +kernel
theorem cd_50_18 : zt_code zq_T 50 18 = some (.invokevirtual 252, 3, 0) := by decide +kernel
theorem cd_50_21 : zt_code zq_T 50 21 = some (.ifCond .eq (7), 3, 0) := by decide +kernel
theorem cd_50_24 : zt_code zq_T 50 24 = some (.iconst 1, 1, 0) := by decide +kernel
theorem cd_50_25 : zt_code zq_T 50 25 = some (.goto (4), 3, 0) := by decide +kernel
theorem cd_50_28 : zt_code zq_T 50 28 = some (.iconst 0, 1, 0) := by decide +kernel
theorem cd_50_29 : zt_code zq_T 50 29 = some (.ireturn, 1, 0) := by decide +kernel
theorem cd_51_0 : zt_code zq_T 51 0 = some (.aload_n 0, 1, 0) := by decide +kernel
theorem cd_51_1 : zt_code zq_T 51 1 = some (.iload_n 2, 1, 0) := by decide +kernel
theorem cd_51_2 : zt_code zq_T 51 2 = some (.iload_n 3, 1, 0) := by decide +kernel
theorem cd_51_3 : zt_code zq_T 51 3 = some (.invokevirtual 278, 3, 0) := by decide +kernel
theorem cd_51_6 : zt_code zq_T 51 6 = some (.ifCond .ne (13), 3, 0) := by decide +kernel
theorem cd_51_9 : zt_code zq_T 51 9 = some (.aload_n 0, 1, 0) := by decide +kernel
theorem cd_51_10 : zt_code zq_T 51 10 = some (.iload_n 2, 1, 0) := by decide +kernel
theorem cd_51_11 : zt_code zq_T 51 11 = some (.iload 4, 2, 0) := by decide +kernel
theorem cd_51_13 : zt_code zq_T 51 13 = some (.invokevirtual 278, 3, 0) := by decide +kernel
theorem cd_51_16 : zt_code zq_T 51 16 = some (.ifCond .eq (7), 3, 0) := by decide +kernel
theorem cd_51_19 : zt_code zq_T 51 19 = some (.iconst 1, 1, 0) := by decide +kernel
theorem cd_51_20 : zt_code zq_T 51 20 = some (.goto (4), 3, 0) := by decide +kernel
theorem cd_51_23 : zt_code zq_T 51 23 = some (.iconst 0, 1, 0) := by decide +kernel
theorem cd_51_24 : zt_code zq_T 51 24 = some (.istore 5, 2, 0) := by decide +kernel
theorem cd_51_26 : zt_code zq_T 51 26 = some (.iload 5, 2, 0) := by decide +kernel
theorem cd_51_28 : zt_code zq_T 51 28 = some (.ifCond .eq (35), 3, 0) := by decide +kernel
theorem cd_51_31 : zt_code zq_T 51 31 = some (.aload_n 0, 1, 0) := by decide +kernel
theorem cd_51_32 : zt_code zq_T 51 32 = some (.iload_n 1, 1, 0) := by decide +kernel
theorem cd_51_33 : zt_code zq_T 51 33 = some (.aload_n 0, 1, 0) := by decide +kernel
theorem cd_51_34 : zt_code zq_T 51 34 = some (.iload_n 2, 1, 0) := by decide +kernel
theorem cd_51_35 : zt_code zq_T 51 35 = some (.iconst 3, 1, 0) := by decide +kernel
theorem cd_51_36 : zt_code zq_T 51 36 = some (.invokevirtual 240, 3, 0) := by decide +kernel
theorem cd_51_39 : zt_code zq_T 51 39 = some (.invokevirtual 245, 3, 0) := by decide +kernel
theorem cd_51_42 : zt_code zq_T 51 42 = some (.ifCond .ne (21), 3, 0) := by decide +kernel
theorem cd_51_45 : zt_code zq_T 51 45 = some (.iconst 1, 1, 0) := by decide +kernel
theorem cd_51_46 : zt_code zq_T 51 46 = some (.aload_n 0, 1, 0) := by decide +kernel
theorem cd_51_47 : zt_code zq_T 51 47 = some (.iload_n 1, 1, 0) := by decide +kernel
theorem cd_51_48 : zt_code zq_T 51 48 = some (.aload_n 0, 1, 0) := by decide +kernel
theorem cd_51_49 : zt_code zq_T 51 49 = some (.iload_n 2, 1, 0) := by decide +kernel
theorem cd_51_50 : zt_code zq_T 51 50 = some (.iconst 1, 1, 0) := by decide +kernel
theorem cd_51_51 : zt_code zq_T 51 51 = some (.invokevirtual 240, 3, 0) := by decide +kernel
theorem cd_51_54 : zt_code zq_T 51 54 = some (.invokevirtual 242, 3, 0) := by decide +kernel
theorem cd_51_57 : zt_code zq_T 51 57 = some (.invokestatic 144, 3, 0) := by decide +kernel
theorem cd_51_60 : zt_code zq_T 51 60 = some (.goto (4), 3, 0) := by decide +kernel
theorem cd_51_63 : zt_code zq_T 51 63 = some (.iconst 1, 1, 0) := by decide +kernel
theorem cd_51_64 : zt_code zq_T 51 64 = some (.ireturn, 1, 0) := by decide +kernel
theorem cd_52_0 : zt_code zq_T 52 0 = some (.aload_n 0, 1, 0) := by decide +kernel
theorem cd_52_1 : zt_code zq_T 52 1 = some (.iload_n 1, 1, 0) := by decide +kernel
theorem cd_52_2 : zt_code zq_T 52 2 = some (.aload_n 0, 1, 0) := by decide +kernel
theorem cd_52_3 : zt_code zq_T 52 3 = some (.iload_n 2, 1, 0) := by decide +kernel
theorem cd_52_4 : zt_code zq_T 52 4 = some (.iconst 1, 1, 0) := by decide +kernel
theorem cd_52_5 : zt_code zq_T 52 5 = some (.invokevirtual 240, 3, 0) := by decide +kernel
theorem cd_52_8 : zt_code zq_T 52 8 = some (.invokevirtual 275, 3, 0) := by decide +kernel
theorem cd_52_11 : zt_code zq_T 52 11 = some (.istore 5, 2, 0) := by decide +kernel
theorem cd_52_13 : zt_code zq_T 52 13 = some (.aload_n 0, 1, 0) := by decide +kernel
theorem cd_52_14 : zt_code zq_T 52 14 = some (.getfield 56, 3, 0) := by decide +kernel
theorem cd_52_17 : zt_code zq_T 52 17 = some (.iload_n 3, 1, 0) := by decide +kernel
theorem cd_52_18 : zt_code zq_T 52 18 = some (.iaload, 1, 0) := by decide +kernel
theorem cd_52_19 : zt_code zq_T 52 19 = some (.iload_n 2, 1, 0) := by decide +kernel
theorem cd_52_20 : zt_code zq_T 52 20 = some (.if_icmp .eq (14), 3, 0) := by decide +kernel
theorem cd_52_23 : zt_code zq_T 52 23 = some (.aload_n 0, 1, 0) := by decide +kernel
theorem cd_52_24 : zt_code zq_T 52 24 = some (.getfield 56, 3, 0) := by decide +kernel
theorem cd_52_27 : zt_code zq_T 52 27 = some (.iload 4, 2, 0) := by decide +kernel
theorem cd_52_29 : zt_code zq_T 52 29 = some (.iaload, 1, 0) := by decide +kernel
theorem cd_52_30 : zt_code zq_T 52 30 = some (.iload_n 2, 1, 0) := by decide +kernel
theorem cd_52_31 : zt_code zq_T 52 31 = some (.if_icmp .ne (23), 3, 0) := by decide +kernel
theorem cd_52_34 : zt_code zq_T 52 34 = some (.iload 5, 2, 0) := by decide +kernel
theorem cd_52_36 : zt_code zq_T 52 36 = some (.iconst (-1), 1, 0) := by decide +kernel
theorem cd_52_37 : zt_code zq_T 52 37 = some (.if_icmp .eq (17), 3, 0) := by decide +kernel
theorem cd_52_40 : zt_code zq_T 52 40 = some (.aload_n 0, 1, 0) := by decide +kernel
theorem cd_52_41 : zt_code zq_T 52 41 = some (.iload_n 1, 1, 0) := by decide +kernel
theorem cd_52_42 : zt_code zq_T 52 42 = some (.iload_n 2, 1, 0) := by decide +kernel
theorem cd_52_43 : zt_code zq_T 52 43 = some (.iload_n 3, 1, 0) := by decide +kernel
theorem cd_52_44 : zt_code zq_T 52 44 = some (.iload 4, 2, 0) := by decide +kernel
theorem cd_52_46 : zt_code zq_T 52 46 = some (.invokevirtual 281, 3, 0) := by decide +kernel
theorem cd_52_49 : zt_code zq_T 52 49 = some (.iload 5, 2, 0) := by decide +kernel
theorem cd_52_51 : zt_code zq_T 52 51 = some (.if_icmp .ge (7), 3, 0) := by decide +kernel
theorem cd_52_54 : zt_code zq_T 52 54 = some (.iconst 1, 1, 0) := by decide +kernel
theorem cd_52_55 : zt_code zq_T 52 55 = some (.goto (4), 3, 0) := by decide +kernel
theorem cd_52_58 : zt_code zq_T 52 58 = some (.iconst 0, 1, 0) := by decide +kernel
theorem cd_52_59 : zt_code zq_T 52 59 = some (.ireturn, 1, 0) := by decide +kernel
theorem cd_53_0 : zt_code zq_T 53 0 = some (.iload_n 3, 1, 0) := by decide +kernel
theorem cd_53_1 : zt_code zq_T 53 1 = some (.iload 4, 2, 0) := by decide +kernel
theorem cd_53_3 : zt_code zq_T 53 3 = some (.if_icmp .eq (36), 3, 0) := by decide +kernel
theorem cd_53_6 : zt_code zq_T 53 6 = some (.aload_n 0, 1, 0) := by decide +kernel
theorem cd_53_7 : zt_code zq_T 53 7 = some (.iload_n 2, 1, 0) := by decide +kernel
theorem cd_53_8 : zt_code zq_T 53 8 = some (.iload 5, 2, 0) := by decide +kernel
theorem cd_53_10 : zt_code zq_T 53 10 = some (.invokevirtual 278, 3, 0) := by decide +kernel
theorem cd_53_13 : zt_code zq_T 53 13 = some (.ifCond .ne (13), 3, 0) := by decide +kernel
theorem cd_53_16 : zt_code zq_T 53 16 = some (.aload_n 0, 1, 0) := by decide +kernel
theorem cd_53_17 : zt_code zq_T 53 17 = some (.iload_n 2, 1, 0) := by decide +kernel
theorem cd_53_18 : zt_code zq_T 53 18 = some (.iload 6, 2, 0) := by decide +kernel
theorem cd_53_20 : zt_code zq_T 53 20 = some (.invokevirtual 278, 3, 0) := by decide +kernel
theorem cd_53_23 : zt_code zq_T 53 23 = some (.ifCond .eq (16), 3, 0) := by decide +kernel
theorem cd_53_26 : zt_code zq_T 53 26 = some (.aload_n 0, 1, 0) := by decide +kernel
theorem cd_53_27 : zt_code zq_T 53 27 = some (.iload_n 1, 1, 0) := by decide +kernel
theorem cd_53_28 : zt_code zq_T 53 28 = some (.iload_n 3, 1, 0) := by decide +kernel
theorem cd_53_29 : zt_code zq_T 53 29 = some (.invokevirtual 245, 3, 0) := by decide +kernel
theorem cd_53_32 : zt_code zq_T 53 32 = some (.ifCond .ne (7), 3, 0) := by decide +kernel
theorem cd_53_35 : zt_code zq_T 53 35 = some (.iconst 1, 1, 0) := by decide +kernel
theorem cd_53_36 : zt_code zq_T 53 36 = some (.goto (4), 3, 0) := by decide +kernel
theorem cd_53_39 : zt_code zq_T 53 39 = some (.iconst 0, 1, 0) := by decide +kernel
theorem cd_53_40 : zt_code zq_T 53 40 = some (.ireturn, 1, 0) := by decide +kernel
theorem cd_54_0 : zt_code zq_T 54 0 = some (.aload_n 0, 1, 0) := by decide +kernel
theorem cd_54_1 : zt_code zq_T 54 1 = some (.iload_n 2, 1, 0) := by decide +kernel
theorem cd_54_2 : zt_code zq_T 54 2 = some (.iconst 3, 1, 0) := by decide +kernel
theorem cd_54_3 : zt_code zq_T 54 3 = some (.invokevirtual 240, 3, 0) := by decide +kernel
theorem cd_54_6 : zt_code zq_T 54 6 = some (.istore 6, 2, 0) := by decide +kernel
theorem cd_54_8 : zt_code zq_T 54 8 = some (.iload 6, 2, 0) := by decide +kernel
theorem cd_54_10 : zt_code zq_T 54 10 = some (.iconst (-1), 1, 0) := by decide +kernel
theorem cd_54_11 : zt_code zq_T 54 11 = some (.if_icmp .eq (79), 3, 0) := by decide +kernel
theorem cd_54_14 : zt_code zq_T 54 14 = some (.aload_n 0, 1, 0) := by decide +kernel
theorem cd_54_15 : zt_code zq_T 54 15 = some (.iload_n 1, 1, 0) := by decide +kernel
theorem cd_54_16 : zt_code zq_T 54 16 = some (.iload_n 2, 1, 0) := by decide +kernel
theorem cd_54_17 : zt_code zq_T 54 17 = some (.iload 6, 2, 0) := by decide +kernel
theorem cd_54_19 : zt_code zq_T 54 19 = some (.iload_n 3, 1, 0) := by decide +kernel
theorem cd_54_20 : zt_code zq_T 54 20 = some (.iload 4, 2, 0) := by decide +kernel
theorem cd_54_22 : zt_code zq_T 54 22 = some (.iload 5, 2, 0) := by decide +kernel
theorem cd_54_24 : zt_code zq_T 54 24 = some (.invokevirtual 285, 3, 0) := by decide +kernel
theorem cd_54_27 : zt_code zq_T 54 27 = some (.ifCond .eq (51), 3, 0) := by decide +kernel
theorem cd_54_30 : zt_code zq_T 54 30 = some (.aload_n 0, 1, 0) := by decide +kernel
theorem cd_54_31 : zt_code zq_T 54 31 = some (.getfield 56, 3, 0) := by decide +kernel
theorem cd_54_34 : zt_code zq_T 54 34 = some (.iload 4, 2, 0) := by decide +kernel
theorem cd_54_36 : zt_code zq_T 54 36 = some (.iaload, 1, 0) := by decide +kernel
theorem cd_54_37 : zt_code zq_T 54 37 = some (.iload_n 2, 1, 0) := by decide +kernel
theorem cd_54_38 : zt_code zq_T 54 38 = some (.if_icmp .ne (15), 3, 0) := by decide +kernel
theorem cd_54_41 : zt_code zq_T 54 41 = some (.aload_n 0, 1, 0) := by decide +kernel
theorem cd_54_42 : zt_code zq_T 54 42 = some (.getfield 59, 3, 0) := by decide +kernel
theorem cd_54_45 : zt_code zq_T 54 45 = some (.iload 4, 2, 0) := by decide +kernel
theorem cd_54_47 : zt_code zq_T 54 47 = some (.iaload, 1, 0) := by decide +kernel
theorem cd_54_48 : zt_code zq_T 54 48 = some (.iload 6, 2, 0) := by decide +kernel
theorem cd_54_50 : zt_code zq_T 54 50 = some (.if_icmp .eq (26), 3, 0) := by decide +kernel
theorem cd_54_53 : zt_code zq_T 54 53 = some (.aload_n 0, 1, 0) := by decide +kernel
theorem cd_54_54 : zt_code zq_T 54 54 = some (.getfield 56, 3, 0) := by decide +kernel
theorem cd_54_57 : zt_code zq_T 54 57 = some (.iload 5, 2, 0) := by decide +kernel
theorem cd_54_59 : zt_code zq_T 54 59 = some (.iaload, 1, 0) := by decide +kernel
theorem cd_54_60 : zt_code zq_T 54 60 = some (.iload_n 2, 1, 0) := by decide +kernel
theorem cd_54_61 : zt_code zq_T 54 61 = some (.if_icmp .ne (17), 3, 0) := by decide +kernel
theorem cd_54_64 : zt_code zq_T 54 64 = some (.aload_n 0, 1, 0) := by decide +kernel
theorem cd_54_65 : zt_code zq_T 54 65 = some (.getfield 59, 3, 0) := by decide +kernel
theorem cd_54_68 : zt_code zq_T 54 68 = some (.iload 5, 2, 0) := by decide +kernel
theorem cd_54_70 : zt_code zq_T 54 70 = some (.iaload, 1, 0) := by decide +kernel
theorem cd_54_71 : zt_code zq_T 54 71 = some (.iload 6, 2, 0) := by decide +kernel
theorem cd_54_73 : zt_code zq_T 54 73 = some (.if_icmp .ne (5), 3, 0) := by decide +kernel
theorem cd_54_76 : zt_code zq_T 54 76 = some (.iconst 0, 1, 0) := by decide +kernel
theorem cd_54_77 : zt_code zq_T 54 77 = some (.ireturn, 1, 0) := by decide +kernel
theorem cd_54_78 : zt_code zq_T 54 78 = some (.aload_n 0, 1, 0) := by decide +kernel
theorem cd_54_79 : zt_code zq_T 54 79 = some (.iload 6, 2, 0) := by decide +kernel
theorem cd_54_81 : zt_code zq_T 54 81 = some (.iconst 4, 1, 0) := by decide +kernel
theorem cd_54_82 : zt_code zq_T 54 82 = some (.invokevirtual 240, 3, 0) := by decide +kernel
theorem cd_54_85 : zt_code zq_T 54 85 = some (.istore 6, 2, 0) := by decide +kernel
theorem cd_54_87 : zt_code zq_T 54 87 = some (.goto (-79), 3, 0) := by decide +kernel
theorem cd_54_90 : zt_code zq_T 54 90 = some (.iconst 1, 1, 0) := by decide +kernel
theorem cd_54_91 : zt_code zq_T 54 91 = some (.ireturn, 1, 0) := by decide +kernel
theorem cd_55_0 : zt_code zq_T 55 0 = some (.aload_n 0, 1, 0) := by decide +kernel
theorem cd_55_1 : zt_code zq_T 55 1 = some (.iload_n 1, 1, 0) := by decide +kernel
theorem cd_55_2 : zt_code zq_T 55 2 = some (.aload_n 0, 1, 0) := by decide +kernel
theorem cd_55_3 : zt_code zq_T 55 3 = some (.getfield 50, 3, 0) := by decide +kernel
theorem cd_55_6 : zt_code zq_T 55 6 = some (.iload_n 3, 1, 0) := by decide +kernel
theorem cd_55_7 : zt_code zq_T 55 7 = some (.iaload, 1, 0) := by decide +kernel
theorem cd_55_8 : zt_code zq_T 55 8 = some (.invokevirtual 289, 3, 0) := by decide +kernel
theorem cd_55_11 : zt_code zq_T 55 11 = some (.aload_n 0, 1, 0) := by decide +kernel
theorem cd_55_12 : zt_code zq_T 55 12 = some (.iload_n 1, 1, 0) := by decide +kernel
theorem cd_55_13 : zt_code zq_T 55 13 = some (.aload_n 0, 1, 0) := by decide +kernel
theorem cd_55_14 : zt_code zq_T 55 14 = some (.getfield 50, 3, 0) := by decide +kernel
theorem cd_55_17 : zt_code zq_T 55 17 = some (.iload 4, 2, 0) := by decide +kernel
theorem cd_55_19 : zt_code zq_T 55 19 = some (.iaload, 1, 0) := by decide +kernel
theorem cd_55_20 : zt_code zq_T 55 20 = some (.invokevirtual 289, 3, 0) := by decide +kernel
theorem cd_55_23 : zt_code zq_T 55 23 = some (.if_icmp .eq (5), 3, 0) := by decide +kernel
theorem cd_55_26 : zt_code zq_T 55 26 = some (.iconst 0, 1, 0) := by decide +kernel
theorem cd_55_27 : zt_code zq_T 55 27 = some (.ireturn, 1, 0) := by decide +kernel
theorem cd_55_28 : zt_code zq_T 55 28 = some (.iload_n 2, 1, 0) := by decide +kernel
theorem cd_55_29 : zt_code zq_T 55 29 = some (.iconst (-1), 1, 0) := by decide +kernel
theorem cd_55_30 : zt_code zq_T 55 30 = some (.if_icmp .ne (5), 3, 0) := by decide +kernel
theorem cd_55_33 : zt_code zq_T 55 33 = some (.iconst 1, 1, 0) := by decide +kernel
theorem cd_55_34 : zt_code zq_T 55 34 = some (.ireturn, 1, 0) := by decide +kernel
theorem cd_55_35 : zt_code zq_T 55 35 = some (.aload_n 0, 1, 0) := by decide +kernel
theorem cd_55_36 : zt_code zq_T 55 36 = some (.iload_n 1, 1, 0) := by decide +kernel
theorem cd_55_37 : zt_code zq_T 55 37 = some (.iload_n 2, 1, 0) := by decide +kernel
theorem cd_55_38 : zt_code zq_T 55 38 = some (.invokevirtual 249, 3, 0) := by decide +kernel
theorem cd_55_41 : zt_code zq_T 55 41 = some (.istore 5, 2, 0) := by decide +kernel
theorem cd_55_43 : zt_code zq_T 55 43 = some (.aload_n 0, 1, 0) := by decide +kernel
theorem cd_55_44 : zt_code zq_T 55 44 = some (.iload 5, 2, 0) := by decide +kernel
theorem cd_55_46 : zt_code zq_T 55 46 = some (.iconst 2, 1, 0) := by decide +kernel
theorem cd_55_47 : zt_code zq_T 55 47 = some (.invokevirtual 240, 3, 0) := by decide +kernel
theorem cd_55_50 : zt_code zq_T 55 50 = some (.istore 6, 2, 0) := by decide +kernel
theorem cd_55_52 : zt_code zq_T 55 52 = some (.iload 6, 2, 0) := by decide +kernel
theorem cd_55_54 : zt_code zq_T 55 54 = some (.iconst (-1), 1, 0) := by decide +kernel
theorem cd_55_55 : zt_code zq_T 55 55 = some (.if_icmp .eq (73), 3, 0) := by decide +kernel
theorem cd_55_58 : zt_code zq_T 55 58 = some (.aload_n 0, 1, 0) := by decide +kernel
theorem cd_55_59 : zt_code zq_T 55 59 = some (.iload 6, 2, 0) := by decide +kernel
theorem cd_55_61 : zt_code zq_T 55 61 = some (.iconst 0, 1, 0) := by decide +kernel
theorem cd_55_62 : zt_code zq_T 55 62 = some (.invokevirtual 240, 3, 0) := by decide +kernel
theorem cd_55_65 : zt_code zq_T 55 65 = some (.iconst 5, 1, 0) := by decide +kernel
theorem cd_55_66 : zt_code zq_T 55 66 = some (.if_icmp .ne (18), 3, 0) := by decide +kernel
theorem cd_55_69 : zt_code zq_T 55 69 = some (.aload_n 0, 1, 0) := by decide +kernel
theorem cd_55_70 : zt_code zq_T 55 70 = some (.iload_n 1, 1, 0) := by decide +kernel
theorem cd_55_71 : zt_code zq_T 55 71 = some (.iload 6, 2, 0) := by decide +kernel
theorem cd_55_73 : zt_code zq_T 55 73 = some (.iload_n 3, 1, 0) := by decide +kernel
theorem cd_55_74 : zt_code zq_T 55 74 = some (.iload 4, 2, 0) := by decide +kernel
theorem cd_55_76 : zt_code zq_T 55 76 = some (.invokevirtual 292, 3, 0) := by decide +kernel
theorem cd_55_79 : zt_code zq_T 55 79 = some (.ifCond .ne (5), 3, 0) := by decide +kernel
theorem cd_55_82 : zt_code zq_T 55 82 = some (.iconst 0, 1, 0) := by decide +kernel
theorem cd_55_83 : zt_code zq_T 55 83 = some (.ireturn, 1, 0) := by decide +kernel
theorem cd_55_84 : zt_code zq_T 55 84 = some (.aload_n 0, 1, 0) := by decide +kernel
theorem cd_55_85 : zt_code zq_T 55 85 = some (.iload 6, 2, 0) := by decide +kernel
theorem cd_55_87 : zt_code zq_T 55 87 = some (.iconst 0, 1, 0) := by decide +kernel
theorem cd_55_88 : zt_code zq_T 55 88 = some (.invokevirtual 240, 3, 0) := by decide +kernel
theorem cd_55_91 : zt_code zq_T 55 91 = some (.iconst 4, 1, 0) := by decide +kernel
theorem cd_55_92 : zt_code zq_T 55 92 = some (.if_icmp .ne (20), 3, 0) := by decide +kernel
theorem cd_55_95 : zt_code zq_T 55 95 = some (.aload_n 0, 1, 0) := by decide +kernel
theorem cd_55_96 : zt_code zq_T 55 96 = some (.iload_n 1, 1, 0) := by decide +kernel
theorem cd_55_97 : zt_code zq_T 55 97 = some (.iload 6, 2, 0) := by decide +kernel
theorem cd_55_99 : zt_code zq_T 55 99 = some (.iload 5, 2, 0) := by decide +kernel
theorem cd_55_101 : zt_code zq_T 55 101 = some (.iload_n 3, 1, 0) := by decide +kernel
theorem cd_55_102 : zt_code zq_T 55 102 = some (.iload 4, 2, 0) := by decide +kernel
theorem cd_55_104 : zt_code zq_T 55 104 = some (.invokevirtual 296, 3, 0) := by decide +kernel
theorem cd_55_107 : zt_code zq_T 55 107 = some (.ifCond .ne (5), 3, 0) := by decide +kernel
theorem cd_55_110 : zt_code zq_T 55 110 = some (.iconst 0, 1, 0) := by decide +kernel
theorem cd_55_111 : zt_code zq_T 55 111 = some (.ireturn, 1, 0) := by decide +kernel
theorem cd_55_112 : zt_code zq_T 55 112 = some (.iload 6, 2, 0) := by decide +kernel
theorem cd_55_114 : zt_code zq_T 55 114 = some (.istore 5, 2, 0) := by decide +kernel
theorem cd_55_116 : zt_code zq_T 55 116 = some (.aload_n 0, 1, 0) := by decide +kernel
theorem cd_55_117 : zt_code zq_T 55 117 = some (.iload 6, 2, 0) := by decide +kernel
theorem cd_55_119 : zt_code zq_T 55 119 = some (.iconst 2, 1, 0) := by decide +kernel
theorem cd_55_120 : zt_code zq_T 55 120 = some (.invokevirtual 240, 3, 0) := by decide +kernel
theorem cd_55_123 : zt_code zq_T 55 123 = some (.istore 6, 2, 0) := by decide +kernel
theorem cd_55_125 : zt_code zq_T 55 125 = some (.goto (-73), 3, 0) := by decide +kernel
theorem cd_55_128 : zt_code zq_T 55 128 = some (.iconst 1, 1, 0) := by decide +kernel
theorem cd_55_129 : zt_code zq_T 55 129 = some (.ireturn, 1, 0) := by decide +kernel
theorem cd_56_0 : zt_code zq_T 56 0 = some (.aload_n 0, 1, 0) := by decide +kernel
theorem cd_56_1 : zt_code zq_T 56 1 = some (.getfield 62, 3, 0) := by decide +kernel
theorem cd_56_4 : zt_code zq_T 56 4 = some (.aload_n 0, 1, 0) := by decide +kernel
theorem cd_56_5 : zt_code zq_T 56 5 = some (.getfield 300, 3, 0) := by decide +kernel
theorem cd_56_8 : zt_code zq_T 56 8 = some (.iload_n 1, 1, 0) := by decide +kernel
theorem cd_56_9 : zt_code zq_T 56 9 = some (.i2b, 1, 0) := by decide +kernel
theorem cd_56_10 : zt_code zq_T 56 10 = some (.bastore, 1, 0) := by decide +kernel
theorem cd_56_11 : zt_code zq_T 56 11 = some (.aload_n 0, 1, 0) := by decide +kernel
theorem cd_56_12 : zt_code zq_T 56 12 = some (.dup, 1, 0) := by decide +kernel
theorem cd_56_13 : zt_code zq_T 56 13 = some (.getfield 300, 3, 0) := by decide +kernel
theorem cd_56_16 : zt_code zq_T 56 16 = some (.iconst 1, 1, 0) := by decide +kernel
theorem cd_56_17 : zt_code zq_T 56 17 = some (.iadd, 1, 0) := by decide +kernel
theorem cd_56_18 : zt_code zq_T 56 18 = some (.putfield 300, 3, 0) := by decide +kernel
theorem cd_56_21 : zt_code zq_T 56 21 = some (.return_, 1, 0) := by decide +kernel
theorem cd_57_0 : zt_code zq_T 57 0 = some (.iload_n 1, 1, 0) := by decide +kernel
theorem cd_57_1 : zt_code zq_T 57 1 = some (.istore_n 3, 1, 0) := by decide +kernel
theorem cd_57_2 : zt_code zq_T 57 2 = some (.iload_n 3, 1, 0) := by decide +kernel
theorem cd_57_3 : zt_code zq_T 57 3 = some (.iload_n 2, 1, 0) := by decide +kernel
theorem cd_57_4 : zt_code zq_T 57 4 = some (.if_icmp .ge (19), 3, 0) := by decide +kernel
theorem cd_57_7 : zt_code zq_T 57 7 = some (.aload_n 0, 1, 0) := by decide +kernel
theorem cd_57_8 : zt_code zq_T 57 8 = some (.aload_n 0, 1, 0) := by decide +kernel
theorem cd_57_9 : zt_code zq_T 57 9 = some (.getfield 62, 3, 0) := by decide +kernel
theorem cd_57_12 : zt_code zq_T 57 12 = some (.iload_n 3, 1, 0) := by decide +kernel
theorem cd_57_13 : zt_code zq_T 57 13 = some (.baload, 1, 0) := by decide +kernel
theorem cd_57_14 : zt_code zq_T 57 14 = some (.invokevirtual 303, 3, 0) := by decide +kernel
theorem cd_57_17 : zt_code zq_T 57 17 = some (.iinc 3 (1), 3, 0) := by decide +kernel
theorem cd_57_20 : zt_code zq_T 57 20 = some (.goto (-18), 3, 0) := by decide +kernel
theorem cd_57_23 : zt_code zq_T 57 23 = some (.return_, 1, 0) := by decide +kernel
theorem cd_58_0 : zt_code zq_T 58 0 = some (.iconst 0, 1, 0) := by decide +kernel
theorem cd_58_1 : zt_code zq_T 58 1 = some (.istore 4, 2, 0) := by decide +kernel
theorem cd_58_3 : zt_code zq_T 58 3 = some (.iload 4, 2, 0) := by decide +kernel
theorem cd_58_5 : zt_code zq_T 58 5 = some (.iload_n 3, 1, 0) := by decide +kernel
theorem cd_58_6 : zt_code zq_T 58 6 = some (.if_icmp .ge (50), 3, 0) := by decide +kernel
theorem cd_58_9 : zt_code zq_T 58 9 = some (.aload_n 0, 1, 0) := by decide +kernel
theorem cd_58_10 : zt_code zq_T 58 10 = some (.getfield 62, 3, 0) := by decide +kernel
theorem cd_58_13 : zt_code zq_T 58 13 = some (.iload_n 1, 1, 0) := by decide +kernel
theorem cd_58_14 : zt_code zq_T 58 14 = some (.iload 4, 2, 0) := by decide +kernel
theorem cd_58_16 : zt_code zq_T 58 16 = some (.iadd, 1, 0) := by decide +kernel
theorem cd_58_17 : zt_code zq_T 58 17 = some (.baload, 1, 0) := by decide +kernel
theorem cd_58_18 : zt_code zq_T 58 18 = some (.aload_n 0, 1, 0) := by decide +kernel
theorem cd_58_19 : zt_code zq_T 58 19 = some (.getfield 62, 3, 0) := by decide +kernel
theorem cd_58_22 : zt_code zq_T 58 22 = some (.iload_n 2, 1, 0) := by decide +kernel
theorem cd_58_23 : zt_code zq_T 58 23 = some (.iload 4, 2, 0) := by decide +kernel
theorem cd_58_25 : zt_code zq_T 58 25 = some (.iadd, 1, 0) := by decide +kernel
theorem cd_58_26 : zt_code zq_T 58 26 = some (.baload, 1, 0) := by decide +kernel
theorem cd_58_27 : zt_code zq_T 58 27 = some (.if_icmp .eq (23), 3, 0) := by decide +kernel
theorem cd_58_30 : zt_code zq_T 58 30 = some (.aload_n 0, 1, 0) := by decide +kernel
theorem cd_58_31 : zt_code zq_T 58 31 = some (.getfield 62, 3, 0) := by decide +kernel
theorem cd_58_34 : zt_code zq_T 58 34 = some (.iload_n 1, 1, 0) := by decide +kernel
theorem cd_58_35 : zt_code zq_T 58 35 = some (.iload 4, 2, 0) := by decide +kernel
theorem cd_58_37 : zt_code zq_T 58 37 = some (.iadd, 1, 0) := by decide +kernel
theorem cd_58_38 : zt_code zq_T 58 38 = some (.baload, 1, 0) := by decide +kernel
theorem cd_58_39 : zt_code zq_T 58 39 = some (.aload_n 0, 1, 0) := by decide +kernel
theorem cd_58_40 : zt_code zq_T 58 40 = some (.getfield 62, 3, 0) := by decide +kernel
theorem cd_58_43 : zt_code zq_T 58 43 = some (.iload_n 2, 1, 0) := by decide +kernel
theorem cd_58_44 : zt_code zq_T 58 44 = some (.iload 4, 2, 0) := by decide +kernel
theorem cd_58_46 : zt_code zq_T 58 46 = some (.iadd, 1, 0) := by decide +kernel
theorem cd_58_47 : zt_code zq_T 58 47 = some (.baload, 1, 0) := by decide +kernel
theorem cd_58_48 : zt_code zq_T 58 48 = some (.isub, 1, 0) := by decide +kernel
theorem cd_58_49 : zt_code zq_T 58 49 = some (.ireturn, 1, 0) := by decide +kernel
theorem cd_58_50 : zt_code zq_T 58 50 = some (.iinc 4 (1), 3, 0) := by decide +kernel
theorem cd_58_53 : zt_code zq_T 58 53 = some (.goto (-50), 3, 0) := by decide +kernel
theorem cd_58_56 : zt_code zq_T 58 56 = some (.iconst 0, 1, 0) := by decide +kernel
theorem cd_58_57 : zt_code zq_T 58 57 = some (.ireturn, 1, 0) := by decide +kernel
theorem cd_59_0 : zt_code zq_T 59 0 = some (.iload_n 2, 1, 0) := by decide +kernel
theorem cd_59_1 : zt_code zq_T 59 1 = some (.iload_n 1, 1, 0) := by decide +kernel
theorem cd_59_2 : zt_code zq_T 59 2 = some (.isub, 1, 0) := by decide +kernel
theorem cd_59_3 : zt_code zq_T 59 3 = some (.istore_n 3, 1, 0) := by decide +kernel
theorem cd_59_4 : zt_code zq_T 59 4 = some (.aload_n 0, 1, 0) := by decide +kernel
theorem cd_59_5 : zt_code zq_T 59 5 = some (.getfield 300, 3, 0) := by decide +kernel
theorem cd_59_8 : zt_code zq_T 59 8 = some (.iload_n 2, 1, 0) := by decide +kernel
theorem cd_59_9 : zt_code zq_T 59 9 = some (.isub, 1, 0) := by decide +kernel
theorem cd_59_10 : zt_code zq_T 59 10 = some (.istore 4, 2, 0) := by decide +kernel
theorem cd_59_12 : zt_code zq_T 59 12 = some (.iload 4, 2, 0) := by decide +kernel
theorem cd_59_14 : zt_code zq_T 59 14 = some (.iload_n 3, 1, 0) := by decide +kernel
theorem cd_59_15 : zt_code zq_T 59 15 = some (.if_icmp .lt (19), 3, 0) := by decide +kernel
theorem cd_59_18 : zt_code zq_T 59 18 = some (.iload 4, 2, 0) := by decide +kernel
theorem cd_59_20 : zt_code zq_T 59 20 = some (.iload_n 3, 1, 0) := by decide +kernel
theorem cd_59_21 : zt_code zq_T 59 21 = some (.if_icmp .ne (17), 3, 0) := by decide +kernel
theorem cd_59_24 : zt_code zq_T 59 24 = some (.aload_n 0, 1, 0) := by decide +kernel
theorem cd_59_25 : zt_code zq_T 59 25 = some (.iload_n 2, 1, 0) := by decide +kernel
theorem cd_59_26 : zt_code zq_T 59 26 = some (.iload_n 1, 1, 0) := by decide +kernel
theorem cd_59_27 : zt_code zq_T 59 27 = some (.iload_n 3, 1, 0) := by decide +kernel
theorem cd_59_28 : zt_code zq_T 59 28 = some (.invokevirtual 306, 3, 0) := by decide +kernel
theorem cd_59_31 : zt_code zq_T 59 31 = some (.ifCond .ge (7), 3, 0) := by decide +kernel
theorem cd_59_34 : zt_code zq_T 59 34 = some (.iconst 1, 1, 0) := by decide +kernel
theorem cd_59_35 : zt_code zq_T 59 35 = some (.goto (4), 3, 0) := by decide +kernel
theorem cd_59_38 : zt_code zq_T 59 38 = some (.iconst 0, 1, 0) := by decide +kernel
theorem cd_59_39 : zt_code zq_T 59 39 = some (.istore 5, 2, 0) := by decide +kernel
theorem cd_59_41 : zt_code zq_T 59 41 = some (.iload 5, 2, 0) := by decide +kernel
theorem cd_59_43 : zt_code zq_T 59 43 = some (.ifCond .eq (37), 3, 0) := by decide +kernel
theorem cd_59_46 : zt_code zq_T 59 46 = some (.iconst 0, 1, 0) := by decide +kernel
theorem cd_59_47 : zt_code zq_T 59 47 = some (.istore 6, 2, 0) := by decide +kernel
theorem cd_59_49 : zt_code zq_T 59 49 = some (.iload 6, 2, 0) := by decide +kernel
theorem cd_59_51 : zt_code zq_T 59 51 = some (.iload 4, 2, 0) := by decide +kernel
theorem cd_59_53 : zt_code zq_T 59 53 = some (.if_icmp .ge (27), 3, 0) := by decide +kernel
theorem cd_59_56 : zt_code zq_T 59 56 = some (.aload_n 0, 1, 0) := by decide +kernel
theorem cd_59_57 : zt_code zq_T 59 57 = some (.getfield 62, 3, 0) := by decide +kernel
theorem cd_59_60 : zt_code zq_T 59 60 = some (.iload_n 1, 1, 0) := by decide +kernel
theorem cd_59_61 : zt_code zq_T 59 61 = some (.iload 6, 2, 0) := by decide +kernel
theorem cd_59_63 : zt_code zq_T 59 63 = some (.iadd, 1, 0) := by decide +kernel
theorem cd_59_64 : zt_code zq_T 59 64 = some (.aload_n 0, 1, 0) := by decide +kernel
theorem cd_59_65 : zt_code zq_T 59 65 = some (.getfield 62, 3, 0) := by decide +kernel
theorem cd_59_68 : zt_code zq_T 59 68 = some (.iload_n 2, 1, 0) := by decide +kernel
theorem cd_59_69 : zt_code zq_T 59 69 = some (.iload 6, 2, 0) := by decide +kernel
theorem cd_59_71 : zt_code zq_T 59 71 = some (.iadd, 1, 0) := by decide +kernel
theorem cd_59_72 : zt_code zq_T 59 72 = some (.baload, 1, 0) := by decide +kernel
theorem cd_59_73 : zt_code zq_T 59 73 = some (.bastore, 1, 0) := by decide +kernel
theorem cd_59_74 : zt_code zq_T 59 74 = some (.iinc 6 (1), 3, 0) := by decide +kernel
theorem cd_59_77 : zt_code zq_T 59 77 = some (.goto (-28), 3, 0) := by decide +kernel
theorem cd_59_80 : zt_code zq_T 59 80 = some (.aload_n 0, 1, 0) := by decide +kernel
theorem cd_59_81 : zt_code zq_T 59 81 = some (.iload_n 1, 1, 0) := by decide +kernel
theorem cd_59_82 : zt_code zq_T 59 82 = some (.iload 5, 2, 0) := by decide +kernel
theorem cd_59_84 : zt_code zq_T 59 84 = some (.ifCond .eq (8), 3, 0) := by decide +kernel
theorem cd_59_87 : zt_code zq_T 59 87 = some (.iload 4, 2, 0) := by decide +kernel
theorem cd_59_89 : zt_code zq_T 59 89 = some (.goto (4), 3, 0) := by decide +kernel
theorem cd_59_92 : zt_code zq_T 59 92 = some (.iload_n 3, 1, 0) := by decide +kernel
theorem cd_59_93 : zt_code zq_T 59 93 = some (.iadd, 1, 0) := by decide +kernel
theorem cd_59_94 : zt_code zq_T 59 94 = some (.putfield 300, 3, 0) := by decide +kernel
theorem cd_59_97 : zt_code zq_T 59 97 = some (.return_, 1, 0) := by decide +kernel
theorem cd_60_0 : zt_code zq_T 60 0 = some (.iload_n 3, 1, 0) := by decide +kernel
theorem cd_60_1 : zt_code zq_T 60 1 = some (.ifCond .ne (14), 3, 0) := by decide +kernel
theorem cd_60_4 : zt_code zq_T 60 4 = some (.aload_n 0, 1, 0) := by decide +kernel
theorem cd_60_5 : zt_code zq_T 60 5 = some (.iload_n 1, 1, 0) := by decide +kernel
theorem cd_60_6 : zt_code zq_T 60 6 = some (.iload_n 2, 1, 0) := by decide +kernel
theorem cd_60_7 : zt_code zq_T 60 7 = some (.invokevirtual 245, 3, 0) := by decide +kernel
theorem cd_60_10 : zt_code zq_T 60 10 = some (.ifCond .eq (5), 3, 0) := by decide +kernel
theorem cd_60_13 : zt_code zq_T 60 13 = some (.iconst 1, 1, 0) := by decide +kernel
theorem cd_60_14 : zt_code zq_T 60 14 = some (.ireturn, 1, 0) := by decide +kernel
theorem cd_60_15 : zt_code zq_T 60 15 = some (.aload_n 0, 1, 0) := by decide +kernel
theorem cd_60_16 : zt_code zq_T 60 16 = some (.iload_n 2, 1, 0) := by decide +kernel
theorem cd_60_17 : zt_code zq_T 60 17 = some (.iconst 0, 1, 0) := by decide +kernel
theorem cd_60_18 : zt_code zq_T 60 18 = some (.invokevirtual 240, 3, 0) := by decide +kernel
theorem cd_60_21 : zt_code zq_T 60 21 = some (.tableswitch (91) (0) (5) #[39, 56, 65, 91, 65, 58], 39, 0) := by decide +kernel
theorem cd_60_60 : zt_code zq_T 60 60 = some (.aload_n 0, 1, 0) := by decide +kernel
theorem cd_60_61 : zt_code zq_T 60 61 = some (.aload_n 0, 1, 0) := by decide +kernel
theorem cd_60_62 : zt_code zq_T 60 62 = some (.iload_n 1, 1, 0) := by decide +kernel
theorem cd_60_63 : zt_code zq_T 60 63 = some (.aload_n 0, 1, 0) := by decide +kernel
theorem cd_60_64 : zt_code zq_T 60 64 = some (.iload_n 2, 1, 0) := by decide +kernel
theorem cd_60_65 : zt_code zq_T 60 65 = some (.iconst 1, 1, 0) := by decide +kernel
theorem cd_60_66 : zt_code zq_T 60 66 = some (.invokevirtual 240, 3, 0) := by decide +kernel
theorem cd_60_69 : zt_code zq_T 60 69 = some (.invokevirtual 289, 3, 0) := by decide +kernel
theorem cd_60_72 : zt_code zq_T 60 72 = some (.invokevirtual 303, 3, 0) := by decide +kernel
theorem cd_60_75 : zt_code zq_T 60 75 = some (.iconst 1, 1, 0) := by decide +kernel
theorem cd_60_76 : zt_code zq_T 60 76 = some (.ireturn, 1, 0) := by decide +kernel
theorem cd_60_77 : zt_code zq_T 60 77 = some (.iconst 0, 1, 0) := by decide +kernel
theorem cd_60_78 : zt_code zq_T 60 78 = some (.ireturn, 1, 0) := by decide +kernel
theorem cd_60_79 : zt_code zq_T 60 79 = some (.aload_n 0, 1, 0) := by decide +kernel
theorem cd_60_80 : zt_code zq_T 60 80 = some (.iload_n 1, 1, 0) := by decide +kernel
theorem cd_60_81 : zt_code zq_T 60 81 = some (.iload_n 2, 1, 0) := by decide +kernel
theorem cd_60_82 : zt_code zq_T 60 82 = some (.invokevirtual 309, 3, 0) := by decide +kernel
theorem cd_60_85 : zt_code zq_T 60 85 = some (.ireturn, 1, 0) := by decide +kernel
theorem cd_60_86 : zt_code zq_T 60 86 = some (.aload_n 0, 1, 0) := by decide +kernel
theorem cd_60_87 : zt_code zq_T 60 87 = some (.iload_n 1, 1, 0) := by decide +kernel
theorem cd_60_88 : zt_code zq_T 60 88 = some (.iload_n 2, 1, 0) := by decide +kernel
theorem cd_60_89 : zt_code zq_T 60 89 = some (.invokevirtual 245, 3, 0) := by decide +kernel
theorem cd_60_92 : zt_code zq_T 60 92 = some (.ifCond .eq (13), 3, 0) := by decide +kernel
theorem cd_60_95 : zt_code zq_T 60 95 = some (.aload_n 0, 1, 0) := by decide +kernel
theorem cd_60_96 : zt_code zq_T 60 96 = some (.iload_n 1, 1, 0) := by decide +kernel
theorem cd_60_97 : zt_code zq_T 60 97 = some (.iload_n 2, 1, 0) := by decide +kernel
theorem cd_60_98 : zt_code zq_T 60 98 = some (.iconst 1, 1, 0) := by decide +kernel
theorem cd_60_99 : zt_code zq_T 60 99 = some (.invokevirtual 312, 3, 0) := by decide +kernel
theorem cd_60_102 : zt_code zq_T 60 102 = some (.goto (9), 3, 0) := by decide +kernel
theorem cd_60_105 : zt_code zq_T 60 105 = some (.aload_n 0, 1, 0) := by decide +kernel
theorem cd_60_106 : zt_code zq_T 60 106 = some (.iload_n 1, 1, 0) := by decide +kernel
theorem cd_60_107 : zt_code zq_T 60 107 = some (.iload_n 2, 1, 0) := by decide +kernel
theorem cd_60_108 : zt_code zq_T 60 108 = some (.invokevirtual 316, 3, 0) := by decide +kernel
theorem cd_60_111 : zt_code zq_T 60 111 = some (.ireturn, 1, 0) := by decide +kernel
theorem cd_60_112 : zt_code zq_T 60 112 = some (.aload_n 0, 1, 0) := by decide +kernel
theorem cd_60_113 : zt_code zq_T 60 113 = some (.iload_n 1, 1, 0) := by decide +kernel
theorem cd_60_114 : zt_code zq_T 60 114 = some (.iload_n 2, 1, 0) := by decide +kernel
theorem cd_60_115 : zt_code zq_T 60 115 = some (.iload_n 3, 1, 0) := by decide +kernel
theorem cd_60_116 : zt_code zq_T 60 116 = some (.invokevirtual 312, 3, 0) := by decide +kernel
theorem cd_60_119 : zt_code zq_T 60 119 = some (.ireturn, 1, 0) := by decide +kernel
theorem cd_61_0 : zt_code zq_T 61 0 = some (.aload_n 0, 1, 0) := by decide +kernel
theorem cd_61_1 : zt_code zq_T 61 1 = some (.getfield 300, 3, 0) := by decide +kernel
theorem cd_61_4 : zt_code zq_T 61 4 = some (.istore_n 3, 1, 0) := by decide +kernel
theorem cd_61_5 : zt_code zq_T 61 5 = some (.aload_n 0, 1, 0) := by decide +kernel
theorem cd_61_6 : zt_code zq_T 61 6 = some (.iload_n 1, 1, 0) := by decide +kernel
theorem cd_61_7 : zt_code zq_T 61 7 = some (.aload_n 0, 1, 0) := by decide +kernel
theorem cd_61_8 : zt_code zq_T 61 8 = some (.iload_n 2, 1, 0) := by decide +kernel
theorem cd_61_9 : zt_code zq_T 61 9 = some (.iconst 3, 1, 0) := by decide +kernel
theorem cd_61_10 : zt_code zq_T 61 10 = some (.invokevirtual 240, 3, 0) := by decide +kernel
theorem cd_61_13 : zt_code zq_T 61 13 = some (.iconst 1, 1, 0) := by decide +kernel
theorem cd_61_14 : zt_code zq_T 61 14 = some (.invokevirtual 319, 3, 0) := by decide +kernel
theorem cd_61_17 : zt_code zq_T 61 17 = some (.ifCond .ne (5), 3, 0) := by decide +kernel
theorem cd_61_20 : zt_code zq_T 61 20 = some (.iconst 0, 1, 0) := by decide +kernel
theorem cd_61_21 : zt_code zq_T 61 21 = some (.ireturn, 1, 0) := by decide +kernel
theorem cd_61_22 : zt_code zq_T 61 22 = some (.aload_n 0, 1, 0) := by decide +kernel
theorem cd_61_23 : zt_code zq_T 61 23 = some (.getfield 300, 3, 0) := by decide +kernel
theorem cd_61_26 : zt_code zq_T 61 26 = some (.istore 4, 2, 0) := by decide +kernel
theorem cd_61_28 : zt_code zq_T 61 28 = some (.aload_n 0, 1, 0) := by decide +kernel
theorem cd_61_29 : zt_code zq_T 61 29 = some (.iload_n 1, 1, 0) := by decide +kernel
theorem cd_61_30 : zt_code zq_T 61 30 = some (.aload_n 0, 1, 0) := by decide +kernel
theorem cd_61_31 : zt_code zq_T 61 31 = some (.iload_n 2, 1, 0) := by decide +kernel
theorem cd_61_32 : zt_code zq_T 61 32 = some (.iconst 3, 1, 0) := by decide +kernel
theorem cd_61_33 : zt_code zq_T 61 33 = some (.invokevirtual 240, 3, 0) := by decide +kernel
theorem cd_61_36 : zt_code zq_T 61 36 = some (.invokevirtual 245, 3, 0) := by decide +kernel
theorem cd_61_39 : zt_code zq_T 61 39 = some (.ifCond .eq (7), 3, 0) := by decide +kernel
theorem cd_61_42 : zt_code zq_T 61 42 = some (.iconst 1, 1, 0) := by decide +kernel
theorem cd_61_43 : zt_code zq_T 61 43 = some (.goto (18), 3, 0) := by decide +kernel
theorem cd_61_46 : zt_code zq_T 61 46 = some (.iconst 1, 1, 0) := by decide +kernel
theorem cd_61_47 : zt_code zq_T 61 47 = some (.aload_n 0, 1, 0) := by decide +kernel
theorem cd_61_48 : zt_code zq_T 61 48 = some (.iload_n 1, 1, 0) := by decide +kernel
theorem cd_61_49 : zt_code zq_T 61 49 = some (.aload_n 0, 1, 0) := by decide +kernel
theorem cd_61_50 : zt_code zq_T 61 50 = some (.iload_n 2, 1, 0) := by decide +kernel
theorem cd_61_51 : zt_code zq_T 61 51 = some (.iconst 1, 1, 0) := by decide +kernel
theorem cd_61_52 : zt_code zq_T 61 52 = some (.invokevirtual 240, 3, 0) := by decide +kernel
theorem cd_61_55 : zt_code zq_T 61 55 = some (.invokevirtual 242, 3, 0) := by decide +kernel
theorem cd_61_58 : zt_code zq_T 61 58 = some (.invokestatic 144, 3, 0) := by decide +kernel
theorem cd_61_61 : zt_code zq_T 61 61 = some (.istore 5, 2, 0) := by decide +kernel
theorem cd_61_63 : zt_code zq_T 61 63 = some (.iconst 1, 1, 0) := by decide +kernel
theorem cd_61_64 : zt_code zq_T 61 64 = some (.istore 6, 2, 0) := by decide +kernel
theorem cd_61_66 : zt_code zq_T 61 66 = some (.iload 6, 2, 0) := by decide +kernel
theorem cd_61_68 : zt_code zq_T 61 68 = some (.iload 5, 2, 0) := by decide +kernel
theorem cd_61_70 : zt_code zq_T 61 70 = some (.if_icmp .ge (16), 3, 0) := by decide +kernel
theorem cd_61_73 : zt_code zq_T 61 73 = some (.aload_n 0, 1, 0) := by decide +kernel
theorem cd_61_74 : zt_code zq_T 61 74 = some (.iload_n 3, 1, 0) := by decide +kernel
theorem cd_61_75 : zt_code zq_T 61 75 = some (.iload 4, 2, 0) := by decide +kernel
theorem cd_61_77 : zt_code zq_T 61 77 = some (.invokevirtual 322, 3, 0) := by decide +kernel
theorem cd_61_80 : zt_code zq_T 61 80 = some (.iinc 6 (1), 3, 0) := by decide +kernel
theorem cd_61_83 : zt_code zq_T 61 83 = some (.goto (-17), 3, 0) := by decide +kernel
theorem cd_61_86 : zt_code zq_T 61 86 = some (.iconst 1, 1, 0) := by decide +kernel
theorem cd_61_87 : zt_code zq_T 61 87 = some (.ireturn, 1, 0) := by decide +kernel
theorem cd_62_0 : zt_code zq_T 62 0 = some (.aload_n 0, 1, 0) := by decide +kernel
theorem cd_62_1 : zt_code zq_T 62 1 = some (.getfield 300, 3, 0) := by decide +kernel
theorem cd_62_4 : zt_code zq_T 62 4 = some (.istore 4, 2, 0) := by decide +kernel
theorem cd_62_6 : zt_code zq_T 62 6 = some (.iconst 0, 1, 0) := by decide +kernel
theorem cd_62_7 : zt_code zq_T 62 7 = some (.istore 5, 2, 0) := by decide +kernel
theorem cd_62_9 : zt_code zq_T 62 9 = some (.aload_n 0, 1, 0) := by decide +kernel
theorem cd_62_10 : zt_code zq_T 62 10 = some (.iload_n 2, 1, 0) := by decide +kernel
theorem cd_62_11 : zt_code zq_T 62 11 = some (.iconst 3, 1, 0) := by decide +kernel
theorem cd_62_12 : zt_code zq_T 62 12 = some (.invokevirtual 240, 3, 0) := by decide +kernel
theorem cd_62_15 : zt_code zq_T 62 15 = some (.istore 6, 2, 0) := by decide +kernel
theorem cd_62_17 : zt_code zq_T 62 17 = some (.iload 6, 2, 0) := by decide +kernel
theorem cd_62_19 : zt_code zq_T 62 19 = some (.iconst (-1), 1, 0) := by decide +kernel
theorem cd_62_20 : zt_code zq_T 62 20 = some (.if_icmp .eq (51), 3, 0) := by decide +kernel
theorem cd_62_23 : zt_code zq_T 62 23 = some (.aload_n 0, 1, 0) := by decide +kernel
theorem cd_62_24 : zt_code zq_T 62 24 = some (.getfield 300, 3, 0) := by decide +kernel
theorem cd_62_27 : zt_code zq_T 62 27 = some (.istore 7, 2, 0) := by decide +kernel
theorem cd_62_29 : zt_code zq_T 62 29 = some (.aload_n 0, 1, 0) := by decide +kernel
theorem cd_62_30 : zt_code zq_T 62 30 = some (.iload_n 1, 1, 0) := by decide +kernel
theorem cd_62_31 : zt_code zq_T 62 31 = some (.iload 6, 2, 0) := by decide +kernel
theorem cd_62_33 : zt_code zq_T 62 33 = some (.iload_n 3, 1, 0) := by decide +kernel
theorem cd_62_34 : zt_code zq_T 62 34 = some (.invokevirtual 319, 3, 0) := by decide +kernel
theorem cd_62_37 : zt_code zq_T 62 37 = some (.ifCond .ne (6), 3, 0) := by decide +kernel
theorem cd_62_40 : zt_code zq_T 62 40 = some (.goto (19), 3, 0) := by decide +kernel
theorem cd_62_43 : zt_code zq_T 62 43 = some (.iload 5, 2, 0) := by decide +kernel
theorem cd_62_45 : zt_code zq_T 62 45 = some (.ifCond .eq (11), 3, 0) := by decide +kernel
theorem cd_62_48 : zt_code zq_T 62 48 = some (.aload_n 0, 1, 0) := by decide +kernel
theorem cd_62_49 : zt_code zq_T 62 49 = some (.iload 4, 2, 0) := by decide +kernel
theorem cd_62_51 : zt_code zq_T 62 51 = some (.iload 7, 2, 0) := by decide +kernel
theorem cd_62_53 : zt_code zq_T 62 53 = some (.invokevirtual 325, 3, 0) := by decide +kernel
theorem cd_62_56 : zt_code zq_T 62 56 = some (.iconst 1, 1, 0) := by decide +kernel
theorem cd_62_57 : zt_code zq_T 62 57 = some (.istore 5, 2, 0) := by decide +kernel
theorem cd_62_59 : zt_code zq_T 62 59 = some (.aload_n 0, 1, 0) := by decide +kernel
theorem cd_62_60 : zt_code zq_T 62 60 = some (.iload 6, 2, 0) := by decide +kernel
theorem cd_62_62 : zt_code zq_T 62 62 = some (.iconst 4, 1, 0) := by decide +kernel
theorem cd_62_63 : zt_code zq_T 62 63 = some (.invokevirtual 240, 3, 0) := by decide +kernel
theorem cd_62_66 : zt_code zq_T 62 66 = some (.istore 6, 2, 0) := by decide +kernel
theorem cd_62_68 : zt_code zq_T 62 68 = some (.goto (-51), 3, 0) := by decide +kernel
theorem cd_62_71 : zt_code zq_T 62 71 = some (.iload 5, 2, 0) := by decide +kernel
theorem cd_62_73 : zt_code zq_T 62 73 = some (.ireturn, 1, 0) := by decide +kernel
theorem cd_63_0 : zt_code zq_T 63 0 = some (.aload_n 0, 1, 0) := by decide +kernel
theorem cd_63_1 : zt_code zq_T 63 1 = some (.iload_n 2, 1, 0) := by decide +kernel
theorem cd_63_2 : zt_code zq_T 63 2 = some (.iconst 0, 1, 0) := by decide +kernel
theorem cd_63_3 : zt_code zq_T 63 3 = some (.invokevirtual 240, 3, 0) := by decide +kernel
theorem cd_63_6 : zt_code zq_T 63 6 = some (.iconst 2, 1, 0) := by decide +kernel
theorem cd_63_7 : zt_code zq_T 63 7 = some (.if_icmp .ne (39), 3, 0) := by decide +kernel
theorem cd_63_10 : zt_code zq_T 63 10 = some (.aload_n 0, 1, 0) := by decide +kernel
theorem cd_63_11 : zt_code zq_T 63 11 = some (.iload_n 2, 1, 0) := by decide +kernel
theorem cd_63_12 : zt_code zq_T 63 12 = some (.iconst 3, 1, 0) := by decide +kernel
theorem cd_63_13 : zt_code zq_T 63 13 = some (.invokevirtual 240, 3, 0) := by decide +kernel
theorem cd_63_16 : zt_code zq_T 63 16 = some (.istore_n 3, 1, 0) := by decide +kernel
theorem cd_63_17 : zt_code zq_T 63 17 = some (.iload_n 3, 1, 0) := by decide +kernel
theorem cd_63_18 : zt_code zq_T 63 18 = some (.iconst (-1), 1, 0) := by decide +kernel
theorem cd_63_19 : zt_code zq_T 63 19 = some (.if_icmp .eq (25), 3, 0) := by decide +kernel
theorem cd_63_22 : zt_code zq_T 63 22 = some (.aload_n 0, 1, 0) := by decide +kernel
theorem cd_63_23 : zt_code zq_T 63 23 = some (.iload_n 1, 1, 0) := by decide +kernel
theorem cd_63_24 : zt_code zq_T 63 24 = some (.iload_n 3, 1, 0) := by decide +kernel
theorem cd_63_25 : zt_code zq_T 63 25 = some (.iconst 0, 1, 0) := by decide +kernel
theorem cd_63_26 : zt_code zq_T 63 26 = some (.invokevirtual 319, 3, 0) := by decide +kernel
theorem cd_63_29 : zt_code zq_T 63 29 = some (.ifCond .ne (5), 3, 0) := by decide +kernel
theorem cd_63_32 : zt_code zq_T 63 32 = some (.iconst 0, 1, 0) := by decide +kernel
theorem cd_63_33 : zt_code zq_T 63 33 = some (.ireturn, 1, 0) := by decide +kernel
theorem cd_63_34 : zt_code zq_T 63 34 = some (.aload_n 0, 1, 0) := by decide +kernel
theorem cd_63_35 : zt_code zq_T 63 35 = some (.iload_n 3, 1, 0) := by decide +kernel
theorem cd_63_36 : zt_code zq_T 63 36 = some (.iconst 4, 1, 0) := by decide +kernel
theorem cd_63_37 : zt_code zq_T 63 37 = some (.invokevirtual 240, 3, 0) := by decide +kernel
theorem cd_63_40 : zt_code zq_T 63 40 = some (.istore_n 3, 1, 0) := by decide +kernel
theorem cd_63_41 : zt_code zq_T 63 41 = some (.goto (-24), 3, 0) := by decide +kernel
theorem cd_63_44 : zt_code zq_T 63 44 = some (.iconst 1, 1, 0) := by decide +kernel
theorem cd_63_45 : zt_code zq_T 63 45 = some (.ireturn, 1, 0) := by decide +kernel
theorem cd_63_46 : zt_code zq_T 63 46 = some (.aload_n 0, 1, 0) := by decide +kernel
theorem cd_63_47 : zt_code zq_T 63 47 = some (.iload_n 1, 1, 0) := by decide +kernel
theorem cd_63_48 : zt_code zq_T 63 48 = some (.iload_n 2, 1, 0) := by decide +kernel
theorem cd_63_49 : zt_code zq_T 63 49 = some (.iconst (-1), 1, 0) := by decide +kernel
theorem cd_63_50 : zt_code zq_T 63 50 = some (.iconst (-1), 1, 0) := by decide +kernel
theorem cd_63_51 : zt_code zq_T 63 51 = some (.iconst (-1), 1, 0) := by decide +kernel
theorem cd_63_52 : zt_code zq_T 63 52 = some (.invokevirtual 328, 3, 0) := by decide +kernel
theorem cd_63_55 : zt_code zq_T 63 55 = some (.ireturn, 1, 0) := by decide +kernel
theorem cd_64_0 : zt_code zq_T 64 0 = some (.aload_n 0, 1, 0) := by decide +kernel
theorem cd_64_1 : zt_code zq_T 64 1 = some (.dup, 1, 0) := by decide +kernel
theorem cd_64_2 : zt_code zq_T 64 2 = some (.getfield 71, 3, 0) := by decide +kernel
theorem cd_64_5 : zt_code zq_T 64 5 = some (.iconst 1, 1, 0) := by decide +kernel
theorem cd_64_6 : zt_code zq_T 64 6 = some (.iadd, 1, 0) := by decide +kernel
theorem cd_64_7 : zt_code zq_T 64 7 = some (.putfield 71, 3, 0) := by decide +kernel
theorem cd_64_10 : zt_code zq_T 64 10 = some (.aload_n 0, 1, 0) := by decide +kernel
theorem cd_64_11 : zt_code zq_T 64 11 = some (.getfield 300, 3, 0) := by decide +kernel
theorem cd_64_14 : zt_code zq_T 64 14 = some (.istore 6, 2, 0) := by decide +kernel
theorem cd_64_16 : zt_code zq_T 64 16 = some (.iconst 0, 1, 0) := by decide +kernel
theorem cd_64_17 : zt_code zq_T 64 17 = some (.istore 7, 2, 0) := by decide +kernel
theorem cd_64_19 : zt_code zq_T 64 19 = some (.aload_n 0, 1, 0) := by decide +kernel
theorem cd_64_20 : zt_code zq_T 64 20 = some (.iload_n 2, 1, 0) := by decide +kernel
theorem cd_64_21 : zt_code zq_T 64 21 = some (.iconst 3, 1, 0) := by decide +kernel
theorem cd_64_22 : zt_code zq_T 64 22 = some (.invokevirtual 240, 3, 0) := by decide +kernel
theorem cd_64_25 : zt_code zq_T 64 25 = some (.istore 8, 2, 0) := by decide +kernel
theorem cd_64_27 : zt_code zq_T 64 27 = some (.iload 8, 2, 0) := by decide +kernel
theorem cd_64_29 : zt_code zq_T 64 29 = some (.iconst (-1), 1, 0) := by decide +kernel
theorem cd_64_30 : zt_code zq_T 64 30 = some (.if_icmp .eq (216), 3, 0) := by decide +kernel
theorem cd_64_33 : zt_code zq_T 64 33 = some (.iload_n 3, 1, 0) := by decide +kernel
theorem cd_64_34 : zt_code zq_T 64 34 = some (.iconst (-1), 1, 0) := by decide +kernel
theorem cd_64_35 : zt_code zq_T 64 35 = some (.if_icmp .ne (21), 3, 0) := by decide +kernel
theorem cd_64_38 : zt_code zq_T 64 38 = some (.aload_n 0, 1, 0) := by decide +kernel
theorem cd_64_39 : zt_code zq_T 64 39 = some (.iload_n 1, 1, 0) := by decide +kernel
theorem cd_64_40 : zt_code zq_T 64 40 = some (.iload 8, 2, 0) := by decide +kernel
theorem cd_64_42 : zt_code zq_T 64 42 = some (.invokevirtual 245, 3, 0) := by decide +kernel
theorem cd_64_45 : zt_code zq_T 64 45 = some (.ifCond .ne (7), 3, 0) := by decide +kernel
theorem cd_64_48 : zt_code zq_T 64 48 = some (.iconst 1, 1, 0) := by decide +kernel
theorem cd_64_49 : zt_code zq_T 64 49 = some (.goto (20), 3, 0) := by decide +kernel
theorem cd_64_52 : zt_code zq_T 64 52 = some (.iconst 0, 1, 0) := by decide +kernel
theorem cd_64_53 : zt_code zq_T 64 53 = some (.goto (16), 3, 0) := by decide +kernel
theorem cd_64_56 : zt_code zq_T 64 56 = some (.aload_n 0, 1, 0) := by decide +kernel
theorem cd_64_57 : zt_code zq_T 64 57 = some (.iload_n 1, 1, 0) := by decide +kernel
theorem cd_64_58 : zt_code zq_T 64 58 = some (.iload_n 2, 1, 0) := by decide +kernel
theorem cd_64_59 : zt_code zq_T 64 59 = some (.iload 8, 2, 0) := by decide +kernel
theorem cd_64_61 : zt_code zq_T 64 61 = some (.iload_n 3, 1, 0) := by decide +kernel
theorem cd_64_62 : zt_code zq_T 64 62 = some (.iload 4, 2, 0) := by decide +kernel
theorem cd_64_64 : zt_code zq_T 64 64 = some (.iload 5, 2, 0) := by decide +kernel
theorem cd_64_66 : zt_code zq_T 64 66 = some (.invokevirtual 285, 3, 0) := by decide +kernel
theorem cd_64_69 : zt_code zq_T 64 69 = some (.istore 9, 2, 0) := by decide +kernel
theorem cd_64_71 : zt_code zq_T 64 71 = some (.iload 9, 2, 0) := by decide +kernel
theorem cd_64_73 : zt_code zq_T 64 73 = some (.ifCond .ne (6), 3, 0) := by decide +kernel
theorem cd_64_76 : zt_code zq_T 64 76 = some (.goto (158), 3, 0) := by decide +kernel
theorem cd_64_79 : zt_code zq_T 64 79 = some (.aload_n 0, 1, 0) := by decide +kernel
theorem cd_64_80 : zt_code zq_T 64 80 = some (.getfield 300, 3, 0) := by decide +kernel
theorem cd_64_83 : zt_code zq_T 64 83 = some (.istore 10, 2, 0) := by decide +kernel
theorem cd_64_85 : zt_code zq_T 64 85 = some (.aload_n 0, 1, 0) := by decide +kernel
theorem cd_64_86 : zt_code zq_T 64 86 = some (.iload_n 1, 1, 0) := by decide +kernel
theorem cd_64_87 : zt_code zq_T 64 87 = some (.iload 8, 2, 0) := by decide +kernel
theorem cd_64_89 : zt_code zq_T 64 89 = some (.iconst 0, 1, 0) := by decide +kernel
theorem cd_64_90 : zt_code zq_T 64 90 = some (.invokevirtual 319, 3, 0) := by decide +kernel
theorem cd_64_93 : zt_code zq_T 64 93 = some (.istore 11, 2, 0) := by decide +kernel
theorem cd_64_95 : zt_code zq_T 64 95 = some (.iload 7, 2, 0) := by decide +kernel
theorem cd_64_97 : zt_code zq_T 64 97 = some (.istore 12, 2, 0) := by decide +kernel
theorem cd_64_99 : zt_code zq_T 64 99 = some (.iconst 5, 1, 0) := by decide +kernel
theorem cd_64_100 : zt_code zq_T 64 100 = some (.aload_n 0, 1, 0) := by decide +kernel
theorem cd_64_101 : zt_code zq_T 64 101 = some (.getfield 71, 3, 0) := by decide +kernel
theorem cd_64_104 : zt_code zq_T 64 104 = some (.imul, 1, 0) := by decide +kernel
theorem cd_64_105 : zt_code zq_T 64 105 = some (.istore 13, 2, 0) := by decide +kernel
theorem cd_64_107 : zt_code zq_T 64 107 = some (.iload 12, 2, 0) := by decide +kernel
theorem cd_64_109 : zt_code zq_T 64 109 = some (.ifCond .le (93), 3, 0) := by decide +kernel
theorem cd_64_112 : zt_code zq_T 64 112 = some (.aload_n 0, 1, 0) := by decide +kernel
theorem cd_64_113 : zt_code zq_T 64 113 = some (.iload 10, 2, 0) := by decide +kernel
theorem cd_64_115 : zt_code zq_T 64 115 = some (.aload_n 0, 1, 0) := by decide +kernel
theorem cd_64_116 : zt_code zq_T 64 116 = some (.getfield 300, 3, 0) := by decide +kernel
theorem cd_64_119 : zt_code zq_T 64 119 = some (.iload 10, 2, 0) := by decide +kernel
theorem cd_64_121 : zt_code zq_T 64 121 = some (.isub, 1, 0) := by decide +kernel
theorem cd_64_122 : zt_code zq_T 64 122 = some (.aload_n 0, 1, 0) := by decide +kernel
theorem cd_64_123 : zt_code zq_T 64 123 = some (.getfield 65, 3, 0) := by decide +kernel
theorem cd_64_126 : zt_code zq_T 64 126 = some (.iload 13, 2, 0) := by decide +kernel
theorem cd_64_128 : zt_code zq_T 64 128 = some (.iload 12, 2, 0) := by decide +kernel
theorem cd_64_130 : zt_code zq_T 64 130 = some (.iadd, 1, 0) := by decide +kernel
theorem cd_64_131 : zt_code zq_T 64 131 = some (.iconst 1, 1, 0) := by decide +kernel
theorem cd_64_132 : zt_code zq_T 64 132 = some (.isub, 1, 0) := by decide +kernel
theorem cd_64_133 : zt_code zq_T 64 133 = some (.iaload, 1, 0) := by decide +kernel
theorem cd_64_134 : zt_code zq_T 64 134 = some (.aload_n 0, 1, 0) := by decide +kernel
theorem cd_64_135 : zt_code zq_T 64 135 = some (.getfield 68, 3, 0) := by decide +kernel
theorem cd_64_138 : zt_code zq_T 64 138 = some (.iload 13, 2, 0) := by decide +kernel
theorem cd_64_140 : zt_code zq_T 64 140 = some (.iload 12, 2, 0) := by decide +kernel
theorem cd_64_142 : zt_code zq_T 64 142 = some (.iadd, 1, 0) := by decide +kernel
theorem cd_64_143 : zt_code zq_T 64 143 = some (.iconst 1, 1, 0) := by decide +kernel
theorem cd_64_144 : zt_code zq_T 64 144 = some (.isub, 1, 0) := by decide +kernel
theorem cd_64_145 : zt_code zq_T 64 145 = some (.iaload, 1, 0) := by decide +kernel
theorem cd_64_146 : zt_code zq_T 64 146 = some (.invokevirtual 331, 3, 0) := by decide +kernel
theorem cd_64_149 : zt_code zq_T 64 149 = some (.ifCond .eq (53), 3, 0) := by decide +kernel
theorem cd_64_152 : zt_code zq_T 64 152 = some (.aload_n 0, 1, 0) := by decide +kernel
theorem cd_64_153 : zt_code zq_T 64 153 = some (.getfield 65, 3, 0) := by decide +kernel
theorem cd_64_156 : zt_code zq_T 64 156 = some (.iload 13, 2, 0) := by decide +kernel
theorem cd_64_158 : zt_code zq_T 64 158 = some (.iload 12, 2, 0) := by decide +kernel
theorem cd_64_160 : zt_code zq_T 64 160 = some (.iadd, 1, 0) := by decide +kernel
theorem cd_64_161 : zt_code zq_T 64 161 = some (.aload_n 0, 1, 0) := by decide +kernel
theorem cd_64_162 : zt_code zq_T 64 162 = some (.getfield 65, 3, 0) := by decide +kernel
theorem cd_64_165 : zt_code zq_T 64 165 = some (.iload 13, 2, 0) := by decide +kernel
theorem cd_64_167 : zt_code zq_T 64 167 = some (.iload 12, 2, 0) := by decide +kernel
theorem cd_64_169 : zt_code zq_T 64 169 = some (.iadd, 1, 0) := by decide +kernel
theorem cd_64_170 : zt_code zq_T 64 170 = some (.iconst 1, 1, 0) := by decide +kernel
theorem cd_64_171 : zt_code zq_T 64 171 = some (.isub, 1, 0) := by decide +kernel
theorem cd_64_172 : zt_code zq_T 64 172 = some (.iaload, 1, 0) := by decide +kernel
theorem cd_64_173 : zt_code zq_T 64 173 = some (.iastore, 1, 0) := by decide +kernel
theorem cd_64_174 : zt_code zq_T 64 174 = some (.aload_n 0, 1, 0) := by decide +kernel
theorem cd_64_175 : zt_code zq_T 64 175 = some (.getfield 68, 3, 0) := by decide +kernel
theorem cd_64_178 : zt_code zq_T 64 178 = some (.iload 13, 2, 0) := by decide +kernel
theorem cd_64_180 : zt_code zq_T 64 180 = some (.iload 12, 2, 0) := by decide +kernel
theorem cd_64_182 : zt_code zq_T 64 182 = some (.iadd, 1, 0) := by decide +kernel
theorem cd_64_183 : zt_code zq_T 64 183 = some (.aload_n 0, 1, 0) := by decide +kernel
theorem cd_64_184 : zt_code zq_T 64 184 = some (.getfield 68, 3, 0) := by decide +kernel
theorem cd_64_187 : zt_code zq_T 64 187 = some (.iload 13, 2, 0) := by decide +kernel
theorem cd_64_189 : zt_code zq_T 64 189 = some (.iload 12, 2, 0) := by decide +kernel
theorem cd_64_191 : zt_code zq_T 64 191 = some (.iadd, 1, 0) := by decide +kernel
theorem cd_64_192 : zt_code zq_T 64 192 = some (.iconst 1, 1, 0) := by decide +kernel
theorem cd_64_193 : zt_code zq_T 64 193 = some (.isub, 1, 0) := by decide +kernel
theorem cd_64_194 : zt_code zq_T 64 194 = some (.iaload, 1, 0) := by decide +kernel
theorem cd_64_195 : zt_code zq_T 64 195 = some (.iastore, 1, 0) := by decide +kernel
theorem cd_64_196 : zt_code zq_T 64 196 = some (.iinc 12 (-1), 3, 0) := by decide +kernel
theorem cd_64_199 : zt_code zq_T 64 199 = some (.goto (-92), 3, 0) := by decide +kernel
theorem cd_64_202 : zt_code zq_T 64 202 = some (.aload_n 0, 1, 0) := by decide +kernel
theorem cd_64_203 : zt_code zq_T 64 203 = some (.getfield 65, 3, 0) := by decide +kernel
theorem cd_64_206 : zt_code zq_T 64 206 = some (.iload 13, 2, 0) := by decide +kernel
theorem cd_64_208 : zt_code zq_T 64 208 = some (.iload 12, 2, 0) := by decide +kernel
theorem cd_64_210 : zt_code zq_T 64 210 = some (.iadd, 1, 0) := by decide +kernel
theorem cd_64_211 : zt_code zq_T 64 211 = some (.iload 10, 2, 0) := by decide +kernel
theorem cd_64_213 : zt_code zq_T 64 213 = some (.iastore, 1, 0) := by decide +kernel
theorem cd_64_214 : zt_code zq_T 64 214 = some (.aload_n 0, 1, 0) := by decide +kernel
theorem cd_64_215 : zt_code zq_T 64 215 = some (.getfield 68, 3, 0) := by decide +kernel
theorem cd_64_218 : zt_code zq_T 64 218 = some (.iload 13, 2, 0) := by decide +kernel
theorem cd_64_220 : zt_code zq_T 64 220 = some (.iload 12, 2, 0) := by decide +kernel
theorem cd_64_222 : zt_code zq_T 64 222 = some (.iadd, 1, 0) := by decide +kernel
theorem cd_64_223 : zt_code zq_T 64 223 = some (.aload_n 0, 1, 0) := by decide +kernel
theorem cd_64_224 : zt_code zq_T 64 224 = some (.getfield 300, 3, 0) := by decide +kernel
theorem cd_64_227 : zt_code zq_T 64 227 = some (.iload 10, 2, 0) := by decide +kernel
theorem cd_64_229 : zt_code zq_T 64 229 = some (.isub, 1, 0) := by decide +kernel
theorem cd_64_230 : zt_code zq_T 64 230 = some (.iastore, 1, 0) := by decide +kernel
theorem cd_64_231 : zt_code zq_T 64 231 = some (.iinc 7 (1), 3, 0) := by decide +kernel
theorem cd_64_234 : zt_code zq_T 64 234 = some (.aload_n 0, 1, 0) := by decide +kernel
theorem cd_64_235 : zt_code zq_T 64 235 = some (.iload 8, 2, 0) := by decide +kernel
theorem cd_64_237 : zt_code zq_T 64 237 = some (.iconst 4, 1, 0) := by decide +kernel
theorem cd_64_238 : zt_code zq_T 64 238 = some (.invokevirtual 240, 3, 0) := by decide +kernel
theorem cd_64_241 : zt_code zq_T 64 241 = some (.istore 8, 2, 0) := by decide +kernel
theorem cd_64_243 : zt_code zq_T 64 243 = some (.goto (-216), 3, 0) := by decide +kernel
theorem cd_64_246 : zt_code zq_T 64 246 = some (.aload_n 0, 1, 0) := by decide +kernel
theorem cd_64_247 : zt_code zq_T 64 247 = some (.getfield 300, 3, 0) := by decide +kernel
theorem cd_64_250 : zt_code zq_T 64 250 = some (.istore 8, 2, 0) := by decide +kernel
theorem cd_64_252 : zt_code zq_T 64 252 = some (.iconst 0, 1, 0) := by decide +kernel
theorem cd_64_253 : zt_code zq_T 64 253 = some (.istore 9, 2, 0) := by decide +kernel
theorem cd_64_255 : zt_code zq_T 64 255 = some (.iload 9, 2, 0) := by decide +kernel
theorem cd_64_257 : zt_code zq_T 64 257 = some (.iload 7, 2, 0) := by decide +kernel
theorem cd_64_259 : zt_code zq_T 64 259 = some (.if_icmp .ge (56), 3, 0) := by decide +kernel
theorem cd_64_262 : zt_code zq_T 64 262 = some (.aload_n 0, 1, 0) := by decide +kernel
theorem cd_64_263 : zt_code zq_T 64 263 = some (.aload_n 0, 1, 0) := by decide +kernel
theorem cd_64_264 : zt_code zq_T 64 264 = some (.getfield 65, 3, 0) := by decide +kernel
theorem cd_64_267 : zt_code zq_T 64 267 = some (.iconst 5, 1, 0) := by decide +kernel
theorem cd_64_268 : zt_code zq_T 64 268 = some (.aload_n 0, 1, 0) := by decide +kernel
theorem cd_64_269 : zt_code zq_T 64 269 = some (.getfield 71, 3, 0) := by decide +kernel
theorem cd_64_272 : zt_code zq_T 64 272 = some (.imul, 1, 0) := by decide +kernel
theorem cd_64_273 : zt_code zq_T 64 273 = some (.iload 9, 2, 0) := by decide +kernel
theorem cd_64_275 : zt_code zq_T 64 275 = some (.iadd, 1, 0) := by decide +kernel
theorem cd_64_276 : zt_code zq_T 64 276 = some (.iaload, 1, 0) := by decide +kernel
theorem cd_64_277 : zt_code zq_T 64 277 = some (.aload_n 0, 1, 0) := by decide +kernel
theorem cd_64_278 : zt_code zq_T 64 278 = some (.getfield 65, 3, 0) := by decide +kernel
theorem cd_64_281 : zt_code zq_T 64 281 = some (.iconst 5, 1, 0) := by decide +kernel
theorem cd_64_282 : zt_code zq_T 64 282 = some (.aload_n 0, 1, 0) := by decide +kernel
theorem cd_64_283 : zt_code zq_T 64 283 = some (.getfield 71, 3, 0) := by decide +kernel
theorem cd_64_286 : zt_code zq_T 64 286 = some (.imul, 1, 0) := by decide +kernel
theorem cd_64_287 : zt_code zq_T 64 287 = some (.iload 9, 2, 0) := by decide +kernel
theorem cd_64_289 : zt_code zq_T 64 289 = some (.iadd, 1, 0) := by decide +kernel
theorem cd_64_290 : zt_code zq_T 64 290 = some (.iaload, 1, 0) := by decide +kernel
theorem cd_64_291 : zt_code zq_T 64 291 = some (.aload_n 0, 1, 0) := by decide +kernel
theorem cd_64_292 : zt_code zq_T 64 292 = some (.getfield 68, 3, 0) := by decide +kernel
theorem cd_64_295 : zt_code zq_T 64 295 = some (.iconst 5, 1, 0) := by decide +kernel
theorem cd_64_296 : zt_code zq_T 64 296 = some (.aload_n 0, 1, 0) := by decide +kernel
theorem cd_64_297 : zt_code zq_T 64 297 = some (.getfield 71, 3, 0) := by decide +kernel
theorem cd_64_300 : zt_code zq_T 64 300 = some (.imul, 1, 0) := by decide +kernel
theorem cd_64_301 : zt_code zq_T 64 301 = some (.iload 9, 2, 0) := by decide +kernel
theorem cd_64_303 : zt_code zq_T 64 303 = some (.iadd, 1, 0) := by decide +kernel
theorem cd_64_304 : zt_code zq_T 64 304 = some (.iaload, 1, 0) := by decide +kernel
theorem cd_64_305 : zt_code zq_T 64 305 = some (.iadd, 1, 0) := by decide +kernel
theorem cd_64_306 : zt_code zq_T 64 306 = some (.invokevirtual 322, 3, 0) := by decide +kernel
theorem cd_64_309 : zt_code zq_T 64 309 = some (.iinc 9 (1), 3, 0) := by decide +kernel
theorem cd_64_312 : zt_code zq_T 64 312 = some (.goto (-57), 3, 0) := by decide +kernel
theorem cd_64_315 : zt_code zq_T 64 315 = some (.iload 8, 2, 0) := by decide +kernel
theorem cd_64_317 : zt_code zq_T 64 317 = some (.istore 9, 2, 0) := by decide +kernel
theorem cd_64_319 : zt_code zq_T 64 319 = some (.iload 9, 2, 0) := by decide +kernel
theorem cd_64_321 : zt_code zq_T 64 321 = some (.aload_n 0, 1, 0) := by decide +kernel
theorem cd_64_322 : zt_code zq_T 64 322 = some (.getfield 300, 3, 0) := by decide +kernel
theorem cd_64_325 : zt_code zq_T 64 325 = some (.if_icmp .ge (29), 3, 0) := by decide +kernel
theorem cd_64_328 : zt_code zq_T 64 328 = some (.aload_n 0, 1, 0) := by decide +kernel
theorem cd_64_329 : zt_code zq_T 64 329 = some (.getfield 62, 3, 0) := by decide +kernel
theorem cd_64_332 : zt_code zq_T 64 332 = some (.iload 6, 2, 0) := by decide +kernel
theorem cd_64_334 : zt_code zq_T 64 334 = some (.iload 9, 2, 0) := by decide +kernel
theorem cd_64_336 : zt_code zq_T 64 336 = some (.iadd, 1, 0) := by decide +kernel
theorem cd_64_337 : zt_code zq_T 64 337 = some (.iload 8, 2, 0) := by decide +kernel
theorem cd_64_339 : zt_code zq_T 64 339 = some (.isub, 1, 0) := by decide +kernel
theorem cd_64_340 : zt_code zq_T 64 340 = some (.aload_n 0, 1, 0) := by decide +kernel
theorem cd_64_341 : zt_code zq_T 64 341 = some (.getfield 62, 3, 0) := by decide +kernel
theorem cd_64_344 : zt_code zq_T 64 344 = some (.iload 9, 2, 0) := by decide +kernel
theorem cd_64_346 : zt_code zq_T 64 346 = some (.baload, 1, 0) := by decide +kernel
theorem cd_64_347 : zt_code zq_T 64 347 = some (.bastore, 1, 0) := by decide +kernel
theorem cd_64_348 : zt_code zq_T 64 348 = some (.iinc 9 (1), 3, 0) := by decide +kernel
theorem cd_64_351 : zt_code zq_T 64 351 = some (.goto (-32), 3, 0) := by decide +kernel
theorem cd_64_354 : zt_code zq_T 64 354 = some (.aload_n 0, 1, 0) := by decide +kernel
theorem cd_64_355 : zt_code zq_T 64 355 = some (.iload 6, 2, 0) := by decide +kernel
theorem cd_64_357 : zt_code zq_T 64 357 = some (.aload_n 0, 1, 0) := by decide +kernel
theorem cd_64_358 : zt_code zq_T 64 358 = some (.getfield 300, 3, 0) := by decide +kernel
theorem cd_64_361 : zt_code zq_T 64 361 = some (.iadd, 1, 0) := by decide +kernel
theorem cd_64_362 : zt_code zq_T 64 362 = some (.iload 8, 2, 0) := by decide +kernel
theorem cd_64_364 : zt_code zq_T 64 364 = some (.isub, 1, 0) := by decide +kernel
theorem cd_64_365 : zt_code zq_T 64 365 = some (.putfield 300, 3, 0) := by decide +kernel
theorem cd_64_368 : zt_code zq_T 64 368 = some (.aload_n 0, 1, 0) := by decide +kernel
theorem cd_64_369 : zt_code zq_T 64 369 = some (.dup, 1, 0) := by decide +kernel
theorem cd_64_370 : zt_code zq_T 64 370 = some (.getfield 71, 3, 0) := by decide +kernel
theorem cd_64_373 : zt_code zq_T 64 373 = some (.iconst 1, 1, 0) := by decide +kernel
theorem cd_64_374 : zt_code zq_T 64 374 = some (.isub, 1, 0) := by decide +kernel
theorem cd_64_375 : zt_code zq_T 64 375 = some (.putfield 71, 3, 0) := by decide +kernel
theorem cd_64_378 : zt_code zq_T 64 378 = some (.iconst 1, 1, 0) := by decide +kernel
theorem cd_64_379 : zt_code zq_T 64 379 = some (.ireturn, 1, 0) := by decide +kernel
theorem cd_65_0 : zt_code zq_T 65 0 = some (.iconst 0, 1, 0) := by decide +kernel
theorem cd_65_1 : zt_code zq_T 65 1 = some (.istore 5, 2, 0) := by decide +kernel
theorem cd_65_3 : zt_code zq_T 65 3 = some (.iload 5, 2, 0) := by decide +kernel
theorem cd_65_5 : zt_code zq_T 65 5 = some (.iload_n 2, 1, 0) := by decide +kernel
theorem cd_65_6 : zt_code zq_T 65 6 = some (.iload 4, 2, 0) := by decide +kernel
theorem cd_65_8 : zt_code zq_T 65 8 = some (.iadd, 1, 0) := by decide +kernel
theorem cd_65_9 : zt_code zq_T 65 9 = some (.if_icmp .ge (93), 3, 0) := by decide +kernel
theorem cd_65_12 : zt_code zq_T 65 12 = some (.iload 5, 2, 0) := by decide +kernel
theorem cd_65_14 : zt_code zq_T 65 14 = some (.iload_n 2, 1, 0) := by decide +kernel
theorem cd_65_15 : zt_code zq_T 65 15 = some (.if_icmp .ge (15), 3, 0) := by decide +kernel
theorem cd_65_18 : zt_code zq_T 65 18 = some (.aload_n 0, 1, 0) := by decide +kernel
theorem cd_65_19 : zt_code zq_T 65 19 = some (.getfield 62, 3, 0) := by decide +kernel
theorem cd_65_22 : zt_code zq_T 65 22 = some (.iload_n 1, 1, 0) := by decide +kernel
theorem cd_65_23 : zt_code zq_T 65 23 = some (.iload 5, 2, 0) := by decide +kernel
theorem cd_65_25 : zt_code zq_T 65 25 = some (.iadd, 1, 0) := by decide +kernel
theorem cd_65_26 : zt_code zq_T 65 26 = some (.baload, 1, 0) := by decide +kernel
theorem cd_65_27 : zt_code zq_T 65 27 = some (.goto (14), 3, 0) := by decide +kernel
theorem cd_65_30 : zt_code zq_T 65 30 = some (.aload_n 0, 1, 0) := by decide +kernel
theorem cd_65_31 : zt_code zq_T 65 31 = some (.getfield 62, 3, 0) := by decide +kernel
theorem cd_65_34 : zt_code zq_T 65 34 = some (.iload_n 3, 1, 0) := by decide +kernel
theorem cd_65_35 : zt_code zq_T 65 35 = some (.iload 5, 2, 0) := by decide +kernel
theorem cd_65_37 : zt_code zq_T 65 37 = some (.iadd, 1, 0) := by decide +kernel
theorem cd_65_38 : zt_code zq_T 65 38 = some (.iload_n 2, 1, 0) := by decide +kernel
theorem cd_65_39 : zt_code zq_T 65 39 = some (.isub, 1, 0) := by decide +kernel
theorem cd_65_40 : zt_code zq_T 65 40 = some (.baload, 1, 0) := by decide +kernel
theorem cd_65_41 : zt_code zq_T 65 41 = some (.istore 6, 2, 0) := by decide +kernel
theorem cd_65_43 : zt_code zq_T 65 43 = some (.iload 5, 2, 0) := by decide +kernel
theorem cd_65_45 : zt_code zq_T 65 45 = some (.iload 4, 2, 0) := by decide +kernel
theorem cd_65_47 : zt_code zq_T 65 47 = some (.if_icmp .ge (15), 3, 0) := by decide +kernel
theorem cd_65_50 : zt_code zq_T 65 50 = some (.aload_n 0, 1, 0) := by decide +kernel
theorem cd_65_51 : zt_code zq_T 65 51 = some (.getfield 62, 3, 0) := by decide +kernel
theorem cd_65_54 : zt_code zq_T 65 54 = some (.iload_n 3, 1, 0) := by decide +kernel
theorem cd_65_55 : zt_code zq_T 65 55 = some (.iload 5, 2, 0) := by decide +kernel
theorem cd_65_57 : zt_code zq_T 65 57 = some (.iadd, 1, 0) := by decide +kernel
theorem cd_65_58 : zt_code zq_T 65 58 = some (.baload, 1, 0) := by decide +kernel
theorem cd_65_59 : zt_code zq_T 65 59 = some (.goto (15), 3, 0) := by decide +kernel
theorem cd_65_62 : zt_code zq_T 65 62 = some (.aload_n 0, 1, 0) := by decide +kernel
theorem cd_65_63 : zt_code zq_T 65 63 = some (.getfield 62, 3, 0) := by decide +kernel
theorem cd_65_66 : zt_code zq_T 65 66 = some (.iload_n 1, 1, 0) := by decide +kernel
theorem cd_65_67 : zt_code zq_T 65 67 = some (.iload 5, 2, 0) := by decide +kernel
theorem cd_65_69 : zt_code zq_T 65 69 = some (.iadd, 1, 0) := by decide +kernel
theorem cd_65_70 : zt_code zq_T 65 70 = some (.iload 4, 2, 0) := by decide +kernel
theorem cd_65_72 : zt_code zq_T 65 72 = some (.isub, 1, 0) := by decide +kernel
theorem cd_65_73 : zt_code zq_T 65 73 = some (.baload, 1, 0) := by decide +kernel
theorem cd_65_74 : zt_code zq_T 65 74 = some (.istore 7, 2, 0) := by decide +kernel
theorem cd_65_76 : zt_code zq_T 65 76 = some (.iload 6, 2, 0) := by decide +kernel
theorem cd_65_78 : zt_code zq_T 65 78 = some (.iload 7, 2, 0) := by decide +kernel
theorem cd_65_80 : zt_code zq_T 65 80 = some (.if_icmp .eq (16), 3, 0) := by decide +kernel
theorem cd_65_83 : zt_code zq_T 65 83 = some (.iload 6, 2, 0) := by decide +kernel
theorem cd_65_85 : zt_code zq_T 65 85 = some (.iload 7, 2, 0) := by decide +kernel
theorem cd_65_87 : zt_code zq_T 65 87 = some (.if_icmp .ge (7), 3, 0) := by decide +kernel
theorem cd_65_90 : zt_code zq_T 65 90 = some (.iconst 1, 1, 0) := by decide +kernel
theorem cd_65_91 : zt_code zq_T 65 91 = some (.goto (4), 3, 0) := by decide +kernel
theorem cd_65_94 : zt_code zq_T 65 94 = some (.iconst 0, 1, 0) := by decide +kernel
theorem cd_65_95 : zt_code zq_T 65 95 = some (.ireturn, 1, 0) := by decide +kernel
theorem cd_65_96 : zt_code zq_T 65 96 = some (.iinc 5 (1), 3, 0) := by decide +kernel
theorem cd_65_99 : zt_code zq_T 65 99 = some (.goto (-96), 3, 0) := by decide +kernel
theorem cd_65_102 : zt_code zq_T 65 102 = some (.iconst 0, 1, 0) := by decide +kernel
theorem cd_65_103 : zt_code zq_T 65 103 = some (.ireturn, 1, 0) := by decide +kernel
theorem cd_66_0 : zt_code zq_T 66 0 = some (.aload_n 0, 1, 0) := by decide +kernel
theorem cd_66_1 : zt_code zq_T 66 1 = some (.iconst 0, 1, 0) := by decide +kernel
theorem cd_66_2 : zt_code zq_T 66 2 = some (.putfield 300, 3, 0) := by decide +kernel
theorem cd_66_5 : zt_code zq_T 66 5 = some (.aload_n 0, 1, 0) := by decide +kernel
theorem cd_66_6 : zt_code zq_T 66 6 = some (.iload_n 1, 1, 0) := by decide +kernel
theorem cd_66_7 : zt_code zq_T 66 7 = some (.aload_n 0, 1, 0) := by decide +kernel
theorem cd_66_8 : zt_code zq_T 66 8 = some (.iload_n 1, 1, 0) := by decide +kernel
theorem cd_66_9 : zt_code zq_T 66 9 = some (.iconst 1, 1, 0) := by decide +kernel
theorem cd_66_10 : zt_code zq_T 66 10 = some (.invokevirtual 258, 3, 0) := by decide +kernel
theorem cd_66_13 : zt_code zq_T 66 13 = some (.iconst 0, 1, 0) := by decide +kernel
theorem cd_66_14 : zt_code zq_T 66 14 = some (.invokevirtual 319, 3, 0) := by decide +kernel
theorem cd_66_17 : zt_code zq_T 66 17 = some (.istore_n 2, 1, 0) := by decide +kernel
theorem cd_66_18 : zt_code zq_T 66 18 = some (.aload_n 0, 1, 0) := by decide +kernel
theorem cd_66_19 : zt_code zq_T 66 19 = some (.getfield 300, 3, 0) := by decide +kernel
theorem cd_66_22 : zt_code zq_T 66 22 = some (.ireturn, 1, 0) := by decide +kernel
theorem cd_67_0 : zt_code zq_T 67 0 = some (.aload_n 0, 1, 0) := by decide +kernel
theorem cd_67_1 : zt_code zq_T 67 1 = some (.iload_n 2, 1, 0) := by decide +kernel
theorem cd_67_2 : zt_code zq_T 67 2 = some (.iconst 2, 1, 0) := by decide +kernel
theorem cd_67_3 : zt_code zq_T 67 3 = some (.invokevirtual 240, 3, 0) := by decide +kernel
theorem cd_67_6 : zt_code zq_T 67 6 = some (.iconst (-1), 1, 0) := by decide +kernel
theorem cd_67_7 : zt_code zq_T 67 7 = some (.if_icmp .eq (19), 3, 0) := by decide +kernel
theorem cd_67_10 : zt_code zq_T 67 10 = some (.aload_n 0, 1, 0) := by decide +kernel
theorem cd_67_11 : zt_code zq_T 67 11 = some (.iload_n 1, 1, 0) := by decide +kernel
theorem cd_67_12 : zt_code zq_T 67 12 = some (.aload_n 0, 1, 0) := by decide +kernel
theorem cd_67_13 : zt_code zq_T 67 13 = some (.iload_n 2, 1, 0) := by decide +kernel
theorem cd_67_14 : zt_code zq_T 67 14 = some (.iconst 2, 1, 0) := by decide +kernel
theorem cd_67_15 : zt_code zq_T 67 15 = some (.invokevirtual 240, 3, 0) := by decide +kernel
theorem cd_67_18 : zt_code zq_T 67 18 = some (.iload_n 2, 1, 0) := by decide +kernel
theorem cd_67_19 : zt_code zq_T 67 19 = some (.iload 4, 2, 0) := by decide +kernel
theorem cd_67_21 : zt_code zq_T 67 21 = some (.iload 5, 2, 0) := by decide +kernel
theorem cd_67_23 : zt_code zq_T 67 23 = some (.invokevirtual 334, 3, 0) := by decide +kernel
theorem cd_67_26 : zt_code zq_T 67 26 = some (.aload_n 0, 1, 0) := by decide +kernel
theorem cd_67_27 : zt_code zq_T 67 27 = some (.iload_n 2, 1, 0) := by decide +kernel
theorem cd_67_28 : zt_code zq_T 67 28 = some (.iconst 0, 1, 0) := by decide +kernel
theorem cd_67_29 : zt_code zq_T 67 29 = some (.invokevirtual 240, 3, 0) := by decide +kernel
theorem cd_67_32 : zt_code zq_T 67 32 = some (.istore 6, 2, 0) := by decide +kernel
theorem cd_67_34 : zt_code zq_T 67 34 = some (.iload 6, 2, 0) := by decide +kernel
theorem cd_67_36 : zt_code zq_T 67 36 = some (.iconst 2, 1, 0) := by decide +kernel
theorem cd_67_37 : zt_code zq_T 67 37 = some (.if_icmp .ne (39), 3, 0) := by decide +kernel
theorem cd_67_40 : zt_code zq_T 67 40 = some (.aload_n 0, 1, 0) := by decide +kernel
theorem cd_67_41 : zt_code zq_T 67 41 = some (.iload_n 2, 1, 0) := by decide +kernel
theorem cd_67_42 : zt_code zq_T 67 42 = some (.iconst 3, 1, 0) := by decide +kernel
theorem cd_67_43 : zt_code zq_T 67 43 = some (.invokevirtual 240, 3, 0) := by decide +kernel
theorem cd_67_46 : zt_code zq_T 67 46 = some (.istore 7, 2, 0) := by decide +kernel
theorem cd_67_48 : zt_code zq_T 67 48 = some (.iload 7, 2, 0) := by decide +kernel
theorem cd_67_50 : zt_code zq_T 67 50 = some (.iload_n 3, 1, 0) := by decide +kernel
theorem cd_67_51 : zt_code zq_T 67 51 = some (.if_icmp .eq (25), 3, 0) := by decide +kernel
theorem cd_67_54 : zt_code zq_T 67 54 = some (.aload_n 0, 1, 0) := by decide +kernel
theorem cd_67_55 : zt_code zq_T 67 55 = some (.iload_n 1, 1, 0) := by decide +kernel
theorem cd_67_56 : zt_code zq_T 67 56 = some (.iload 7, 2, 0) := by decide +kernel
theorem cd_67_58 : zt_code zq_T 67 58 = some (.iconst 0, 1, 0) := by decide +kernel
theorem cd_67_59 : zt_code zq_T 67 59 = some (.invokevirtual 319, 3, 0) := by decide +kernel
theorem cd_67_62 : zt_code zq_T 67 62 = some (.istore 8, 2, 0) := by decide +kernel
theorem cd_67_64 : zt_code zq_T 67 64 = some (.aload_n 0, 1, 0) := by decide +kernel
theorem cd_67_65 : zt_code zq_T 67 65 = some (.iload 7, 2, 0) := by decide +kernel
theorem cd_67_67 : zt_code zq_T 67 67 = some (.iconst 4, 1, 0) := by decide +kernel
theorem cd_67_68 : zt_code zq_T 67 68 = some (.invokevirtual 240, 3, 0) := by decide +kernel
theorem cd_67_71 : zt_code zq_T 67 71 = some (.istore 7, 2, 0) := by decide +kernel
theorem cd_67_73 : zt_code zq_T 67 73 = some (.goto (-25), 3, 0) := by decide +kernel
theorem cd_67_76 : zt_code zq_T 67 76 = some (.iload 6, 2, 0) := by decide +kernel
theorem cd_67_78 : zt_code zq_T 67 78 = some (.iconst 4, 1, 0) := by decide +kernel
theorem cd_67_79 : zt_code zq_T 67 79 = some (.if_icmp .ne (16), 3, 0) := by decide +kernel
theorem cd_67_82 : zt_code zq_T 67 82 = some (.aload_n 0, 1, 0) := by decide +kernel
theorem cd_67_83 : zt_code zq_T 67 83 = some (.iload_n 1, 1, 0) := by decide +kernel
theorem cd_67_84 : zt_code zq_T 67 84 = some (.iload_n 2, 1, 0) := by decide +kernel
theorem cd_67_85 : zt_code zq_T 67 85 = some (.iload_n 3, 1, 0) := by decide +kernel
theorem cd_67_86 : zt_code zq_T 67 86 = some (.iload 4, 2, 0) := by decide +kernel
theorem cd_67_88 : zt_code zq_T 67 88 = some (.iload 5, 2, 0) := by decide +kernel
theorem cd_67_90 : zt_code zq_T 67 90 = some (.invokevirtual 328, 3, 0) := by decide +kernel
theorem cd_67_93 : zt_code zq_T 67 93 = some (.istore 7, 2, 0) := by decide +kernel
theorem cd_67_95 : zt_code zq_T 67 95 = some (.iload 6, 2, 0) := by decide +kernel
theorem cd_67_97 : zt_code zq_T 67 97 = some (.iconst 5, 1, 0) := by decide +kernel
theorem cd_67_98 : zt_code zq_T 67 98 = some (.if_icmp .ne (76), 3, 0) := by decide +kernel
theorem cd_67_101 : zt_code zq_T 67 101 = some (.aload_n 0, 1, 0) := by decide +kernel
theorem cd_67_102 : zt_code zq_T 67 102 = some (.iload_n 1, 1, 0) := by decide +kernel
theorem cd_67_103 : zt_code zq_T 67 103 = some (.iload_n 2, 1, 0) := by decide +kernel
theorem cd_67_104 : zt_code zq_T 67 104 = some (.iload 4, 2, 0) := by decide +kernel
theorem cd_67_106 : zt_code zq_T 67 106 = some (.iload 5, 2, 0) := by decide +kernel
theorem cd_67_108 : zt_code zq_T 67 108 = some (.invokevirtual 281, 3, 0) := by decide +kernel
theorem cd_67_111 : zt_code zq_T 67 111 = some (.istore 7, 2, 0) := by decide +kernel
theorem cd_67_113 : zt_code zq_T 67 113 = some (.aload_n 0, 1, 0) := by decide +kernel
theorem cd_67_114 : zt_code zq_T 67 114 = some (.getfield 300, 3, 0) := by decide +kernel
theorem cd_67_117 : zt_code zq_T 67 117 = some (.istore 8, 2, 0) := by decide +kernel
theorem cd_67_119 : zt_code zq_T 67 119 = some (.iconst 1, 1, 0) := by decide +kernel
theorem cd_67_120 : zt_code zq_T 67 120 = some (.istore 9, 2, 0) := by decide +kernel
theorem cd_67_122 : zt_code zq_T 67 122 = some (.iload 9, 2, 0) := by decide +kernel
theorem cd_67_124 : zt_code zq_T 67 124 = some (.iload 7, 2, 0) := by decide +kernel
theorem cd_67_126 : zt_code zq_T 67 126 = some (.if_icmp .ge (48), 3, 0) := by decide +kernel
theorem cd_67_129 : zt_code zq_T 67 129 = some (.iload 9, 2, 0) := by decide +kernel
theorem cd_67_131 : zt_code zq_T 67 131 = some (.iconst 1, 1, 0) := by decide +kernel
theorem cd_67_132 : zt_code zq_T 67 132 = some (.if_icmp .ne (15), 3, 0) := by decide +kernel
theorem cd_67_135 : zt_code zq_T 67 135 = some (.aload_n 0, 1, 0) := by decide +kernel
theorem cd_67_136 : zt_code zq_T 67 136 = some (.iload_n 1, 1, 0) := by decide +kernel
theorem cd_67_137 : zt_code zq_T 67 137 = some (.iload_n 3, 1, 0) := by decide +kernel
theorem cd_67_138 : zt_code zq_T 67 138 = some (.iconst 1, 1, 0) := by decide +kernel
theorem cd_67_139 : zt_code zq_T 67 139 = some (.invokevirtual 319, 3, 0) := by decide +kernel
theorem cd_67_142 : zt_code zq_T 67 142 = some (.istore 10, 2, 0) := by decide +kernel
theorem cd_67_144 : zt_code zq_T 67 144 = some (.goto (24), 3, 0) := by decide +kernel
theorem cd_67_147 : zt_code zq_T 67 147 = some (.aload_n 0, 1, 0) := by decide +kernel
theorem cd_67_148 : zt_code zq_T 67 148 = some (.iload 8, 2, 0) := by decide +kernel
theorem cd_67_150 : zt_code zq_T 67 150 = some (.iload 8, 2, 0) := by decide +kernel
theorem cd_67_152 : zt_code zq_T 67 152 = some (.aload_n 0, 1, 0) := by decide +kernel
theorem cd_67_153 : zt_code zq_T 67 153 = some (.getfield 300, 3, 0) := by decide +kernel
theorem cd_67_156 : zt_code zq_T 67 156 = some (.iload 8, 2, 0) := by decide +kernel
theorem cd_67_158 : zt_code zq_T 67 158 = some (.isub, 1, 0) := by decide +kernel
theorem cd_67_159 : zt_code zq_T 67 159 = some (.iload 9, 2, 0) := by decide +kernel
theorem cd_67_161 : zt_code zq_T 67 161 = some (.iconst 1, 1, 0) := by decide +kernel
theorem cd_67_162 : zt_code zq_T 67 162 = some (.isub, 1, 0) := by decide +kernel
theorem cd_67_163 : zt_code zq_T 67 163 = some (.idiv, 1, 0) := by decide +kernel
theorem cd_67_164 : zt_code zq_T 67 164 = some (.iadd, 1, 0) := by decide +kernel
theorem cd_67_165 : zt_code zq_T 67 165 = some (.invokevirtual 322, 3, 0) := by decide +kernel
theorem cd_67_168 : zt_code zq_T 67 168 = some (.iinc 9 (1), 3, 0) := by decide +kernel
theorem cd_67_171 : zt_code zq_T 67 171 = some (.goto (-49), 3, 0) := by decide +kernel
theorem cd_67_174 : zt_code zq_T 67 174 = some (.iload 6, 2, 0) := by decide +kernel
theorem cd_67_176 : zt_code zq_T 67 176 = some (.ifCond .ne (18), 3, 0) := by decide +kernel
theorem cd_67_179 : zt_code zq_T 67 179 = some (.aload_n 0, 1, 0) := by decide +kernel
theorem cd_67_180 : zt_code zq_T 67 180 = some (.aload_n 0, 1, 0) := by decide +kernel
theorem cd_67_181 : zt_code zq_T 67 181 = some (.iload_n 1, 1, 0) := by decide +kernel
theorem cd_67_182 : zt_code zq_T 67 182 = some (.aload_n 0, 1, 0) := by decide +kernel
theorem cd_67_183 : zt_code zq_T 67 183 = some (.iload_n 2, 1, 0) := by decide +kernel
theorem cd_67_184 : zt_code zq_T 67 184 = some (.iconst 1, 1, 0) := by decide +kernel
theorem cd_67_185 : zt_code zq_T 67 185 = some (.invokevirtual 240, 3, 0) := by decide +kernel
theorem cd_67_188 : zt_code zq_T 67 188 = some (.invokevirtual 289, 3, 0) := by decide +kernel
theorem cd_67_191 : zt_code zq_T 67 191 = some (.invokevirtual 303, 3, 0) := by decide +kernel
theorem cd_67_194 : zt_code zq_T 67 194 = some (.return_, 1, 0) := by decide +kernel
theorem cd_68_0 : zt_code zq_T 68 0 = some (.aload_n 0, 1, 0) := by decide +kernel
theorem cd_68_1 : zt_code zq_T 68 1 = some (.getfield 50, 3, 0) := by decide +kernel
theorem cd_68_4 : zt_code zq_T 68 4 = some (.iload_n 1, 1, 0) := by decide +kernel
theorem cd_68_5 : zt_code zq_T 68 5 = some (.iaload, 1, 0) := by decide +kernel
theorem cd_68_6 : zt_code zq_T 68 6 = some (.aload_n 0, 1, 0) := by decide +kernel
theorem cd_68_7 : zt_code zq_T 68 7 = some (.getfield 50, 3, 0) := by decide +kernel
theorem cd_68_10 : zt_code zq_T 68 10 = some (.iload_n 2, 1, 0) := by decide +kernel
theorem cd_68_11 : zt_code zq_T 68 11 = some (.iaload, 1, 0) := by decide +kernel
theorem cd_68_12 : zt_code zq_T 68 12 = some (.if_icmp .eq (7), 3, 0) := by decide +kernel
theorem cd_68_15 : zt_code zq_T 68 15 = some (.iconst 1, 1, 0) := by decide +kernel
theorem cd_68_16 : zt_code zq_T 68 16 = some (.goto (4), 3, 0) := by decide +kernel
theorem cd_68_19 : zt_code zq_T 68 19 = some (.iconst 0, 1, 0) := by decide +kernel
theorem cd_68_20 : zt_code zq_T 68 20 = some (.ireturn, 1, 0) := by decide +kernel
theorem cd_69_0 : zt_code zq_T 69 0 = some (.iconst 0, 1, 0) := by decide +kernel
theorem cd_69_1 : zt_code zq_T 69 1 = some (.istore_n 3, 1, 0) := by decide +kernel
theorem cd_69_2 : zt_code zq_T 69 2 = some (.iconst (-1), 1, 0) := by decide +kernel
theorem cd_69_3 : zt_code zq_T 69 3 = some (.istore 4, 2, 0) := by decide +kernel
theorem cd_69_5 : zt_code zq_T 69 5 = some (.iload 4, 2, 0) := by decide +kernel
theorem cd_69_7 : zt_code zq_T 69 7 = some (.aload_n 0, 1, 0) := by decide +kernel
theorem cd_69_8 : zt_code zq_T 69 8 = some (.iload_n 1, 1, 0) := by decide +kernel
theorem cd_69_9 : zt_code zq_T 69 9 = some (.iconst 2, 1, 0) := by decide +kernel
theorem cd_69_10 : zt_code zq_T 69 10 = some (.invokevirtual 258, 3, 0) := by decide +kernel
theorem cd_69_13 : zt_code zq_T 69 13 = some (.if_icmp .ge (87), 3, 0) := by decide +kernel
theorem cd_69_16 : zt_code zq_T 69 16 = some (.aload_n 0, 1, 0) := by decide +kernel
theorem cd_69_17 : zt_code zq_T 69 17 = some (.iload_n 1, 1, 0) := by decide +kernel
theorem cd_69_18 : zt_code zq_T 69 18 = some (.iload 4, 2, 0) := by decide +kernel
theorem cd_69_20 : zt_code zq_T 69 20 = some (.invokevirtual 338, 3, 0) := by decide +kernel
theorem cd_69_23 : zt_code zq_T 69 23 = some (.iconst 0, 1, 0) := by decide +kernel
theorem cd_69_24 : zt_code zq_T 69 24 = some (.istore 5, 2, 0) := by decide +kernel
theorem cd_69_26 : zt_code zq_T 69 26 = some (.iload 5, 2, 0) := by decide +kernel
theorem cd_69_28 : zt_code zq_T 69 28 = some (.aload_n 0, 1, 0) := by decide +kernel
theorem cd_69_29 : zt_code zq_T 69 29 = some (.getfield 265, 3, 0) := by decide +kernel
theorem cd_69_32 : zt_code zq_T 69 32 = some (.if_icmp .ge (62), 3, 0) := by decide +kernel
theorem cd_69_35 : zt_code zq_T 69 35 = some (.iconst 0, 1, 0) := by decide +kernel
theorem cd_69_36 : zt_code zq_T 69 36 = some (.istore 6, 2, 0) := by decide +kernel
theorem cd_69_38 : zt_code zq_T 69 38 = some (.iload 6, 2, 0) := by decide +kernel
theorem cd_69_40 : zt_code zq_T 69 40 = some (.iload 5, 2, 0) := by decide +kernel
theorem cd_69_42 : zt_code zq_T 69 42 = some (.if_icmp .ge (46), 3, 0) := by decide +kernel
theorem cd_69_45 : zt_code zq_T 69 45 = some (.iload_n 3, 1, 0) := by decide +kernel
theorem cd_69_46 : zt_code zq_T 69 46 = some (.iload_n 2, 1, 0) := by decide +kernel
theorem cd_69_47 : zt_code zq_T 69 47 = some (.ifCond .eq (14), 3, 0) := by decide +kernel
theorem cd_69_50 : zt_code zq_T 69 50 = some (.aload_n 0, 1, 0) := by decide +kernel
theorem cd_69_51 : zt_code zq_T 69 51 = some (.iload 5, 2, 0) := by decide +kernel
theorem cd_69_53 : zt_code zq_T 69 53 = some (.iload 6, 2, 0) := by decide +kernel
theorem cd_69_55 : zt_code zq_T 69 55 = some (.invokevirtual 341, 3, 0) := by decide +kernel
theorem cd_69_58 : zt_code zq_T 69 58 = some (.ifCond .eq (21), 3, 0) := by decide +kernel
theorem cd_69_61 : zt_code zq_T 69 61 = some (.aload_n 0, 1, 0) := by decide +kernel
theorem cd_69_62 : zt_code zq_T 69 62 = some (.iload_n 1, 1, 0) := by decide +kernel
theorem cd_69_63 : zt_code zq_T 69 63 = some (.iload 4, 2, 0) := by decide +kernel
theorem cd_69_65 : zt_code zq_T 69 65 = some (.iload 5, 2, 0) := by decide +kernel
theorem cd_69_67 : zt_code zq_T 69 67 = some (.iload 6, 2, 0) := by decide +kernel
theorem cd_69_69 : zt_code zq_T 69 69 = some (.invokevirtual 344, 3, 0) := by decide +kernel
theorem cd_69_72 : zt_code zq_T 69 72 = some (.ifCond .eq (7), 3, 0) := by decide +kernel
theorem cd_69_75 : zt_code zq_T 69 75 = some (.iconst 1, 1, 0) := by decide +kernel
theorem cd_69_76 : zt_code zq_T 69 76 = some (.goto (4), 3, 0) := by decide +kernel
theorem cd_69_79 : zt_code zq_T 69 79 = some (.iconst 0, 1, 0) := by decide +kernel
theorem cd_69_80 : zt_code zq_T 69 80 = some (.iadd, 1, 0) := by decide +kernel
theorem cd_69_81 : zt_code zq_T 69 81 = some (.istore_n 3, 1, 0) := by decide +kernel
theorem cd_69_82 : zt_code zq_T 69 82 = some (.iinc 6 (1), 3, 0) := by decide +kernel
theorem cd_69_85 : zt_code zq_T 69 85 = some (.goto (-47), 3, 0) := by decide +kernel
theorem cd_69_88 : zt_code zq_T 69 88 = some (.iinc 5 (1), 3, 0) := by decide +kernel
theorem cd_69_91 : zt_code zq_T 69 91 = some (.goto (-65), 3, 0) := by decide +kernel
theorem cd_69_94 : zt_code zq_T 69 94 = some (.iinc 4 (1), 3, 0) := by decide +kernel
theorem cd_69_97 : zt_code zq_T 69 97 = some (.goto (-92), 3, 0) := by decide +kernel
theorem cd_69_100 : zt_code zq_T 69 100 = some (.iload_n 3, 1, 0) := by decide +kernel
theorem cd_69_101 : zt_code zq_T 69 101 = some (.ireturn, 1, 0) := by decide +kernel
theorem cd_70_0 : zt_code zq_T 70 0 = some (.aload_n 0, 1, 0) := by decide +kernel
theorem cd_70_1 : zt_code zq_T 70 1 = some (.iload_n 1, 1, 0) := by decide +kernel
theorem cd_70_2 : zt_code zq_T 70 2 = some (.iconst 0, 1, 0) := by decide +kernel
theorem cd_70_3 : zt_code zq_T 70 3 = some (.invokevirtual 347, 3, 0) := by decide +kernel
theorem cd_70_6 : zt_code zq_T 70 6 = some (.ifCond .ne (7), 3, 0) := by decide +kernel
theorem cd_70_9 : zt_code zq_T 70 9 = some (.iconst 1, 1, 0) := by decide +kernel
theorem cd_70_10 : zt_code zq_T 70 10 = some (.goto (4), 3, 0) := by decide +kernel
theorem cd_70_13 : zt_code zq_T 70 13 = some (.iconst 0, 1, 0) := by decide +kernel
theorem cd_70_14 : zt_code zq_T 70 14 = some (.ireturn, 1, 0) := by decide +kernel
theorem cd_71_0 : zt_code zq_T 71 0 = some (.aload_n 0, 1, 0) := by decide +kernel
theorem cd_71_1 : zt_code zq_T 71 1 = some (.getfield 75, 3, 0) := by decide +kernel
theorem cd_71_4 : zt_code zq_T 71 4 = some (.iconst 5, 1, 0) := by decide +kernel
theorem cd_71_5 : zt_code zq_T 71 5 = some (.iaload, 1, 0) := by decide +kernel
theorem cd_71_6 : zt_code zq_T 71 6 = some (.iconst (-1), 1, 0) := by decide +kernel
theorem cd_71_7 : zt_code zq_T 71 7 = some (.if_icmp .eq (16), 3, 0) := by decide +kernel
theorem cd_71_10 : zt_code zq_T 71 10 = some (.aload_n 0, 1, 0) := by decide +kernel
theorem cd_71_11 : zt_code zq_T 71 11 = some (.getfield 300, 3, 0) := by decide +kernel
theorem cd_71_14 : zt_code zq_T 71 14 = some (.aload_n 0, 1, 0) := by decide +kernel
theorem cd_71_15 : zt_code zq_T 71 15 = some (.getfield 75, 3, 0) := by decide +kernel
theorem cd_71_18 : zt_code zq_T 71 18 = some (.iconst 5, 1, 0) := by decide +kernel
theorem cd_71_19 : zt_code zq_T 71 19 = some (.iaload, 1, 0) := by decide +kernel
theorem cd_71_20 : zt_code zq_T 71 20 = some (.if_icmp .eq (32), 3, 0) := by decide +kernel
theorem cd_71_23 : zt_code zq_T 71 23 = some (.aload_n 0, 1, 0) := by decide +kernel
theorem cd_71_24 : zt_code zq_T 71 24 = some (.getfield 75, 3, 0) := by decide +kernel
theorem cd_71_27 : zt_code zq_T 71 27 = some (.iconst 5, 1, 0) := by decide +kernel
theorem cd_71_28 : zt_code zq_T 71 28 = some (.iaload, 1, 0) := by decide +kernel
theorem cd_71_29 : zt_code zq_T 71 29 = some (.iconst (-1), 1, 0) := by decide +kernel
theorem cd_71_30 : zt_code zq_T 71 30 = some (.if_icmp .eq (16), 3, 0) := by decide +kernel
theorem cd_71_33 : zt_code zq_T 71 33 = some (.aload_n 0, 1, 0) := by decide +kernel
theorem cd_71_34 : zt_code zq_T 71 34 = some (.getfield 300, 3, 0) := by decide +kernel
theorem cd_71_37 : zt_code zq_T 71 37 = some (.aload_n 0, 1, 0) := by decide +kernel
theorem cd_71_38 : zt_code zq_T 71 38 = some (.getfield 75, 3, 0) := by decide +kernel
theorem cd_71_41 : zt_code zq_T 71 41 = some (.iconst 5, 1, 0) := by decide +kernel
theorem cd_71_42 : zt_code zq_T 71 42 = some (.iaload, 1, 0) := by decide +kernel
theorem cd_71_43 : zt_code zq_T 71 43 = some (.if_icmp .ge (7), 3, 0) := by decide +kernel
theorem cd_71_46 : zt_code zq_T 71 46 = some (.iconst 1, 1, 0) := by decide +kernel
theorem cd_71_47 : zt_code zq_T 71 47 = some (.goto (4), 3, 0) := by decide +kernel
theorem cd_71_50 : zt_code zq_T 71 50 = some (.iconst 0, 1, 0) := by decide +kernel
theorem cd_71_51 : zt_code zq_T 71 51 = some (.ireturn, 1, 0) := by decide +kernel
theorem cd_71_52 : zt_code zq_T 71 52 = some (.iconst 0, 1, 0) := by decide +kernel
theorem cd_71_53 : zt_code zq_T 71 53 = some (.istore 4, 2, 0) := by decide +kernel
theorem cd_71_55 : zt_code zq_T 71 55 = some (.iload 4, 2, 0) := by decide +kernel
theorem cd_71_57 : zt_code zq_T 71 57 = some (.aload_n 0, 1, 0) := by decide +kernel
theorem cd_71_58 : zt_code zq_T 71 58 = some (.getfield 300, 3, 0) := by decide +kernel
theorem cd_71_61 : zt_code zq_T 71 61 = some (.if_icmp .ge (49), 3, 0) := by decide +kernel
theorem cd_71_64 : zt_code zq_T 71 64 = some (.aload_n 0, 1, 0) := by decide +kernel
theorem cd_71_65 : zt_code zq_T 71 65 = some (.getfield 62, 3, 0) := by decide +kernel
theorem cd_71_68 : zt_code zq_T 71 68 = some (.iload 4, 2, 0) := by decide +kernel
theorem cd_71_70 : zt_code zq_T 71 70 = some (.baload, 1, 0) := by decide +kernel
theorem cd_71_71 : zt_code zq_T 71 71 = some (.aload_n 0, 1, 0) := by decide +kernel
theorem cd_71_72 : zt_code zq_T 71 72 = some (.getfield 78, 3, 0) := by decide +kernel
theorem cd_71_75 : zt_code zq_T 71 75 = some (.iload 4, 2, 0) := by decide +kernel
theorem cd_71_77 : zt_code zq_T 71 77 = some (.baload, 1, 0) := by decide +kernel
theorem cd_71_78 : zt_code zq_T 71 78 = some (.if_icmp .eq (26), 3, 0) := by decide +kernel
theorem cd_71_81 : zt_code zq_T 71 81 = some (.aload_n 0, 1, 0) := by decide +kernel
theorem cd_71_82 : zt_code zq_T 71 82 = some (.getfield 62, 3, 0) := by decide +kernel
theorem cd_71_85 : zt_code zq_T 71 85 = some (.iload 4, 2, 0) := by decide +kernel
theorem cd_71_87 : zt_code zq_T 71 87 = some (.baload, 1, 0) := by decide +kernel
theorem cd_71_88 : zt_code zq_T 71 88 = some (.aload_n 0, 1, 0) := by decide +kernel
theorem cd_71_89 : zt_code zq_T 71 89 = some (.getfield 78, 3, 0) := by decide +kernel
theorem cd_71_92 : zt_code zq_T 71 92 = some (.iload 4, 2, 0) := by decide +kernel
theorem cd_71_94 : zt_code zq_T 71 94 = some (.baload, 1, 0) := by decide +kernel
theorem cd_71_95 : zt_code zq_T 71 95 = some (.if_icmp .ge (7), 3, 0) := by decide +kernel
theorem cd_71_98 : zt_code zq_T 71 98 = some (.iconst 1, 1, 0) := by decide +kernel
theorem cd_71_99 : zt_code zq_T 71 99 = some (.goto (4), 3, 0) := by decide +kernel
theorem cd_71_102 : zt_code zq_T 71 102 = some (.iconst 0, 1, 0) := by decide +kernel
theorem cd_71_103 : zt_code zq_T 71 103 = some (.ireturn, 1, 0) := by decide +kernel
theorem cd_71_104 : zt_code zq_T 71 104 = some (.iinc 4 (1), 3, 0) := by decide +kernel
theorem cd_71_107 : zt_code zq_T 71 107 = some (.goto (-52), 3, 0) := by decide +kernel
theorem cd_71_110 : zt_code zq_T 71 110 = some (.iload_n 1, 1, 0) := by decide +kernel
theorem cd_71_111 : zt_code zq_T 71 111 = some (.aload_n 0, 1, 0) := by decide +kernel
theorem cd_71_112 : zt_code zq_T 71 112 = some (.getfield 75, 3, 0) := by decide +kernel
theorem cd_71_115 : zt_code zq_T 71 115 = some (.iconst 0, 1, 0) := by decide +kernel
theorem cd_71_116 : zt_code zq_T 71 116 = some (.iaload, 1, 0) := by decide +kernel
theorem cd_71_117 : zt_code zq_T 71 117 = some (.if_icmp .eq (19), 3, 0) := by decide +kernel
theorem cd_71_120 : zt_code zq_T 71 120 = some (.iload_n 1, 1, 0) := by decide +kernel
theorem cd_71_121 : zt_code zq_T 71 121 = some (.aload_n 0, 1, 0) := by decide +kernel
theorem cd_71_122 : zt_code zq_T 71 122 = some (.getfield 75, 3, 0) := by decide +kernel
theorem cd_71_125 : zt_code zq_T 71 125 = some (.iconst 0, 1, 0) := by decide +kernel
theorem cd_71_126 : zt_code zq_T 71 126 = some (.iaload, 1, 0) := by decide +kernel
theorem cd_71_127 : zt_code zq_T 71 127 = some (.if_icmp .ge (7), 3, 0) := by decide +kernel
theorem cd_71_130 : zt_code zq_T 71 130 = some (.iconst 1, 1, 0) := by decide +kernel
theorem cd_71_131 : zt_code zq_T 71 131 = some (.goto (4), 3, 0) := by decide +kernel
theorem cd_71_134 : zt_code zq_T 71 134 = some (.iconst 0, 1, 0) := by decide +kernel
theorem cd_71_135 : zt_code zq_T 71 135 = some (.ireturn, 1, 0) := by decide +kernel
theorem cd_71_136 : zt_code zq_T 71 136 = some (.aload_n 0, 1, 0) := by decide +kernel
theorem cd_71_137 : zt_code zq_T 71 137 = some (.getfield 50, 3, 0) := by decide +kernel
theorem cd_71_140 : zt_code zq_T 71 140 = some (.iload_n 2, 1, 0) := by decide +kernel
theorem cd_71_141 : zt_code zq_T 71 141 = some (.iaload, 1, 0) := by decide +kernel
theorem cd_71_142 : zt_code zq_T 71 142 = some (.aload_n 0, 1, 0) := by decide +kernel
theorem cd_71_143 : zt_code zq_T 71 143 = some (.getfield 75, 3, 0) := by decide +kernel
theorem cd_71_146 : zt_code zq_T 71 146 = some (.iconst 1, 1, 0) := by decide +kernel
theorem cd_71_147 : zt_code zq_T 71 147 = some (.iaload, 1, 0) := by decide +kernel
theorem cd_71_148 : zt_code zq_T 71 148 = some (.if_icmp .eq (24), 3, 0) := by decide +kernel
theorem cd_71_151 : zt_code zq_T 71 151 = some (.aload_n 0, 1, 0) := by decide +kernel
theorem cd_71_152 : zt_code zq_T 71 152 = some (.getfield 50, 3, 0) := by decide +kernel
theorem cd_71_155 : zt_code zq_T 71 155 = some (.iload_n 2, 1, 0) := by decide +kernel
theorem cd_71_156 : zt_code zq_T 71 156 = some (.iaload, 1, 0) := by decide +kernel
theorem cd_71_157 : zt_code zq_T 71 157 = some (.aload_n 0, 1, 0) := by decide +kernel
theorem cd_71_158 : zt_code zq_T 71 158 = some (.getfield 75, 3, 0) := by decide +kernel
theorem cd_71_161 : zt_code zq_T 71 161 = some (.iconst 1, 1, 0) := by decide +kernel
theorem cd_71_162 : zt_code zq_T 71 162 = some (.iaload, 1, 0) := by decide +kernel
theorem cd_71_163 : zt_code zq_T 71 163 = some (.if_icmp .ge (7), 3, 0) := by decide +kernel
theorem cd_71_166 : zt_code zq_T 71 166 = some (.iconst 1, 1, 0) := by decide +kernel
theorem cd_71_167 : zt_code zq_T 71 167 = some (.goto (4), 3, 0) := by decide +kernel
theorem cd_71_170 : zt_code zq_T 71 170 = some (.iconst 0, 1, 0) := by decide +kernel
theorem cd_71_171 : zt_code zq_T 71 171 = some (.ireturn, 1, 0) := by decide +kernel
theorem cd_71_172 : zt_code zq_T 71 172 = some (.aload_n 0, 1, 0) := by decide +kernel
theorem cd_71_173 : zt_code zq_T 71 173 = some (.getfield 53, 3, 0) := by decide +kernel
theorem cd_71_176 : zt_code zq_T 71 176 = some (.iload_n 2, 1, 0) := by decide +kernel
theorem cd_71_177 : zt_code zq_T 71 177 = some (.iaload, 1, 0) := by decide +kernel
theorem cd_71_178 : zt_code zq_T 71 178 = some (.aload_n 0, 1, 0) := by decide +kernel
theorem cd_71_179 : zt_code zq_T 71 179 = some (.getfield 75, 3, 0) := by decide +kernel
theorem cd_71_182 : zt_code zq_T 71 182 = some (.iconst 2, 1, 0) := by decide +kernel
theorem cd_71_183 : zt_code zq_T 71 183 = some (.iaload, 1, 0) := by decide +kernel
theorem cd_71_184 : zt_code zq_T 71 184 = some (.if_icmp .eq (24), 3, 0) := by decide +kernel
theorem cd_71_187 : zt_code zq_T 71 187 = some (.aload_n 0, 1, 0) := by decide +kernel
theorem cd_71_188 : zt_code zq_T 71 188 = some (.getfield 53, 3, 0) := by decide +kernel
theorem cd_71_191 : zt_code zq_T 71 191 = some (.iload_n 2, 1, 0) := by decide +kernel
theorem cd_71_192 : zt_code zq_T 71 192 = some (.iaload, 1, 0) := by decide +kernel
theorem cd_71_193 : zt_code zq_T 71 193 = some (.aload_n 0, 1, 0) := by decide +kernel
theorem cd_71_194 : zt_code zq_T 71 194 = some (.getfield 75, 3, 0) := by decide +kernel
theorem cd_71_197 : zt_code zq_T 71 197 = some (.iconst 2, 1, 0) := by decide +kernel
theorem cd_71_198 : zt_code zq_T 71 198 = some (.iaload, 1, 0) := by decide +kernel
theorem cd_71_199 : zt_code zq_T 71 199 = some (.if_icmp .ge (7), 3, 0) := by decide +kernel
theorem cd_71_202 : zt_code zq_T 71 202 = some (.iconst 1, 1, 0) := by decide +kernel
theorem cd_71_203 : zt_code zq_T 71 203 = some (.goto (4), 3, 0) := by decide +kernel
theorem cd_71_206 : zt_code zq_T 71 206 = some (.iconst 0, 1, 0) := by decide +kernel
theorem cd_71_207 : zt_code zq_T 71 207 = some (.ireturn, 1, 0) := by decide +kernel
theorem cd_71_208 : zt_code zq_T 71 208 = some (.aload_n 0, 1, 0) := by decide +kernel
theorem cd_71_209 : zt_code zq_T 71 209 = some (.getfield 50, 3, 0) := by decide +kernel
theorem cd_71_212 : zt_code zq_T 71 212 = some (.iload_n 3, 1, 0) := by decide +kernel
theorem cd_71_213 : zt_code zq_T 71 213 = some (.iaload, 1, 0) := by decide +kernel
theorem cd_71_214 : zt_code zq_T 71 214 = some (.aload_n 0, 1, 0) := by decide +kernel
theorem cd_71_215 : zt_code zq_T 71 215 = some (.getfield 75, 3, 0) := by decide +kernel
theorem cd_71_218 : zt_code zq_T 71 218 = some (.iconst 3, 1, 0) := by decide +kernel
theorem cd_71_219 : zt_code zq_T 71 219 = some (.iaload, 1, 0) := by decide +kernel
theorem cd_71_220 : zt_code zq_T 71 220 = some (.if_icmp .eq (26), 3, 0) := by decide +kernel
theorem cd_71_223 : zt_code zq_T 71 223 = some (.aload_n 0, 1, 0) := by decide +kernel
theorem cd_71_224 : zt_code zq_T 71 224 = some (.getfield 50, 3, 0) := by decide +kernel
theorem cd_71_227 : zt_code zq_T 71 227 = some (.iload_n 3, 1, 0) := by decide +kernel
theorem cd_71_228 : zt_code zq_T 71 228 = some (.iaload, 1, 0) := by decide +kernel
theorem cd_71_229 : zt_code zq_T 71 229 = some (.aload_n 0, 1, 0) := by decide +kernel
theorem cd_71_230 : zt_code zq_T 71 230 = some (.getfield 75, 3, 0) := by decide +kernel
theorem cd_71_233 : zt_code zq_T 71 233 = some (.iconst 3, 1, 0) := by decide +kernel
theorem cd_71_234 : zt_code zq_T 71 234 = some (.iaload, 1, 0) := by decide +kernel
theorem cd_71_235 : zt_code zq_T 71 235 = some (.if_icmp .ge (7), 3, 0) := by decide +kernel
theorem cd_71_238 : zt_code zq_T 71 238 = some (.iconst 1, 1, 0) := by decide +kernel
theorem cd_71_239 : zt_code zq_T 71 239 = some (.goto (27), 3, 0) := by decide +kernel
theorem cd_71_242 : zt_code zq_T 71 242 = some (.iconst 0, 1, 0) := by decide +kernel
theorem cd_71_243 : zt_code zq_T 71 243 = some (.goto (23), 3, 0) := by decide +kernel
theorem cd_71_246 : zt_code zq_T 71 246 = some (.aload_n 0, 1, 0) := by decide +kernel
theorem cd_71_247 : zt_code zq_T 71 247 = some (.getfield 53, 3, 0) := by decide +kernel
theorem cd_71_250 : zt_code zq_T 71 250 = some (.iload_n 3, 1, 0) := by decide +kernel
theorem cd_71_251 : zt_code zq_T 71 251 = some (.iaload, 1, 0) := by decide +kernel
theorem cd_71_252 : zt_code zq_T 71 252 = some (.aload_n 0, 1, 0) := by decide +kernel
theorem cd_71_253 : zt_code zq_T 71 253 = some (.getfield 75, 3, 0) := by decide +kernel
theorem cd_71_256 : zt_code zq_T 71 256 = some (.iconst 4, 1, 0) := by decide +kernel
theorem cd_71_257 : zt_code zq_T 71 257 = some (.iaload, 1, 0) := by decide +kernel
theorem cd_71_258 : zt_code zq_T 71 258 = some (.if_icmp .ge (7), 3, 0) := by decide +kernel
theorem cd_71_261 : zt_code zq_T 71 261 = some (.iconst 1, 1, 0) := by decide +kernel
theorem cd_71_262 : zt_code zq_T 71 262 = some (.goto (4), 3, 0) := by decide +kernel
theorem cd_71_265 : zt_code zq_T 71 265 = some (.iconst 0, 1, 0) := by decide +kernel
theorem cd_71_266 : zt_code zq_T 71 266 = some (.ireturn, 1, 0) := by decide +kernel
theorem cd_72_0 : zt_code zq_T 72 0 = some (.aload_n 0, 1, 0) := by decide +kernel
theorem cd_72_1 : zt_code zq_T 72 1 = some (.getfield 50, 3, 0) := by decide +kernel
theorem cd_72_4 : zt_code zq_T 72 4 = some (.iload_n 3, 1, 0) := by decide +kernel
theorem cd_72_5 : zt_code zq_T 72 5 = some (.iaload, 1, 0) := by decide +kernel
theorem cd_72_6 : zt_code zq_T 72 6 = some (.aload_n 0, 1, 0) := by decide +kernel
theorem cd_72_7 : zt_code zq_T 72 7 = some (.getfield 50, 3, 0) := by decide +kernel
theorem cd_72_10 : zt_code zq_T 72 10 = some (.iload 4, 2, 0) := by decide +kernel
theorem cd_72_12 : zt_code zq_T 72 12 = some (.iaload, 1, 0) := by decide +kernel
theorem cd_72_13 : zt_code zq_T 72 13 = some (.if_icmp .gt (35), 3, 0) := by decide +kernel
theorem cd_72_16 : zt_code zq_T 72 16 = some (.aload_n 0, 1, 0) := by decide +kernel
theorem cd_72_17 : zt_code zq_T 72 17 = some (.getfield 50, 3, 0) := by decide +kernel
theorem cd_72_20 : zt_code zq_T 72 20 = some (.iload_n 3, 1, 0) := by decide +kernel
theorem cd_72_21 : zt_code zq_T 72 21 = some (.iaload, 1, 0) := by decide +kernel
theorem cd_72_22 : zt_code zq_T 72 22 = some (.aload_n 0, 1, 0) := by decide +kernel
theorem cd_72_23 : zt_code zq_T 72 23 = some (.getfield 50, 3, 0) := by decide +kernel
theorem cd_72_26 : zt_code zq_T 72 26 = some (.iload 4, 2, 0) := by decide +kernel
theorem cd_72_28 : zt_code zq_T 72 28 = some (.iaload, 1, 0) := by decide +kernel
theorem cd_72_29 : zt_code zq_T 72 29 = some (.if_icmp .ne (23), 3, 0) := by decide +kernel
theorem cd_72_32 : zt_code zq_T 72 32 = some (.aload_n 0, 1, 0) := by decide +kernel
theorem cd_72_33 : zt_code zq_T 72 33 = some (.getfield 53, 3, 0) := by decide +kernel
theorem cd_72_36 : zt_code zq_T 72 36 = some (.iload_n 3, 1, 0) := by decide +kernel
theorem cd_72_37 : zt_code zq_T 72 37 = some (.iaload, 1, 0) := by decide +kernel
theorem cd_72_38 : zt_code zq_T 72 38 = some (.aload_n 0, 1, 0) := by decide +kernel
theorem cd_72_39 : zt_code zq_T 72 39 = some (.getfield 53, 3, 0) := by decide +kernel
theorem cd_72_42 : zt_code zq_T 72 42 = some (.iload 4, 2, 0) := by decide +kernel
theorem cd_72_44 : zt_code zq_T 72 44 = some (.iaload, 1, 0) := by decide +kernel
theorem cd_72_45 : zt_code zq_T 72 45 = some (.if_icmp .le (7), 3, 0) := by decide +kernel
theorem cd_72_48 : zt_code zq_T 72 48 = some (.iconst 1, 1, 0) := by decide +kernel
theorem cd_72_49 : zt_code zq_T 72 49 = some (.goto (4), 3, 0) := by decide +kernel
theorem cd_72_52 : zt_code zq_T 72 52 = some (.iconst 0, 1, 0) := by decide +kernel
theorem cd_72_53 : zt_code zq_T 72 53 = some (.istore 5, 2, 0) := by decide +kernel
theorem cd_72_55 : zt_code zq_T 72 55 = some (.iload 5, 2, 0) := by decide +kernel
theorem cd_72_57 : zt_code zq_T 72 57 = some (.ifCond .eq (8), 3, 0) := by decide +kernel
theorem cd_72_60 : zt_code zq_T 72 60 = some (.iload 4, 2, 0) := by decide +kernel
theorem cd_72_62 : zt_code zq_T 72 62 = some (.goto (4), 3, 0) := by decide +kernel
theorem cd_72_65 : zt_code zq_T 72 65 = some (.iload_n 3, 1, 0) := by decide +kernel
theorem cd_72_66 : zt_code zq_T 72 66 = some (.istore 6, 2, 0) := by decide +kernel
theorem cd_72_68 : zt_code zq_T 72 68 = some (.iload 5, 2, 0) := by decide +kernel
theorem cd_72_70 : zt_code zq_T 72 70 = some (.ifCond .eq (7), 3, 0) := by decide +kernel
theorem cd_72_73 : zt_code zq_T 72 73 = some (.iload_n 3, 1, 0) := by decide +kernel
theorem cd_72_74 : zt_code zq_T 72 74 = some (.goto (5), 3, 0) := by decide +kernel
theorem cd_72_77 : zt_code zq_T 72 77 = some (.iload 4, 2, 0) := by decide +kernel
theorem cd_72_79 : zt_code zq_T 72 79 = some (.istore 7, 2, 0) := by decide +kernel
theorem cd_72_81 : zt_code zq_T 72 81 = some (.aload_n 0, 1, 0) := by decide +kernel
theorem cd_72_82 : zt_code zq_T 72 82 = some (.iconst 0, 1, 0) := by decide +kernel
theorem cd_72_83 : zt_code zq_T 72 83 = some (.putfield 300, 3, 0) := by decide +kernel
theorem cd_72_86 : zt_code zq_T 72 86 = some (.iload_n 2, 1, 0) := by decide +kernel
theorem cd_72_87 : zt_code zq_T 72 87 = some (.iconst (-1), 1, 0) := by decide +kernel
theorem cd_72_88 : zt_code zq_T 72 88 = some (.if_icmp .eq (18), 3, 0) := by decide +kernel
theorem cd_72_91 : zt_code zq_T 72 91 = some (.aload_n 0, 1, 0) := by decide +kernel
theorem cd_72_92 : zt_code zq_T 72 92 = some (.iload_n 1, 1, 0) := by decide +kernel
theorem cd_72_93 : zt_code zq_T 72 93 = some (.aload_n 0, 1, 0) := by decide +kernel
theorem cd_72_94 : zt_code zq_T 72 94 = some (.iload_n 1, 1, 0) := by decide +kernel
theorem cd_72_95 : zt_code zq_T 72 95 = some (.iload_n 2, 1, 0) := by decide +kernel
theorem cd_72_96 : zt_code zq_T 72 96 = some (.invokevirtual 249, 3, 0) := by decide +kernel
theorem cd_72_99 : zt_code zq_T 72 99 = some (.iconst (-1), 1, 0) := by decide +kernel
theorem cd_72_100 : zt_code zq_T 72 100 = some (.iload_n 3, 1, 0) := by decide +kernel
theorem cd_72_101 : zt_code zq_T 72 101 = some (.iload 4, 2, 0) := by decide +kernel
theorem cd_72_103 : zt_code zq_T 72 103 = some (.invokevirtual 334, 3, 0) := by decide +kernel
theorem cd_72_106 : zt_code zq_T 72 106 = some (.aload_n 0, 1, 0) := by decide +kernel
theorem cd_72_107 : zt_code zq_T 72 107 = some (.iload_n 2, 1, 0) := by decide +kernel
theorem cd_72_108 : zt_code zq_T 72 108 = some (.iload 6, 2, 0) := by decide +kernel
theorem cd_72_110 : zt_code zq_T 72 110 = some (.iload 7, 2, 0) := by decide +kernel
theorem cd_72_112 : zt_code zq_T 72 112 = some (.invokevirtual 351, 3, 0) := by decide +kernel
theorem cd_72_115 : zt_code zq_T 72 115 = some (.ifCond .ne (4), 3, 0) := by decide +kernel
theorem cd_72_118 : zt_code zq_T 72 118 = some (.return_, 1, 0) := by decide +kernel
theorem cd_72_119 : zt_code zq_T 72 119 = some (.aload_n 0, 1, 0) := by decide +kernel
theorem cd_72_120 : zt_code zq_T 72 120 = some (.getfield 75, 3, 0) := by decide +kernel
theorem cd_72_123 : zt_code zq_T 72 123 = some (.iconst 0, 1, 0) := by decide +kernel
theorem cd_72_124 : zt_code zq_T 72 124 = some (.iload_n 2, 1, 0) := by decide +kernel
theorem cd_72_125 : zt_code zq_T 72 125 = some (.iastore, 1, 0) := by decide +kernel
theorem cd_72_126 : zt_code zq_T 72 126 = some (.aload_n 0, 1, 0) := by decide +kernel
theorem cd_72_127 : zt_code zq_T 72 127 = some (.getfield 75, 3, 0) := by decide +kernel
theorem cd_72_130 : zt_code zq_T 72 130 = some (.iconst 1, 1, 0) := by decide +kernel
theorem cd_72_131 : zt_code zq_T 72 131 = some (.aload_n 0, 1, 0) := by decide +kernel
theorem cd_72_132 : zt_code zq_T 72 132 = some (.getfield 50, 3, 0) := by decide +kernel
theorem cd_72_135 : zt_code zq_T 72 135 = some (.iload 6, 2, 0) := by decide +kernel
theorem cd_72_137 : zt_code zq_T 72 137 = some (.iaload, 1, 0) := by decide +kernel
theorem cd_72_138 : zt_code zq_T 72 138 = some (.iastore, 1, 0) := by decide +kernel
theorem cd_72_139 : zt_code zq_T 72 139 = some (.aload_n 0, 1, 0) := by decide +kernel
theorem cd_72_140 : zt_code zq_T 72 140 = some (.getfield 75, 3, 0) := by decide +kernel
theorem cd_72_143 : zt_code zq_T 72 143 = some (.iconst 2, 1, 0) := by decide +kernel
theorem cd_72_144 : zt_code zq_T 72 144 = some (.aload_n 0, 1, 0) := by decide +kernel
theorem cd_72_145 : zt_code zq_T 72 145 = some (.getfield 53, 3, 0) := by decide +kernel
theorem cd_72_148 : zt_code zq_T 72 148 = some (.iload 6, 2, 0) := by decide +kernel
theorem cd_72_150 : zt_code zq_T 72 150 = some (.iaload, 1, 0) := by decide +kernel
theorem cd_72_151 : zt_code zq_T 72 151 = some (.iastore, 1, 0) := by decide +kernel
theorem cd_72_152 : zt_code zq_T 72 152 = some (.aload_n 0, 1, 0) := by decide +kernel
theorem cd_72_153 : zt_code zq_T 72 153 = some (.getfield 75, 3, 0) := by decide +kernel
theorem cd_72_156 : zt_code zq_T 72 156 = some (.iconst 3, 1, 0) := by decide +kernel
theorem cd_72_157 : zt_code zq_T 72 157 = some (.aload_n 0, 1, 0) := by decide +kernel
theorem cd_72_158 : zt_code zq_T 72 158 = some (.getfield 50, 3, 0) := by decide +kernel
theorem cd_72_161 : zt_code zq_T 72 161 = some (.iload 7, 2, 0) := by decide +kernel
theorem cd_72_163 : zt_code zq_T 72 163 = some (.iaload, 1, 0) := by decide +kernel
theorem cd_72_164 : zt_code zq_T 72 164 = some (.iastore, 1, 0) := by decide +kernel
theorem cd_72_165 : zt_code zq_T 72 165 = some (.aload_n 0, 1, 0) := by decide +kernel
theorem cd_72_166 : zt_code zq_T 72 166 = some (.getfield 75, 3, 0) := by decide +kernel
theorem cd_72_169 : zt_code zq_T 72 169 = some (.iconst 4, 1, 0) := by decide +kernel
theorem cd_72_170 : zt_code zq_T 72 170 = some (.aload_n 0, 1, 0) := by decide +kernel
theorem cd_72_171 : zt_code zq_T 72 171 = some (.getfield 53, 3, 0) := by decide +kernel
theorem cd_72_174 : zt_code zq_T 72 174 = some (.iload 7, 2, 0) := by decide +kernel
theorem cd_72_176 : zt_code zq_T 72 176 = some (.iaload, 1, 0) := by decide +kernel
theorem cd_72_177 : zt_code zq_T 72 177 = some (.iastore, 1, 0) := by decide +kernel
theorem cd_72_178 : zt_code zq_T 72 178 = some (.aload_n 0, 1, 0) := by decide +kernel
theorem cd_72_179 : zt_code zq_T 72 179 = some (.getfield 75, 3, 0) := by decide +kernel
theorem cd_72_182 : zt_code zq_T 72 182 = some (.iconst 5, 1, 0) := by decide +kernel
theorem cd_72_183 : zt_code zq_T 72 183 = some (.aload_n 0, 1, 0) := by decide +kernel
theorem cd_72_184 : zt_code zq_T 72 184 = some (.getfield 300, 3, 0) := by decide +kernel
theorem cd_72_187 : zt_code zq_T 72 187 = some (.iastore, 1, 0) := by decide +kernel
theorem cd_72_188 : zt_code zq_T 72 188 = some (.iconst 0, 1, 0) := by decide +kernel
theorem cd_72_189 : zt_code zq_T 72 189 = some (.istore 8, 2, 0) := by decide +kernel
theorem cd_72_191 : zt_code zq_T 72 191 = some (.iload 8, 2, 0) := by decide +kernel
theorem cd_72_193 : zt_code zq_T 72 193 = some (.aload_n 0, 1, 0) := by decide +kernel
theorem cd_72_194 : zt_code zq_T 72 194 = some (.getfield 300, 3, 0) := by decide +kernel
theorem cd_72_197 : zt_code zq_T 72 197 = some (.if_icmp .ge (23), 3, 0) := by decide +kernel
theorem cd_72_200 : zt_code zq_T 72 200 = some (.aload_n 0, 1, 0) := by decide +kernel
theorem cd_72_201 : zt_code zq_T 72 201 = some (.getfield 78, 3, 0) := by decide +kernel
theorem cd_72_204 : zt_code zq_T 72 204 = some (.iload 8, 2, 0) := by decide +kernel
theorem cd_72_206 : zt_code zq_T 72 206 = some (.aload_n 0, 1, 0) := by decide +kernel
theorem cd_72_207 : zt_code zq_T 72 207 = some (.getfield 62, 3, 0) := by decide +kernel
theorem cd_72_210 : zt_code zq_T 72 210 = some (.iload 8, 2, 0) := by decide +kernel
theorem cd_72_212 : zt_code zq_T 72 212 = some (.baload, 1, 0) := by decide +kernel
theorem cd_72_213 : zt_code zq_T 72 213 = some (.bastore, 1, 0) := by decide +kernel
theorem cd_72_214 : zt_code zq_T 72 214 = some (.iinc 8 (1), 3, 0) := by decide +kernel
theorem cd_72_217 : zt_code zq_T 72 217 = some (.goto (-26), 3, 0) := by decide +kernel
theorem cd_72_220 : zt_code zq_T 72 220 = some (.return_, 1, 0) := by decide +kernel
theorem cd_73_0 : zt_code zq_T 73 0 = some (.aload_n 0, 1, 0) := by decide +kernel
theorem cd_73_1 : zt_code zq_T 73 1 = some (.getfield 75, 3, 0) := by decide +kernel
theorem cd_73_4 : zt_code zq_T 73 4 = some (.iconst 5, 1, 0) := by decide +kernel
theorem cd_73_5 : zt_code zq_T 73 5 = some (.iconst (-1), 1, 0) := by decide +kernel
theorem cd_73_6 : zt_code zq_T 73 6 = some (.iastore, 1, 0) := by decide +kernel
theorem cd_73_7 : zt_code zq_T 73 7 = some (.iconst (-1), 1, 0) := by decide +kernel
theorem cd_73_8 : zt_code zq_T 73 8 = some (.istore_n 3, 1, 0) := by decide +kernel
theorem cd_73_9 : zt_code zq_T 73 9 = some (.iload_n 3, 1, 0) := by decide +kernel
theorem cd_73_10 : zt_code zq_T 73 10 = some (.aload_n 0, 1, 0) := by decide +kernel
theorem cd_73_11 : zt_code zq_T 73 11 = some (.iload_n 1, 1, 0) := by decide +kernel
theorem cd_73_12 : zt_code zq_T 73 12 = some (.iconst 2, 1, 0) := by decide +kernel
theorem cd_73_13 : zt_code zq_T 73 13 = some (.invokevirtual 258, 3, 0) := by decide +kernel
theorem cd_73_16 : zt_code zq_T 73 16 = some (.if_icmp .ge (87), 3, 0) := by decide +kernel
theorem cd_73_19 : zt_code zq_T 73 19 = some (.aload_n 0, 1, 0) := by decide +kernel
theorem cd_73_20 : zt_code zq_T 73 20 = some (.iload_n 1, 1, 0) := by decide +kernel
theorem cd_73_21 : zt_code zq_T 73 21 = some (.iload_n 3, 1, 0) := by decide +kernel
theorem cd_73_22 : zt_code zq_T 73 22 = some (.invokevirtual 338, 3, 0) := by decide +kernel
theorem cd_73_25 : zt_code zq_T 73 25 = some (.iconst 0, 1, 0) := by decide +kernel
theorem cd_73_26 : zt_code zq_T 73 26 = some (.istore 4, 2, 0) := by decide +kernel
theorem cd_73_28 : zt_code zq_T 73 28 = some (.iload 4, 2, 0) := by decide +kernel
theorem cd_73_30 : zt_code zq_T 73 30 = some (.aload_n 0, 1, 0) := by decide +kernel
theorem cd_73_31 : zt_code zq_T 73 31 = some (.getfield 265, 3, 0) := by decide +kernel
theorem cd_73_34 : zt_code zq_T 73 34 = some (.if_icmp .ge (63), 3, 0) := by decide +kernel
theorem cd_73_37 : zt_code zq_T 73 37 = some (.iconst 0, 1, 0) := by decide +kernel
theorem cd_73_38 : zt_code zq_T 73 38 = some (.istore 5, 2, 0) := by decide +kernel
theorem cd_73_40 : zt_code zq_T 73 40 = some (.iload 5, 2, 0) := by decide +kernel
theorem cd_73_42 : zt_code zq_T 73 42 = some (.iload 4, 2, 0) := by decide +kernel
theorem cd_73_44 : zt_code zq_T 73 44 = some (.if_icmp .ge (47), 3, 0) := by decide +kernel
theorem cd_73_47 : zt_code zq_T 73 47 = some (.iload_n 2, 1, 0) := by decide +kernel
theorem cd_73_48 : zt_code zq_T 73 48 = some (.ifCond .eq (14), 3, 0) := by decide +kernel
theorem cd_73_51 : zt_code zq_T 73 51 = some (.aload_n 0, 1, 0) := by decide +kernel
theorem cd_73_52 : zt_code zq_T 73 52 = some (.iload 4, 2, 0) := by decide +kernel
theorem cd_73_54 : zt_code zq_T 73 54 = some (.iload 5, 2, 0) := by decide +kernel
theorem cd_73_56 : zt_code zq_T 73 56 = some (.invokevirtual 341, 3, 0) := by decide +kernel
theorem cd_73_59 : zt_code zq_T 73 59 = some (.ifCond .eq (26), 3, 0) := by decide +kernel
theorem cd_73_62 : zt_code zq_T 73 62 = some (.aload_n 0, 1, 0) := by decide +kernel
theorem cd_73_63 : zt_code zq_T 73 63 = some (.iload_n 1, 1, 0) := by decide +kernel
theorem cd_73_64 : zt_code zq_T 73 64 = some (.iload_n 3, 1, 0) := by decide +kernel
theorem cd_73_65 : zt_code zq_T 73 65 = some (.iload 4, 2, 0) := by decide +kernel
theorem cd_73_67 : zt_code zq_T 73 67 = some (.iload 5, 2, 0) := by decide +kernel
theorem cd_73_69 : zt_code zq_T 73 69 = some (.invokevirtual 344, 3, 0) := by decide +kernel
theorem cd_73_72 : zt_code zq_T 73 72 = some (.ifCond .eq (13), 3, 0) := by decide +kernel
theorem cd_73_75 : zt_code zq_T 73 75 = some (.aload_n 0, 1, 0) := by decide +kernel
theorem cd_73_76 : zt_code zq_T 73 76 = some (.iload_n 1, 1, 0) := by decide +kernel
theorem cd_73_77 : zt_code zq_T 73 77 = some (.iload_n 3, 1, 0) := by decide +kernel
theorem cd_73_78 : zt_code zq_T 73 78 = some (.iload 4, 2, 0) := by decide +kernel
theorem cd_73_80 : zt_code zq_T 73 80 = some (.iload 5, 2, 0) := by decide +kernel
theorem cd_73_82 : zt_code zq_T 73 82 = some (.invokevirtual 354, 3, 0) := by decide +kernel
theorem cd_73_85 : zt_code zq_T 73 85 = some (.iinc 5 (1), 3, 0) := by decide +kernel
theorem cd_73_88 : zt_code zq_T 73 88 = some (.goto (-48), 3, 0) := by decide +kernel
theorem cd_73_91 : zt_code zq_T 73 91 = some (.iinc 4 (1), 3, 0) := by decide +kernel
theorem cd_73_94 : zt_code zq_T 73 94 = some (.goto (-66), 3, 0) := by decide +kernel
theorem cd_73_97 : zt_code zq_T 73 97 = some (.iinc 3 (1), 3, 0) := by decide +kernel
theorem cd_73_100 : zt_code zq_T 73 100 = some (.goto (-91), 3, 0) := by decide +kernel
theorem cd_73_103 : zt_code zq_T 73 103 = some (.aload_n 0, 1, 0) := by decide +kernel
theorem cd_73_104 : zt_code zq_T 73 104 = some (.getfield 75, 3, 0) := by decide +kernel
theorem cd_73_107 : zt_code zq_T 73 107 = some (.iconst 5, 1, 0) := by decide +kernel
theorem cd_73_108 : zt_code zq_T 73 108 = some (.iaload, 1, 0) := by decide +kernel
theorem cd_73_109 : zt_code zq_T 73 109 = some (.iconst (-1), 1, 0) := by decide +kernel
theorem cd_73_110 : zt_code zq_T 73 110 = some (.if_icmp .eq (7), 3, 0) := by decide +kernel
theorem cd_73_113 : zt_code zq_T 73 113 = some (.iconst 1, 1, 0) := by decide +kernel
theorem cd_73_114 : zt_code zq_T 73 114 = some (.goto (4), 3, 0) := by decide +kernel
theorem cd_73_117 : zt_code zq_T 73 117 = some (.iconst 0, 1, 0) := by decide +kernel
theorem cd_73_118 : zt_code zq_T 73 118 = some (.ireturn, 1, 0) := by decide +kernel
theorem cd_74_0 : zt_code zq_T 74 0 = some (.aload_n 0, 1, 0) := by decide +kernel
theorem cd_74_1 : zt_code zq_T 74 1 = some (.iconst 0, 1, 0) := by decide +kernel
theorem cd_74_2 : zt_code zq_T 74 2 = some (.putfield 114, 3, 0) := by decide +kernel
theorem cd_74_5 : zt_code zq_T 74 5 = some (.aload_n 0, 1, 0) := by decide +kernel
theorem cd_74_6 : zt_code zq_T 74 6 = some (.iload_n 1, 1, 0) := by decide +kernel
theorem cd_74_7 : zt_code zq_T 74 7 = some (.invokevirtual 357, 3, 0) := by decide +kernel
theorem cd_74_10 : zt_code zq_T 74 10 = some (.ifCond .eq (33), 3, 0) := by decide +kernel
theorem cd_74_13 : zt_code zq_T 74 13 = some (.iload_n 3, 1, 0) := by decide +kernel
theorem cd_74_14 : zt_code zq_T 74 14 = some (.i2l, 1, 0) := by decide +kernel
theorem cd_74_15 : zt_code zq_T 74 15 = some (.lconst 0, 1, 0) := by decide +kernel
theorem cd_74_16 : zt_code zq_T 74 16 = some (.ldc2_w 360, 3, 0) := by decide +kernel
theorem cd_74_19 : zt_code zq_T 74 19 = some (.invokestatic 204, 3, 0) := by decide +kernel
theorem cd_74_22 : zt_code zq_T 74 22 = some (.ifCond .eq (21), 3, 0) := by decide +kernel
theorem cd_74_25 : zt_code zq_T 74 25 = some (.aload_n 0, 1, 0) := by decide +kernel
theorem cd_74_26 : zt_code zq_T 74 26 = some (.iload_n 1, 1, 0) := by decide +kernel
theorem cd_74_27 : zt_code zq_T 74 27 = some (.iload_n 2, 1, 0) := by decide +kernel
theorem cd_74_28 : zt_code zq_T 74 28 = some (.invokevirtual 362, 3, 0) := by decide +kernel
theorem cd_74_31 : zt_code zq_T 74 31 = some (.ifCond .eq (12), 3, 0) := by decide +kernel
theorem cd_74_34 : zt_code zq_T 74 34 = some (.aload_n 0, 1, 0) := by decide +kernel
theorem cd_74_35 : zt_code zq_T 74 35 = some (.getfield 75, 3, 0) := by decide +kernel
theorem cd_74_38 : zt_code zq_T 74 38 = some (.iload_n 3, 1, 0) := by decide +kernel
theorem cd_74_39 : zt_code zq_T 74 39 = some (.iaload, 1, 0) := by decide +kernel
theorem cd_74_40 : zt_code zq_T 74 40 = some (.goto (6), 3, 0) := by decide +kernel
theorem cd_74_43 : zt_code zq_T 74 43 = some (.ldc_w 366, 3, 0) := by decide +kernel
theorem cd_74_46 : zt_code zq_T 74 46 = some (.ireturn, 1, 0) := by decide +kernel
theorem cd_75_0 : zt_code zq_T 75 0 = some (.aload_n 0, 1, 0) := by decide +kernel
theorem cd_75_1 : zt_code zq_T 75 1 = some (.iconst 0, 1, 0) := by decide +kernel
theorem cd_75_2 : zt_code zq_T 75 2 = some (.putfield 114, 3, 0) := by decide +kernel
theorem cd_75_5 : zt_code zq_T 75 5 = some (.aload_n 0, 1, 0) := by decide +kernel
theorem cd_75_6 : zt_code zq_T 75 6 = some (.iload_n 1, 1, 0) := by decide +kernel
theorem cd_75_7 : zt_code zq_T 75 7 = some (.invokevirtual 357, 3, 0) := by decide +kernel
theorem cd_75_10 : zt_code zq_T 75 10 = some (.ifCond .eq (26), 3, 0) := by decide +kernel
theorem cd_75_13 : zt_code zq_T 75 13 = some (.iload_n 3, 1, 0) := by decide +kernel
theorem cd_75_14 : zt_code zq_T 75 14 = some (.ifCond .lt (22), 3, 0) := by decide +kernel
theorem cd_75_17 : zt_code zq_T 75 17 = some (.aload_n 0, 1, 0) := by decide +kernel
theorem cd_75_18 : zt_code zq_T 75 18 = some (.iload_n 1, 1, 0) := by decide +kernel
theorem cd_75_19 : zt_code zq_T 75 19 = some (.iload_n 2, 1, 0) := by decide +kernel
theorem cd_75_20 : zt_code zq_T 75 20 = some (.invokevirtual 362, 3, 0) := by decide +kernel
theorem cd_75_23 : zt_code zq_T 75 23 = some (.ifCond .eq (13), 3, 0) := by decide +kernel
theorem cd_75_26 : zt_code zq_T 75 26 = some (.iload_n 3, 1, 0) := by decide +kernel
theorem cd_75_27 : zt_code zq_T 75 27 = some (.aload_n 0, 1, 0) := by decide +kernel
theorem cd_75_28 : zt_code zq_T 75 28 = some (.getfield 75, 3, 0) := by decide +kernel
theorem cd_75_31 : zt_code zq_T 75 31 = some (.iconst 5, 1, 0) := by decide +kernel
theorem cd_75_32 : zt_code zq_T 75 32 = some (.iaload, 1, 0) := by decide +kernel
theorem cd_75_33 : zt_code zq_T 75 33 = some (.if_icmp .le (5), 3, 0) := by decide +kernel
theorem cd_75_36 : zt_code zq_T 75 36 = some (.iconst (-1), 1, 0) := by decide +kernel
theorem cd_75_37 : zt_code zq_T 75 37 = some (.ireturn, 1, 0) := by decide +kernel
theorem cd_75_38 : zt_code zq_T 75 38 = some (.iload_n 3, 1, 0) := by decide +kernel
theorem cd_75_39 : zt_code zq_T 75 39 = some (.aload_n 0, 1, 0) := by decide +kernel
theorem cd_75_40 : zt_code zq_T 75 40 = some (.getfield 75, 3, 0) := by decide +kernel
theorem cd_75_43 : zt_code zq_T 75 43 = some (.iconst 5, 1, 0) := by decide +kernel
theorem cd_75_44 : zt_code zq_T 75 44 = some (.iaload, 1, 0) := by decide +kernel
theorem cd_75_45 : zt_code zq_T 75 45 = some (.if_icmp .ne (17), 3, 0) := by decide +kernel
theorem cd_75_48 : zt_code zq_T 75 48 = some (.aload_n 0, 1, 0) := by decide +kernel
theorem cd_75_49 : zt_code zq_T 75 49 = some (.iload_n 1, 1, 0) := by decide +kernel
theorem cd_75_50 : zt_code zq_T 75 50 = some (.aload_n 0, 1, 0) := by decide +kernel
theorem cd_75_51 : zt_code zq_T 75 51 = some (.getfield 75, 3, 0) := by decide +kernel
theorem cd_75_54 : zt_code zq_T 75 54 = some (.iconst 1, 1, 0) := by decide +kernel
theorem cd_75_55 : zt_code zq_T 75 55 = some (.iaload, 1, 0) := by decide +kernel
theorem cd_75_56 : zt_code zq_T 75 56 = some (.invokevirtual 289, 3, 0) := by decide +kernel
theorem cd_75_59 : zt_code zq_T 75 59 = some (.goto (9), 3, 0) := by decide +kernel
theorem cd_75_62 : zt_code zq_T 75 62 = some (.aload_n 0, 1, 0) := by decide +kernel
theorem cd_75_63 : zt_code zq_T 75 63 = some (.getfield 78, 3, 0) := by decide +kernel
theorem cd_75_66 : zt_code zq_T 75 66 = some (.iload_n 3, 1, 0) := by decide +kernel
theorem cd_75_67 : zt_code zq_T 75 67 = some (.baload, 1, 0) := by decide +kernel
theorem cd_75_68 : zt_code zq_T 75 68 = some (.ireturn, 1, 0) := by decide +kernel
theorem cd_76_0 : zt_code zq_T 76 0 = some (.aload_n 0, 1, 0) := by decide +kernel
theorem cd_76_1 : zt_code zq_T 76 1 = some (.iload_n 2, 1, 0) := by decide +kernel
theorem cd_76_2 : zt_code zq_T 76 2 = some (.iconst 0, 1, 0) := by decide +kernel
theorem cd_76_3 : zt_code zq_T 76 3 = some (.invokevirtual 240, 3, 0) := by decide +kernel
theorem cd_76_6 : zt_code zq_T 76 6 = some (.istore_n 3, 1, 0) := by decide +kernel
theorem cd_76_7 : zt_code zq_T 76 7 = some (.iload_n 3, 1, 0) := by decide +kernel
theorem cd_76_8 : zt_code zq_T 76 8 = some (.ifCond .eq (8), 3, 0) := by decide +kernel
theorem cd_76_11 : zt_code zq_T 76 11 = some (.iload_n 3, 1, 0) := by decide +kernel
theorem cd_76_12 : zt_code zq_T 76 12 = some (.iconst 1, 1, 0) := by decide +kernel
theorem cd_76_13 : zt_code zq_T 76 13 = some (.if_icmp .ne (13), 3, 0) := by decide +kernel
theorem cd_76_16 : zt_code zq_T 76 16 = some (.iload_n 3, 1, 0) := by decide +kernel
theorem cd_76_17 : zt_code zq_T 76 17 = some (.ifCond .ne (7), 3, 0) := by decide +kernel
theorem cd_76_20 : zt_code zq_T 76 20 = some (.iconst 1, 1, 0) := by decide +kernel
theorem cd_76_21 : zt_code zq_T 76 21 = some (.goto (4), 3, 0) := by decide +kernel
theorem cd_76_24 : zt_code zq_T 76 24 = some (.iconst 0, 1, 0) := by decide +kernel
theorem cd_76_25 : zt_code zq_T 76 25 = some (.ireturn, 1, 0) := by decide +kernel
theorem cd_76_26 : zt_code zq_T 76 26 = some (.iconst 0, 1, 0) := by decide +kernel
theorem cd_76_27 : zt_code zq_T 76 27 = some (.istore 4, 2, 0) := by decide +kernel
theorem cd_76_29 : zt_code zq_T 76 29 = some (.aload_n 0, 1, 0) := by decide +kernel
theorem cd_76_30 : zt_code zq_T 76 30 = some (.iload_n 2, 1, 0) := by decide +kernel
theorem cd_76_31 : zt_code zq_T 76 31 = some (.iconst 3, 1, 0) := by decide +kernel
theorem cd_76_32 : zt_code zq_T 76 32 = some (.invokevirtual 240, 3, 0) := by decide +kernel
theorem cd_76_35 : zt_code zq_T 76 35 = some (.istore 5, 2, 0) := by decide +kernel
theorem cd_76_37 : zt_code zq_T 76 37 = some (.iload 5, 2, 0) := by decide +kernel
theorem cd_76_39 : zt_code zq_T 76 39 = some (.iconst (-1), 1, 0) := by decide +kernel
theorem cd_76_40 : zt_code zq_T 76 40 = some (.if_icmp .eq (54), 3, 0) := by decide +kernel
theorem cd_76_43 : zt_code zq_T 76 43 = some (.aload_n 0, 1, 0) := by decide +kernel
theorem cd_76_44 : zt_code zq_T 76 44 = some (.iload_n 1, 1, 0) := by decide +kernel
theorem cd_76_45 : zt_code zq_T 76 45 = some (.iload 5, 2, 0) := by decide +kernel
theorem cd_76_47 : zt_code zq_T 76 47 = some (.invokevirtual 367, 3, 0) := by decide +kernel
theorem cd_76_50 : zt_code zq_T 76 50 = some (.istore 6, 2, 0) := by decide +kernel
theorem cd_76_52 : zt_code zq_T 76 52 = some (.iload 6, 2, 0) := by decide +kernel
theorem cd_76_54 : zt_code zq_T 76 54 = some (.iconst (-1), 1, 0) := by decide +kernel
theorem cd_76_55 : zt_code zq_T 76 55 = some (.if_icmp .ne (5), 3, 0) := by decide +kernel
theorem cd_76_58 : zt_code zq_T 76 58 = some (.iconst (-1), 1, 0) := by decide +kernel
theorem cd_76_59 : zt_code zq_T 76 59 = some (.ireturn, 1, 0) := by decide +kernel
theorem cd_76_60 : zt_code zq_T 76 60 = some (.iload_n 3, 1, 0) := by decide +kernel
theorem cd_76_61 : zt_code zq_T 76 61 = some (.iconst 3, 1, 0) := by decide +kernel
theorem cd_76_62 : zt_code zq_T 76 62 = some (.if_icmp .ne (13), 3, 0) := by decide +kernel
theorem cd_76_65 : zt_code zq_T 76 65 = some (.iload 4, 2, 0) := by decide +kernel
theorem cd_76_67 : zt_code zq_T 76 67 = some (.iload 6, 2, 0) := by decide +kernel
theorem cd_76_69 : zt_code zq_T 76 69 = some (.invokestatic 144, 3, 0) := by decide +kernel
theorem cd_76_72 : zt_code zq_T 76 72 = some (.goto (8), 3, 0) := by decide +kernel
theorem cd_76_75 : zt_code zq_T 76 75 = some (.iload 4, 2, 0) := by decide +kernel
theorem cd_76_77 : zt_code zq_T 76 77 = some (.iload 6, 2, 0) := by decide +kernel
theorem cd_76_79 : zt_code zq_T 76 79 = some (.iadd, 1, 0) := by decide +kernel
theorem cd_76_80 : zt_code zq_T 76 80 = some (.istore 4, 2, 0) := by decide +kernel
theorem cd_76_82 : zt_code zq_T 76 82 = some (.aload_n 0, 1, 0) := by decide +kernel
theorem cd_76_83 : zt_code zq_T 76 83 = some (.iload 5, 2, 0) := by decide +kernel
theorem cd_76_85 : zt_code zq_T 76 85 = some (.iconst 4, 1, 0) := by decide +kernel
theorem cd_76_86 : zt_code zq_T 76 86 = some (.invokevirtual 240, 3, 0) := by decide +kernel
theorem cd_76_89 : zt_code zq_T 76 89 = some (.istore 5, 2, 0) := by decide +kernel
theorem cd_76_91 : zt_code zq_T 76 91 = some (.goto (-54), 3, 0) := by decide +kernel
theorem cd_76_94 : zt_code zq_T 76 94 = some (.iload_n 3, 1, 0) := by decide +kernel
theorem cd_76_95 : zt_code zq_T 76 95 = some (.iconst 5, 1, 0) := by decide +kernel
theorem cd_76_96 : zt_code zq_T 76 96 = some (.if_icmp .ne (8), 3, 0) := by decide +kernel
theorem cd_76_99 : zt_code zq_T 76 99 = some (.iload 4, 2, 0) := by decide +kernel
theorem cd_76_101 : zt_code zq_T 76 101 = some (.ifCond .ne (6), 3, 0) := by decide +kernel
theorem cd_76_104 : zt_code zq_T 76 104 = some (.iload 4, 2, 0) := by decide +kernel
theorem cd_76_106 : zt_code zq_T 76 106 = some (.ireturn, 1, 0) := by decide +kernel
theorem cd_76_107 : zt_code zq_T 76 107 = some (.aload_n 0, 1, 0) := by decide +kernel
theorem cd_76_108 : zt_code zq_T 76 108 = some (.iload_n 1, 1, 0) := by decide +kernel
theorem cd_76_109 : zt_code zq_T 76 109 = some (.aload_n 0, 1, 0) := by decide +kernel
theorem cd_76_110 : zt_code zq_T 76 110 = some (.iload_n 2, 1, 0) := by decide +kernel
theorem cd_76_111 : zt_code zq_T 76 111 = some (.iconst 1, 1, 0) := by decide +kernel
theorem cd_76_112 : zt_code zq_T 76 112 = some (.invokevirtual 240, 3, 0) := by decide +kernel
theorem cd_76_115 : zt_code zq_T 76 115 = some (.invokevirtual 275, 3, 0) := by decide +kernel
theorem cd_76_118 : zt_code zq_T 76 118 = some (.istore 5, 2, 0) := by decide +kernel
theorem cd_76_120 : zt_code zq_T 76 120 = some (.iload 5, 2, 0) := by decide +kernel
theorem cd_76_122 : zt_code zq_T 76 122 = some (.iconst (-1), 1, 0) := by decide +kernel
theorem cd_76_123 : zt_code zq_T 76 123 = some (.if_icmp .ne (7), 3, 0) := by decide +kernel
theorem cd_76_126 : zt_code zq_T 76 126 = some (.iconst (-1), 1, 0) := by decide +kernel
theorem cd_76_127 : zt_code zq_T 76 127 = some (.goto (8), 3, 0) := by decide +kernel
theorem cd_76_130 : zt_code zq_T 76 130 = some (.iload 4, 2, 0) := by decide +kernel
theorem cd_76_132 : zt_code zq_T 76 132 = some (.iload 5, 2, 0) := by decide +kernel
theorem cd_76_134 : zt_code zq_T 76 134 = some (.imul, 1, 0) := by decide +kernel
theorem cd_76_135 : zt_code zq_T 76 135 = some (.ireturn, 1, 0) := by decide +kernel
theorem cd_77_0 : zt_code zq_T 77 0 = some (.iconst 0, 1, 0) := by decide +kernel
theorem cd_77_1 : zt_code zq_T 77 1 = some (.istore_n 2, 1, 0) := by decide +kernel
theorem cd_77_2 : zt_code zq_T 77 2 = some (.iconst 0, 1, 0) := by decide +kernel
theorem cd_77_3 : zt_code zq_T 77 3 = some (.istore_n 3, 1, 0) := by decide +kernel
theorem cd_77_4 : zt_code zq_T 77 4 = some (.iload_n 3, 1, 0) := by decide +kernel
theorem cd_77_5 : zt_code zq_T 77 5 = some (.aload_n 0, 1, 0) := by decide +kernel
theorem cd_77_6 : zt_code zq_T 77 6 = some (.iload_n 1, 1, 0) := by decide +kernel
theorem cd_77_7 : zt_code zq_T 77 7 = some (.iconst 2, 1, 0) := by decide +kernel
theorem cd_77_8 : zt_code zq_T 77 8 = some (.invokevirtual 258, 3, 0) := by decide +kernel
theorem cd_77_11 : zt_code zq_T 77 11 = some (.if_icmp .ge (20), 3, 0) := by decide +kernel
theorem cd_77_14 : zt_code zq_T 77 14 = some (.iload_n 2, 1, 0) := by decide +kernel
theorem cd_77_15 : zt_code zq_T 77 15 = some (.iconst 1, 1, 0) := by decide +kernel
theorem cd_77_16 : zt_code zq_T 77 16 = some (.aload_n 0, 1, 0) := by decide +kernel
theorem cd_77_17 : zt_code zq_T 77 17 = some (.iload_n 1, 1, 0) := by decide +kernel
theorem cd_77_18 : zt_code zq_T 77 18 = some (.iload_n 3, 1, 0) := by decide +kernel
theorem cd_77_19 : zt_code zq_T 77 19 = some (.invokevirtual 289, 3, 0) := by decide +kernel
theorem cd_77_22 : zt_code zq_T 77 22 = some (.ishl, 1, 0) := by decide +kernel
theorem cd_77_23 : zt_code zq_T 77 23 = some (.ior, 1, 0) := by decide +kernel
theorem cd_77_24 : zt_code zq_T 77 24 = some (.istore_n 2, 1, 0) := by decide +kernel
theorem cd_77_25 : zt_code zq_T 77 25 = some (.iinc 3 (1), 3, 0) := by decide +kernel
theorem cd_77_28 : zt_code zq_T 77 28 = some (.goto (-24), 3, 0) := by decide +kernel
theorem cd_77_31 : zt_code zq_T 77 31 = some (.iload_n 2, 1, 0) := by decide +kernel
theorem cd_77_32 : zt_code zq_T 77 32 = some (.ireturn, 1, 0) := by decide +kernel
theorem cd_78_0 : zt_code zq_T 78 0 = some (.aload_n 0, 1, 0) := by decide +kernel
theorem cd_78_1 : zt_code zq_T 78 1 = some (.aload_n 0, 1, 0) := by decide +kernel
theorem cd_78_2 : zt_code zq_T 78 2 = some (.iload_n 1, 1, 0) := by decide +kernel
theorem cd_78_3 : zt_code zq_T 78 3 = some (.invokevirtual 357, 3, 0) := by decide +kernel
theorem cd_78_6 : zt_code zq_T 78 6 = some (.ifCond .eq (19), 3, 0) := by decide +kernel
theorem cd_78_9 : zt_code zq_T 78 9 = some (.iload_n 2, 1, 0) := by decide +kernel
theorem cd_78_10 : zt_code zq_T 78 10 = some (.i2l, 1, 0) := by decide +kernel
theorem cd_78_11 : zt_code zq_T 78 11 = some (.lconst 0, 1, 0) := by decide +kernel
theorem cd_78_12 : zt_code zq_T 78 12 = some (.ldc2_w 370, 3, 0) := by decide +kernel
theorem cd_78_15 : zt_code zq_T 78 15 = some (.invokestatic 204, 3, 0) := by decide +kernel
theorem cd_78_18 : zt_code zq_T 78 18 = some (.ifCond .eq (7), 3, 0) := by decide +kernel
theorem cd_78_21 : zt_code zq_T 78 21 = some (.iconst 0, 1, 0) := by decide +kernel
theorem cd_78_22 : zt_code zq_T 78 22 = some (.goto (4), 3, 0) := by decide +kernel
theorem cd_78_25 : zt_code zq_T 78 25 = some (.iconst 1, 1, 0) := by decide +kernel
theorem cd_78_26 : zt_code zq_T 78 26 = some (.putfield 114, 3, 0) := by decide +kernel
theorem cd_78_29 : zt_code zq_T 78 29 = some (.aload_n 0, 1, 0) := by decide +kernel
theorem cd_78_30 : zt_code zq_T 78 30 = some (.getfield 114, 3, 0) := by decide +kernel
theorem cd_78_33 : zt_code zq_T 78 33 = some (.ifCond .le (5), 3, 0) := by decide +kernel
theorem cd_78_36 : zt_code zq_T 78 36 = some (.iconst 0, 1, 0) := by decide +kernel
theorem cd_78_37 : zt_code zq_T 78 37 = some (.ireturn, 1, 0) := by decide +kernel
theorem cd_78_38 : zt_code zq_T 78 38 = some (.iload_n 2, 1, 0) := by decide +kernel
theorem cd_78_39 : zt_code zq_T 78 39 = some (.tableswitch (155) (0) (9) #[53, 60, 67, 74, 81, 101, 116, 130, 137, 143], 53, 0) := by decide +kernel
theorem cd_78_92 : zt_code zq_T 78 92 = some (.aload_n 0, 1, 0) := by decide +kernel
theorem cd_78_93 : zt_code zq_T 78 93 = some (.iload_n 1, 1, 0) := by decide +kernel
theorem cd_78_94 : zt_code zq_T 78 94 = some (.iconst 0, 1, 0) := by decide +kernel
theorem cd_78_95 : zt_code zq_T 78 95 = some (.invokevirtual 258, 3, 0) := by decide +kernel
theorem cd_78_98 : zt_code zq_T 78 98 = some (.ireturn, 1, 0) := by decide +kernel
theorem cd_78_99 : zt_code zq_T 78 99 = some (.aload_n 0, 1, 0) := by decide +kernel
theorem cd_78_100 : zt_code zq_T 78 100 = some (.iload_n 1, 1, 0) := by decide +kernel
theorem cd_78_101 : zt_code zq_T 78 101 = some (.iconst 2, 1, 0) := by decide +kernel
theorem cd_78_102 : zt_code zq_T 78 102 = some (.invokevirtual 258, 3, 0) := by decide +kernel
theorem cd_78_105 : zt_code zq_T 78 105 = some (.ireturn, 1, 0) := by decide +kernel
theorem cd_78_106 : zt_code zq_T 78 106 = some (.aload_n 0, 1, 0) := by decide +kernel
theorem cd_78_107 : zt_code zq_T 78 107 = some (.iload_n 1, 1, 0) := by decide +kernel
theorem cd_78_108 : zt_code zq_T 78 108 = some (.iconst 3, 1, 0) := by decide +kernel
theorem cd_78_109 : zt_code zq_T 78 109 = some (.invokevirtual 258, 3, 0) := by decide +kernel
theorem cd_78_112 : zt_code zq_T 78 112 = some (.ireturn, 1, 0) := by decide +kernel
theorem cd_78_113 : zt_code zq_T 78 113 = some (.aload_n 0, 1, 0) := by decide +kernel
theorem cd_78_114 : zt_code zq_T 78 114 = some (.iload_n 1, 1, 0) := by decide +kernel
theorem cd_78_115 : zt_code zq_T 78 115 = some (.iconst 4, 1, 0) := by decide +kernel
theorem cd_78_116 : zt_code zq_T 78 116 = some (.invokevirtual 258, 3, 0) := by decide +kernel
theorem cd_78_119 : zt_code zq_T 78 119 = some (.ireturn, 1, 0) := by decide +kernel
theorem cd_78_120 : zt_code zq_T 78 120 = some (.aload_n 0, 1, 0) := by decide +kernel
theorem cd_78_121 : zt_code zq_T 78 121 = some (.iload_n 1, 1, 0) := by decide +kernel
theorem cd_78_122 : zt_code zq_T 78 122 = some (.aload_n 0, 1, 0) := by decide +kernel
theorem cd_78_123 : zt_code zq_T 78 123 = some (.iload_n 1, 1, 0) := by decide +kernel
theorem cd_78_124 : zt_code zq_T 78 124 = some (.iconst 1, 1, 0) := by decide +kernel
theorem cd_78_125 : zt_code zq_T 78 125 = some (.invokevirtual 258, 3, 0) := by decide +kernel
theorem cd_78_128 : zt_code zq_T 78 128 = some (.invokevirtual 245, 3, 0) := by decide +kernel
theorem cd_78_131 : zt_code zq_T 78 131 = some (.ifCond .eq (7), 3, 0) := by decide +kernel
theorem cd_78_134 : zt_code zq_T 78 134 = some (.iconst 1, 1, 0) := by decide +kernel
theorem cd_78_135 : zt_code zq_T 78 135 = some (.goto (4), 3, 0) := by decide +kernel
theorem cd_78_138 : zt_code zq_T 78 138 = some (.iconst 0, 1, 0) := by decide +kernel
theorem cd_78_139 : zt_code zq_T 78 139 = some (.ireturn, 1, 0) := by decide +kernel
theorem cd_78_140 : zt_code zq_T 78 140 = some (.aload_n 0, 1, 0) := by decide +kernel
theorem cd_78_141 : zt_code zq_T 78 141 = some (.iload_n 1, 1, 0) := by decide +kernel
theorem cd_78_142 : zt_code zq_T 78 142 = some (.iconst 1, 1, 0) := by decide +kernel
theorem cd_78_143 : zt_code zq_T 78 143 = some (.invokevirtual 347, 3, 0) := by decide +kernel
theorem cd_78_146 : zt_code zq_T 78 146 = some (.ifCond .ne (7), 3, 0) := by decide +kernel
theorem cd_78_149 : zt_code zq_T 78 149 = some (.iconst 1, 1, 0) := by decide +kernel
theorem cd_78_150 : zt_code zq_T 78 150 = some (.goto (4), 3, 0) := by decide +kernel
theorem cd_78_153 : zt_code zq_T 78 153 = some (.iconst 0, 1, 0) := by decide +kernel
theorem cd_78_154 : zt_code zq_T 78 154 = some (.ireturn, 1, 0) := by decide +kernel
theorem cd_78_155 : zt_code zq_T 78 155 = some (.aload_n 0, 1, 0) := by decide +kernel
theorem cd_78_156 : zt_code zq_T 78 156 = some (.iload_n 1, 1, 0) := by decide +kernel
theorem cd_78_157 : zt_code zq_T 78 157 = some (.invokevirtual 372, 3, 0) := by decide +kernel
theorem cd_78_160 : zt_code zq_T 78 160 = some (.ifCond .eq (7), 3, 0) := by decide +kernel
theorem cd_78_163 : zt_code zq_T 78 163 = some (.iconst 1, 1, 0) := by decide +kernel
theorem cd_78_164 : zt_code zq_T 78 164 = some (.goto (4), 3, 0) := by decide +kernel
theorem cd_78_167 : zt_code zq_T 78 167 = some (.iconst 0, 1, 0) := by decide +kernel
theorem cd_78_168 : zt_code zq_T 78 168 = some (.ireturn, 1, 0) := by decide +kernel
theorem cd_78_169 : zt_code zq_T 78 169 = some (.aload_n 0, 1, 0) := by decide +kernel
theorem cd_78_170 : zt_code zq_T 78 170 = some (.iload_n 1, 1, 0) := by decide +kernel
theorem cd_78_171 : zt_code zq_T 78 171 = some (.iconst 0, 1, 0) := by decide +kernel
theorem cd_78_172 : zt_code zq_T 78 172 = some (.invokevirtual 347, 3, 0) := by decide +kernel
theorem cd_78_175 : zt_code zq_T 78 175 = some (.ireturn, 1, 0) := by decide +kernel
theorem cd_78_176 : zt_code zq_T 78 176 = some (.aload_n 0, 1, 0) := by decide +kernel
theorem cd_78_177 : zt_code zq_T 78 177 = some (.iload_n 1, 1, 0) := by decide +kernel
theorem cd_78_178 : zt_code zq_T 78 178 = some (.invokevirtual 375, 3, 0) := by decide +kernel
theorem cd_78_181 : zt_code zq_T 78 181 = some (.ireturn, 1, 0) := by decide +kernel
theorem cd_78_182 : zt_code zq_T 78 182 = some (.aload_n 0, 1, 0) := by decide +kernel
theorem cd_78_183 : zt_code zq_T 78 183 = some (.iload_n 1, 1, 0) := by decide +kernel
theorem cd_78_184 : zt_code zq_T 78 184 = some (.aload_n 0, 1, 0) := by decide +kernel
theorem cd_78_185 : zt_code zq_T 78 185 = some (.iload_n 1, 1, 0) := by decide +kernel
theorem cd_78_186 : zt_code zq_T 78 186 = some (.iconst 1, 1, 0) := by decide +kernel
theorem cd_78_187 : zt_code zq_T 78 187 = some (.invokevirtual 258, 3, 0) := by decide +kernel
theorem cd_78_190 : zt_code zq_T 78 190 = some (.invokevirtual 367, 3, 0) := by decide +kernel
theorem cd_78_193 : zt_code zq_T 78 193 = some (.ireturn, 1, 0) := by decide +kernel
theorem cd_78_194 : zt_code zq_T 78 194 = some (.aload_n 0, 1, 0) := by decide +kernel
theorem cd_78_195 : zt_code zq_T 78 195 = some (.iload_n 1, 1, 0) := by decide +kernel
theorem cd_78_196 : zt_code zq_T 78 196 = some (.invokevirtual 378, 3, 0) := by decide +kernel
theorem cd_78_199 : zt_code zq_T 78 199 = some (.ireturn, 1, 0) := by decide +kernel
theorem cd_79_0 : zt_code zq_T 79 0 = some (.iconst 0, 1, 0) := by decide +kernel
theorem cd_79_1 : zt_code zq_T 79 1 = some (.istore_n 3, 1, 0) := by decide +kernel
theorem cd_79_2 : zt_code zq_T 79 2 = some (.iconst 0, 1, 0) := by decide +kernel
theorem cd_79_3 : zt_code zq_T 79 3 = some (.istore 4, 2, 0) := by decide +kernel
theorem cd_79_5 : zt_code zq_T 79 5 = some (.iload 4, 2, 0) := by decide +kernel
theorem cd_79_7 : zt_code zq_T 79 7 = some (.aload_n 0, 1, 0) := by decide +kernel
theorem cd_79_8 : zt_code zq_T 79 8 = some (.iload_n 1, 1, 0) := by decide +kernel
theorem cd_79_9 : zt_code zq_T 79 9 = some (.iconst 2, 1, 0) := by decide +kernel
theorem cd_79_10 : zt_code zq_T 79 10 = some (.invokevirtual 258, 3, 0) := by decide +kernel
theorem cd_79_13 : zt_code zq_T 79 13 = some (.if_icmp .ge (35), 3, 0) := by decide +kernel
theorem cd_79_16 : zt_code zq_T 79 16 = some (.iload_n 3, 1, 0) := by decide +kernel
theorem cd_79_17 : zt_code zq_T 79 17 = some (.aload_n 0, 1, 0) := by decide +kernel
theorem cd_79_18 : zt_code zq_T 79 18 = some (.aload_n 0, 1, 0) := by decide +kernel
theorem cd_79_19 : zt_code zq_T 79 19 = some (.iload_n 1, 1, 0) := by decide +kernel
theorem cd_79_20 : zt_code zq_T 79 20 = some (.iload 4, 2, 0) := by decide +kernel
theorem cd_79_22 : zt_code zq_T 79 22 = some (.invokevirtual 249, 3, 0) := by decide +kernel
theorem cd_79_25 : zt_code zq_T 79 25 = some (.iload_n 2, 1, 0) := by decide +kernel
theorem cd_79_26 : zt_code zq_T 79 26 = some (.invokevirtual 252, 3, 0) := by decide +kernel
theorem cd_79_29 : zt_code zq_T 79 29 = some (.ifCond .eq (10), 3, 0) := by decide +kernel
theorem cd_79_32 : zt_code zq_T 79 32 = some (.iconst 1, 1, 0) := by decide +kernel
theorem cd_79_33 : zt_code zq_T 79 33 = some (.iload 4, 2, 0) := by decide +kernel
theorem cd_79_35 : zt_code zq_T 79 35 = some (.ishl, 1, 0) := by decide +kernel
theorem cd_79_36 : zt_code zq_T 79 36 = some (.goto (4), 3, 0) := by decide +kernel
theorem cd_79_39 : zt_code zq_T 79 39 = some (.iconst 0, 1, 0) := by decide +kernel
theorem cd_79_40 : zt_code zq_T 79 40 = some (.ior, 1, 0) := by decide +kernel
theorem cd_79_41 : zt_code zq_T 79 41 = some (.istore_n 3, 1, 0) := by decide +kernel
theorem cd_79_42 : zt_code zq_T 79 42 = some (.iinc 4 (1), 3, 0) := by decide +kernel
theorem cd_79_45 : zt_code zq_T 79 45 = some (.goto (-40), 3, 0) := by decide +kernel
theorem cd_79_48 : zt_code zq_T 79 48 = some (.iload_n 3, 1, 0) := by decide +kernel
theorem cd_79_49 : zt_code zq_T 79 49 = some (.ireturn, 1, 0) := by decide +kernel
theorem cd_80_0 : zt_code zq_T 80 0 = some (.aload_n 0, 1, 0) := by decide +kernel
theorem cd_80_1 : zt_code zq_T 80 1 = some (.iload_n 1, 1, 0) := by decide +kernel
theorem cd_80_2 : zt_code zq_T 80 2 = some (.iconst 2, 1, 0) := by decide +kernel
theorem cd_80_3 : zt_code zq_T 80 3 = some (.invokevirtual 240, 3, 0) := by decide +kernel
theorem cd_80_6 : zt_code zq_T 80 6 = some (.istore_n 2, 1, 0) := by decide +kernel
theorem cd_80_7 : zt_code zq_T 80 7 = some (.iload_n 2, 1, 0) := by decide +kernel
theorem cd_80_8 : zt_code zq_T 80 8 = some (.iconst (-1), 1, 0) := by decide +kernel
theorem cd_80_9 : zt_code zq_T 80 9 = some (.if_icmp .eq (30), 3, 0) := by decide +kernel
theorem cd_80_12 : zt_code zq_T 80 12 = some (.aload_n 0, 1, 0) := by decide +kernel
theorem cd_80_13 : zt_code zq_T 80 13 = some (.iload_n 2, 1, 0) := by decide +kernel
theorem cd_80_14 : zt_code zq_T 80 14 = some (.iconst 0, 1, 0) := by decide +kernel
theorem cd_80_15 : zt_code zq_T 80 15 = some (.invokevirtual 240, 3, 0) := by decide +kernel
theorem cd_80_18 : zt_code zq_T 80 18 = some (.iconst 5, 1, 0) := by decide +kernel
theorem cd_80_19 : zt_code zq_T 80 19 = some (.if_icmp .ne (10), 3, 0) := by decide +kernel
theorem cd_80_22 : zt_code zq_T 80 22 = some (.aload_n 0, 1, 0) := by decide +kernel
theorem cd_80_23 : zt_code zq_T 80 23 = some (.iload_n 2, 1, 0) := by decide +kernel
theorem cd_80_24 : zt_code zq_T 80 24 = some (.iconst 1, 1, 0) := by decide +kernel
theorem cd_80_25 : zt_code zq_T 80 25 = some (.invokevirtual 240, 3, 0) := by decide +kernel
theorem cd_80_28 : zt_code zq_T 80 28 = some (.ireturn, 1, 0) := by decide +kernel
theorem cd_80_29 : zt_code zq_T 80 29 = some (.aload_n 0, 1, 0) := by decide +kernel
theorem cd_80_30 : zt_code zq_T 80 30 = some (.iload_n 2, 1, 0) := by decide +kernel
theorem cd_80_31 : zt_code zq_T 80 31 = some (.iconst 2, 1, 0) := by decide +kernel
theorem cd_80_32 : zt_code zq_T 80 32 = some (.invokevirtual 240, 3, 0) := by decide +kernel
theorem cd_80_35 : zt_code zq_T 80 35 = some (.istore_n 2, 1, 0) := by decide +kernel
theorem cd_80_36 : zt_code zq_T 80 36 = some (.goto (-29), 3, 0) := by decide +kernel
theorem cd_80_39 : zt_code zq_T 80 39 = some (.iconst (-1), 1, 0) := by decide +kernel
theorem cd_80_40 : zt_code zq_T 80 40 = some (.ireturn, 1, 0) := by decide +kernel
theorem cd_81_0 : zt_code zq_T 81 0 = some (.aload_n 0, 1, 0) := by decide +kernel
theorem cd_81_1 : zt_code zq_T 81 1 = some (.getfield 26, 3, 0) := by decide +kernel
theorem cd_81_4 : zt_code zq_T 81 4 = some (.iconst 3, 1, 0) := by decide +kernel
theorem cd_81_5 : zt_code zq_T 81 5 = some (.bipush (8), 2, 0) := by decide +kernel
theorem cd_81_7 : zt_code zq_T 81 7 = some (.iload_n 1, 1, 0) := by decide +kernel
theorem cd_81_8 : zt_code zq_T 81 8 = some (.imul, 1, 0) := by decide +kernel
theorem cd_81_9 : zt_code zq_T 81 9 = some (.iload_n 2, 1, 0) := by decide +kernel
theorem cd_81_10 : zt_code zq_T 81 10 = some (.iadd, 1, 0) := by decide +kernel
theorem cd_81_11 : zt_code zq_T 81 11 = some (.imul, 1, 0) := by decide +kernel
theorem cd_81_12 : zt_code zq_T 81 12 = some (.iconst 2, 1, 0) := by decide +kernel
theorem cd_81_13 : zt_code zq_T 81 13 = some (.iadd, 1, 0) := by decide +kernel
theorem cd_81_14 : zt_code zq_T 81 14 = some (.iaload, 1, 0) := by decide +kernel
theorem cd_81_15 : zt_code zq_T 81 15 = some (.ireturn, 1, 0) := by decide +kernel
theorem cd_82_0 : zt_code zq_T 82 0 = some (.iconst 0, 1, 0) := by decide +kernel
theorem cd_82_1 : zt_code zq_T 82 1 = some (.istore_n 3, 1, 0) := by decide +kernel
theorem cd_82_2 : zt_code zq_T 82 2 = some (.aload_n 0, 1, 0) := by decide +kernel
theorem cd_82_3 : zt_code zq_T 82 3 = some (.iload_n 1, 1, 0) := by decide +kernel
theorem cd_82_4 : zt_code zq_T 82 4 = some (.iload_n 2, 1, 0) := by decide +kernel
theorem cd_82_5 : zt_code zq_T 82 5 = some (.invokevirtual 338, 3, 0) := by decide +kernel
theorem cd_82_8 : zt_code zq_T 82 8 = some (.iconst 0, 1, 0) := by decide +kernel
theorem cd_82_9 : zt_code zq_T 82 9 = some (.istore 4, 2, 0) := by decide +kernel
theorem cd_82_11 : zt_code zq_T 82 11 = some (.iload 4, 2, 0) := by decide +kernel
theorem cd_82_13 : zt_code zq_T 82 13 = some (.aload_n 0, 1, 0) := by decide +kernel
theorem cd_82_14 : zt_code zq_T 82 14 = some (.getfield 265, 3, 0) := by decide +kernel
theorem cd_82_17 : zt_code zq_T 82 17 = some (.if_icmp .ge (21), 3, 0) := by decide +kernel
theorem cd_82_20 : zt_code zq_T 82 20 = some (.iload_n 3, 1, 0) := by decide +kernel
theorem cd_82_21 : zt_code zq_T 82 21 = some (.iconst 1, 1, 0) := by decide +kernel
theorem cd_82_22 : zt_code zq_T 82 22 = some (.aload_n 0, 1, 0) := by decide +kernel
theorem cd_82_23 : zt_code zq_T 82 23 = some (.getfield 50, 3, 0) := by decide +kernel
theorem cd_82_26 : zt_code zq_T 82 26 = some (.iload 4, 2, 0) := by decide +kernel
theorem cd_82_28 : zt_code zq_T 82 28 = some (.iaload, 1, 0) := by decide +kernel
theorem cd_82_29 : zt_code zq_T 82 29 = some (.ishl, 1, 0) := by decide +kernel
theorem cd_82_30 : zt_code zq_T 82 30 = some (.ior, 1, 0) := by decide +kernel
theorem cd_82_31 : zt_code zq_T 82 31 = some (.istore_n 3, 1, 0) := by decide +kernel
theorem cd_82_32 : zt_code zq_T 82 32 = some (.iinc 4 (1), 3, 0) := by decide +kernel
theorem cd_82_35 : zt_code zq_T 82 35 = some (.goto (-24), 3, 0) := by decide +kernel
theorem cd_82_38 : zt_code zq_T 82 38 = some (.iload_n 3, 1, 0) := by decide +kernel
theorem cd_82_39 : zt_code zq_T 82 39 = some (.ireturn, 1, 0) := by decide +kernel
theorem cd_83_0 : zt_code zq_T 83 0 = some (.iconst 0, 1, 0) := by decide +kernel
theorem cd_83_1 : zt_code zq_T 83 1 = some (.istore_n 2, 1, 0) := by decide +kernel
theorem cd_83_2 : zt_code zq_T 83 2 = some (.iload_n 1, 1, 0) := by decide +kernel
theorem cd_83_3 : zt_code zq_T 83 3 = some (.istore_n 3, 1, 0) := by decide +kernel
theorem cd_83_4 : zt_code zq_T 83 4 = some (.iload_n 3, 1, 0) := by decide +kernel
theorem cd_83_5 : zt_code zq_T 83 5 = some (.iconst (-1), 1, 0) := by decide +kernel
theorem cd_83_6 : zt_code zq_T 83 6 = some (.if_icmp .eq (38), 3, 0) := by decide +kernel
theorem cd_83_9 : zt_code zq_T 83 9 = some (.iload_n 2, 1, 0) := by decide +kernel
theorem cd_83_10 : zt_code zq_T 83 10 = some (.aload_n 0, 1, 0) := by decide +kernel
theorem cd_83_11 : zt_code zq_T 83 11 = some (.iload_n 3, 1, 0) := by decide +kernel
theorem cd_83_12 : zt_code zq_T 83 12 = some (.iconst 0, 1, 0) := by decide +kernel
theorem cd_83_13 : zt_code zq_T 83 13 = some (.invokevirtual 240, 3, 0) := by decide +kernel
theorem cd_83_16 : zt_code zq_T 83 16 = some (.iconst 4, 1, 0) := by decide +kernel
theorem cd_83_17 : zt_code zq_T 83 17 = some (.if_icmp .ne (14), 3, 0) := by decide +kernel
theorem cd_83_20 : zt_code zq_T 83 20 = some (.iconst 1, 1, 0) := by decide +kernel
theorem cd_83_21 : zt_code zq_T 83 21 = some (.aload_n 0, 1, 0) := by decide +kernel
theorem cd_83_22 : zt_code zq_T 83 22 = some (.iload_n 3, 1, 0) := by decide +kernel
theorem cd_83_23 : zt_code zq_T 83 23 = some (.iconst 1, 1, 0) := by decide +kernel
theorem cd_83_24 : zt_code zq_T 83 24 = some (.invokevirtual 240, 3, 0) := by decide +kernel
theorem cd_83_27 : zt_code zq_T 83 27 = some (.ishl, 1, 0) := by decide +kernel
theorem cd_83_28 : zt_code zq_T 83 28 = some (.goto (4), 3, 0) := by decide +kernel
theorem cd_83_31 : zt_code zq_T 83 31 = some (.iconst 0, 1, 0) := by decide +kernel
theorem cd_83_32 : zt_code zq_T 83 32 = some (.ior, 1, 0) := by decide +kernel
theorem cd_83_33 : zt_code zq_T 83 33 = some (.istore_n 2, 1, 0) := by decide +kernel
theorem cd_83_34 : zt_code zq_T 83 34 = some (.aload_n 0, 1, 0) := by decide +kernel
theorem cd_83_35 : zt_code zq_T 83 35 = some (.iload_n 3, 1, 0) := by decide +kernel
theorem cd_83_36 : zt_code zq_T 83 36 = some (.iconst 2, 1, 0) := by decide +kernel
theorem cd_83_37 : zt_code zq_T 83 37 = some (.invokevirtual 240, 3, 0) := by decide +kernel
theorem cd_83_40 : zt_code zq_T 83 40 = some (.istore_n 3, 1, 0) := by decide +kernel
theorem cd_83_41 : zt_code zq_T 83 41 = some (.goto (-37), 3, 0) := by decide +kernel
theorem cd_83_44 : zt_code zq_T 83 44 = some (.iload_n 2, 1, 0) := by decide +kernel
theorem cd_83_45 : zt_code zq_T 83 45 = some (.ireturn, 1, 0) := by decide +kernel
theorem cd_84_0 : zt_code zq_T 84 0 = some (.aload_n 0, 1, 0) := by decide +kernel
theorem cd_84_1 : zt_code zq_T 84 1 = some (.aload_n 0, 1, 0) := by decide +kernel
theorem cd_84_2 : zt_code zq_T 84 2 = some (.iload_n 1, 1, 0) := by decide +kernel
theorem cd_84_3 : zt_code zq_T 84 3 = some (.iload_n 2, 1, 0) := by decide +kernel
theorem cd_84_4 : zt_code zq_T 84 4 = some (.invokevirtual 249, 3, 0) := by decide +kernel
theorem cd_84_7 : zt_code zq_T 84 7 = some (.invokevirtual 381, 3, 0) := by decide +kernel
theorem cd_84_10 : zt_code zq_T 84 10 = some (.istore 4, 2, 0) := by decide +kernel
theorem cd_84_12 : zt_code zq_T 84 12 = some (.iload 4, 2, 0) := by decide +kernel
theorem cd_84_14 : zt_code zq_T 84 14 = some (.iconst (-1), 1, 0) := by decide +kernel
theorem cd_84_15 : zt_code zq_T 84 15 = some (.if_icmp .ne (7), 3, 0) := by decide +kernel
theorem cd_84_18 : zt_code zq_T 84 18 = some (.iconst (-1), 1, 0) := by decide +kernel
theorem cd_84_19 : zt_code zq_T 84 19 = some (.goto (14), 3, 0) := by decide +kernel
theorem cd_84_22 : zt_code zq_T 84 22 = some (.aload_n 0, 1, 0) := by decide +kernel
theorem cd_84_23 : zt_code zq_T 84 23 = some (.aload_n 0, 1, 0) := by decide +kernel
theorem cd_84_24 : zt_code zq_T 84 24 = some (.iload_n 1, 1, 0) := by decide +kernel
theorem cd_84_25 : zt_code zq_T 84 25 = some (.iload 4, 2, 0) := by decide +kernel
theorem cd_84_27 : zt_code zq_T 84 27 = some (.invokevirtual 384, 3, 0) := by decide +kernel
theorem cd_84_30 : zt_code zq_T 84 30 = some (.invokevirtual 381, 3, 0) := by decide +kernel
theorem cd_84_33 : zt_code zq_T 84 33 = some (.istore 5, 2, 0) := by decide +kernel
theorem cd_84_35 : zt_code zq_T 84 35 = some (.iload 5, 2, 0) := by decide +kernel
theorem cd_84_37 : zt_code zq_T 84 37 = some (.iconst (-1), 1, 0) := by decide +kernel
theorem cd_84_38 : zt_code zq_T 84 38 = some (.if_icmp .ne (14), 3, 0) := by decide +kernel
theorem cd_84_41 : zt_code zq_T 84 41 = some (.iload_n 3, 1, 0) := by decide +kernel
theorem cd_84_42 : zt_code zq_T 84 42 = some (.ifCond .eq (7), 3, 0) := by decide +kernel
theorem cd_84_45 : zt_code zq_T 84 45 = some (.iconst (-1), 1, 0) := by decide +kernel
theorem cd_84_46 : zt_code zq_T 84 46 = some (.goto (5), 3, 0) := by decide +kernel
theorem cd_84_49 : zt_code zq_T 84 49 = some (.iload 4, 2, 0) := by decide +kernel
theorem cd_84_51 : zt_code zq_T 84 51 = some (.ireturn, 1, 0) := by decide +kernel
theorem cd_84_52 : zt_code zq_T 84 52 = some (.iload_n 3, 1, 0) := by decide +kernel
theorem cd_84_53 : zt_code zq_T 84 53 = some (.ifCond .eq (8), 3, 0) := by decide +kernel
theorem cd_84_56 : zt_code zq_T 84 56 = some (.iload 4, 2, 0) := by decide +kernel
theorem cd_84_58 : zt_code zq_T 84 58 = some (.goto (5), 3, 0) := by decide +kernel
theorem cd_84_61 : zt_code zq_T 84 61 = some (.iload 5, 2, 0) := by decide +kernel
theorem cd_84_63 : zt_code zq_T 84 63 = some (.ireturn, 1, 0) := by decide +kernel
theorem cd_85_0 : zt_code zq_T 85 0 = some (.aload_n 0, 1, 0) := by decide +kernel
theorem cd_85_1 : zt_code zq_T 85 1 = some (.iconst 0, 1, 0) := by decide +kernel
theorem cd_85_2 : zt_code zq_T 85 2 = some (.putfield 114, 3, 0) := by decide +kernel
theorem cd_85_5 : zt_code zq_T 85 5 = some (.aload_n 0, 1, 0) := by decide +kernel
theorem cd_85_6 : zt_code zq_T 85 6 = some (.iload_n 1, 1, 0) := by decide +kernel
theorem cd_85_7 : zt_code zq_T 85 7 = some (.invokevirtual 357, 3, 0) := by decide +kernel
theorem cd_85_10 : zt_code zq_T 85 10 = some (.ifCond .eq (33), 3, 0) := by decide +kernel
theorem cd_85_13 : zt_code zq_T 85 13 = some (.iload_n 2, 1, 0) := by decide +kernel
theorem cd_85_14 : zt_code zq_T 85 14 = some (.i2l, 1, 0) := by decide +kernel
theorem cd_85_15 : zt_code zq_T 85 15 = some (.lconst 0, 1, 0) := by decide +kernel
theorem cd_85_16 : zt_code zq_T 85 16 = some (.aload_n 0, 1, 0) := by decide +kernel
theorem cd_85_17 : zt_code zq_T 85 17 = some (.iload_n 1, 1, 0) := by decide +kernel
theorem cd_85_18 : zt_code zq_T 85 18 = some (.iconst 2, 1, 0) := by decide +kernel
theorem cd_85_19 : zt_code zq_T 85 19 = some (.invokevirtual 258, 3, 0) := by decide +kernel
theorem cd_85_22 : zt_code zq_T 85 22 = some (.iconst 1, 1, 0) := by decide +kernel
theorem cd_85_23 : zt_code zq_T 85 23 = some (.isub, 1, 0) := by decide +kernel
theorem cd_85_24 : zt_code zq_T 85 24 = some (.i2l, 1, 0) := by decide +kernel
theorem cd_85_25 : zt_code zq_T 85 25 = some (.invokestatic 204, 3, 0) := by decide +kernel
theorem cd_85_28 : zt_code zq_T 85 28 = some (.ifCond .eq (15), 3, 0) := by decide +kernel
theorem cd_85_31 : zt_code zq_T 85 31 = some (.iload_n 3, 1, 0) := by decide +kernel
theorem cd_85_32 : zt_code zq_T 85 32 = some (.i2l, 1, 0) := by decide +kernel
theorem cd_85_33 : zt_code zq_T 85 33 = some (.lconst 0, 1, 0) := by decide +kernel
theorem cd_85_34 : zt_code zq_T 85 34 = some (.ldc2_w 387, 3, 0) := by decide +kernel
theorem cd_85_37 : zt_code zq_T 85 37 = some (.invokestatic 204, 3, 0) := by decide +kernel
theorem cd_85_40 : zt_code zq_T 85 40 = some (.ifCond .ne (6), 3, 0) := by decide +kernel
theorem cd_85_43 : zt_code zq_T 85 43 = some (.bipush (-2), 2, 0) := by decide +kernel
theorem cd_85_45 : zt_code zq_T 85 45 = some (.ireturn, 1, 0) := by decide +kernel
theorem cd_85_46 : zt_code zq_T 85 46 = some (.iload_n 3, 1, 0) := by decide +kernel
theorem cd_85_47 : zt_code zq_T 85 47 = some (.tableswitch (103) (0) (5) #[37, 44, 65, 80, 87, 95], 37, 0) := by decide +kernel
theorem cd_85_84 : zt_code zq_T 85 84 = some (.aload_n 0, 1, 0) := by decide +kernel
theorem cd_85_85 : zt_code zq_T 85 85 = some (.iload_n 1, 1, 0) := by decide +kernel
theorem cd_85_86 : zt_code zq_T 85 86 = some (.iload_n 2, 1, 0) := by decide +kernel
theorem cd_85_87 : zt_code zq_T 85 87 = some (.invokevirtual 289, 3, 0) := by decide +kernel
theorem cd_85_90 : zt_code zq_T 85 90 = some (.ireturn, 1, 0) := by decide +kernel
theorem cd_85_91 : zt_code zq_T 85 91 = some (.aload_n 0, 1, 0) := by decide +kernel
theorem cd_85_92 : zt_code zq_T 85 92 = some (.iload_n 1, 1, 0) := by decide +kernel
theorem cd_85_93 : zt_code zq_T 85 93 = some (.aload_n 0, 1, 0) := by decide +kernel
theorem cd_85_94 : zt_code zq_T 85 94 = some (.iload_n 1, 1, 0) := by decide +kernel
theorem cd_85_95 : zt_code zq_T 85 95 = some (.iconst 1, 1, 0) := by decide +kernel
theorem cd_85_96 : zt_code zq_T 85 96 = some (.invokevirtual 258, 3, 0) := by decide +kernel
theorem cd_85_99 : zt_code zq_T 85 99 = some (.iload_n 2, 1, 0) := by decide +kernel
theorem cd_85_100 : zt_code zq_T 85 100 = some (.invokevirtual 261, 3, 0) := by decide +kernel
theorem cd_85_103 : zt_code zq_T 85 103 = some (.ifCond .eq (7), 3, 0) := by decide +kernel
theorem cd_85_106 : zt_code zq_T 85 106 = some (.iconst 1, 1, 0) := by decide +kernel
theorem cd_85_107 : zt_code zq_T 85 107 = some (.goto (4), 3, 0) := by decide +kernel
theorem cd_85_110 : zt_code zq_T 85 110 = some (.iconst 0, 1, 0) := by decide +kernel
theorem cd_85_111 : zt_code zq_T 85 111 = some (.ireturn, 1, 0) := by decide +kernel
theorem cd_85_112 : zt_code zq_T 85 112 = some (.aload_n 0, 1, 0) := by decide +kernel
theorem cd_85_113 : zt_code zq_T 85 113 = some (.iload_n 1, 1, 0) := by decide +kernel
theorem cd_85_114 : zt_code zq_T 85 114 = some (.iload_n 2, 1, 0) := by decide +kernel
theorem cd_85_115 : zt_code zq_T 85 115 = some (.invokevirtual 389, 3, 0) := by decide +kernel
theorem cd_85_118 : zt_code zq_T 85 118 = some (.ifCond .eq (7), 3, 0) := by decide +kernel
theorem cd_85_121 : zt_code zq_T 85 121 = some (.iconst 1, 1, 0) := by decide +kernel
theorem cd_85_122 : zt_code zq_T 85 122 = some (.goto (4), 3, 0) := by decide +kernel
theorem cd_85_125 : zt_code zq_T 85 125 = some (.iconst 0, 1, 0) := by decide +kernel
theorem cd_85_126 : zt_code zq_T 85 126 = some (.ireturn, 1, 0) := by decide +kernel
theorem cd_85_127 : zt_code zq_T 85 127 = some (.aload_n 0, 1, 0) := by decide +kernel
theorem cd_85_128 : zt_code zq_T 85 128 = some (.iload_n 1, 1, 0) := by decide +kernel
theorem cd_85_129 : zt_code zq_T 85 129 = some (.iload_n 2, 1, 0) := by decide +kernel
theorem cd_85_130 : zt_code zq_T 85 130 = some (.invokevirtual 392, 3, 0) := by decide +kernel
theorem cd_85_133 : zt_code zq_T 85 133 = some (.ireturn, 1, 0) := by decide +kernel
theorem cd_85_134 : zt_code zq_T 85 134 = some (.aload_n 0, 1, 0) := by decide +kernel
theorem cd_85_135 : zt_code zq_T 85 135 = some (.iload_n 1, 1, 0) := by decide +kernel
theorem cd_85_136 : zt_code zq_T 85 136 = some (.iload_n 2, 1, 0) := by decide +kernel
theorem cd_85_137 : zt_code zq_T 85 137 = some (.iconst 0, 1, 0) := by decide +kernel
theorem cd_85_138 : zt_code zq_T 85 138 = some (.invokevirtual 395, 3, 0) := by decide +kernel
theorem cd_85_141 : zt_code zq_T 85 141 = some (.ireturn, 1, 0) := by decide +kernel
theorem cd_85_142 : zt_code zq_T 85 142 = some (.aload_n 0, 1, 0) := by decide +kernel
theorem cd_85_143 : zt_code zq_T 85 143 = some (.iload_n 1, 1, 0) := by decide +kernel
theorem cd_85_144 : zt_code zq_T 85 144 = some (.iload_n 2, 1, 0) := by decide +kernel
theorem cd_85_145 : zt_code zq_T 85 145 = some (.iconst 1, 1, 0) := by decide +kernel
theorem cd_85_146 : zt_code zq_T 85 146 = some (.invokevirtual 395, 3, 0) := by decide +kernel
theorem cd_85_149 : zt_code zq_T 85 149 = some (.ireturn, 1, 0) := by decide +kernel
theorem cd_85_150 : zt_code zq_T 85 150 = some (.aload_n 0, 1, 0) := by decide +kernel
theorem cd_85_151 : zt_code zq_T 85 151 = some (.aload_n 0, 1, 0) := by decide +kernel
theorem cd_85_152 : zt_code zq_T 85 152 = some (.iload_n 1, 1, 0) := by decide +kernel
theorem cd_85_153 : zt_code zq_T 85 153 = some (.iload_n 2, 1, 0) := by decide +kernel
theorem cd_85_154 : zt_code zq_T 85 154 = some (.invokevirtual 249, 3, 0) := by decide +kernel
theorem cd_85_157 : zt_code zq_T 85 157 = some (.invokevirtual 399, 3, 0) := by decide +kernel
theorem cd_85_160 : zt_code zq_T 85 160 = some (.ireturn, 1, 0) := by decide +kernel
theorem cd_86_0 : zt_code zq_T 86 0 = some (.aload_n 0, 1, 0) := by decide +kernel
theorem cd_86_1 : zt_code zq_T 86 1 = some (.iconst 0, 1, 0) := by decide +kernel
theorem cd_86_2 : zt_code zq_T 86 2 = some (.putfield 114, 3, 0) := by decide +kernel
theorem cd_86_5 : zt_code zq_T 86 5 = some (.aload_n 0, 1, 0) := by decide +kernel
theorem cd_86_6 : zt_code zq_T 86 6 = some (.iload_n 1, 1, 0) := by decide +kernel
theorem cd_86_7 : zt_code zq_T 86 7 = some (.invokevirtual 357, 3, 0) := by decide +kernel
theorem cd_86_10 : zt_code zq_T 86 10 = some (.ifCond .eq (33), 3, 0) := by decide +kernel
theorem cd_86_13 : zt_code zq_T 86 13 = some (.iload_n 2, 1, 0) := by decide +kernel
theorem cd_86_14 : zt_code zq_T 86 14 = some (.i2l, 1, 0) := by decide +kernel
theorem cd_86_15 : zt_code zq_T 86 15 = some (.lconst 0, 1, 0) := by decide +kernel
theorem cd_86_16 : zt_code zq_T 86 16 = some (.aload_n 0, 1, 0) := by decide +kernel
theorem cd_86_17 : zt_code zq_T 86 17 = some (.iload_n 1, 1, 0) := by decide +kernel
theorem cd_86_18 : zt_code zq_T 86 18 = some (.iconst 3, 1, 0) := by decide +kernel
theorem cd_86_19 : zt_code zq_T 86 19 = some (.invokevirtual 258, 3, 0) := by decide +kernel
theorem cd_86_22 : zt_code zq_T 86 22 = some (.iconst 1, 1, 0) := by decide +kernel
theorem cd_86_23 : zt_code zq_T 86 23 = some (.isub, 1, 0) := by decide +kernel
theorem cd_86_24 : zt_code zq_T 86 24 = some (.i2l, 1, 0) := by decide +kernel
theorem cd_86_25 : zt_code zq_T 86 25 = some (.invokestatic 204, 3, 0) := by decide +kernel
theorem cd_86_28 : zt_code zq_T 86 28 = some (.ifCond .eq (15), 3, 0) := by decide +kernel
theorem cd_86_31 : zt_code zq_T 86 31 = some (.iload_n 3, 1, 0) := by decide +kernel
theorem cd_86_32 : zt_code zq_T 86 32 = some (.i2l, 1, 0) := by decide +kernel
theorem cd_86_33 : zt_code zq_T 86 33 = some (.lconst 0, 1, 0) := by decide +kernel
theorem cd_86_34 : zt_code zq_T 86 34 = some (.ldc2_w 402, 3, 0) := by decide +kernel
theorem cd_86_37 : zt_code zq_T 86 37 = some (.invokestatic 204, 3, 0) := by decide +kernel
theorem cd_86_40 : zt_code zq_T 86 40 = some (.ifCond .ne (6), 3, 0) := by decide +kernel
theorem cd_86_43 : zt_code zq_T 86 43 = some (.bipush (-2), 2, 0) := by decide +kernel
theorem cd_86_45 : zt_code zq_T 86 45 = some (.ireturn, 1, 0) := by decide +kernel
theorem cd_86_46 : zt_code zq_T 86 46 = some (.iload_n 3, 1, 0) := by decide +kernel
theorem cd_86_47 : zt_code zq_T 86 47 = some (.tableswitch (66) (0) (3) #[29, 36, 43, 54], 29, 0) := by decide +kernel
theorem cd_86_76 : zt_code zq_T 86 76 = some (.aload_n 0, 1, 0) := by decide +kernel
theorem cd_86_77 : zt_code zq_T 86 77 = some (.iload_n 1, 1, 0) := by decide +kernel
theorem cd_86_78 : zt_code zq_T 86 78 = some (.iload_n 2, 1, 0) := by decide +kernel
theorem cd_86_79 : zt_code zq_T 86 79 = some (.invokevirtual 242, 3, 0) := by decide +kernel
theorem cd_86_82 : zt_code zq_T 86 82 = some (.ireturn, 1, 0) := by decide +kernel
theorem cd_86_83 : zt_code zq_T 86 83 = some (.aload_n 0, 1, 0) := by decide +kernel
theorem cd_86_84 : zt_code zq_T 86 84 = some (.iload_n 1, 1, 0) := by decide +kernel
theorem cd_86_85 : zt_code zq_T 86 85 = some (.iload_n 2, 1, 0) := by decide +kernel
theorem cd_86_86 : zt_code zq_T 86 86 = some (.invokevirtual 275, 3, 0) := by decide +kernel
theorem cd_86_89 : zt_code zq_T 86 89 = some (.ireturn, 1, 0) := by decide +kernel
theorem cd_86_90 : zt_code zq_T 86 90 = some (.aload_n 0, 1, 0) := by decide +kernel
theorem cd_86_91 : zt_code zq_T 86 91 = some (.aload_n 0, 1, 0) := by decide +kernel
theorem cd_86_92 : zt_code zq_T 86 92 = some (.iload_n 1, 1, 0) := by decide +kernel
theorem cd_86_93 : zt_code zq_T 86 93 = some (.iload_n 2, 1, 0) := by decide +kernel
theorem cd_86_94 : zt_code zq_T 86 94 = some (.invokevirtual 384, 3, 0) := by decide +kernel
theorem cd_86_97 : zt_code zq_T 86 97 = some (.invokevirtual 381, 3, 0) := by decide +kernel
theorem cd_86_100 : zt_code zq_T 86 100 = some (.ireturn, 1, 0) := by decide +kernel
theorem cd_86_101 : zt_code zq_T 86 101 = some (.aload_n 0, 1, 0) := by decide +kernel
theorem cd_86_102 : zt_code zq_T 86 102 = some (.iload_n 1, 1, 0) := by decide +kernel
theorem cd_86_103 : zt_code zq_T 86 103 = some (.aload_n 0, 1, 0) := by decide +kernel
theorem cd_86_104 : zt_code zq_T 86 104 = some (.iload_n 1, 1, 0) := by decide +kernel
theorem cd_86_105 : zt_code zq_T 86 105 = some (.iload_n 2, 1, 0) := by decide +kernel
theorem cd_86_106 : zt_code zq_T 86 106 = some (.invokevirtual 384, 3, 0) := by decide +kernel
theorem cd_86_109 : zt_code zq_T 86 109 = some (.invokevirtual 404, 3, 0) := by decide +kernel
theorem cd_86_112 : zt_code zq_T 86 112 = some (.ireturn, 1, 0) := by decide +kernel
theorem cd_86_113 : zt_code zq_T 86 113 = some (.aload_n 0, 1, 0) := by decide +kernel
theorem cd_86_114 : zt_code zq_T 86 114 = some (.iload_n 1, 1, 0) := by decide +kernel
theorem cd_86_115 : zt_code zq_T 86 115 = some (.aload_n 0, 1, 0) := by decide +kernel
theorem cd_86_116 : zt_code zq_T 86 116 = some (.aload_n 0, 1, 0) := by decide +kernel
theorem cd_86_117 : zt_code zq_T 86 117 = some (.iload_n 1, 1, 0) := by decide +kernel
theorem cd_86_118 : zt_code zq_T 86 118 = some (.iload_n 2, 1, 0) := by decide +kernel
theorem cd_86_119 : zt_code zq_T 86 119 = some (.invokevirtual 384, 3, 0) := by decide +kernel
theorem cd_86_122 : zt_code zq_T 86 122 = some (.iconst 3, 1, 0) := by decide +kernel
theorem cd_86_123 : zt_code zq_T 86 123 = some (.invokevirtual 240, 3, 0) := by decide +kernel
theorem cd_86_126 : zt_code zq_T 86 126 = some (.invokevirtual 245, 3, 0) := by decide +kernel
theorem cd_86_129 : zt_code zq_T 86 129 = some (.ifCond .eq (7), 3, 0) := by decide +kernel
theorem cd_86_132 : zt_code zq_T 86 132 = some (.iconst 1, 1, 0) := by decide +kernel
theorem cd_86_133 : zt_code zq_T 86 133 = some (.goto (4), 3, 0) := by decide +kernel
theorem cd_86_136 : zt_code zq_T 86 136 = some (.iconst 0, 1, 0) := by decide +kernel
theorem cd_86_137 : zt_code zq_T 86 137 = some (.ireturn, 1, 0) := by decide +kernel
theorem cd_87_0 : zt_code zq_T 87 0 = some (.aload_n 0, 1, 0) := by decide +kernel
theorem cd_87_1 : zt_code zq_T 87 1 = some (.iconst 0, 1, 0) := by decide +kernel
theorem cd_87_2 : zt_code zq_T 87 2 = some (.putfield 114, 3, 0) := by decide +kernel
theorem cd_87_5 : zt_code zq_T 87 5 = some (.aload_n 0, 1, 0) := by decide +kernel
theorem cd_87_6 : zt_code zq_T 87 6 = some (.iload_n 1, 1, 0) := by decide +kernel
theorem cd_87_7 : zt_code zq_T 87 7 = some (.invokevirtual 357, 3, 0) := by decide +kernel
theorem cd_87_10 : zt_code zq_T 87 10 = some (.ifCond .eq (33), 3, 0) := by decide +kernel
theorem cd_87_13 : zt_code zq_T 87 13 = some (.iload_n 2, 1, 0) := by decide +kernel
theorem cd_87_14 : zt_code zq_T 87 14 = some (.i2l, 1, 0) := by decide +kernel
theorem cd_87_15 : zt_code zq_T 87 15 = some (.lconst 0, 1, 0) := by decide +kernel
theorem cd_87_16 : zt_code zq_T 87 16 = some (.aload_n 0, 1, 0) := by decide +kernel
theorem cd_87_17 : zt_code zq_T 87 17 = some (.iload_n 1, 1, 0) := by decide +kernel
theorem cd_87_18 : zt_code zq_T 87 18 = some (.iconst 4, 1, 0) := by decide +kernel
theorem cd_87_19 : zt_code zq_T 87 19 = some (.invokevirtual 258, 3, 0) := by decide +kernel
theorem cd_87_22 : zt_code zq_T 87 22 = some (.iconst 1, 1, 0) := by decide +kernel
theorem cd_87_23 : zt_code zq_T 87 23 = some (.isub, 1, 0) := by decide +kernel
theorem cd_87_24 : zt_code zq_T 87 24 = some (.i2l, 1, 0) := by decide +kernel
theorem cd_87_25 : zt_code zq_T 87 25 = some (.invokestatic 204, 3, 0) := by decide +kernel
theorem cd_87_28 : zt_code zq_T 87 28 = some (.ifCond .eq (15), 3, 0) := by decide +kernel
theorem cd_87_31 : zt_code zq_T 87 31 = some (.iload_n 3, 1, 0) := by decide +kernel
theorem cd_87_32 : zt_code zq_T 87 32 = some (.i2l, 1, 0) := by decide +kernel
theorem cd_87_33 : zt_code zq_T 87 33 = some (.lconst 0, 1, 0) := by decide +kernel
theorem cd_87_34 : zt_code zq_T 87 34 = some (.ldc2_w 402, 3, 0) := by decide +kernel
theorem cd_87_37 : zt_code zq_T 87 37 = some (.invokestatic 204, 3, 0) := by decide +kernel
theorem cd_87_40 : zt_code zq_T 87 40 = some (.ifCond .ne (5), 3, 0) := by decide +kernel
theorem cd_87_43 : zt_code zq_T 87 43 = some (.iconst (-1), 1, 0) := by decide +kernel
theorem cd_87_44 : zt_code zq_T 87 44 = some (.ireturn, 1, 0) := by decide +kernel
theorem cd_87_45 : zt_code zq_T 87 45 = some (.iconst 0, 1, 0) := by decide +kernel
theorem cd_87_46 : zt_code zq_T 87 46 = some (.istore 4, 2, 0) := by decide +kernel
theorem cd_87_48 : zt_code zq_T 87 48 = some (.aload_n 0, 1, 0) := by decide +kernel
theorem cd_87_49 : zt_code zq_T 87 49 = some (.aload_n 0, 1, 0) := by decide +kernel
theorem cd_87_50 : zt_code zq_T 87 50 = some (.getfield 38, 3, 0) := by decide +kernel
theorem cd_87_53 : zt_code zq_T 87 53 = some (.iconst 4, 1, 0) := by decide +kernel
theorem cd_87_54 : zt_code zq_T 87 54 = some (.iload_n 1, 1, 0) := by decide +kernel
theorem cd_87_55 : zt_code zq_T 87 55 = some (.imul, 1, 0) := by decide +kernel
theorem cd_87_56 : zt_code zq_T 87 56 = some (.iload_n 2, 1, 0) := by decide +kernel
theorem cd_87_57 : zt_code zq_T 87 57 = some (.iadd, 1, 0) := by decide +kernel
theorem cd_87_58 : zt_code zq_T 87 58 = some (.iaload, 1, 0) := by decide +kernel
theorem cd_87_59 : zt_code zq_T 87 59 = some (.iconst 3, 1, 0) := by decide +kernel
theorem cd_87_60 : zt_code zq_T 87 60 = some (.invokevirtual 240, 3, 0) := by decide +kernel
theorem cd_87_63 : zt_code zq_T 87 63 = some (.istore 5, 2, 0) := by decide +kernel
theorem cd_87_65 : zt_code zq_T 87 65 = some (.iload 5, 2, 0) := by decide +kernel
theorem cd_87_67 : zt_code zq_T 87 67 = some (.iconst (-1), 1, 0) := by decide +kernel
theorem cd_87_68 : zt_code zq_T 87 68 = some (.if_icmp .eq (32), 3, 0) := by decide +kernel
theorem cd_87_71 : zt_code zq_T 87 71 = some (.iinc 4 (1), 3, 0) := by decide +kernel
theorem cd_87_74 : zt_code zq_T 87 74 = some (.iload 4, 2, 0) := by decide +kernel
theorem cd_87_76 : zt_code zq_T 87 76 = some (.iload_n 3, 1, 0) := by decide +kernel
theorem cd_87_77 : zt_code zq_T 87 77 = some (.if_icmp .ne (11), 3, 0) := by decide +kernel
theorem cd_87_80 : zt_code zq_T 87 80 = some (.aload_n 0, 1, 0) := by decide +kernel
theorem cd_87_81 : zt_code zq_T 87 81 = some (.iload_n 1, 1, 0) := by decide +kernel
theorem cd_87_82 : zt_code zq_T 87 82 = some (.iload 5, 2, 0) := by decide +kernel
theorem cd_87_84 : zt_code zq_T 87 84 = some (.invokevirtual 404, 3, 0) := by decide +kernel
theorem cd_87_87 : zt_code zq_T 87 87 = some (.ireturn, 1, 0) := by decide +kernel
theorem cd_87_88 : zt_code zq_T 87 88 = some (.aload_n 0, 1, 0) := by decide +kernel
theorem cd_87_89 : zt_code zq_T 87 89 = some (.iload 5, 2, 0) := by decide +kernel
theorem cd_87_91 : zt_code zq_T 87 91 = some (.iconst 4, 1, 0) := by decide +kernel
theorem cd_87_92 : zt_code zq_T 87 92 = some (.invokevirtual 240, 3, 0) := by decide +kernel
theorem cd_87_95 : zt_code zq_T 87 95 = some (.istore 5, 2, 0) := by decide +kernel
theorem cd_87_97 : zt_code zq_T 87 97 = some (.goto (-32), 3, 0) := by decide +kernel
theorem cd_87_100 : zt_code zq_T 87 100 = some (.iload_n 3, 1, 0) := by decide +kernel
theorem cd_87_101 : zt_code zq_T 87 101 = some (.ifCond .ne (8), 3, 0) := by decide +kernel
theorem cd_87_104 : zt_code zq_T 87 104 = some (.iload 4, 2, 0) := by decide +kernel
theorem cd_87_106 : zt_code zq_T 87 106 = some (.goto (4), 3, 0) := by decide +kernel
theorem cd_87_109 : zt_code zq_T 87 109 = some (.iconst (-1), 1, 0) := by decide +kernel
theorem cd_87_110 : zt_code zq_T 87 110 = some (.ireturn, 1, 0) := by decide +kernel
theorem cd_88_0 : zt_code zq_T 88 0 = some (.aload_n 0, 1, 0) := by decide +kernel
theorem cd_88_1 : zt_code zq_T 88 1 = some (.iconst 0, 1, 0) := by decide +kernel
theorem cd_88_2 : zt_code zq_T 88 2 = some (.putfield 114, 3, 0) := by decide +kernel
theorem cd_88_5 : zt_code zq_T 88 5 = some (.aload_n 0, 1, 0) := by decide +kernel
theorem cd_88_6 : zt_code zq_T 88 6 = some (.iload_n 1, 1, 0) := by decide +kernel
theorem cd_88_7 : zt_code zq_T 88 7 = some (.invokevirtual 357, 3, 0) := by decide +kernel
theorem cd_88_10 : zt_code zq_T 88 10 = some (.ifCond .eq (25), 3, 0) := by decide +kernel
theorem cd_88_13 : zt_code zq_T 88 13 = some (.iload_n 2, 1, 0) := by decide +kernel
theorem cd_88_14 : zt_code zq_T 88 14 = some (.ifCond .lt (21), 3, 0) := by decide +kernel
theorem cd_88_17 : zt_code zq_T 88 17 = some (.iload_n 2, 1, 0) := by decide +kernel
theorem cd_88_18 : zt_code zq_T 88 18 = some (.aload_n 0, 1, 0) := by decide +kernel
theorem cd_88_19 : zt_code zq_T 88 19 = some (.iload_n 1, 1, 0) := by decide +kernel
theorem cd_88_20 : zt_code zq_T 88 20 = some (.invokevirtual 375, 3, 0) := by decide +kernel
theorem cd_88_23 : zt_code zq_T 88 23 = some (.if_icmp .ge (12), 3, 0) := by decide +kernel
theorem cd_88_26 : zt_code zq_T 88 26 = some (.aload_n 0, 1, 0) := by decide +kernel
theorem cd_88_27 : zt_code zq_T 88 27 = some (.getfield 62, 3, 0) := by decide +kernel
theorem cd_88_30 : zt_code zq_T 88 30 = some (.iload_n 2, 1, 0) := by decide +kernel
theorem cd_88_31 : zt_code zq_T 88 31 = some (.baload, 1, 0) := by decide +kernel
theorem cd_88_32 : zt_code zq_T 88 32 = some (.goto (4), 3, 0) := by decide +kernel
theorem cd_88_35 : zt_code zq_T 88 35 = some (.iconst (-1), 1, 0) := by decide +kernel
theorem cd_88_36 : zt_code zq_T 88 36 = some (.ireturn, 1, 0) := by decide +kernel
theorem cd_89_0 : zt_code zq_T 89 0 = some (.iconst 0, 1, 0) := by decide +kernel
theorem cd_89_1 : zt_code zq_T 89 1 = some (.istore_n 2, 1, 0) := by decide +kernel
theorem cd_89_2 : zt_code zq_T 89 2 = some (.iload_n 2, 1, 0) := by decide +kernel
theorem cd_89_3 : zt_code zq_T 89 3 = some (.bipush (13), 2, 0) := by decide +kernel
theorem cd_89_5 : zt_code zq_T 89 5 = some (.if_icmp .ge (26), 3, 0) := by decide +kernel
theorem cd_89_8 : zt_code zq_T 89 8 = some (.aload_n 0, 1, 0) := by decide +kernel
theorem cd_89_9 : zt_code zq_T 89 9 = some (.getfield 81, 3, 0) := by decide +kernel
theorem cd_89_12 : zt_code zq_T 89 12 = some (.iload_n 1, 1, 0) := by decide +kernel
theorem cd_89_13 : zt_code zq_T 89 13 = some (.iload_n 2, 1, 0) := by decide +kernel
theorem cd_89_14 : zt_code zq_T 89 14 = some (.iadd, 1, 0) := by decide +kernel
theorem cd_89_15 : zt_code zq_T 89 15 = some (.iload_n 2, 1, 0) := by decide +kernel
theorem cd_89_16 : zt_code zq_T 89 16 = some (.ifCond .ne (7), 3, 0) := by decide +kernel
theorem cd_89_19 : zt_code zq_T 89 19 = some (.iconst (-1), 1, 0) := by decide +kernel
theorem cd_89_20 : zt_code zq_T 89 20 = some (.goto (4), 3, 0) := by decide +kernel
theorem cd_89_23 : zt_code zq_T 89 23 = some (.iconst 0, 1, 0) := by decide +kernel
theorem cd_89_24 : zt_code zq_T 89 24 = some (.iastore, 1, 0) := by decide +kernel
theorem cd_89_25 : zt_code zq_T 89 25 = some (.iinc 2 (1), 3, 0) := by decide +kernel
theorem cd_89_28 : zt_code zq_T 89 28 = some (.goto (-26), 3, 0) := by decide +kernel
theorem cd_89_31 : zt_code zq_T 89 31 = some (.return_, 1, 0) := by decide +kernel
theorem cd_90_0 : zt_code zq_T 90 0 = some (.aload_n 0, 1, 0) := by decide +kernel
theorem cd_90_1 : zt_code zq_T 90 1 = some (.getfield 81, 3, 0) := by decide +kernel
theorem cd_90_4 : zt_code zq_T 90 4 = some (.iload_n 1, 1, 0) := by decide +kernel
theorem cd_90_5 : zt_code zq_T 90 5 = some (.iconst 1, 1, 0) := by decide +kernel
theorem cd_90_6 : zt_code zq_T 90 6 = some (.iadd, 1, 0) := by decide +kernel
theorem cd_90_7 : zt_code zq_T 90 7 = some (.aload_n 0, 1, 0) := by decide +kernel
theorem cd_90_8 : zt_code zq_T 90 8 = some (.iload_n 2, 1, 0) := by decide +kernel
theorem cd_90_9 : zt_code zq_T 90 9 = some (.iconst 1, 1, 0) := by decide +kernel
theorem cd_90_10 : zt_code zq_T 90 10 = some (.invokevirtual 240, 3, 0) := by decide +kernel
theorem cd_90_13 : zt_code zq_T 90 13 = some (.iadd, 1, 0) := by decide +kernel
theorem cd_90_14 : zt_code zq_T 90 14 = some (.iaload, 1, 0) := by decide +kernel
theorem cd_90_15 : zt_code zq_T 90 15 = some (.ireturn, 1, 0) := by decide +kernel
theorem cd_91_0 : zt_code zq_T 91 0 = some (.aload_n 0, 1, 0) := by decide +kernel
theorem cd_91_1 : zt_code zq_T 91 1 = some (.getfield 81, 3, 0) := by decide +kernel
theorem cd_91_4 : zt_code zq_T 91 4 = some (.iload_n 1, 1, 0) := by decide +kernel
theorem cd_91_5 : zt_code zq_T 91 5 = some (.bipush (9), 2, 0) := by decide +kernel
theorem cd_91_7 : zt_code zq_T 91 7 = some (.iadd, 1, 0) := by decide +kernel
theorem cd_91_8 : zt_code zq_T 91 8 = some (.aload_n 0, 1, 0) := by decide +kernel
theorem cd_91_9 : zt_code zq_T 91 9 = some (.iload_n 2, 1, 0) := by decide +kernel
theorem cd_91_10 : zt_code zq_T 91 10 = some (.iconst 1, 1, 0) := by decide +kernel
theorem cd_91_11 : zt_code zq_T 91 11 = some (.invokevirtual 240, 3, 0) := by decide +kernel
theorem cd_91_14 : zt_code zq_T 91 14 = some (.iadd, 1, 0) := by decide +kernel
theorem cd_91_15 : zt_code zq_T 91 15 = some (.iaload, 1, 0) := by decide +kernel
theorem cd_91_16 : zt_code zq_T 91 16 = some (.ireturn, 1, 0) := by decide +kernel
theorem cd_92_0 : zt_code zq_T 92 0 = some (.aload_n 0, 1, 0) := by decide +kernel
theorem cd_92_1 : zt_code zq_T 92 1 = some (.iload_n 3, 1, 0) := by decide +kernel
theorem cd_92_2 : zt_code zq_T 92 2 = some (.iconst 0, 1, 0) := by decide +kernel
theorem cd_92_3 : zt_code zq_T 92 3 = some (.invokevirtual 240, 3, 0) := by decide +kernel
theorem cd_92_6 : zt_code zq_T 92 6 = some (.iconst 5, 1, 0) := by decide +kernel
theorem cd_92_7 : zt_code zq_T 92 7 = some (.if_icmp .ne (43), 3, 0) := by decide +kernel
theorem cd_92_10 : zt_code zq_T 92 10 = some (.aload_n 0, 1, 0) := by decide +kernel
theorem cd_92_11 : zt_code zq_T 92 11 = some (.iload_n 1, 1, 0) := by decide +kernel
theorem cd_92_12 : zt_code zq_T 92 12 = some (.aload_n 0, 1, 0) := by decide +kernel
theorem cd_92_13 : zt_code zq_T 92 13 = some (.iload_n 3, 1, 0) := by decide +kernel
theorem cd_92_14 : zt_code zq_T 92 14 = some (.iconst 3, 1, 0) := by decide +kernel
theorem cd_92_15 : zt_code zq_T 92 15 = some (.invokevirtual 240, 3, 0) := by decide +kernel
theorem cd_92_18 : zt_code zq_T 92 18 = some (.invokevirtual 245, 3, 0) := by decide +kernel
theorem cd_92_21 : zt_code zq_T 92 21 = some (.ifCond .ne (23), 3, 0) := by decide +kernel
theorem cd_92_24 : zt_code zq_T 92 24 = some (.aload_n 0, 1, 0) := by decide +kernel
theorem cd_92_25 : zt_code zq_T 92 25 = some (.iload_n 2, 1, 0) := by decide +kernel
theorem cd_92_26 : zt_code zq_T 92 26 = some (.iload_n 3, 1, 0) := by decide +kernel
theorem cd_92_27 : zt_code zq_T 92 27 = some (.invokevirtual 407, 3, 0) := by decide +kernel
theorem cd_92_30 : zt_code zq_T 92 30 = some (.aload_n 0, 1, 0) := by decide +kernel
theorem cd_92_31 : zt_code zq_T 92 31 = some (.iload_n 1, 1, 0) := by decide +kernel
theorem cd_92_32 : zt_code zq_T 92 32 = some (.aload_n 0, 1, 0) := by decide +kernel
theorem cd_92_33 : zt_code zq_T 92 33 = some (.iload_n 3, 1, 0) := by decide +kernel
theorem cd_92_34 : zt_code zq_T 92 34 = some (.iconst 1, 1, 0) := by decide +kernel
theorem cd_92_35 : zt_code zq_T 92 35 = some (.invokevirtual 240, 3, 0) := by decide +kernel
theorem cd_92_38 : zt_code zq_T 92 38 = some (.invokevirtual 242, 3, 0) := by decide +kernel
theorem cd_92_41 : zt_code zq_T 92 41 = some (.if_icmp .lt (7), 3, 0) := by decide +kernel
theorem cd_92_44 : zt_code zq_T 92 44 = some (.iconst 1, 1, 0) := by decide +kernel
theorem cd_92_45 : zt_code zq_T 92 45 = some (.goto (4), 3, 0) := by decide +kernel
theorem cd_92_48 : zt_code zq_T 92 48 = some (.iconst 0, 1, 0) := by decide +kernel
theorem cd_92_49 : zt_code zq_T 92 49 = some (.ireturn, 1, 0) := by decide +kernel
theorem cd_92_50 : zt_code zq_T 92 50 = some (.aload_n 0, 1, 0) := by decide +kernel
theorem cd_92_51 : zt_code zq_T 92 51 = some (.iload_n 3, 1, 0) := by decide +kernel
theorem cd_92_52 : zt_code zq_T 92 52 = some (.iconst 0, 1, 0) := by decide +kernel
theorem cd_92_53 : zt_code zq_T 92 53 = some (.invokevirtual 240, 3, 0) := by decide +kernel
theorem cd_92_56 : zt_code zq_T 92 56 = some (.iconst 4, 1, 0) := by decide +kernel
theorem cd_92_57 : zt_code zq_T 92 57 = some (.if_icmp .eq (5), 3, 0) := by decide +kernel
theorem cd_92_60 : zt_code zq_T 92 60 = some (.iconst 1, 1, 0) := by decide +kernel
theorem cd_92_61 : zt_code zq_T 92 61 = some (.ireturn, 1, 0) := by decide +kernel
theorem cd_92_62 : zt_code zq_T 92 62 = some (.iconst 0, 1, 0) := by decide +kernel
theorem cd_92_63 : zt_code zq_T 92 63 = some (.istore 4, 2, 0) := by decide +kernel
theorem cd_92_65 : zt_code zq_T 92 65 = some (.aload_n 0, 1, 0) := by decide +kernel
theorem cd_92_66 : zt_code zq_T 92 66 = some (.iload_n 3, 1, 0) := by decide +kernel
theorem cd_92_67 : zt_code zq_T 92 67 = some (.iconst 3, 1, 0) := by decide +kernel
theorem cd_92_68 : zt_code zq_T 92 68 = some (.invokevirtual 240, 3, 0) := by decide +kernel
theorem cd_92_71 : zt_code zq_T 92 71 = some (.istore 5, 2, 0) := by decide +kernel
theorem cd_92_73 : zt_code zq_T 92 73 = some (.iload 5, 2, 0) := by decide +kernel
theorem cd_92_75 : zt_code zq_T 92 75 = some (.iconst (-1), 1, 0) := by decide +kernel
theorem cd_92_76 : zt_code zq_T 92 76 = some (.if_icmp .eq (44), 3, 0) := by decide +kernel
theorem cd_92_79 : zt_code zq_T 92 79 = some (.aload_n 0, 1, 0) := by decide +kernel
theorem cd_92_80 : zt_code zq_T 92 80 = some (.iload_n 2, 1, 0) := by decide +kernel
theorem cd_92_81 : zt_code zq_T 92 81 = some (.iload_n 3, 1, 0) := by decide +kernel
theorem cd_92_82 : zt_code zq_T 92 82 = some (.invokevirtual 410, 3, 0) := by decide +kernel
theorem cd_92_85 : zt_code zq_T 92 85 = some (.iload 4, 2, 0) := by decide +kernel
theorem cd_92_87 : zt_code zq_T 92 87 = some (.invokestatic 413, 3, 0) := by decide +kernel
theorem cd_92_90 : zt_code zq_T 92 90 = some (.ifCond .ne (15), 3, 0) := by decide +kernel
theorem cd_92_93 : zt_code zq_T 92 93 = some (.aload_n 0, 1, 0) := by decide +kernel
theorem cd_92_94 : zt_code zq_T 92 94 = some (.iload_n 1, 1, 0) := by decide +kernel
theorem cd_92_95 : zt_code zq_T 92 95 = some (.iload 5, 2, 0) := by decide +kernel
theorem cd_92_97 : zt_code zq_T 92 97 = some (.invokevirtual 245, 3, 0) := by decide +kernel
theorem cd_92_100 : zt_code zq_T 92 100 = some (.ifCond .ne (5), 3, 0) := by decide +kernel
theorem cd_92_103 : zt_code zq_T 92 103 = some (.iconst 0, 1, 0) := by decide +kernel
theorem cd_92_104 : zt_code zq_T 92 104 = some (.ireturn, 1, 0) := by decide +kernel
theorem cd_92_105 : zt_code zq_T 92 105 = some (.iinc 4 (1), 3, 0) := by decide +kernel
theorem cd_92_108 : zt_code zq_T 92 108 = some (.aload_n 0, 1, 0) := by decide +kernel
theorem cd_92_109 : zt_code zq_T 92 109 = some (.iload 5, 2, 0) := by decide +kernel
theorem cd_92_111 : zt_code zq_T 92 111 = some (.iconst 4, 1, 0) := by decide +kernel
theorem cd_92_112 : zt_code zq_T 92 112 = some (.invokevirtual 240, 3, 0) := by decide +kernel
theorem cd_92_115 : zt_code zq_T 92 115 = some (.istore 5, 2, 0) := by decide +kernel
theorem cd_92_117 : zt_code zq_T 92 117 = some (.goto (-44), 3, 0) := by decide +kernel
theorem cd_92_120 : zt_code zq_T 92 120 = some (.iconst 1, 1, 0) := by decide +kernel
theorem cd_92_121 : zt_code zq_T 92 121 = some (.ireturn, 1, 0) := by decide +kernel
theorem cd_93_0 : zt_code zq_T 93 0 = some (.aload_n 0, 1, 0) := by decide +kernel
theorem cd_93_1 : zt_code zq_T 93 1 = some (.getfield 81, 3, 0) := by decide +kernel
theorem cd_93_4 : zt_code zq_T 93 4 = some (.iload_n 2, 1, 0) := by decide +kernel
theorem cd_93_5 : zt_code zq_T 93 5 = some (.iaload, 1, 0) := by decide +kernel
theorem cd_93_6 : zt_code zq_T 93 6 = some (.iconst (-1), 1, 0) := by decide +kernel
theorem cd_93_7 : zt_code zq_T 93 7 = some (.if_icmp .ne (5), 3, 0) := by decide +kernel
theorem cd_93_10 : zt_code zq_T 93 10 = some (.iconst 1, 1, 0) := by decide +kernel
theorem cd_93_11 : zt_code zq_T 93 11 = some (.ireturn, 1, 0) := by decide +kernel
theorem cd_93_12 : zt_code zq_T 93 12 = some (.aload_n 0, 1, 0) := by decide +kernel
theorem cd_93_13 : zt_code zq_T 93 13 = some (.getfield 56, 3, 0) := by decide +kernel
theorem cd_93_16 : zt_code zq_T 93 16 = some (.iload_n 3, 1, 0) := by decide +kernel
theorem cd_93_17 : zt_code zq_T 93 17 = some (.iaload, 1, 0) := by decide +kernel
theorem cd_93_18 : zt_code zq_T 93 18 = some (.istore 4, 2, 0) := by decide +kernel
theorem cd_93_20 : zt_code zq_T 93 20 = some (.aload_n 0, 1, 0) := by decide +kernel
theorem cd_93_21 : zt_code zq_T 93 21 = some (.aload_n 0, 1, 0) := by decide +kernel
theorem cd_93_22 : zt_code zq_T 93 22 = some (.iload_n 1, 1, 0) := by decide +kernel
theorem cd_93_23 : zt_code zq_T 93 23 = some (.aload_n 0, 1, 0) := by decide +kernel
theorem cd_93_24 : zt_code zq_T 93 24 = some (.getfield 81, 3, 0) := by decide +kernel
theorem cd_93_27 : zt_code zq_T 93 27 = some (.iload_n 2, 1, 0) := by decide +kernel
theorem cd_93_28 : zt_code zq_T 93 28 = some (.iaload, 1, 0) := by decide +kernel
theorem cd_93_29 : zt_code zq_T 93 29 = some (.invokevirtual 249, 3, 0) := by decide +kernel
theorem cd_93_32 : zt_code zq_T 93 32 = some (.iconst 2, 1, 0) := by decide +kernel
theorem cd_93_33 : zt_code zq_T 93 33 = some (.invokevirtual 240, 3, 0) := by decide +kernel
theorem cd_93_36 : zt_code zq_T 93 36 = some (.istore 5, 2, 0) := by decide +kernel
theorem cd_93_38 : zt_code zq_T 93 38 = some (.iload 5, 2, 0) := by decide +kernel
theorem cd_93_40 : zt_code zq_T 93 40 = some (.iload 4, 2, 0) := by decide +kernel
theorem cd_93_42 : zt_code zq_T 93 42 = some (.if_icmp .eq (28), 3, 0) := by decide +kernel
theorem cd_93_45 : zt_code zq_T 93 45 = some (.aload_n 0, 1, 0) := by decide +kernel
theorem cd_93_46 : zt_code zq_T 93 46 = some (.iload_n 1, 1, 0) := by decide +kernel
theorem cd_93_47 : zt_code zq_T 93 47 = some (.iload_n 2, 1, 0) := by decide +kernel
theorem cd_93_48 : zt_code zq_T 93 48 = some (.iload 5, 2, 0) := by decide +kernel
theorem cd_93_50 : zt_code zq_T 93 50 = some (.invokevirtual 416, 3, 0) := by decide +kernel
theorem cd_93_53 : zt_code zq_T 93 53 = some (.ifCond .ne (5), 3, 0) := by decide +kernel
theorem cd_93_56 : zt_code zq_T 93 56 = some (.iconst 0, 1, 0) := by decide +kernel
theorem cd_93_57 : zt_code zq_T 93 57 = some (.ireturn, 1, 0) := by decide +kernel
theorem cd_93_58 : zt_code zq_T 93 58 = some (.aload_n 0, 1, 0) := by decide +kernel
theorem cd_93_59 : zt_code zq_T 93 59 = some (.iload 5, 2, 0) := by decide +kernel
theorem cd_93_61 : zt_code zq_T 93 61 = some (.iconst 2, 1, 0) := by decide +kernel
theorem cd_93_62 : zt_code zq_T 93 62 = some (.invokevirtual 240, 3, 0) := by decide +kernel
theorem cd_93_65 : zt_code zq_T 93 65 = some (.istore 5, 2, 0) := by decide +kernel
theorem cd_93_67 : zt_code zq_T 93 67 = some (.goto (-29), 3, 0) := by decide +kernel
theorem cd_93_70 : zt_code zq_T 93 70 = some (.aload_n 0, 1, 0) := by decide +kernel
theorem cd_93_71 : zt_code zq_T 93 71 = some (.iload 4, 2, 0) := by decide +kernel
theorem cd_93_73 : zt_code zq_T 93 73 = some (.iconst 0, 1, 0) := by decide +kernel
theorem cd_93_74 : zt_code zq_T 93 74 = some (.invokevirtual 240, 3, 0) := by decide +kernel
theorem cd_93_77 : zt_code zq_T 93 77 = some (.iconst 4, 1, 0) := by decide +kernel
theorem cd_93_78 : zt_code zq_T 93 78 = some (.if_icmp .ne (34), 3, 0) := by decide +kernel
theorem cd_93_81 : zt_code zq_T 93 81 = some (.aload_n 0, 1, 0) := by decide +kernel
theorem cd_93_82 : zt_code zq_T 93 82 = some (.iload_n 2, 1, 0) := by decide +kernel
theorem cd_93_83 : zt_code zq_T 93 83 = some (.iload 4, 2, 0) := by decide +kernel
theorem cd_93_85 : zt_code zq_T 93 85 = some (.invokevirtual 410, 3, 0) := by decide +kernel
theorem cd_93_88 : zt_code zq_T 93 88 = some (.aload_n 0, 1, 0) := by decide +kernel
theorem cd_93_89 : zt_code zq_T 93 89 = some (.iload 4, 2, 0) := by decide +kernel
theorem cd_93_91 : zt_code zq_T 93 91 = some (.aload_n 0, 1, 0) := by decide +kernel
theorem cd_93_92 : zt_code zq_T 93 92 = some (.getfield 59, 3, 0) := by decide +kernel
theorem cd_93_95 : zt_code zq_T 93 95 = some (.iload_n 3, 1, 0) := by decide +kernel
theorem cd_93_96 : zt_code zq_T 93 96 = some (.iaload, 1, 0) := by decide +kernel
theorem cd_93_97 : zt_code zq_T 93 97 = some (.invokevirtual 419, 3, 0) := by decide +kernel
theorem cd_93_100 : zt_code zq_T 93 100 = some (.invokestatic 413, 3, 0) := by decide +kernel
theorem cd_93_103 : zt_code zq_T 93 103 = some (.ifCond .ne (7), 3, 0) := by decide +kernel
theorem cd_93_106 : zt_code zq_T 93 106 = some (.iconst 1, 1, 0) := by decide +kernel
theorem cd_93_107 : zt_code zq_T 93 107 = some (.goto (4), 3, 0) := by decide +kernel
theorem cd_93_110 : zt_code zq_T 93 110 = some (.iconst 0, 1, 0) := by decide +kernel
theorem cd_93_111 : zt_code zq_T 93 111 = some (.ireturn, 1, 0) := by decide +kernel
theorem cd_93_112 : zt_code zq_T 93 112 = some (.aload_n 0, 1, 0) := by decide +kernel
theorem cd_93_113 : zt_code zq_T 93 113 = some (.iload 4, 2, 0) := by decide +kernel
theorem cd_93_115 : zt_code zq_T 93 115 = some (.iconst 0, 1, 0) := by decide +kernel
theorem cd_93_116 : zt_code zq_T 93 116 = some (.invokevirtual 240, 3, 0) := by decide +kernel
theorem cd_93_119 : zt_code zq_T 93 119 = some (.iconst 5, 1, 0) := by decide +kernel
theorem cd_93_120 : zt_code zq_T 93 120 = some (.if_icmp .ne (18), 3, 0) := by decide +kernel
theorem cd_93_123 : zt_code zq_T 93 123 = some (.aload_n 0, 1, 0) := by decide +kernel
theorem cd_93_124 : zt_code zq_T 93 124 = some (.iload_n 1, 1, 0) := by decide +kernel
theorem cd_93_125 : zt_code zq_T 93 125 = some (.aload_n 0, 1, 0) := by decide +kernel
theorem cd_93_126 : zt_code zq_T 93 126 = some (.iload 4, 2, 0) := by decide +kernel
theorem cd_93_128 : zt_code zq_T 93 128 = some (.iconst 1, 1, 0) := by decide +kernel
theorem cd_93_129 : zt_code zq_T 93 129 = some (.invokevirtual 240, 3, 0) := by decide +kernel
theorem cd_93_132 : zt_code zq_T 93 132 = some (.invokevirtual 275, 3, 0) := by decide +kernel
theorem cd_93_135 : zt_code zq_T 93 135 = some (.goto (4), 3, 0) := by decide +kernel
theorem cd_93_138 : zt_code zq_T 93 138 = some (.iconst (-1), 1, 0) := by decide +kernel
theorem cd_93_139 : zt_code zq_T 93 139 = some (.istore 5, 2, 0) := by decide +kernel
theorem cd_93_141 : zt_code zq_T 93 141 = some (.iload 5, 2, 0) := by decide +kernel
theorem cd_93_143 : zt_code zq_T 93 143 = some (.iconst (-1), 1, 0) := by decide +kernel
theorem cd_93_144 : zt_code zq_T 93 144 = some (.if_icmp .eq (15), 3, 0) := by decide +kernel
theorem cd_93_147 : zt_code zq_T 93 147 = some (.aload_n 0, 1, 0) := by decide +kernel
theorem cd_93_148 : zt_code zq_T 93 148 = some (.iload_n 2, 1, 0) := by decide +kernel
theorem cd_93_149 : zt_code zq_T 93 149 = some (.iload 4, 2, 0) := by decide +kernel
theorem cd_93_151 : zt_code zq_T 93 151 = some (.invokevirtual 407, 3, 0) := by decide +kernel
theorem cd_93_154 : zt_code zq_T 93 154 = some (.iload 5, 2, 0) := by decide +kernel
theorem cd_93_156 : zt_code zq_T 93 156 = some (.if_icmp .ge (7), 3, 0) := by decide +kernel
theorem cd_93_159 : zt_code zq_T 93 159 = some (.iconst 1, 1, 0) := by decide +kernel
theorem cd_93_160 : zt_code zq_T 93 160 = some (.goto (4), 3, 0) := by decide +kernel
theorem cd_93_163 : zt_code zq_T 93 163 = some (.iconst 0, 1, 0) := by decide +kernel
theorem cd_93_164 : zt_code zq_T 93 164 = some (.ireturn, 1, 0) := by decide +kernel
theorem cd_94_0 : zt_code zq_T 94 0 = some (.aload_n 0, 1, 0) := by decide +kernel
theorem cd_94_1 : zt_code zq_T 94 1 = some (.getfield 81, 3, 0) := by decide +kernel
theorem cd_94_4 : zt_code zq_T 94 4 = some (.iload_n 2, 1, 0) := by decide +kernel
theorem cd_94_5 : zt_code zq_T 94 5 = some (.iaload, 1, 0) := by decide +kernel
theorem cd_94_6 : zt_code zq_T 94 6 = some (.iconst (-1), 1, 0) := by decide +kernel
theorem cd_94_7 : zt_code zq_T 94 7 = some (.if_icmp .ne (15), 3, 0) := by decide +kernel
theorem cd_94_10 : zt_code zq_T 94 10 = some (.aload_n 0, 1, 0) := by decide +kernel
theorem cd_94_11 : zt_code zq_T 94 11 = some (.iload_n 1, 1, 0) := by decide +kernel
theorem cd_94_12 : zt_code zq_T 94 12 = some (.aload_n 0, 1, 0) := by decide +kernel
theorem cd_94_13 : zt_code zq_T 94 13 = some (.iload_n 1, 1, 0) := by decide +kernel
theorem cd_94_14 : zt_code zq_T 94 14 = some (.iconst 1, 1, 0) := by decide +kernel
theorem cd_94_15 : zt_code zq_T 94 15 = some (.invokevirtual 258, 3, 0) := by decide +kernel
theorem cd_94_18 : zt_code zq_T 94 18 = some (.invokevirtual 245, 3, 0) := by decide +kernel
theorem cd_94_21 : zt_code zq_T 94 21 = some (.ireturn, 1, 0) := by decide +kernel
theorem cd_94_22 : zt_code zq_T 94 22 = some (.aload_n 0, 1, 0) := by decide +kernel
theorem cd_94_23 : zt_code zq_T 94 23 = some (.iload_n 1, 1, 0) := by decide +kernel
theorem cd_94_24 : zt_code zq_T 94 24 = some (.aload_n 0, 1, 0) := by decide +kernel
theorem cd_94_25 : zt_code zq_T 94 25 = some (.getfield 81, 3, 0) := by decide +kernel
theorem cd_94_28 : zt_code zq_T 94 28 = some (.iload_n 2, 1, 0) := by decide +kernel
theorem cd_94_29 : zt_code zq_T 94 29 = some (.iaload, 1, 0) := by decide +kernel
theorem cd_94_30 : zt_code zq_T 94 30 = some (.invokevirtual 389, 3, 0) := by decide +kernel
theorem cd_94_33 : zt_code zq_T 94 33 = some (.ifCond .ne (5), 3, 0) := by decide +kernel
theorem cd_94_36 : zt_code zq_T 94 36 = some (.iconst 0, 1, 0) := by decide +kernel
theorem cd_94_37 : zt_code zq_T 94 37 = some (.ireturn, 1, 0) := by decide +kernel
theorem cd_94_38 : zt_code zq_T 94 38 = some (.aload_n 0, 1, 0) := by decide +kernel
theorem cd_94_39 : zt_code zq_T 94 39 = some (.aload_n 0, 1, 0) := by decide +kernel
theorem cd_94_40 : zt_code zq_T 94 40 = some (.iload_n 1, 1, 0) := by decide +kernel
theorem cd_94_41 : zt_code zq_T 94 41 = some (.aload_n 0, 1, 0) := by decide +kernel
theorem cd_94_42 : zt_code zq_T 94 42 = some (.getfield 81, 3, 0) := by decide +kernel
theorem cd_94_45 : zt_code zq_T 94 45 = some (.iload_n 2, 1, 0) := by decide +kernel
theorem cd_94_46 : zt_code zq_T 94 46 = some (.iaload, 1, 0) := by decide +kernel
theorem cd_94_47 : zt_code zq_T 94 47 = some (.invokevirtual 249, 3, 0) := by decide +kernel
theorem cd_94_50 : zt_code zq_T 94 50 = some (.iconst 2, 1, 0) := by decide +kernel
theorem cd_94_51 : zt_code zq_T 94 51 = some (.invokevirtual 240, 3, 0) := by decide +kernel
theorem cd_94_54 : zt_code zq_T 94 54 = some (.istore_n 3, 1, 0) := by decide +kernel
theorem cd_94_55 : zt_code zq_T 94 55 = some (.iload_n 3, 1, 0) := by decide +kernel
theorem cd_94_56 : zt_code zq_T 94 56 = some (.iconst (-1), 1, 0) := by decide +kernel
theorem cd_94_57 : zt_code zq_T 94 57 = some (.if_icmp .eq (25), 3, 0) := by decide +kernel
theorem cd_94_60 : zt_code zq_T 94 60 = some (.aload_n 0, 1, 0) := by decide +kernel
theorem cd_94_61 : zt_code zq_T 94 61 = some (.iload_n 1, 1, 0) := by decide +kernel
theorem cd_94_62 : zt_code zq_T 94 62 = some (.iload_n 2, 1, 0) := by decide +kernel
theorem cd_94_63 : zt_code zq_T 94 63 = some (.iload_n 3, 1, 0) := by decide +kernel
theorem cd_94_64 : zt_code zq_T 94 64 = some (.invokevirtual 416, 3, 0) := by decide +kernel
theorem cd_94_67 : zt_code zq_T 94 67 = some (.ifCond .ne (5), 3, 0) := by decide +kernel
theorem cd_94_70 : zt_code zq_T 94 70 = some (.iconst 0, 1, 0) := by decide +kernel
theorem cd_94_71 : zt_code zq_T 94 71 = some (.ireturn, 1, 0) := by decide +kernel
theorem cd_94_72 : zt_code zq_T 94 72 = some (.aload_n 0, 1, 0) := by decide +kernel
theorem cd_94_73 : zt_code zq_T 94 73 = some (.iload_n 3, 1, 0) := by decide +kernel
theorem cd_94_74 : zt_code zq_T 94 74 = some (.iconst 2, 1, 0) := by decide +kernel
theorem cd_94_75 : zt_code zq_T 94 75 = some (.invokevirtual 240, 3, 0) := by decide +kernel
theorem cd_94_78 : zt_code zq_T 94 78 = some (.istore_n 3, 1, 0) := by decide +kernel
theorem cd_94_79 : zt_code zq_T 94 79 = some (.goto (-24), 3, 0) := by decide +kernel
theorem cd_94_82 : zt_code zq_T 94 82 = some (.iconst 1, 1, 0) := by decide +kernel
theorem cd_94_83 : zt_code zq_T 94 83 = some (.ireturn, 1, 0) := by decide +kernel
theorem cd_95_0 : zt_code zq_T 95 0 = some (.aload_n 0, 1, 0) := by decide +kernel
theorem cd_95_1 : zt_code zq_T 95 1 = some (.iload_n 2, 1, 0) := by decide +kernel
theorem cd_95_2 : zt_code zq_T 95 2 = some (.iconst 0, 1, 0) := by decide +kernel
theorem cd_95_3 : zt_code zq_T 95 3 = some (.invokevirtual 240, 3, 0) := by decide +kernel
theorem cd_95_6 : zt_code zq_T 95 6 = some (.iconst 5, 1, 0) := by decide +kernel
theorem cd_95_7 : zt_code zq_T 95 7 = some (.if_icmp .ne (28), 3, 0) := by decide +kernel
theorem cd_95_10 : zt_code zq_T 95 10 = some (.aload_n 0, 1, 0) := by decide +kernel
theorem cd_95_11 : zt_code zq_T 95 11 = some (.getfield 81, 3, 0) := by decide +kernel
theorem cd_95_14 : zt_code zq_T 95 14 = some (.iload_n 1, 1, 0) := by decide +kernel
theorem cd_95_15 : zt_code zq_T 95 15 = some (.iconst 1, 1, 0) := by decide +kernel
theorem cd_95_16 : zt_code zq_T 95 16 = some (.iadd, 1, 0) := by decide +kernel
theorem cd_95_17 : zt_code zq_T 95 17 = some (.aload_n 0, 1, 0) := by decide +kernel
theorem cd_95_18 : zt_code zq_T 95 18 = some (.iload_n 2, 1, 0) := by decide +kernel
theorem cd_95_19 : zt_code zq_T 95 19 = some (.iconst 1, 1, 0) := by decide +kernel
theorem cd_95_20 : zt_code zq_T 95 20 = some (.invokevirtual 240, 3, 0) := by decide +kernel
theorem cd_95_23 : zt_code zq_T 95 23 = some (.iadd, 1, 0) := by decide +kernel
theorem cd_95_24 : zt_code zq_T 95 24 = some (.iload 4, 2, 0) := by decide +kernel
theorem cd_95_26 : zt_code zq_T 95 26 = some (.ifCond .eq (7), 3, 0) := by decide +kernel
theorem cd_95_29 : zt_code zq_T 95 29 = some (.iconst 1, 1, 0) := by decide +kernel
theorem cd_95_30 : zt_code zq_T 95 30 = some (.goto (4), 3, 0) := by decide +kernel
theorem cd_95_33 : zt_code zq_T 95 33 = some (.iconst 0, 1, 0) := by decide +kernel
theorem cd_95_34 : zt_code zq_T 95 34 = some (.iastore, 1, 0) := by decide +kernel
theorem cd_95_35 : zt_code zq_T 95 35 = some (.aload_n 0, 1, 0) := by decide +kernel
theorem cd_95_36 : zt_code zq_T 95 36 = some (.iload_n 2, 1, 0) := by decide +kernel
theorem cd_95_37 : zt_code zq_T 95 37 = some (.iconst 0, 1, 0) := by decide +kernel
theorem cd_95_38 : zt_code zq_T 95 38 = some (.invokevirtual 240, 3, 0) := by decide +kernel
theorem cd_95_41 : zt_code zq_T 95 41 = some (.iconst 4, 1, 0) := by decide +kernel
theorem cd_95_42 : zt_code zq_T 95 42 = some (.if_icmp .ne (36), 3, 0) := by decide +kernel
theorem cd_95_45 : zt_code zq_T 95 45 = some (.aload_n 0, 1, 0) := by decide +kernel
theorem cd_95_46 : zt_code zq_T 95 46 = some (.getfield 81, 3, 0) := by decide +kernel
theorem cd_95_49 : zt_code zq_T 95 49 = some (.iload_n 1, 1, 0) := by decide +kernel
theorem cd_95_50 : zt_code zq_T 95 50 = some (.bipush (9), 2, 0) := by decide +kernel
theorem cd_95_52 : zt_code zq_T 95 52 = some (.iadd, 1, 0) := by decide +kernel
theorem cd_95_53 : zt_code zq_T 95 53 = some (.aload_n 0, 1, 0) := by decide +kernel
theorem cd_95_54 : zt_code zq_T 95 54 = some (.iload_n 2, 1, 0) := by decide +kernel
theorem cd_95_55 : zt_code zq_T 95 55 = some (.iconst 1, 1, 0) := by decide +kernel
theorem cd_95_56 : zt_code zq_T 95 56 = some (.invokevirtual 240, 3, 0) := by decide +kernel
theorem cd_95_59 : zt_code zq_T 95 59 = some (.iadd, 1, 0) := by decide +kernel
theorem cd_95_60 : zt_code zq_T 95 60 = some (.iload 4, 2, 0) := by decide +kernel
theorem cd_95_62 : zt_code zq_T 95 62 = some (.ifCond .eq (14), 3, 0) := by decide +kernel
theorem cd_95_65 : zt_code zq_T 95 65 = some (.iconst 1, 1, 0) := by decide +kernel
theorem cd_95_66 : zt_code zq_T 95 66 = some (.aload_n 0, 1, 0) := by decide +kernel
theorem cd_95_67 : zt_code zq_T 95 67 = some (.iload_n 2, 1, 0) := by decide +kernel
theorem cd_95_68 : zt_code zq_T 95 68 = some (.iload_n 3, 1, 0) := by decide +kernel
theorem cd_95_69 : zt_code zq_T 95 69 = some (.invokevirtual 419, 3, 0) := by decide +kernel
theorem cd_95_72 : zt_code zq_T 95 72 = some (.ishl, 1, 0) := by decide +kernel
theorem cd_95_73 : zt_code zq_T 95 73 = some (.goto (4), 3, 0) := by decide +kernel
theorem cd_95_76 : zt_code zq_T 95 76 = some (.iconst 0, 1, 0) := by decide +kernel
theorem cd_95_77 : zt_code zq_T 95 77 = some (.iastore, 1, 0) := by decide +kernel
theorem cd_95_78 : zt_code zq_T 95 78 = some (.return_, 1, 0) := by decide +kernel
theorem cd_96_0 : zt_code zq_T 96 0 = some (.iconst 0, 1, 0) := by decide +kernel
theorem cd_96_1 : zt_code zq_T 96 1 = some (.istore 5, 2, 0) := by decide +kernel
theorem cd_96_3 : zt_code zq_T 96 3 = some (.iload 5, 2, 0) := by decide +kernel
theorem cd_96_5 : zt_code zq_T 96 5 = some (.bipush (13), 2, 0) := by decide +kernel
theorem cd_96_7 : zt_code zq_T 96 7 = some (.if_icmp .ge (28), 3, 0) := by decide +kernel
theorem cd_96_10 : zt_code zq_T 96 10 = some (.aload_n 0, 1, 0) := by decide +kernel
theorem cd_96_11 : zt_code zq_T 96 11 = some (.getfield 81, 3, 0) := by decide +kernel
theorem cd_96_14 : zt_code zq_T 96 14 = some (.iload 4, 2, 0) := by decide +kernel
theorem cd_96_16 : zt_code zq_T 96 16 = some (.iload 5, 2, 0) := by decide +kernel
theorem cd_96_18 : zt_code zq_T 96 18 = some (.iadd, 1, 0) := by decide +kernel
theorem cd_96_19 : zt_code zq_T 96 19 = some (.aload_n 0, 1, 0) := by decide +kernel
theorem cd_96_20 : zt_code zq_T 96 20 = some (.getfield 81, 3, 0) := by decide +kernel
theorem cd_96_23 : zt_code zq_T 96 23 = some (.iload_n 2, 1, 0) := by decide +kernel
theorem cd_96_24 : zt_code zq_T 96 24 = some (.iload 5, 2, 0) := by decide +kernel
theorem cd_96_26 : zt_code zq_T 96 26 = some (.iadd, 1, 0) := by decide +kernel
theorem cd_96_27 : zt_code zq_T 96 27 = some (.iaload, 1, 0) := by decide +kernel
theorem cd_96_28 : zt_code zq_T 96 28 = some (.iastore, 1, 0) := by decide +kernel
theorem cd_96_29 : zt_code zq_T 96 29 = some (.iinc 5 (1), 3, 0) := by decide +kernel
theorem cd_96_32 : zt_code zq_T 96 32 = some (.goto (-29), 3, 0) := by decide +kernel
theorem cd_96_35 : zt_code zq_T 96 35 = some (.aload_n 0, 1, 0) := by decide +kernel
theorem cd_96_36 : zt_code zq_T 96 36 = some (.getfield 56, 3, 0) := by decide +kernel
theorem cd_96_39 : zt_code zq_T 96 39 = some (.iload_n 3, 1, 0) := by decide +kernel
theorem cd_96_40 : zt_code zq_T 96 40 = some (.iaload, 1, 0) := by decide +kernel
theorem cd_96_41 : zt_code zq_T 96 41 = some (.istore 5, 2, 0) := by decide +kernel
theorem cd_96_43 : zt_code zq_T 96 43 = some (.aload_n 0, 1, 0) := by decide +kernel
theorem cd_96_44 : zt_code zq_T 96 44 = some (.getfield 81, 3, 0) := by decide +kernel
theorem cd_96_47 : zt_code zq_T 96 47 = some (.iload_n 2, 1, 0) := by decide +kernel
theorem cd_96_48 : zt_code zq_T 96 48 = some (.iaload, 1, 0) := by decide +kernel
theorem cd_96_49 : zt_code zq_T 96 49 = some (.iconst (-1), 1, 0) := by decide +kernel
theorem cd_96_50 : zt_code zq_T 96 50 = some (.if_icmp .eq (51), 3, 0) := by decide +kernel
theorem cd_96_53 : zt_code zq_T 96 53 = some (.aload_n 0, 1, 0) := by decide +kernel
theorem cd_96_54 : zt_code zq_T 96 54 = some (.aload_n 0, 1, 0) := by decide +kernel
theorem cd_96_55 : zt_code zq_T 96 55 = some (.iload_n 1, 1, 0) := by decide +kernel
theorem cd_96_56 : zt_code zq_T 96 56 = some (.aload_n 0, 1, 0) := by decide +kernel
theorem cd_96_57 : zt_code zq_T 96 57 = some (.getfield 81, 3, 0) := by decide +kernel
theorem cd_96_60 : zt_code zq_T 96 60 = some (.iload_n 2, 1, 0) := by decide +kernel
theorem cd_96_61 : zt_code zq_T 96 61 = some (.iaload, 1, 0) := by decide +kernel
theorem cd_96_62 : zt_code zq_T 96 62 = some (.invokevirtual 249, 3, 0) := by decide +kernel
theorem cd_96_65 : zt_code zq_T 96 65 = some (.iconst 2, 1, 0) := by decide +kernel
theorem cd_96_66 : zt_code zq_T 96 66 = some (.invokevirtual 240, 3, 0) := by decide +kernel
theorem cd_96_69 : zt_code zq_T 96 69 = some (.istore 6, 2, 0) := by decide +kernel
theorem cd_96_71 : zt_code zq_T 96 71 = some (.iload 6, 2, 0) := by decide +kernel
theorem cd_96_73 : zt_code zq_T 96 73 = some (.iload 5, 2, 0) := by decide +kernel
theorem cd_96_75 : zt_code zq_T 96 75 = some (.if_icmp .eq (26), 3, 0) := by decide +kernel
theorem cd_96_78 : zt_code zq_T 96 78 = some (.aload_n 0, 1, 0) := by decide +kernel
theorem cd_96_79 : zt_code zq_T 96 79 = some (.iload 4, 2, 0) := by decide +kernel
theorem cd_96_81 : zt_code zq_T 96 81 = some (.iload 6, 2, 0) := by decide +kernel
theorem cd_96_83 : zt_code zq_T 96 83 = some (.iload 6, 2, 0) := by decide +kernel
theorem cd_96_85 : zt_code zq_T 96 85 = some (.iconst 0, 1, 0) := by decide +kernel
theorem cd_96_86 : zt_code zq_T 96 86 = some (.invokevirtual 422, 3, 0) := by decide +kernel
theorem cd_96_89 : zt_code zq_T 96 89 = some (.aload_n 0, 1, 0) := by decide +kernel
theorem cd_96_90 : zt_code zq_T 96 90 = some (.iload 6, 2, 0) := by decide +kernel
theorem cd_96_92 : zt_code zq_T 96 92 = some (.iconst 2, 1, 0) := by decide +kernel
theorem cd_96_93 : zt_code zq_T 96 93 = some (.invokevirtual 240, 3, 0) := by decide +kernel
theorem cd_96_96 : zt_code zq_T 96 96 = some (.istore 6, 2, 0) := by decide +kernel
theorem cd_96_98 : zt_code zq_T 96 98 = some (.goto (-27), 3, 0) := by decide +kernel
theorem cd_96_101 : zt_code zq_T 96 101 = some (.iload 5, 2, 0) := by decide +kernel
theorem cd_96_103 : zt_code zq_T 96 103 = some (.iconst (-1), 1, 0) := by decide +kernel
theorem cd_96_104 : zt_code zq_T 96 104 = some (.if_icmp .eq (35), 3, 0) := by decide +kernel
theorem cd_96_107 : zt_code zq_T 96 107 = some (.aload_n 0, 1, 0) := by decide +kernel
theorem cd_96_108 : zt_code zq_T 96 108 = some (.iload 5, 2, 0) := by decide +kernel
theorem cd_96_110 : zt_code zq_T 96 110 = some (.iconst 0, 1, 0) := by decide +kernel
theorem cd_96_111 : zt_code zq_T 96 111 = some (.invokevirtual 240, 3, 0) := by decide +kernel
theorem cd_96_114 : zt_code zq_T 96 114 = some (.iconst 5, 1, 0) := by decide +kernel
theorem cd_96_115 : zt_code zq_T 96 115 = some (.if_icmp .ne (24), 3, 0) := by decide +kernel
theorem cd_96_118 : zt_code zq_T 96 118 = some (.aload_n 0, 1, 0) := by decide +kernel
theorem cd_96_119 : zt_code zq_T 96 119 = some (.getfield 81, 3, 0) := by decide +kernel
theorem cd_96_122 : zt_code zq_T 96 122 = some (.iload 4, 2, 0) := by decide +kernel
theorem cd_96_124 : zt_code zq_T 96 124 = some (.iconst 1, 1, 0) := by decide +kernel
theorem cd_96_125 : zt_code zq_T 96 125 = some (.iadd, 1, 0) := by decide +kernel
theorem cd_96_126 : zt_code zq_T 96 126 = some (.aload_n 0, 1, 0) := by decide +kernel
theorem cd_96_127 : zt_code zq_T 96 127 = some (.iload 5, 2, 0) := by decide +kernel
theorem cd_96_129 : zt_code zq_T 96 129 = some (.iconst 1, 1, 0) := by decide +kernel
theorem cd_96_130 : zt_code zq_T 96 130 = some (.invokevirtual 240, 3, 0) := by decide +kernel
theorem cd_96_133 : zt_code zq_T 96 133 = some (.iadd, 1, 0) := by decide +kernel
theorem cd_96_134 : zt_code zq_T 96 134 = some (.dup2, 1, 0) := by decide +kernel
theorem cd_96_135 : zt_code zq_T 96 135 = some (.iaload, 1, 0) := by decide +kernel
theorem cd_96_136 : zt_code zq_T 96 136 = some (.iconst 1, 1, 0) := by decide +kernel
theorem cd_96_137 : zt_code zq_T 96 137 = some (.iadd, 1, 0) := by decide +kernel
theorem cd_96_138 : zt_code zq_T 96 138 = some (.iastore, 1, 0) := by decide +kernel
theorem cd_96_139 : zt_code zq_T 96 139 = some (.iload 5, 2, 0) := by decide +kernel
theorem cd_96_141 : zt_code zq_T 96 141 = some (.iconst (-1), 1, 0) := by decide +kernel
theorem cd_96_142 : zt_code zq_T 96 142 = some (.if_icmp .eq (49), 3, 0) := by decide +kernel
theorem cd_96_145 : zt_code zq_T 96 145 = some (.aload_n 0, 1, 0) := by decide +kernel
theorem cd_96_146 : zt_code zq_T 96 146 = some (.iload 5, 2, 0) := by decide +kernel
theorem cd_96_148 : zt_code zq_T 96 148 = some (.iconst 0, 1, 0) := by decide +kernel
theorem cd_96_149 : zt_code zq_T 96 149 = some (.invokevirtual 240, 3, 0) := by decide +kernel
theorem cd_96_152 : zt_code zq_T 96 152 = some (.iconst 4, 1, 0) := by decide +kernel
theorem cd_96_153 : zt_code zq_T 96 153 = some (.if_icmp .ne (38), 3, 0) := by decide +kernel
theorem cd_96_156 : zt_code zq_T 96 156 = some (.aload_n 0, 1, 0) := by decide +kernel
theorem cd_96_157 : zt_code zq_T 96 157 = some (.getfield 81, 3, 0) := by decide +kernel
theorem cd_96_160 : zt_code zq_T 96 160 = some (.iload 4, 2, 0) := by decide +kernel
theorem cd_96_162 : zt_code zq_T 96 162 = some (.bipush (9), 2, 0) := by decide +kernel
theorem cd_96_164 : zt_code zq_T 96 164 = some (.iadd, 1, 0) := by decide +kernel
theorem cd_96_165 : zt_code zq_T 96 165 = some (.aload_n 0, 1, 0) := by decide +kernel
theorem cd_96_166 : zt_code zq_T 96 166 = some (.iload 5, 2, 0) := by decide +kernel
theorem cd_96_168 : zt_code zq_T 96 168 = some (.iconst 1, 1, 0) := by decide +kernel
theorem cd_96_169 : zt_code zq_T 96 169 = some (.invokevirtual 240, 3, 0) := by decide +kernel
theorem cd_96_172 : zt_code zq_T 96 172 = some (.iadd, 1, 0) := by decide +kernel
theorem cd_96_173 : zt_code zq_T 96 173 = some (.dup2, 1, 0) := by decide +kernel
theorem cd_96_174 : zt_code zq_T 96 174 = some (.iaload, 1, 0) := by decide +kernel
theorem cd_96_175 : zt_code zq_T 96 175 = some (.iconst 1, 1, 0) := by decide +kernel
theorem cd_96_176 : zt_code zq_T 96 176 = some (.aload_n 0, 1, 0) := by decide +kernel
theorem cd_96_177 : zt_code zq_T 96 177 = some (.iload 5, 2, 0) := by decide +kernel
theorem cd_96_179 : zt_code zq_T 96 179 = some (.aload_n 0, 1, 0) := by decide +kernel
theorem cd_96_180 : zt_code zq_T 96 180 = some (.getfield 59, 3, 0) := by decide +kernel
theorem cd_96_183 : zt_code zq_T 96 183 = some (.iload_n 3, 1, 0) := by decide +kernel
theorem cd_96_184 : zt_code zq_T 96 184 = some (.iaload, 1, 0) := by decide +kernel
theorem cd_96_185 : zt_code zq_T 96 185 = some (.invokevirtual 419, 3, 0) := by decide +kernel
theorem cd_96_188 : zt_code zq_T 96 188 = some (.ishl, 1, 0) := by decide +kernel
theorem cd_96_189 : zt_code zq_T 96 189 = some (.ior, 1, 0) := by decide +kernel
theorem cd_96_190 : zt_code zq_T 96 190 = some (.iastore, 1, 0) := by decide +kernel
theorem cd_96_191 : zt_code zq_T 96 191 = some (.aload_n 0, 1, 0) := by decide +kernel
theorem cd_96_192 : zt_code zq_T 96 192 = some (.iload_n 1, 1, 0) := by decide +kernel
theorem cd_96_193 : zt_code zq_T 96 193 = some (.aload_n 0, 1, 0) := by decide +kernel
theorem cd_96_194 : zt_code zq_T 96 194 = some (.getfield 50, 3, 0) := by decide +kernel
theorem cd_96_197 : zt_code zq_T 96 197 = some (.iload_n 3, 1, 0) := by decide +kernel
theorem cd_96_198 : zt_code zq_T 96 198 = some (.iaload, 1, 0) := by decide +kernel
theorem cd_96_199 : zt_code zq_T 96 199 = some (.invokevirtual 249, 3, 0) := by decide +kernel
theorem cd_96_202 : zt_code zq_T 96 202 = some (.istore 6, 2, 0) := by decide +kernel
theorem cd_96_204 : zt_code zq_T 96 204 = some (.aload_n 0, 1, 0) := by decide +kernel
theorem cd_96_205 : zt_code zq_T 96 205 = some (.iload 6, 2, 0) := by decide +kernel
theorem cd_96_207 : zt_code zq_T 96 207 = some (.iconst 2, 1, 0) := by decide +kernel
theorem cd_96_208 : zt_code zq_T 96 208 = some (.invokevirtual 240, 3, 0) := by decide +kernel
theorem cd_96_211 : zt_code zq_T 96 211 = some (.istore 7, 2, 0) := by decide +kernel
theorem cd_96_213 : zt_code zq_T 96 213 = some (.iload 7, 2, 0) := by decide +kernel
theorem cd_96_215 : zt_code zq_T 96 215 = some (.iload 5, 2, 0) := by decide +kernel
theorem cd_96_217 : zt_code zq_T 96 217 = some (.if_icmp .eq (30), 3, 0) := by decide +kernel
theorem cd_96_220 : zt_code zq_T 96 220 = some (.aload_n 0, 1, 0) := by decide +kernel
theorem cd_96_221 : zt_code zq_T 96 221 = some (.iload 4, 2, 0) := by decide +kernel
theorem cd_96_223 : zt_code zq_T 96 223 = some (.iload 7, 2, 0) := by decide +kernel
theorem cd_96_225 : zt_code zq_T 96 225 = some (.iload 6, 2, 0) := by decide +kernel
theorem cd_96_227 : zt_code zq_T 96 227 = some (.iconst 1, 1, 0) := by decide +kernel
theorem cd_96_228 : zt_code zq_T 96 228 = some (.invokevirtual 422, 3, 0) := by decide +kernel
theorem cd_96_231 : zt_code zq_T 96 231 = some (.iload 7, 2, 0) := by decide +kernel
theorem cd_96_233 : zt_code zq_T 96 233 = some (.istore 6, 2, 0) := by decide +kernel
theorem cd_96_235 : zt_code zq_T 96 235 = some (.aload_n 0, 1, 0) := by decide +kernel
theorem cd_96_236 : zt_code zq_T 96 236 = some (.iload 7, 2, 0) := by decide +kernel
theorem cd_96_238 : zt_code zq_T 96 238 = some (.iconst 2, 1, 0) := by decide +kernel
theorem cd_96_239 : zt_code zq_T 96 239 = some (.invokevirtual 240, 3, 0) := by decide +kernel
theorem cd_96_242 : zt_code zq_T 96 242 = some (.istore 7, 2, 0) := by decide +kernel
theorem cd_96_244 : zt_code zq_T 96 244 = some (.goto (-31), 3, 0) := by decide +kernel
theorem cd_96_247 : zt_code zq_T 96 247 = some (.aload_n 0, 1, 0) := by decide +kernel
theorem cd_96_248 : zt_code zq_T 96 248 = some (.getfield 81, 3, 0) := by decide +kernel
theorem cd_96_251 : zt_code zq_T 96 251 = some (.iload 4, 2, 0) := by decide +kernel
theorem cd_96_253 : zt_code zq_T 96 253 = some (.aload_n 0, 1, 0) := by decide +kernel
theorem cd_96_254 : zt_code zq_T 96 254 = some (.getfield 50, 3, 0) := by decide +kernel
theorem cd_96_257 : zt_code zq_T 96 257 = some (.iload_n 3, 1, 0) := by decide +kernel
theorem cd_96_258 : zt_code zq_T 96 258 = some (.iaload, 1, 0) := by decide +kernel
theorem cd_96_259 : zt_code zq_T 96 259 = some (.iastore, 1, 0) := by decide +kernel
theorem cd_96_260 : zt_code zq_T 96 260 = some (.return_, 1, 0) := by decide +kernel
theorem cd_97_0 : zt_code zq_T 97 0 = some (.aload_n 0, 1, 0) := by decide +kernel
theorem cd_97_1 : zt_code zq_T 97 1 = some (.iload_n 1, 1, 0) := by decide +kernel
theorem cd_97_2 : zt_code zq_T 97 2 = some (.aload_n 0, 1, 0) := by decide +kernel
theorem cd_97_3 : zt_code zq_T 97 3 = some (.getfield 81, 3, 0) := by decide +kernel
theorem cd_97_6 : zt_code zq_T 97 6 = some (.iload_n 2, 1, 0) := by decide +kernel
theorem cd_97_7 : zt_code zq_T 97 7 = some (.iaload, 1, 0) := by decide +kernel
theorem cd_97_8 : zt_code zq_T 97 8 = some (.invokevirtual 338, 3, 0) := by decide +kernel
theorem cd_97_11 : zt_code zq_T 97 11 = some (.iconst 0, 1, 0) := by decide +kernel
theorem cd_97_12 : zt_code zq_T 97 12 = some (.istore 5, 2, 0) := by decide +kernel
theorem cd_97_14 : zt_code zq_T 97 14 = some (.iload 5, 2, 0) := by decide +kernel
theorem cd_97_16 : zt_code zq_T 97 16 = some (.aload_n 0, 1, 0) := by decide +kernel
theorem cd_97_17 : zt_code zq_T 97 17 = some (.getfield 265, 3, 0) := by decide +kernel
theorem cd_97_20 : zt_code zq_T 97 20 = some (.if_icmp .ge (73), 3, 0) := by decide +kernel
theorem cd_97_23 : zt_code zq_T 97 23 = some (.aload_n 0, 1, 0) := by decide +kernel
theorem cd_97_24 : zt_code zq_T 97 24 = some (.iload_n 1, 1, 0) := by decide +kernel
theorem cd_97_25 : zt_code zq_T 97 25 = some (.aload_n 0, 1, 0) := by decide +kernel
theorem cd_97_26 : zt_code zq_T 97 26 = some (.getfield 50, 3, 0) := by decide +kernel
theorem cd_97_29 : zt_code zq_T 97 29 = some (.iload 5, 2, 0) := by decide +kernel
theorem cd_97_31 : zt_code zq_T 97 31 = some (.iaload, 1, 0) := by decide +kernel
theorem cd_97_32 : zt_code zq_T 97 32 = some (.invokevirtual 289, 3, 0) := by decide +kernel
theorem cd_97_35 : zt_code zq_T 97 35 = some (.iload_n 3, 1, 0) := by decide +kernel
theorem cd_97_36 : zt_code zq_T 97 36 = some (.if_icmp .ne (51), 3, 0) := by decide +kernel
theorem cd_97_39 : zt_code zq_T 97 39 = some (.aload_n 0, 1, 0) := by decide +kernel
theorem cd_97_40 : zt_code zq_T 97 40 = some (.iload_n 1, 1, 0) := by decide +kernel
theorem cd_97_41 : zt_code zq_T 97 41 = some (.iload_n 2, 1, 0) := by decide +kernel
theorem cd_97_42 : zt_code zq_T 97 42 = some (.iload 5, 2, 0) := by decide +kernel
theorem cd_97_44 : zt_code zq_T 97 44 = some (.invokevirtual 426, 3, 0) := by decide +kernel
theorem cd_97_47 : zt_code zq_T 97 47 = some (.ifCond .ne (6), 3, 0) := by decide +kernel
theorem cd_97_50 : zt_code zq_T 97 50 = some (.goto (37), 3, 0) := by decide +kernel
theorem cd_97_53 : zt_code zq_T 97 53 = some (.aload_n 0, 1, 0) := by decide +kernel
theorem cd_97_54 : zt_code zq_T 97 54 = some (.aload_n 0, 1, 0) := by decide +kernel
theorem cd_97_55 : zt_code zq_T 97 55 = some (.getfield 50, 3, 0) := by decide +kernel
theorem cd_97_58 : zt_code zq_T 97 58 = some (.iload 5, 2, 0) := by decide +kernel
theorem cd_97_60 : zt_code zq_T 97 60 = some (.iaload, 1, 0) := by decide +kernel
theorem cd_97_61 : zt_code zq_T 97 61 = some (.putfield 429, 3, 0) := by decide +kernel
theorem cd_97_64 : zt_code zq_T 97 64 = some (.aload_n 0, 1, 0) := by decide +kernel
theorem cd_97_65 : zt_code zq_T 97 65 = some (.aload_n 0, 1, 0) := by decide +kernel
theorem cd_97_66 : zt_code zq_T 97 66 = some (.getfield 53, 3, 0) := by decide +kernel
theorem cd_97_69 : zt_code zq_T 97 69 = some (.iload 5, 2, 0) := by decide +kernel
theorem cd_97_71 : zt_code zq_T 97 71 = some (.iaload, 1, 0) := by decide +kernel
theorem cd_97_72 : zt_code zq_T 97 72 = some (.putfield 432, 3, 0) := by decide +kernel
theorem cd_97_75 : zt_code zq_T 97 75 = some (.aload_n 0, 1, 0) := by decide +kernel
theorem cd_97_76 : zt_code zq_T 97 76 = some (.iload_n 1, 1, 0) := by decide +kernel
theorem cd_97_77 : zt_code zq_T 97 77 = some (.iload_n 2, 1, 0) := by decide +kernel
theorem cd_97_78 : zt_code zq_T 97 78 = some (.iload 5, 2, 0) := by decide +kernel
theorem cd_97_80 : zt_code zq_T 97 80 = some (.iload 4, 2, 0) := by decide +kernel
theorem cd_97_82 : zt_code zq_T 97 82 = some (.invokevirtual 435, 3, 0) := by decide +kernel
theorem cd_97_85 : zt_code zq_T 97 85 = some (.iconst 1, 1, 0) := by decide +kernel
theorem cd_97_86 : zt_code zq_T 97 86 = some (.ireturn, 1, 0) := by decide +kernel
theorem cd_97_87 : zt_code zq_T 97 87 = some (.iinc 5 (1), 3, 0) := by decide +kernel
theorem cd_97_90 : zt_code zq_T 97 90 = some (.goto (-76), 3, 0) := by decide +kernel
theorem cd_97_93 : zt_code zq_T 97 93 = some (.iconst 0, 1, 0) := by decide +kernel
theorem cd_97_94 : zt_code zq_T 97 94 = some (.ireturn, 1, 0) := by decide +kernel
theorem cd_98_0 : zt_code zq_T 98 0 = some (.iconst 0, 1, 0) := by decide +kernel
theorem cd_98_1 : zt_code zq_T 98 1 = some (.istore_n 3, 1, 0) := by decide +kernel
theorem cd_98_2 : zt_code zq_T 98 2 = some (.aload_n 0, 1, 0) := by decide +kernel
theorem cd_98_3 : zt_code zq_T 98 3 = some (.iload_n 1, 1, 0) := by decide +kernel
theorem cd_98_4 : zt_code zq_T 98 4 = some (.aload_n 0, 1, 0) := by decide +kernel
theorem cd_98_5 : zt_code zq_T 98 5 = some (.getfield 81, 3, 0) := by decide +kernel
theorem cd_98_8 : zt_code zq_T 98 8 = some (.iload_n 2, 1, 0) := by decide +kernel
theorem cd_98_9 : zt_code zq_T 98 9 = some (.iaload, 1, 0) := by decide +kernel
theorem cd_98_10 : zt_code zq_T 98 10 = some (.invokevirtual 338, 3, 0) := by decide +kernel
theorem cd_98_13 : zt_code zq_T 98 13 = some (.iconst 0, 1, 0) := by decide +kernel
theorem cd_98_14 : zt_code zq_T 98 14 = some (.istore 4, 2, 0) := by decide +kernel
theorem cd_98_16 : zt_code zq_T 98 16 = some (.iload 4, 2, 0) := by decide +kernel
theorem cd_98_18 : zt_code zq_T 98 18 = some (.aload_n 0, 1, 0) := by decide +kernel
theorem cd_98_19 : zt_code zq_T 98 19 = some (.getfield 265, 3, 0) := by decide +kernel
theorem cd_98_22 : zt_code zq_T 98 22 = some (.if_icmp .ge (37), 3, 0) := by decide +kernel
theorem cd_98_25 : zt_code zq_T 98 25 = some (.aload_n 0, 1, 0) := by decide +kernel
theorem cd_98_26 : zt_code zq_T 98 26 = some (.iload_n 1, 1, 0) := by decide +kernel
theorem cd_98_27 : zt_code zq_T 98 27 = some (.iload_n 2, 1, 0) := by decide +kernel
theorem cd_98_28 : zt_code zq_T 98 28 = some (.iload 4, 2, 0) := by decide +kernel
theorem cd_98_30 : zt_code zq_T 98 30 = some (.invokevirtual 426, 3, 0) := by decide +kernel
theorem cd_98_33 : zt_code zq_T 98 33 = some (.ifCond .eq (20), 3, 0) := by decide +kernel
theorem cd_98_36 : zt_code zq_T 98 36 = some (.iload_n 3, 1, 0) := by decide +kernel
theorem cd_98_37 : zt_code zq_T 98 37 = some (.iconst 1, 1, 0) := by decide +kernel
theorem cd_98_38 : zt_code zq_T 98 38 = some (.aload_n 0, 1, 0) := by decide +kernel
theorem cd_98_39 : zt_code zq_T 98 39 = some (.iload_n 1, 1, 0) := by decide +kernel
theorem cd_98_40 : zt_code zq_T 98 40 = some (.aload_n 0, 1, 0) := by decide +kernel
theorem cd_98_41 : zt_code zq_T 98 41 = some (.getfield 50, 3, 0) := by decide +kernel
theorem cd_98_44 : zt_code zq_T 98 44 = some (.iload 4, 2, 0) := by decide +kernel
theorem cd_98_46 : zt_code zq_T 98 46 = some (.iaload, 1, 0) := by decide +kernel
theorem cd_98_47 : zt_code zq_T 98 47 = some (.invokevirtual 289, 3, 0) := by decide +kernel
theorem cd_98_50 : zt_code zq_T 98 50 = some (.ishl, 1, 0) := by decide +kernel
theorem cd_98_51 : zt_code zq_T 98 51 = some (.ior, 1, 0) := by decide +kernel
theorem cd_98_52 : zt_code zq_T 98 52 = some (.istore_n 3, 1, 0) := by decide +kernel
theorem cd_98_53 : zt_code zq_T 98 53 = some (.iinc 4 (1), 3, 0) := by decide +kernel
theorem cd_98_56 : zt_code zq_T 98 56 = some (.goto (-40), 3, 0) := by decide +kernel
theorem cd_98_59 : zt_code zq_T 98 59 = some (.iload_n 3, 1, 0) := by decide +kernel
theorem cd_98_60 : zt_code zq_T 98 60 = some (.ireturn, 1, 0) := by decide +kernel
theorem cd_99_0 : zt_code zq_T 99 0 = some (.aload_n 0, 1, 0) := by decide +kernel
theorem cd_99_1 : zt_code zq_T 99 1 = some (.iconst 0, 1, 0) := by decide +kernel
theorem cd_99_2 : zt_code zq_T 99 2 = some (.invokevirtual 438, 3, 0) := by decide +kernel
theorem cd_99_5 : zt_code zq_T 99 5 = some (.iconst 0, 1, 0) := by decide +kernel
theorem cd_99_6 : zt_code zq_T 99 6 = some (.istore 4, 2, 0) := by decide +kernel
theorem cd_99_8 : zt_code zq_T 99 8 = some (.iload 4, 2, 0) := by decide +kernel
theorem cd_99_10 : zt_code zq_T 99 10 = some (.iload_n 3, 1, 0) := by decide +kernel
theorem cd_99_11 : zt_code zq_T 99 11 = some (.if_icmp .ge (79), 3, 0) := by decide +kernel
theorem cd_99_14 : zt_code zq_T 99 14 = some (.aload_n 0, 1, 0) := by decide +kernel
theorem cd_99_15 : zt_code zq_T 99 15 = some (.iload_n 1, 1, 0) := by decide +kernel
theorem cd_99_16 : zt_code zq_T 99 16 = some (.iconst 0, 1, 0) := by decide +kernel
theorem cd_99_17 : zt_code zq_T 99 17 = some (.aload_n 2, 1, 0) := by decide +kernel
theorem cd_99_18 : zt_code zq_T 99 18 = some (.iload 4, 2, 0) := by decide +kernel
theorem cd_99_20 : zt_code zq_T 99 20 = some (.iaload, 1, 0) := by decide +kernel
theorem cd_99_21 : zt_code zq_T 99 21 = some (.bipush (13), 2, 0) := by decide +kernel
theorem cd_99_23 : zt_code zq_T 99 23 = some (.invokevirtual 441, 3, 0) := by decide +kernel
theorem cd_99_26 : zt_code zq_T 99 26 = some (.ifCond .eq (64), 3, 0) := by decide +kernel
theorem cd_99_29 : zt_code zq_T 99 29 = some (.iconst 0, 1, 0) := by decide +kernel
theorem cd_99_30 : zt_code zq_T 99 30 = some (.istore 5, 2, 0) := by decide +kernel
theorem cd_99_32 : zt_code zq_T 99 32 = some (.iload 5, 2, 0) := by decide +kernel
theorem cd_99_34 : zt_code zq_T 99 34 = some (.bipush (13), 2, 0) := by decide +kernel
theorem cd_99_36 : zt_code zq_T 99 36 = some (.if_icmp .ge (26), 3, 0) := by decide +kernel
theorem cd_99_39 : zt_code zq_T 99 39 = some (.aload_n 0, 1, 0) := by decide +kernel
theorem cd_99_40 : zt_code zq_T 99 40 = some (.getfield 81, 3, 0) := by decide +kernel
theorem cd_99_43 : zt_code zq_T 99 43 = some (.iload 5, 2, 0) := by decide +kernel
theorem cd_99_45 : zt_code zq_T 99 45 = some (.aload_n 0, 1, 0) := by decide +kernel
theorem cd_99_46 : zt_code zq_T 99 46 = some (.getfield 81, 3, 0) := by decide +kernel
theorem cd_99_49 : zt_code zq_T 99 49 = some (.bipush (13), 2, 0) := by decide +kernel
theorem cd_99_51 : zt_code zq_T 99 51 = some (.iload 5, 2, 0) := by decide +kernel
theorem cd_99_53 : zt_code zq_T 99 53 = some (.iadd, 1, 0) := by decide +kernel
theorem cd_99_54 : zt_code zq_T 99 54 = some (.iaload, 1, 0) := by decide +kernel
theorem cd_99_55 : zt_code zq_T 99 55 = some (.iastore, 1, 0) := by decide +kernel
theorem cd_99_56 : zt_code zq_T 99 56 = some (.iinc 5 (1), 3, 0) := by decide +kernel
theorem cd_99_59 : zt_code zq_T 99 59 = some (.goto (-27), 3, 0) := by decide +kernel
theorem cd_99_62 : zt_code zq_T 99 62 = some (.aload_n 0, 1, 0) := by decide +kernel
theorem cd_99_63 : zt_code zq_T 99 63 = some (.getfield 87, 3, 0) := by decide +kernel
theorem cd_99_66 : zt_code zq_T 99 66 = some (.iload 4, 2, 0) := by decide +kernel
theorem cd_99_68 : zt_code zq_T 99 68 = some (.aload_n 0, 1, 0) := by decide +kernel
theorem cd_99_69 : zt_code zq_T 99 69 = some (.getfield 429, 3, 0) := by decide +kernel
theorem cd_99_72 : zt_code zq_T 99 72 = some (.iastore, 1, 0) := by decide +kernel
theorem cd_99_73 : zt_code zq_T 99 73 = some (.aload_n 0, 1, 0) := by decide +kernel
theorem cd_99_74 : zt_code zq_T 99 74 = some (.getfield 90, 3, 0) := by decide +kernel
theorem cd_99_77 : zt_code zq_T 99 77 = some (.iload 4, 2, 0) := by decide +kernel
theorem cd_99_79 : zt_code zq_T 99 79 = some (.aload_n 0, 1, 0) := by decide +kernel
theorem cd_99_80 : zt_code zq_T 99 80 = some (.getfield 432, 3, 0) := by decide +kernel
theorem cd_99_83 : zt_code zq_T 99 83 = some (.iastore, 1, 0) := by decide +kernel
theorem cd_99_84 : zt_code zq_T 99 84 = some (.iinc 4 (1), 3, 0) := by decide +kernel
theorem cd_99_87 : zt_code zq_T 99 87 = some (.goto (-79), 3, 0) := by decide +kernel
theorem cd_99_90 : zt_code zq_T 99 90 = some (.iload 4, 2, 0) := by decide +kernel
theorem cd_99_92 : zt_code zq_T 99 92 = some (.ireturn, 1, 0) := by decide +kernel
theorem cd_100_0 : zt_code zq_T 100 0 = some (.aload_n 0, 1, 0) := by decide +kernel
theorem cd_100_1 : zt_code zq_T 100 1 = some (.iload_n 1, 1, 0) := by decide +kernel
theorem cd_100_2 : zt_code zq_T 100 2 = some (.aload_n 2, 1, 0) := by decide +kernel
theorem cd_100_3 : zt_code zq_T 100 3 = some (.iload_n 3, 1, 0) := by decide +kernel
theorem cd_100_4 : zt_code zq_T 100 4 = some (.invokevirtual 444, 3, 0) := by decide +kernel
theorem cd_100_7 : zt_code zq_T 100 7 = some (.iload_n 3, 1, 0) := by decide +kernel
theorem cd_100_8 : zt_code zq_T 100 8 = some (.if_icmp .ne (16), 3, 0) := by decide +kernel
theorem cd_100_11 : zt_code zq_T 100 11 = some (.aload_n 0, 1, 0) := by decide +kernel
theorem cd_100_12 : zt_code zq_T 100 12 = some (.iload_n 1, 1, 0) := by decide +kernel
theorem cd_100_13 : zt_code zq_T 100 13 = some (.iconst 0, 1, 0) := by decide +kernel
theorem cd_100_14 : zt_code zq_T 100 14 = some (.invokevirtual 448, 3, 0) := by decide +kernel
theorem cd_100_17 : zt_code zq_T 100 17 = some (.ifCond .eq (7), 3, 0) := by decide +kernel
theorem cd_100_20 : zt_code zq_T 100 20 = some (.iconst 1, 1, 0) := by decide +kernel
theorem cd_100_21 : zt_code zq_T 100 21 = some (.goto (4), 3, 0) := by decide +kernel
theorem cd_100_24 : zt_code zq_T 100 24 = some (.iconst 0, 1, 0) := by decide +kernel
theorem cd_100_25 : zt_code zq_T 100 25 = some (.ireturn, 1, 0) := by decide +kernel
theorem cd_101_0 : zt_code zq_T 101 0 = some (.iload_n 3, 1, 0) := by decide +kernel
theorem cd_101_1 : zt_code zq_T 101 1 = some (.ifCond .ne (18), 3, 0) := by decide +kernel
theorem cd_101_4 : zt_code zq_T 101 4 = some (.aload_n 0, 1, 0) := by decide +kernel
theorem cd_101_5 : zt_code zq_T 101 5 = some (.iload_n 1, 1, 0) := by decide +kernel
theorem cd_101_6 : zt_code zq_T 101 6 = some (.iload_n 2, 1, 0) := by decide +kernel
theorem cd_101_7 : zt_code zq_T 101 7 = some (.invokevirtual 448, 3, 0) := by decide +kernel
theorem cd_101_10 : zt_code zq_T 101 10 = some (.ifCond .eq (7), 3, 0) := by decide +kernel
theorem cd_101_13 : zt_code zq_T 101 13 = some (.iconst 1, 1, 0) := by decide +kernel
theorem cd_101_14 : zt_code zq_T 101 14 = some (.goto (4), 3, 0) := by decide +kernel
theorem cd_101_17 : zt_code zq_T 101 17 = some (.iconst 0, 1, 0) := by decide +kernel
theorem cd_101_18 : zt_code zq_T 101 18 = some (.ireturn, 1, 0) := by decide +kernel
theorem cd_101_19 : zt_code zq_T 101 19 = some (.aload_n 0, 1, 0) := by decide +kernel
theorem cd_101_20 : zt_code zq_T 101 20 = some (.iload_n 1, 1, 0) := by decide +kernel
theorem cd_101_21 : zt_code zq_T 101 21 = some (.iload_n 2, 1, 0) := by decide +kernel
theorem cd_101_22 : zt_code zq_T 101 22 = some (.invokevirtual 451, 3, 0) := by decide +kernel
theorem cd_101_25 : zt_code zq_T 101 25 = some (.istore 4, 2, 0) := by decide +kernel
theorem cd_101_27 : zt_code zq_T 101 27 = some (.iconst 0, 1, 0) := by decide +kernel
theorem cd_101_28 : zt_code zq_T 101 28 = some (.istore 5, 2, 0) := by decide +kernel
theorem cd_101_30 : zt_code zq_T 101 30 = some (.iconst 0, 1, 0) := by decide +kernel
theorem cd_101_31 : zt_code zq_T 101 31 = some (.istore 6, 2, 0) := by decide +kernel
theorem cd_101_33 : zt_code zq_T 101 33 = some (.iload 6, 2, 0) := by decide +kernel
theorem cd_101_35 : zt_code zq_T 101 35 = some (.bipush (26), 2, 0) := by decide +kernel
theorem cd_101_37 : zt_code zq_T 101 37 = some (.if_icmp .ge (53), 3, 0) := by decide +kernel
theorem cd_101_40 : zt_code zq_T 101 40 = some (.iload 4, 2, 0) := by decide +kernel
theorem cd_101_42 : zt_code zq_T 101 42 = some (.iload 6, 2, 0) := by decide +kernel
theorem cd_101_44 : zt_code zq_T 101 44 = some (.invokestatic 413, 3, 0) := by decide +kernel
theorem cd_101_47 : zt_code zq_T 101 47 = some (.ifCond .ne (6), 3, 0) := by decide +kernel
theorem cd_101_50 : zt_code zq_T 101 50 = some (.goto (34), 3, 0) := by decide +kernel
theorem cd_101_53 : zt_code zq_T 101 53 = some (.aload_n 0, 1, 0) := by decide +kernel
theorem cd_101_54 : zt_code zq_T 101 54 = some (.iload_n 1, 1, 0) := by decide +kernel
theorem cd_101_55 : zt_code zq_T 101 55 = some (.iload_n 2, 1, 0) := by decide +kernel
theorem cd_101_56 : zt_code zq_T 101 56 = some (.iload 6, 2, 0) := by decide +kernel
theorem cd_101_58 : zt_code zq_T 101 58 = some (.iload_n 2, 1, 0) := by decide +kernel
theorem cd_101_59 : zt_code zq_T 101 59 = some (.bipush (13), 2, 0) := by decide +kernel
theorem cd_101_61 : zt_code zq_T 101 61 = some (.iadd, 1, 0) := by decide +kernel
theorem cd_101_62 : zt_code zq_T 101 62 = some (.invokevirtual 441, 3, 0) := by decide +kernel
theorem cd_101_65 : zt_code zq_T 101 65 = some (.istore 7, 2, 0) := by decide +kernel
theorem cd_101_67 : zt_code zq_T 101 67 = some (.iload 5, 2, 0) := by decide +kernel
theorem cd_101_69 : zt_code zq_T 101 69 = some (.aload_n 0, 1, 0) := by decide +kernel
theorem cd_101_70 : zt_code zq_T 101 70 = some (.iload_n 1, 1, 0) := by decide +kernel
theorem cd_101_71 : zt_code zq_T 101 71 = some (.iload_n 2, 1, 0) := by decide +kernel
theorem cd_101_72 : zt_code zq_T 101 72 = some (.bipush (13), 2, 0) := by decide +kernel
theorem cd_101_74 : zt_code zq_T 101 74 = some (.iadd, 1, 0) := by decide +kernel
theorem cd_101_75 : zt_code zq_T 101 75 = some (.iload_n 3, 1, 0) := by decide +kernel
theorem cd_101_76 : zt_code zq_T 101 76 = some (.iconst 1, 1, 0) := by decide +kernel
theorem cd_101_77 : zt_code zq_T 101 77 = some (.isub, 1, 0) := by decide +kernel
theorem cd_101_78 : zt_code zq_T 101 78 = some (.invokevirtual 454, 3, 0) := by decide +kernel
theorem cd_101_81 : zt_code zq_T 101 81 = some (.iadd, 1, 0) := by decide +kernel
theorem cd_101_82 : zt_code zq_T 101 82 = some (.istore 5, 2, 0) := by decide +kernel
theorem cd_101_84 : zt_code zq_T 101 84 = some (.iinc 6 (1), 3, 0) := by decide +kernel
theorem cd_101_87 : zt_code zq_T 101 87 = some (.goto (-54), 3, 0) := by decide +kernel
theorem cd_101_90 : zt_code zq_T 101 90 = some (.iload 5, 2, 0) := by decide +kernel
theorem cd_101_92 : zt_code zq_T 101 92 = some (.ireturn, 1, 0) := by decide +kernel
theorem cd_102_0 : zt_code zq_T 102 0 = some (.aload_n 0, 1, 0) := by decide +kernel
theorem cd_102_1 : zt_code zq_T 102 1 = some (.iconst 0, 1, 0) := by decide +kernel
theorem cd_102_2 : zt_code zq_T 102 2 = some (.putfield 114, 3, 0) := by decide +kernel
theorem cd_102_5 : zt_code zq_T 102 5 = some (.aload_n 0, 1, 0) := by decide +kernel
theorem cd_102_6 : zt_code zq_T 102 6 = some (.iload_n 1, 1, 0) := by decide +kernel
theorem cd_102_7 : zt_code zq_T 102 7 = some (.invokevirtual 357, 3, 0) := by decide +kernel
theorem cd_102_10 : zt_code zq_T 102 10 = some (.ifCond .eq (23), 3, 0) := by decide +kernel
theorem cd_102_13 : zt_code zq_T 102 13 = some (.iload_n 2, 1, 0) := by decide +kernel
theorem cd_102_14 : zt_code zq_T 102 14 = some (.i2l, 1, 0) := by decide +kernel
theorem cd_102_15 : zt_code zq_T 102 15 = some (.lconst 0, 1, 0) := by decide +kernel
theorem cd_102_16 : zt_code zq_T 102 16 = some (.ldc2_w 402, 3, 0) := by decide +kernel
theorem cd_102_19 : zt_code zq_T 102 19 = some (.invokestatic 204, 3, 0) := by decide +kernel
theorem cd_102_22 : zt_code zq_T 102 22 = some (.ifCond .eq (11), 3, 0) := by decide +kernel
theorem cd_102_25 : zt_code zq_T 102 25 = some (.aload_n 0, 1, 0) := by decide +kernel
theorem cd_102_26 : zt_code zq_T 102 26 = some (.iload_n 1, 1, 0) := by decide +kernel
theorem cd_102_27 : zt_code zq_T 102 27 = some (.invokevirtual 372, 3, 0) := by decide +kernel
theorem cd_102_30 : zt_code zq_T 102 30 = some (.ifCond .ne (5), 3, 0) := by decide +kernel
theorem cd_102_33 : zt_code zq_T 102 33 = some (.iconst (-1), 1, 0) := by decide +kernel
theorem cd_102_34 : zt_code zq_T 102 34 = some (.ireturn, 1, 0) := by decide +kernel
theorem cd_102_35 : zt_code zq_T 102 35 = some (.aload_n 0, 1, 0) := by decide +kernel
theorem cd_102_36 : zt_code zq_T 102 36 = some (.iconst 0, 1, 0) := by decide +kernel
theorem cd_102_37 : zt_code zq_T 102 37 = some (.invokevirtual 438, 3, 0) := by decide +kernel
theorem cd_102_40 : zt_code zq_T 102 40 = some (.aload_n 0, 1, 0) := by decide +kernel
theorem cd_102_41 : zt_code zq_T 102 41 = some (.iload_n 1, 1, 0) := by decide +kernel
theorem cd_102_42 : zt_code zq_T 102 42 = some (.iconst 0, 1, 0) := by decide +kernel
theorem cd_102_43 : zt_code zq_T 102 43 = some (.iload_n 2, 1, 0) := by decide +kernel
theorem cd_102_44 : zt_code zq_T 102 44 = some (.invokevirtual 454, 3, 0) := by decide +kernel
theorem cd_102_47 : zt_code zq_T 102 47 = some (.ireturn, 1, 0) := by decide +kernel
theorem cd_103_0 : zt_code zq_T 103 0 = some (.iconst 0, 1, 0) := by decide +kernel
theorem cd_103_1 : zt_code zq_T 103 1 = some (.istore_n 1, 1, 0) := by decide +kernel
theorem cd_103_2 : zt_code zq_T 103 2 = some (.aload_n 0, 1, 0) := by decide +kernel
theorem cd_103_3 : zt_code zq_T 103 3 = some (.iconst 0, 1, 0) := by decide +kernel
theorem cd_103_4 : zt_code zq_T 103 4 = some (.putfield 128, 3, 0) := by decide +kernel
theorem cd_103_7 : zt_code zq_T 103 7 = some (.aload_n 0, 1, 0) := by decide +kernel
theorem cd_103_8 : zt_code zq_T 103 8 = some (.getfield 128, 3, 0) := by decide +kernel
theorem cd_103_11 : zt_code zq_T 103 11 = some (.aload_n 0, 1, 0) := by decide +kernel
theorem cd_103_12 : zt_code zq_T 103 12 = some (.getfield 117, 3, 0) := by decide +kernel
theorem cd_103_15 : zt_code zq_T 103 15 = some (.if_icmp .ge (62), 3, 0) := by decide +kernel
theorem cd_103_18 : zt_code zq_T 103 18 = some (.aload_n 0, 1, 0) := by decide +kernel
theorem cd_103_19 : zt_code zq_T 103 19 = some (.invokevirtual 131, 3, 0) := by decide +kernel
theorem cd_103_22 : zt_code zq_T 103 22 = some (.bipush (32), 2, 0) := by decide +kernel
theorem cd_103_24 : zt_code zq_T 103 24 = some (.if_icmp .ne (6), 3, 0) := by decide +kernel
theorem cd_103_27 : zt_code zq_T 103 27 = some (.goto (37), 3, 0) := by decide +kernel
theorem cd_103_30 : zt_code zq_T 103 30 = some (.aload_n 0, 1, 0) := by decide +kernel
theorem cd_103_31 : zt_code zq_T 103 31 = some (.invokevirtual 131, 3, 0) := by decide +kernel
theorem cd_103_34 : zt_code zq_T 103 34 = some (.invokestatic 175, 3, 0) := by decide +kernel
theorem cd_103_37 : zt_code zq_T 103 37 = some (.ifCond .eq (9), 3, 0) := by decide +kernel
theorem cd_103_40 : zt_code zq_T 103 40 = some (.iload_n 1, 1, 0) := by decide +kernel
theorem cd_103_41 : zt_code zq_T 103 41 = some (.bipush (24), 2, 0) := by decide +kernel
theorem cd_103_43 : zt_code zq_T 103 43 = some (.if_icmp .ne (5), 3, 0) := by decide +kernel
theorem cd_103_46 : zt_code zq_T 103 46 = some (.iconst (-1), 1, 0) := by decide +kernel
theorem cd_103_47 : zt_code zq_T 103 47 = some (.ireturn, 1, 0) := by decide +kernel
theorem cd_103_48 : zt_code zq_T 103 48 = some (.aload_n 0, 1, 0) := by decide +kernel
theorem cd_103_49 : zt_code zq_T 103 49 = some (.getfield 84, 3, 0) := by decide +kernel
theorem cd_103_52 : zt_code zq_T 103 52 = some (.iload_n 1, 1, 0) := by decide +kernel
theorem cd_103_53 : zt_code zq_T 103 53 = some (.aload_n 0, 1, 0) := by decide +kernel
theorem cd_103_54 : zt_code zq_T 103 54 = some (.invokevirtual 131, 3, 0) := by decide +kernel
theorem cd_103_57 : zt_code zq_T 103 57 = some (.bipush (97), 2, 0) := by decide +kernel
theorem cd_103_59 : zt_code zq_T 103 59 = some (.isub, 1, 0) := by decide +kernel
theorem cd_103_60 : zt_code zq_T 103 60 = some (.iastore, 1, 0) := by decide +kernel
theorem cd_103_61 : zt_code zq_T 103 61 = some (.iinc 1 (1), 3, 0) := by decide +kernel
theorem cd_103_64 : zt_code zq_T 103 64 = some (.aload_n 0, 1, 0) := by decide +kernel
theorem cd_103_65 : zt_code zq_T 103 65 = some (.dup, 1, 0) := by decide +kernel
theorem cd_103_66 : zt_code zq_T 103 66 = some (.getfield 128, 3, 0) := by decide +kernel
theorem cd_103_69 : zt_code zq_T 103 69 = some (.iconst 1, 1, 0) := by decide +kernel
theorem cd_103_70 : zt_code zq_T 103 70 = some (.iadd, 1, 0) := by decide +kernel
theorem cd_103_71 : zt_code zq_T 103 71 = some (.putfield 128, 3, 0) := by decide +kernel
theorem cd_103_74 : zt_code zq_T 103 74 = some (.goto (-67), 3, 0) := by decide +kernel
theorem cd_103_77 : zt_code zq_T 103 77 = some (.iload_n 1, 1, 0) := by decide +kernel
theorem cd_103_78 : zt_code zq_T 103 78 = some (.ireturn, 1, 0) := by decide +kernel
theorem cd_104_0 : zt_code zq_T 104 0 = some (.aload_n 0, 1, 0) := by decide +kernel
theorem cd_104_1 : zt_code zq_T 104 1 = some (.iconst 0, 1, 0) := by decide +kernel
theorem cd_104_2 : zt_code zq_T 104 2 = some (.putfield 114, 3, 0) := by decide +kernel
theorem cd_104_5 : zt_code zq_T 104 5 = some (.aload_n 0, 1, 0) := by decide +kernel
theorem cd_104_6 : zt_code zq_T 104 6 = some (.iload_n 1, 1, 0) := by decide +kernel
theorem cd_104_7 : zt_code zq_T 104 7 = some (.invokevirtual 357, 3, 0) := by decide +kernel
theorem cd_104_10 : zt_code zq_T 104 10 = some (.ifCond .eq (11), 3, 0) := by decide +kernel
theorem cd_104_13 : zt_code zq_T 104 13 = some (.aload_n 0, 1, 0) := by decide +kernel
theorem cd_104_14 : zt_code zq_T 104 14 = some (.iload_n 1, 1, 0) := by decide +kernel
theorem cd_104_15 : zt_code zq_T 104 15 = some (.invokevirtual 372, 3, 0) := by decide +kernel
theorem cd_104_18 : zt_code zq_T 104 18 = some (.ifCond .ne (5), 3, 0) := by decide +kernel
theorem cd_104_21 : zt_code zq_T 104 21 = some (.iconst (-1), 1, 0) := by decide +kernel
theorem cd_104_22 : zt_code zq_T 104 22 = some (.ireturn, 1, 0) := by decide +kernel
theorem cd_104_23 : zt_code zq_T 104 23 = some (.aload_n 0, 1, 0) := by decide +kernel
theorem cd_104_24 : zt_code zq_T 104 24 = some (.invokevirtual 457, 3, 0) := by decide +kernel
theorem cd_104_27 : zt_code zq_T 104 27 = some (.istore_n 2, 1, 0) := by decide +kernel
theorem cd_104_28 : zt_code zq_T 104 28 = some (.iload_n 2, 1, 0) := by decide +kernel
theorem cd_104_29 : zt_code zq_T 104 29 = some (.iconst (-1), 1, 0) := by decide +kernel
theorem cd_104_30 : zt_code zq_T 104 30 = some (.if_icmp .ne (11), 3, 0) := by decide +kernel
theorem cd_104_33 : zt_code zq_T 104 33 = some (.bipush (-2), 2, 0) := by decide +kernel
theorem cd_104_35 : zt_code zq_T 104 35 = some (.aload_n 0, 1, 0) := by decide +kernel
theorem cd_104_36 : zt_code zq_T 104 36 = some (.getfield 128, 3, 0) := by decide +kernel
theorem cd_104_39 : zt_code zq_T 104 39 = some (.isub, 1, 0) := by decide +kernel
theorem cd_104_40 : zt_code zq_T 104 40 = some (.ireturn, 1, 0) := by decide +kernel
theorem cd_104_41 : zt_code zq_T 104 41 = some (.aload_n 0, 1, 0) := by decide +kernel
theorem cd_104_42 : zt_code zq_T 104 42 = some (.iconst 0, 1, 0) := by decide +kernel
theorem cd_104_43 : zt_code zq_T 104 43 = some (.putfield 117, 3, 0) := by decide +kernel
theorem cd_104_46 : zt_code zq_T 104 46 = some (.aload_n 0, 1, 0) := by decide +kernel
theorem cd_104_47 : zt_code zq_T 104 47 = some (.iconst 1, 1, 0) := by decide +kernel
theorem cd_104_48 : zt_code zq_T 104 48 = some (.putfield 233, 3, 0) := by decide +kernel
theorem cd_104_51 : zt_code zq_T 104 51 = some (.aload_n 0, 1, 0) := by decide +kernel
theorem cd_104_52 : zt_code zq_T 104 52 = some (.iload_n 1, 1, 0) := by decide +kernel
theorem cd_104_53 : zt_code zq_T 104 53 = some (.putfield 460, 3, 0) := by decide +kernel
theorem cd_104_56 : zt_code zq_T 104 56 = some (.aload_n 0, 1, 0) := by decide +kernel
theorem cd_104_57 : zt_code zq_T 104 57 = some (.iload_n 2, 1, 0) := by decide +kernel
theorem cd_104_58 : zt_code zq_T 104 58 = some (.putfield 463, 3, 0) := by decide +kernel
theorem cd_104_61 : zt_code zq_T 104 61 = some (.aload_n 0, 1, 0) := by decide +kernel
theorem cd_104_62 : zt_code zq_T 104 62 = some (.aload_n 0, 1, 0) := by decide +kernel
theorem cd_104_63 : zt_code zq_T 104 63 = some (.iload_n 1, 1, 0) := by decide +kernel
theorem cd_104_64 : zt_code zq_T 104 64 = some (.aload_n 0, 1, 0) := by decide +kernel
theorem cd_104_65 : zt_code zq_T 104 65 = some (.getfield 84, 3, 0) := by decide +kernel
theorem cd_104_68 : zt_code zq_T 104 68 = some (.iload_n 2, 1, 0) := by decide +kernel
theorem cd_104_69 : zt_code zq_T 104 69 = some (.invokevirtual 444, 3, 0) := by decide +kernel
theorem cd_104_72 : zt_code zq_T 104 72 = some (.putfield 466, 3, 0) := by decide +kernel
theorem cd_104_75 : zt_code zq_T 104 75 = some (.aload_n 0, 1, 0) := by decide +kernel
theorem cd_104_76 : zt_code zq_T 104 76 = some (.aload_n 0, 1, 0) := by decide +kernel
theorem cd_104_77 : zt_code zq_T 104 77 = some (.iload_n 1, 1, 0) := by decide +kernel
theorem cd_104_78 : zt_code zq_T 104 78 = some (.iconst 0, 1, 0) := by decide +kernel
theorem cd_104_79 : zt_code zq_T 104 79 = some (.invokevirtual 451, 3, 0) := by decide +kernel
theorem cd_104_82 : zt_code zq_T 104 82 = some (.putfield 469, 3, 0) := by decide +kernel
theorem cd_104_85 : zt_code zq_T 104 85 = some (.aload_n 0, 1, 0) := by decide +kernel
theorem cd_104_86 : zt_code zq_T 104 86 = some (.aload_n 0, 1, 0) := by decide +kernel
theorem cd_104_87 : zt_code zq_T 104 87 = some (.iload_n 1, 1, 0) := by decide +kernel
theorem cd_104_88 : zt_code zq_T 104 88 = some (.iconst 0, 1, 0) := by decide +kernel
theorem cd_104_89 : zt_code zq_T 104 89 = some (.invokevirtual 448, 3, 0) := by decide +kernel
theorem cd_104_92 : zt_code zq_T 104 92 = some (.putfield 472, 3, 0) := by decide +kernel
theorem cd_104_95 : zt_code zq_T 104 95 = some (.aload_n 0, 1, 0) := by decide +kernel
theorem cd_104_96 : zt_code zq_T 104 96 = some (.aload_n 0, 1, 0) := by decide +kernel
theorem cd_104_97 : zt_code zq_T 104 97 = some (.iload_n 1, 1, 0) := by decide +kernel
theorem cd_104_98 : zt_code zq_T 104 98 = some (.iconst 3, 1, 0) := by decide +kernel
theorem cd_104_99 : zt_code zq_T 104 99 = some (.invokevirtual 258, 3, 0) := by decide +kernel
theorem cd_104_102 : zt_code zq_T 104 102 = some (.putfield 475, 3, 0) := by decide +kernel
theorem cd_104_105 : zt_code zq_T 104 105 = some (.aload_n 0, 1, 0) := by decide +kernel
theorem cd_104_106 : zt_code zq_T 104 106 = some (.aload_n 0, 1, 0) := by decide +kernel
theorem cd_104_107 : zt_code zq_T 104 107 = some (.iload_n 1, 1, 0) := by decide +kernel
theorem cd_104_108 : zt_code zq_T 104 108 = some (.iconst 4, 1, 0) := by decide +kernel
theorem cd_104_109 : zt_code zq_T 104 109 = some (.invokevirtual 258, 3, 0) := by decide +kernel
theorem cd_104_112 : zt_code zq_T 104 112 = some (.putfield 478, 3, 0) := by decide +kernel
theorem cd_104_115 : zt_code zq_T 104 115 = some (.iconst 0, 1, 0) := by decide +kernel
theorem cd_104_116 : zt_code zq_T 104 116 = some (.istore_n 3, 1, 0) := by decide +kernel
theorem cd_104_117 : zt_code zq_T 104 117 = some (.iload_n 3, 1, 0) := by decide +kernel
theorem cd_104_118 : zt_code zq_T 104 118 = some (.iload_n 2, 1, 0) := by decide +kernel
theorem cd_104_119 : zt_code zq_T 104 119 = some (.if_icmp .ge (21), 3, 0) := by decide +kernel
theorem cd_104_122 : zt_code zq_T 104 122 = some (.aload_n 0, 1, 0) := by decide +kernel
theorem cd_104_123 : zt_code zq_T 104 123 = some (.getfield 93, 3, 0) := by decide +kernel
theorem cd_104_126 : zt_code zq_T 104 126 = some (.iload_n 3, 1, 0) := by decide +kernel
theorem cd_104_127 : zt_code zq_T 104 127 = some (.aload_n 0, 1, 0) := by decide +kernel
theorem cd_104_128 : zt_code zq_T 104 128 = some (.getfield 84, 3, 0) := by decide +kernel
theorem cd_104_131 : zt_code zq_T 104 131 = some (.iload_n 3, 1, 0) := by decide +kernel
theorem cd_104_132 : zt_code zq_T 104 132 = some (.iaload, 1, 0) := by decide +kernel
theorem cd_104_133 : zt_code zq_T 104 133 = some (.iastore, 1, 0) := by decide +kernel
theorem cd_104_134 : zt_code zq_T 104 134 = some (.iinc 3 (1), 3, 0) := by decide +kernel
theorem cd_104_137 : zt_code zq_T 104 137 = some (.goto (-20), 3, 0) := by decide +kernel
theorem cd_104_140 : zt_code zq_T 104 140 = some (.iconst 0, 1, 0) := by decide +kernel
theorem cd_104_141 : zt_code zq_T 104 141 = some (.istore_n 3, 1, 0) := by decide +kernel
theorem cd_104_142 : zt_code zq_T 104 142 = some (.iload_n 3, 1, 0) := by decide +kernel
theorem cd_104_143 : zt_code zq_T 104 143 = some (.aload_n 0, 1, 0) := by decide +kernel
theorem cd_104_144 : zt_code zq_T 104 144 = some (.getfield 466, 3, 0) := by decide +kernel
theorem cd_104_147 : zt_code zq_T 104 147 = some (.if_icmp .ge (33), 3, 0) := by decide +kernel
theorem cd_104_150 : zt_code zq_T 104 150 = some (.aload_n 0, 1, 0) := by decide +kernel
theorem cd_104_151 : zt_code zq_T 104 151 = some (.getfield 96, 3, 0) := by decide +kernel
theorem cd_104_154 : zt_code zq_T 104 154 = some (.iload_n 3, 1, 0) := by decide +kernel
theorem cd_104_155 : zt_code zq_T 104 155 = some (.aload_n 0, 1, 0) := by decide +kernel
theorem cd_104_156 : zt_code zq_T 104 156 = some (.getfield 87, 3, 0) := by decide +kernel
theorem cd_104_159 : zt_code zq_T 104 159 = some (.iload_n 3, 1, 0) := by decide +kernel
theorem cd_104_160 : zt_code zq_T 104 160 = some (.iaload, 1, 0) := by decide +kernel
theorem cd_104_161 : zt_code zq_T 104 161 = some (.iastore, 1, 0) := by decide +kernel
theorem cd_104_162 : zt_code zq_T 104 162 = some (.aload_n 0, 1, 0) := by decide +kernel
theorem cd_104_163 : zt_code zq_T 104 163 = some (.getfield 99, 3, 0) := by decide +kernel
theorem cd_104_166 : zt_code zq_T 104 166 = some (.iload_n 3, 1, 0) := by decide +kernel
theorem cd_104_167 : zt_code zq_T 104 167 = some (.aload_n 0, 1, 0) := by decide +kernel
theorem cd_104_168 : zt_code zq_T 104 168 = some (.getfield 90, 3, 0) := by decide +kernel
theorem cd_104_171 : zt_code zq_T 104 171 = some (.iload_n 3, 1, 0) := by decide +kernel
theorem cd_104_172 : zt_code zq_T 104 172 = some (.iaload, 1, 0) := by decide +kernel
theorem cd_104_173 : zt_code zq_T 104 173 = some (.iastore, 1, 0) := by decide +kernel
theorem cd_104_174 : zt_code zq_T 104 174 = some (.iinc 3 (1), 3, 0) := by decide +kernel
theorem cd_104_177 : zt_code zq_T 104 177 = some (.goto (-35), 3, 0) := by decide +kernel
theorem cd_104_180 : zt_code zq_T 104 180 = some (.iconst 0, 1, 0) := by decide +kernel
theorem cd_104_181 : zt_code zq_T 104 181 = some (.istore_n 3, 1, 0) := by decide +kernel
theorem cd_104_182 : zt_code zq_T 104 182 = some (.iload_n 3, 1, 0) := by decide +kernel
theorem cd_104_183 : zt_code zq_T 104 183 = some (.bipush (13), 2, 0) := by decide +kernel
theorem cd_104_185 : zt_code zq_T 104 185 = some (.if_icmp .ge (21), 3, 0) := by decide +kernel
theorem cd_104_188 : zt_code zq_T 104 188 = some (.aload_n 0, 1, 0) := by decide +kernel
theorem cd_104_189 : zt_code zq_T 104 189 = some (.getfield 102, 3, 0) := by decide +kernel
theorem cd_104_192 : zt_code zq_T 104 192 = some (.iload_n 3, 1, 0) := by decide +kernel
theorem cd_104_193 : zt_code zq_T 104 193 = some (.aload_n 0, 1, 0) := by decide +kernel
theorem cd_104_194 : zt_code zq_T 104 194 = some (.getfield 81, 3, 0) := by decide +kernel
theorem cd_104_197 : zt_code zq_T 104 197 = some (.iload_n 3, 1, 0) := by decide +kernel
theorem cd_104_198 : zt_code zq_T 104 198 = some (.iaload, 1, 0) := by decide +kernel
theorem cd_104_199 : zt_code zq_T 104 199 = some (.iastore, 1, 0) := by decide +kernel
theorem cd_104_200 : zt_code zq_T 104 200 = some (.iinc 3 (1), 3, 0) := by decide +kernel
theorem cd_104_203 : zt_code zq_T 104 203 = some (.goto (-21), 3, 0) := by decide +kernel
theorem cd_104_206 : zt_code zq_T 104 206 = some (.aload_n 0, 1, 0) := by decide +kernel
theorem cd_104_207 : zt_code zq_T 104 207 = some (.getfield 466, 3, 0) := by decide +kernel
theorem cd_104_210 : zt_code zq_T 104 210 = some (.iload_n 2, 1, 0) := by decide +kernel
theorem cd_104_211 : zt_code zq_T 104 211 = some (.if_icmp .ne (14), 3, 0) := by decide +kernel
theorem cd_104_214 : zt_code zq_T 104 214 = some (.aload_n 0, 1, 0) := by decide +kernel
theorem cd_104_215 : zt_code zq_T 104 215 = some (.getfield 472, 3, 0) := by decide +kernel
theorem cd_104_218 : zt_code zq_T 104 218 = some (.ifCond .eq (7), 3, 0) := by decide +kernel
theorem cd_104_221 : zt_code zq_T 104 221 = some (.iconst 1, 1, 0) := by decide +kernel
theorem cd_104_222 : zt_code zq_T 104 222 = some (.goto (4), 3, 0) := by decide +kernel
theorem cd_104_225 : zt_code zq_T 104 225 = some (.iconst 0, 1, 0) := by decide +kernel
theorem cd_104_226 : zt_code zq_T 104 226 = some (.ireturn, 1, 0) := by decide +kernel
theorem cd_105_0 : zt_code zq_T 105 0 = some (.aload_n 0, 1, 0) := by decide +kernel
theorem cd_105_1 : zt_code zq_T 105 1 = some (.iconst 0, 1, 0) := by decide +kernel
theorem cd_105_2 : zt_code zq_T 105 2 = some (.putfield 114, 3, 0) := by decide +kernel
theorem cd_105_5 : zt_code zq_T 105 5 = some (.aload_n 0, 1, 0) := by decide +kernel
theorem cd_105_6 : zt_code zq_T 105 6 = some (.getfield 233, 3, 0) := by decide +kernel
theorem cd_105_9 : zt_code zq_T 105 9 = some (.ifCond .ne (5), 3, 0) := by decide +kernel
theorem cd_105_12 : zt_code zq_T 105 12 = some (.iconst (-1), 1, 0) := by decide +kernel
theorem cd_105_13 : zt_code zq_T 105 13 = some (.ireturn, 1, 0) := by decide +kernel
theorem cd_105_14 : zt_code zq_T 105 14 = some (.iload_n 1, 1, 0) := by decide +kernel
theorem cd_105_15 : zt_code zq_T 105 15 = some (.tableswitch (66) (0) (4) #[33, 38, 43, 48, 53], 33, 0) := by decide +kernel
theorem cd_105_48 : zt_code zq_T 105 48 = some (.aload_n 0, 1, 0) := by decide +kernel
theorem cd_105_49 : zt_code zq_T 105 49 = some (.getfield 460, 3, 0) := by decide +kernel
theorem cd_105_52 : zt_code zq_T 105 52 = some (.ireturn, 1, 0) := by decide +kernel
theorem cd_105_53 : zt_code zq_T 105 53 = some (.aload_n 0, 1, 0) := by decide +kernel
theorem cd_105_54 : zt_code zq_T 105 54 = some (.getfield 463, 3, 0) := by decide +kernel
theorem cd_105_57 : zt_code zq_T 105 57 = some (.ireturn, 1, 0) := by decide +kernel
theorem cd_105_58 : zt_code zq_T 105 58 = some (.aload_n 0, 1, 0) := by decide +kernel
theorem cd_105_59 : zt_code zq_T 105 59 = some (.getfield 466, 3, 0) := by decide +kernel
theorem cd_105_62 : zt_code zq_T 105 62 = some (.ireturn, 1, 0) := by decide +kernel
theorem cd_105_63 : zt_code zq_T 105 63 = some (.aload_n 0, 1, 0) := by decide +kernel
theorem cd_105_64 : zt_code zq_T 105 64 = some (.getfield 469, 3, 0) := by decide +kernel
theorem cd_105_67 : zt_code zq_T 105 67 = some (.ireturn, 1, 0) := by decide +kernel
theorem cd_105_68 : zt_code zq_T 105 68 = some (.aload_n 0, 1, 0) := by decide +kernel
theorem cd_105_69 : zt_code zq_T 105 69 = some (.getfield 472, 3, 0) := by decide +kernel
theorem cd_105_72 : zt_code zq_T 105 72 = some (.ifCond .eq (7), 3, 0) := by decide +kernel
theorem cd_105_75 : zt_code zq_T 105 75 = some (.iconst 1, 1, 0) := by decide +kernel
theorem cd_105_76 : zt_code zq_T 105 76 = some (.goto (4), 3, 0) := by decide +kernel
theorem cd_105_79 : zt_code zq_T 105 79 = some (.iconst 0, 1, 0) := by decide +kernel
theorem cd_105_80 : zt_code zq_T 105 80 = some (.ireturn, 1, 0) := by decide +kernel
theorem cd_105_81 : zt_code zq_T 105 81 = some (.iconst (-1), 1, 0) := by decide +kernel
theorem cd_105_82 : zt_code zq_T 105 82 = some (.ireturn, 1, 0) := by decide +kernel
theorem cd_106_0 : zt_code zq_T 106 0 = some (.aload_n 0, 1, 0) := by decide +kernel
theorem cd_106_1 : zt_code zq_T 106 1 = some (.iconst 0, 1, 0) := by decide +kernel
theorem cd_106_2 : zt_code zq_T 106 2 = some (.putfield 114, 3, 0) := by decide +kernel
theorem cd_106_5 : zt_code zq_T 106 5 = some (.aload_n 0, 1, 0) := by decide +kernel
theorem cd_106_6 : zt_code zq_T 106 6 = some (.getfield 233, 3, 0) := by decide +kernel
theorem cd_106_9 : zt_code zq_T 106 9 = some (.ifCond .eq (29), 3, 0) := by decide +kernel
theorem cd_106_12 : zt_code zq_T 106 12 = some (.iload_n 1, 1, 0) := by decide +kernel
theorem cd_106_13 : zt_code zq_T 106 13 = some (.i2l, 1, 0) := by decide +kernel
theorem cd_106_14 : zt_code zq_T 106 14 = some (.lconst 0, 1, 0) := by decide +kernel
theorem cd_106_15 : zt_code zq_T 106 15 = some (.aload_n 0, 1, 0) := by decide +kernel
theorem cd_106_16 : zt_code zq_T 106 16 = some (.getfield 466, 3, 0) := by decide +kernel
theorem cd_106_19 : zt_code zq_T 106 19 = some (.iconst 1, 1, 0) := by decide +kernel
theorem cd_106_20 : zt_code zq_T 106 20 = some (.isub, 1, 0) := by decide +kernel
theorem cd_106_21 : zt_code zq_T 106 21 = some (.i2l, 1, 0) := by decide +kernel
theorem cd_106_22 : zt_code zq_T 106 22 = some (.invokestatic 204, 3, 0) := by decide +kernel
theorem cd_106_25 : zt_code zq_T 106 25 = some (.ifCond .eq (13), 3, 0) := by decide +kernel
theorem cd_106_28 : zt_code zq_T 106 28 = some (.iload_n 2, 1, 0) := by decide +kernel
theorem cd_106_29 : zt_code zq_T 106 29 = some (.i2l, 1, 0) := by decide +kernel
theorem cd_106_30 : zt_code zq_T 106 30 = some (.lconst 0, 1, 0) := by decide +kernel
theorem cd_106_31 : zt_code zq_T 106 31 = some (.lconst 1, 1, 0) := by decide +kernel
theorem cd_106_32 : zt_code zq_T 106 32 = some (.invokestatic 204, 3, 0) := by decide +kernel
theorem cd_106_35 : zt_code zq_T 106 35 = some (.ifCond .ne (7), 3, 0) := by decide +kernel
theorem cd_106_38 : zt_code zq_T 106 38 = some (.ldc_w 366, 3, 0) := by decide +kernel
theorem cd_106_41 : zt_code zq_T 106 41 = some (.ireturn, 1, 0) := by decide +kernel
theorem cd_106_42 : zt_code zq_T 106 42 = some (.iload_n 2, 1, 0) := by decide +kernel
theorem cd_106_43 : zt_code zq_T 106 43 = some (.ifCond .ne (12), 3, 0) := by decide +kernel
theorem cd_106_46 : zt_code zq_T 106 46 = some (.aload_n 0, 1, 0) := by decide +kernel
theorem cd_106_47 : zt_code zq_T 106 47 = some (.getfield 96, 3, 0) := by decide +kernel
theorem cd_106_50 : zt_code zq_T 106 50 = some (.iload_n 1, 1, 0) := by decide +kernel
theorem cd_106_51 : zt_code zq_T 106 51 = some (.iaload, 1, 0) := by decide +kernel
theorem cd_106_52 : zt_code zq_T 106 52 = some (.goto (9), 3, 0) := by decide +kernel
theorem cd_106_55 : zt_code zq_T 106 55 = some (.aload_n 0, 1, 0) := by decide +kernel
theorem cd_106_56 : zt_code zq_T 106 56 = some (.getfield 99, 3, 0) := by decide +kernel
theorem cd_106_59 : zt_code zq_T 106 59 = some (.iload_n 1, 1, 0) := by decide +kernel
theorem cd_106_60 : zt_code zq_T 106 60 = some (.iaload, 1, 0) := by decide +kernel
theorem cd_106_61 : zt_code zq_T 106 61 = some (.ireturn, 1, 0) := by decide +kernel
theorem cd_107_0 : zt_code zq_T 107 0 = some (.aload_n 0, 1, 0) := by decide +kernel
theorem cd_107_1 : zt_code zq_T 107 1 = some (.iconst 0, 1, 0) := by decide +kernel
theorem cd_107_2 : zt_code zq_T 107 2 = some (.putfield 114, 3, 0) := by decide +kernel
theorem cd_107_5 : zt_code zq_T 107 5 = some (.aload_n 0, 1, 0) := by decide +kernel
theorem cd_107_6 : zt_code zq_T 107 6 = some (.getfield 233, 3, 0) := by decide +kernel
theorem cd_107_9 : zt_code zq_T 107 9 = some (.ifCond .eq (30), 3, 0) := by decide +kernel
theorem cd_107_12 : zt_code zq_T 107 12 = some (.iload_n 1, 1, 0) := by decide +kernel
theorem cd_107_13 : zt_code zq_T 107 13 = some (.i2l, 1, 0) := by decide +kernel
theorem cd_107_14 : zt_code zq_T 107 14 = some (.lconst 0, 1, 0) := by decide +kernel
theorem cd_107_15 : zt_code zq_T 107 15 = some (.aload_n 0, 1, 0) := by decide +kernel
theorem cd_107_16 : zt_code zq_T 107 16 = some (.getfield 475, 3, 0) := by decide +kernel
theorem cd_107_19 : zt_code zq_T 107 19 = some (.iconst 1, 1, 0) := by decide +kernel
theorem cd_107_20 : zt_code zq_T 107 20 = some (.isub, 1, 0) := by decide +kernel
theorem cd_107_21 : zt_code zq_T 107 21 = some (.i2l, 1, 0) := by decide +kernel
theorem cd_107_22 : zt_code zq_T 107 22 = some (.invokestatic 204, 3, 0) := by decide +kernel
theorem cd_107_25 : zt_code zq_T 107 25 = some (.ifCond .eq (14), 3, 0) := by decide +kernel
theorem cd_107_28 : zt_code zq_T 107 28 = some (.aload_n 0, 1, 0) := by decide +kernel
theorem cd_107_29 : zt_code zq_T 107 29 = some (.getfield 102, 3, 0) := by decide +kernel
theorem cd_107_32 : zt_code zq_T 107 32 = some (.iconst 1, 1, 0) := by decide +kernel
theorem cd_107_33 : zt_code zq_T 107 33 = some (.iload_n 1, 1, 0) := by decide +kernel
theorem cd_107_34 : zt_code zq_T 107 34 = some (.iadd, 1, 0) := by decide +kernel
theorem cd_107_35 : zt_code zq_T 107 35 = some (.iaload, 1, 0) := by decide +kernel
theorem cd_107_36 : zt_code zq_T 107 36 = some (.goto (6), 3, 0) := by decide +kernel
theorem cd_107_39 : zt_code zq_T 107 39 = some (.ldc_w 366, 3, 0) := by decide +kernel
theorem cd_107_42 : zt_code zq_T 107 42 = some (.ireturn, 1, 0) := by decide +kernel
theorem cd_108_0 : zt_code zq_T 108 0 = some (.aload_n 0, 1, 0) := by decide +kernel
theorem cd_108_1 : zt_code zq_T 108 1 = some (.iconst 0, 1, 0) := by decide +kernel
theorem cd_108_2 : zt_code zq_T 108 2 = some (.putfield 114, 3, 0) := by decide +kernel
theorem cd_108_5 : zt_code zq_T 108 5 = some (.aload_n 0, 1, 0) := by decide +kernel
theorem cd_108_6 : zt_code zq_T 108 6 = some (.getfield 233, 3, 0) := by decide +kernel
theorem cd_108_9 : zt_code zq_T 108 9 = some (.ifCond .eq (31), 3, 0) := by decide +kernel
theorem cd_108_12 : zt_code zq_T 108 12 = some (.iload_n 1, 1, 0) := by decide +kernel
theorem cd_108_13 : zt_code zq_T 108 13 = some (.i2l, 1, 0) := by decide +kernel
theorem cd_108_14 : zt_code zq_T 108 14 = some (.lconst 0, 1, 0) := by decide +kernel
theorem cd_108_15 : zt_code zq_T 108 15 = some (.aload_n 0, 1, 0) := by decide +kernel
theorem cd_108_16 : zt_code zq_T 108 16 = some (.getfield 478, 3, 0) := by decide +kernel
theorem cd_108_19 : zt_code zq_T 108 19 = some (.iconst 1, 1, 0) := by decide +kernel
theorem cd_108_20 : zt_code zq_T 108 20 = some (.isub, 1, 0) := by decide +kernel
theorem cd_108_21 : zt_code zq_T 108 21 = some (.i2l, 1, 0) := by decide +kernel
theorem cd_108_22 : zt_code zq_T 108 22 = some (.invokestatic 204, 3, 0) := by decide +kernel
theorem cd_108_25 : zt_code zq_T 108 25 = some (.ifCond .eq (15), 3, 0) := by decide +kernel
theorem cd_108_28 : zt_code zq_T 108 28 = some (.aload_n 0, 1, 0) := by decide +kernel
theorem cd_108_29 : zt_code zq_T 108 29 = some (.getfield 102, 3, 0) := by decide +kernel
theorem cd_108_32 : zt_code zq_T 108 32 = some (.bipush (9), 2, 0) := by decide +kernel
theorem cd_108_34 : zt_code zq_T 108 34 = some (.iload_n 1, 1, 0) := by decide +kernel
theorem cd_108_35 : zt_code zq_T 108 35 = some (.iadd, 1, 0) := by decide +kernel
theorem cd_108_36 : zt_code zq_T 108 36 = some (.iaload, 1, 0) := by decide +kernel
theorem cd_108_37 : zt_code zq_T 108 37 = some (.goto (6), 3, 0) := by decide +kernel
theorem cd_108_40 : zt_code zq_T 108 40 = some (.ldc_w 366, 3, 0) := by decide +kernel
theorem cd_108_43 : zt_code zq_T 108 43 = some (.ireturn, 1, 0) := by decide +kernel
theorem cd_109_0 : zt_code zq_T 109 0 = some (.iconst 0, 1, 0) := by decide +kernel
theorem cd_109_1 : zt_code zq_T 109 1 = some (.istore 4, 2, 0) := by decide +kernel
theorem cd_109_3 : zt_code zq_T 109 3 = some (.iconst 0, 1, 0) := by decide +kernel
theorem cd_109_4 : zt_code zq_T 109 4 = some (.istore 5, 2, 0) := by decide +kernel
theorem cd_109_6 : zt_code zq_T 109 6 = some (.iload 5, 2, 0) := by decide +kernel
theorem cd_109_8 : zt_code zq_T 109 8 = some (.aload_n 0, 1, 0) := by decide +kernel
theorem cd_109_9 : zt_code zq_T 109 9 = some (.getfield 463, 3, 0) := by decide +kernel
theorem cd_109_12 : zt_code zq_T 109 12 = some (.if_icmp .gt (68), 3, 0) := by decide +kernel
theorem cd_109_15 : zt_code zq_T 109 15 = some (.iload 5, 2, 0) := by decide +kernel
theorem cd_109_17 : zt_code zq_T 109 17 = some (.iload_n 2, 1, 0) := by decide +kernel
theorem cd_109_18 : zt_code zq_T 109 18 = some (.if_icmp .ne (19), 3, 0) := by decide +kernel
theorem cd_109_21 : zt_code zq_T 109 21 = some (.iload_n 1, 1, 0) := by decide +kernel
theorem cd_109_22 : zt_code zq_T 109 22 = some (.iconst 1, 1, 0) := by decide +kernel
theorem cd_109_23 : zt_code zq_T 109 23 = some (.if_icmp .le (14), 3, 0) := by decide +kernel
theorem cd_109_26 : zt_code zq_T 109 26 = some (.aload_n 0, 1, 0) := by decide +kernel
theorem cd_109_27 : zt_code zq_T 109 27 = some (.getfield 105, 3, 0) := by decide +kernel
theorem cd_109_30 : zt_code zq_T 109 30 = some (.iload 4, 2, 0) := by decide +kernel
theorem cd_109_32 : zt_code zq_T 109 32 = some (.iload_n 3, 1, 0) := by decide +kernel
theorem cd_109_33 : zt_code zq_T 109 33 = some (.iastore, 1, 0) := by decide +kernel
theorem cd_109_34 : zt_code zq_T 109 34 = some (.iinc 4 (1), 3, 0) := by decide +kernel
theorem cd_109_37 : zt_code zq_T 109 37 = some (.iload 5, 2, 0) := by decide +kernel
theorem cd_109_39 : zt_code zq_T 109 39 = some (.aload_n 0, 1, 0) := by decide +kernel
theorem cd_109_40 : zt_code zq_T 109 40 = some (.getfield 463, 3, 0) := by decide +kernel
theorem cd_109_43 : zt_code zq_T 109 43 = some (.if_icmp .ge (31), 3, 0) := by decide +kernel
theorem cd_109_46 : zt_code zq_T 109 46 = some (.iload 5, 2, 0) := by decide +kernel
theorem cd_109_48 : zt_code zq_T 109 48 = some (.iload_n 2, 1, 0) := by decide +kernel
theorem cd_109_49 : zt_code zq_T 109 49 = some (.if_icmp .ne (8), 3, 0) := by decide +kernel
theorem cd_109_52 : zt_code zq_T 109 52 = some (.iload_n 1, 1, 0) := by decide +kernel
theorem cd_109_53 : zt_code zq_T 109 53 = some (.iconst 2, 1, 0) := by decide +kernel
theorem cd_109_54 : zt_code zq_T 109 54 = some (.if_icmp .ne (20), 3, 0) := by decide +kernel
theorem cd_109_57 : zt_code zq_T 109 57 = some (.aload_n 0, 1, 0) := by decide +kernel
theorem cd_109_58 : zt_code zq_T 109 58 = some (.getfield 105, 3, 0) := by decide +kernel
theorem cd_109_61 : zt_code zq_T 109 61 = some (.iload 4, 2, 0) := by decide +kernel
theorem cd_109_63 : zt_code zq_T 109 63 = some (.aload_n 0, 1, 0) := by decide +kernel
theorem cd_109_64 : zt_code zq_T 109 64 = some (.getfield 93, 3, 0) := by decide +kernel
theorem cd_109_67 : zt_code zq_T 109 67 = some (.iload 5, 2, 0) := by decide +kernel
theorem cd_109_69 : zt_code zq_T 109 69 = some (.iaload, 1, 0) := by decide +kernel
theorem cd_109_70 : zt_code zq_T 109 70 = some (.iastore, 1, 0) := by decide +kernel
theorem cd_109_71 : zt_code zq_T 109 71 = some (.iinc 4 (1), 3, 0) := by decide +kernel
theorem cd_109_74 : zt_code zq_T 109 74 = some (.iinc 5 (1), 3, 0) := by decide +kernel
theorem cd_109_77 : zt_code zq_T 109 77 = some (.goto (-71), 3, 0) := by decide +kernel
theorem cd_109_80 : zt_code zq_T 109 80 = some (.aload_n 0, 1, 0) := by decide +kernel
theorem cd_109_81 : zt_code zq_T 109 81 = some (.aload_n 0, 1, 0) := by decide +kernel
theorem cd_109_82 : zt_code zq_T 109 82 = some (.getfield 460, 3, 0) := by decide +kernel
theorem cd_109_85 : zt_code zq_T 109 85 = some (.aload_n 0, 1, 0) := by decide +kernel
theorem cd_109_86 : zt_code zq_T 109 86 = some (.getfield 105, 3, 0) := by decide +kernel
theorem cd_109_89 : zt_code zq_T 109 89 = some (.iload 4, 2, 0) := by decide +kernel
theorem cd_109_91 : zt_code zq_T 109 91 = some (.invokevirtual 481, 3, 0) := by decide +kernel
theorem cd_109_94 : zt_code zq_T 109 94 = some (.ifCond .ne (5), 3, 0) := by decide +kernel
theorem cd_109_97 : zt_code zq_T 109 97 = some (.iconst 0, 1, 0) := by decide +kernel
theorem cd_109_98 : zt_code zq_T 109 98 = some (.ireturn, 1, 0) := by decide +kernel
theorem cd_109_99 : zt_code zq_T 109 99 = some (.aload_n 0, 1, 0) := by decide +kernel
theorem cd_109_100 : zt_code zq_T 109 100 = some (.iload_n 1, 1, 0) := by decide +kernel
theorem cd_109_101 : zt_code zq_T 109 101 = some (.putfield 485, 3, 0) := by decide +kernel
theorem cd_109_104 : zt_code zq_T 109 104 = some (.aload_n 0, 1, 0) := by decide +kernel
theorem cd_109_105 : zt_code zq_T 109 105 = some (.iload_n 2, 1, 0) := by decide +kernel
theorem cd_109_106 : zt_code zq_T 109 106 = some (.putfield 488, 3, 0) := by decide +kernel
theorem cd_109_109 : zt_code zq_T 109 109 = some (.aload_n 0, 1, 0) := by decide +kernel
theorem cd_109_110 : zt_code zq_T 109 110 = some (.iload_n 1, 1, 0) := by decide +kernel
theorem cd_109_111 : zt_code zq_T 109 111 = some (.iconst 1, 1, 0) := by decide +kernel
theorem cd_109_112 : zt_code zq_T 109 112 = some (.if_icmp .ne (7), 3, 0) := by decide +kernel
theorem cd_109_115 : zt_code zq_T 109 115 = some (.iconst (-1), 1, 0) := by decide +kernel
theorem cd_109_116 : zt_code zq_T 109 116 = some (.goto (4), 3, 0) := by decide +kernel
theorem cd_109_119 : zt_code zq_T 109 119 = some (.iload_n 3, 1, 0) := by decide +kernel
theorem cd_109_120 : zt_code zq_T 109 120 = some (.putfield 491, 3, 0) := by decide +kernel
theorem cd_109_123 : zt_code zq_T 109 123 = some (.iconst 1, 1, 0) := by decide +kernel
theorem cd_109_124 : zt_code zq_T 109 124 = some (.ireturn, 1, 0) := by decide +kernel
theorem cd_110_0 : zt_code zq_T 110 0 = some (.aload_n 0, 1, 0) := by decide +kernel
theorem cd_110_1 : zt_code zq_T 110 1 = some (.iconst 0, 1, 0) := by decide +kernel
theorem cd_110_2 : zt_code zq_T 110 2 = some (.putfield 485, 3, 0) := by decide +kernel
theorem cd_110_5 : zt_code zq_T 110 5 = some (.aload_n 0, 1, 0) := by decide +kernel
theorem cd_110_6 : zt_code zq_T 110 6 = some (.iconst (-1), 1, 0) := by decide +kernel
theorem cd_110_7 : zt_code zq_T 110 7 = some (.putfield 488, 3, 0) := by decide +kernel
theorem cd_110_10 : zt_code zq_T 110 10 = some (.aload_n 0, 1, 0) := by decide +kernel
theorem cd_110_11 : zt_code zq_T 110 11 = some (.iconst (-1), 1, 0) := by decide +kernel
theorem cd_110_12 : zt_code zq_T 110 12 = some (.putfield 491, 3, 0) := by decide +kernel
theorem cd_110_15 : zt_code zq_T 110 15 = some (.aload_n 0, 1, 0) := by decide +kernel
theorem cd_110_16 : zt_code zq_T 110 16 = some (.aload_n 0, 1, 0) := by decide +kernel
theorem cd_110_17 : zt_code zq_T 110 17 = some (.getfield 460, 3, 0) := by decide +kernel
theorem cd_110_20 : zt_code zq_T 110 20 = some (.aload_n 0, 1, 0) := by decide +kernel
theorem cd_110_21 : zt_code zq_T 110 21 = some (.getfield 93, 3, 0) := by decide +kernel
theorem cd_110_24 : zt_code zq_T 110 24 = some (.aload_n 0, 1, 0) := by decide +kernel
theorem cd_110_25 : zt_code zq_T 110 25 = some (.getfield 463, 3, 0) := by decide +kernel
theorem cd_110_28 : zt_code zq_T 110 28 = some (.invokevirtual 481, 3, 0) := by decide +kernel
theorem cd_110_31 : zt_code zq_T 110 31 = some (.ifCond .eq (5), 3, 0) := by decide +kernel
theorem cd_110_34 : zt_code zq_T 110 34 = some (.iconst 1, 1, 0) := by decide +kernel
theorem cd_110_35 : zt_code zq_T 110 35 = some (.ireturn, 1, 0) := by decide +kernel
theorem cd_110_36 : zt_code zq_T 110 36 = some (.iconst 0, 1, 0) := by decide +kernel
theorem cd_110_37 : zt_code zq_T 110 37 = some (.istore_n 1, 1, 0) := by decide +kernel
theorem cd_110_38 : zt_code zq_T 110 38 = some (.iload_n 1, 1, 0) := by decide +kernel
theorem cd_110_39 : zt_code zq_T 110 39 = some (.aload_n 0, 1, 0) := by decide +kernel
theorem cd_110_40 : zt_code zq_T 110 40 = some (.getfield 463, 3, 0) := by decide +kernel
theorem cd_110_43 : zt_code zq_T 110 43 = some (.if_icmp .ge (21), 3, 0) := by decide +kernel
theorem cd_110_46 : zt_code zq_T 110 46 = some (.aload_n 0, 1, 0) := by decide +kernel
theorem cd_110_47 : zt_code zq_T 110 47 = some (.iconst 1, 1, 0) := by decide +kernel
theorem cd_110_48 : zt_code zq_T 110 48 = some (.iload_n 1, 1, 0) := by decide +kernel
theorem cd_110_49 : zt_code zq_T 110 49 = some (.iconst (-1), 1, 0) := by decide +kernel
theorem cd_110_50 : zt_code zq_T 110 50 = some (.invokevirtual 494, 3, 0) := by decide +kernel
theorem cd_110_53 : zt_code zq_T 110 53 = some (.ifCond .eq (5), 3, 0) := by decide +kernel
theorem cd_110_56 : zt_code zq_T 110 56 = some (.iconst 1, 1, 0) := by decide +kernel
theorem cd_110_57 : zt_code zq_T 110 57 = some (.ireturn, 1, 0) := by decide +kernel
theorem cd_110_58 : zt_code zq_T 110 58 = some (.iinc 1 (1), 3, 0) := by decide +kernel
theorem cd_110_61 : zt_code zq_T 110 61 = some (.goto (-23), 3, 0) := by decide +kernel
theorem cd_110_64 : zt_code zq_T 110 64 = some (.aload_n 0, 1, 0) := by decide +kernel
theorem cd_110_65 : zt_code zq_T 110 65 = some (.aload_n 0, 1, 0) := by decide +kernel
theorem cd_110_66 : zt_code zq_T 110 66 = some (.getfield 460, 3, 0) := by decide +kernel
theorem cd_110_69 : zt_code zq_T 110 69 = some (.invokevirtual 378, 3, 0) := by decide +kernel
theorem cd_110_72 : zt_code zq_T 110 72 = some (.istore_n 1, 1, 0) := by decide +kernel
theorem cd_110_73 : zt_code zq_T 110 73 = some (.iconst 2, 1, 0) := by decide +kernel
theorem cd_110_74 : zt_code zq_T 110 74 = some (.istore_n 2, 1, 0) := by decide +kernel
theorem cd_110_75 : zt_code zq_T 110 75 = some (.iload_n 2, 1, 0) := by decide +kernel
theorem cd_110_76 : zt_code zq_T 110 76 = some (.iconst 3, 1, 0) := by decide +kernel
theorem cd_110_77 : zt_code zq_T 110 77 = some (.if_icmp .gt (90), 3, 0) := by decide +kernel
theorem cd_110_80 : zt_code zq_T 110 80 = some (.iconst 0, 1, 0) := by decide +kernel
theorem cd_110_81 : zt_code zq_T 110 81 = some (.istore_n 3, 1, 0) := by decide +kernel
theorem cd_110_82 : zt_code zq_T 110 82 = some (.iload_n 3, 1, 0) := by decide +kernel
theorem cd_110_83 : zt_code zq_T 110 83 = some (.aload_n 0, 1, 0) := by decide +kernel
theorem cd_110_84 : zt_code zq_T 110 84 = some (.getfield 463, 3, 0) := by decide +kernel
theorem cd_110_87 : zt_code zq_T 110 87 = some (.iload_n 2, 1, 0) := by decide +kernel
theorem cd_110_88 : zt_code zq_T 110 88 = some (.iconst 2, 1, 0) := by decide +kernel
theorem cd_110_89 : zt_code zq_T 110 89 = some (.if_icmp .ne (7), 3, 0) := by decide +kernel
theorem cd_110_92 : zt_code zq_T 110 92 = some (.iconst 1, 1, 0) := by decide +kernel
theorem cd_110_93 : zt_code zq_T 110 93 = some (.goto (4), 3, 0) := by decide +kernel
theorem cd_110_96 : zt_code zq_T 110 96 = some (.iconst 0, 1, 0) := by decide +kernel
theorem cd_110_97 : zt_code zq_T 110 97 = some (.iadd, 1, 0) := by decide +kernel
theorem cd_110_98 : zt_code zq_T 110 98 = some (.if_icmp .ge (63), 3, 0) := by decide +kernel
theorem cd_110_101 : zt_code zq_T 110 101 = some (.iconst 0, 1, 0) := by decide +kernel
theorem cd_110_102 : zt_code zq_T 110 102 = some (.istore 4, 2, 0) := by decide +kernel
theorem cd_110_104 : zt_code zq_T 110 104 = some (.iload 4, 2, 0) := by decide +kernel
theorem cd_110_106 : zt_code zq_T 110 106 = some (.bipush (26), 2, 0) := by decide +kernel
theorem cd_110_108 : zt_code zq_T 110 108 = some (.if_icmp .ge (47), 3, 0) := by decide +kernel
theorem cd_110_111 : zt_code zq_T 110 111 = some (.iload_n 1, 1, 0) := by decide +kernel
theorem cd_110_112 : zt_code zq_T 110 112 = some (.iload 4, 2, 0) := by decide +kernel
theorem cd_110_114 : zt_code zq_T 110 114 = some (.invokestatic 413, 3, 0) := by decide +kernel
theorem cd_110_117 : zt_code zq_T 110 117 = some (.ifCond .eq (32), 3, 0) := by decide +kernel
theorem cd_110_120 : zt_code zq_T 110 120 = some (.iload_n 2, 1, 0) := by decide +kernel
theorem cd_110_121 : zt_code zq_T 110 121 = some (.iconst 2, 1, 0) := by decide +kernel
theorem cd_110_122 : zt_code zq_T 110 122 = some (.if_icmp .eq (14), 3, 0) := by decide +kernel
theorem cd_110_125 : zt_code zq_T 110 125 = some (.iload 4, 2, 0) := by decide +kernel
theorem cd_110_127 : zt_code zq_T 110 127 = some (.aload_n 0, 1, 0) := by decide +kernel
theorem cd_110_128 : zt_code zq_T 110 128 = some (.getfield 93, 3, 0) := by decide +kernel
theorem cd_110_131 : zt_code zq_T 110 131 = some (.iload_n 3, 1, 0) := by decide +kernel
theorem cd_110_132 : zt_code zq_T 110 132 = some (.iaload, 1, 0) := by decide +kernel
theorem cd_110_133 : zt_code zq_T 110 133 = some (.if_icmp .eq (16), 3, 0) := by decide +kernel
theorem cd_110_136 : zt_code zq_T 110 136 = some (.aload_n 0, 1, 0) := by decide +kernel
theorem cd_110_137 : zt_code zq_T 110 137 = some (.iload_n 2, 1, 0) := by decide +kernel
theorem cd_110_138 : zt_code zq_T 110 138 = some (.iload_n 3, 1, 0) := by decide +kernel
theorem cd_110_139 : zt_code zq_T 110 139 = some (.iload 4, 2, 0) := by decide +kernel
theorem cd_110_141 : zt_code zq_T 110 141 = some (.invokevirtual 494, 3, 0) := by decide +kernel
theorem cd_110_144 : zt_code zq_T 110 144 = some (.ifCond .eq (5), 3, 0) := by decide +kernel
theorem cd_110_147 : zt_code zq_T 110 147 = some (.iconst 1, 1, 0) := by decide +kernel
theorem cd_110_148 : zt_code zq_T 110 148 = some (.ireturn, 1, 0) := by decide +kernel
theorem cd_110_149 : zt_code zq_T 110 149 = some (.iinc 4 (1), 3, 0) := by decide +kernel
theorem cd_110_152 : zt_code zq_T 110 152 = some (.goto (-48), 3, 0) := by decide +kernel
theorem cd_110_155 : zt_code zq_T 110 155 = some (.iinc 3 (1), 3, 0) := by decide +kernel
theorem cd_110_158 : zt_code zq_T 110 158 = some (.goto (-76), 3, 0) := by decide +kernel
theorem cd_110_161 : zt_code zq_T 110 161 = some (.iinc 2 (1), 3, 0) := by decide +kernel
theorem cd_110_164 : zt_code zq_T 110 164 = some (.goto (-89), 3, 0) := by decide +kernel
theorem cd_110_167 : zt_code zq_T 110 167 = some (.iconst 0, 1, 0) := by decide +kernel
theorem cd_110_168 : zt_code zq_T 110 168 = some (.ireturn, 1, 0) := by decide +kernel
theorem cd_111_0 : zt_code zq_T 111 0 = some (.aload_n 0, 1, 0) := by decide +kernel
theorem cd_111_1 : zt_code zq_T 111 1 = some (.iconst 0, 1, 0) := by decide +kernel
theorem cd_111_2 : zt_code zq_T 111 2 = some (.putfield 114, 3, 0) := by decide +kernel
theorem cd_111_5 : zt_code zq_T 111 5 = some (.aload_n 0, 1, 0) := by decide +kernel
theorem cd_111_6 : zt_code zq_T 111 6 = some (.getfield 233, 3, 0) := by decide +kernel
theorem cd_111_9 : zt_code zq_T 111 9 = some (.ifCond .eq (33), 3, 0) := by decide +kernel
theorem cd_111_12 : zt_code zq_T 111 12 = some (.iload_n 1, 1, 0) := by decide +kernel
theorem cd_111_13 : zt_code zq_T 111 13 = some (.i2l, 1, 0) := by decide +kernel
theorem cd_111_14 : zt_code zq_T 111 14 = some (.lconst 0, 1, 0) := by decide +kernel
theorem cd_111_15 : zt_code zq_T 111 15 = some (.ldc2_w 497, 3, 0) := by decide +kernel
theorem cd_111_18 : zt_code zq_T 111 18 = some (.invokestatic 204, 3, 0) := by decide +kernel
theorem cd_111_21 : zt_code zq_T 111 21 = some (.ifCond .eq (21), 3, 0) := by decide +kernel
theorem cd_111_24 : zt_code zq_T 111 24 = some (.aload_n 0, 1, 0) := by decide +kernel
theorem cd_111_25 : zt_code zq_T 111 25 = some (.aload_n 0, 1, 0) := by decide +kernel
theorem cd_111_26 : zt_code zq_T 111 26 = some (.getfield 460, 3, 0) := by decide +kernel
theorem cd_111_29 : zt_code zq_T 111 29 = some (.invokevirtual 372, 3, 0) := by decide +kernel
theorem cd_111_32 : zt_code zq_T 111 32 = some (.ifCond .eq (10), 3, 0) := by decide +kernel
theorem cd_111_35 : zt_code zq_T 111 35 = some (.aload_n 0, 1, 0) := by decide +kernel
theorem cd_111_36 : zt_code zq_T 111 36 = some (.invokevirtual 499, 3, 0) := by decide +kernel
theorem cd_111_39 : zt_code zq_T 111 39 = some (.ifCond .ne (5), 3, 0) := by decide +kernel
theorem cd_111_42 : zt_code zq_T 111 42 = some (.iconst (-1), 1, 0) := by decide +kernel
theorem cd_111_43 : zt_code zq_T 111 43 = some (.ireturn, 1, 0) := by decide +kernel
theorem cd_111_44 : zt_code zq_T 111 44 = some (.iload_n 1, 1, 0) := by decide +kernel
theorem cd_111_45 : zt_code zq_T 111 45 = some (.ifCond .ne (10), 3, 0) := by decide +kernel
theorem cd_111_48 : zt_code zq_T 111 48 = some (.aload_n 0, 1, 0) := by decide +kernel
theorem cd_111_49 : zt_code zq_T 111 49 = some (.getfield 485, 3, 0) := by decide +kernel
theorem cd_111_52 : zt_code zq_T 111 52 = some (.goto (19), 3, 0) := by decide +kernel
theorem cd_111_55 : zt_code zq_T 111 55 = some (.iload_n 1, 1, 0) := by decide +kernel
theorem cd_111_56 : zt_code zq_T 111 56 = some (.iconst 1, 1, 0) := by decide +kernel
theorem cd_111_57 : zt_code zq_T 111 57 = some (.if_icmp .ne (10), 3, 0) := by decide +kernel
theorem cd_111_60 : zt_code zq_T 111 60 = some (.aload_n 0, 1, 0) := by decide +kernel
theorem cd_111_61 : zt_code zq_T 111 61 = some (.getfield 488, 3, 0) := by decide +kernel
theorem cd_111_64 : zt_code zq_T 111 64 = some (.goto (7), 3, 0) := by decide +kernel
theorem cd_111_67 : zt_code zq_T 111 67 = some (.aload_n 0, 1, 0) := by decide +kernel
theorem cd_111_68 : zt_code zq_T 111 68 = some (.getfield 491, 3, 0) := by decide +kernel
theorem cd_111_71 : zt_code zq_T 111 71 = some (.ireturn, 1, 0) := by decide +kernel
theorem cd_112_0 : zt_code zq_T 112 0 = some (.bipush (13), 2, 0) := by decide +kernel
theorem cd_112_2 : zt_code zq_T 112 2 = some (.iload_n 3, 1, 0) := by decide +kernel
theorem cd_112_3 : zt_code zq_T 112 3 = some (.imul, 1, 0) := by decide +kernel
theorem cd_112_4 : zt_code zq_T 112 4 = some (.istore 7, 2, 0) := by decide +kernel
theorem cd_112_6 : zt_code zq_T 112 6 = some (.iload 5, 2, 0) := by decide +kernel
theorem cd_112_8 : zt_code zq_T 112 8 = some (.ifCond .ne (10), 3, 0) := by decide +kernel
theorem cd_112_11 : zt_code zq_T 112 11 = some (.iload 6, 2, 0) := by decide +kernel
theorem cd_112_13 : zt_code zq_T 112 13 = some (.ifCond .ne (5), 3, 0) := by decide +kernel
theorem cd_112_16 : zt_code zq_T 112 16 = some (.iconst 0, 1, 0) := by decide +kernel
theorem cd_112_17 : zt_code zq_T 112 17 = some (.ireturn, 1, 0) := by decide +kernel
theorem cd_112_18 : zt_code zq_T 112 18 = some (.iload_n 3, 1, 0) := by decide +kernel
theorem cd_112_19 : zt_code zq_T 112 19 = some (.iload 4, 2, 0) := by decide +kernel
theorem cd_112_21 : zt_code zq_T 112 21 = some (.if_icmp .ne (55), 3, 0) := by decide +kernel
theorem cd_112_24 : zt_code zq_T 112 24 = some (.iload 5, 2, 0) := by decide +kernel
theorem cd_112_26 : zt_code zq_T 112 26 = some (.ifCond .eq (17), 3, 0) := by decide +kernel
theorem cd_112_29 : zt_code zq_T 112 29 = some (.aload_n 0, 1, 0) := by decide +kernel
theorem cd_112_30 : zt_code zq_T 112 30 = some (.iload_n 1, 1, 0) := by decide +kernel
theorem cd_112_31 : zt_code zq_T 112 31 = some (.iload 7, 2, 0) := by decide +kernel
theorem cd_112_33 : zt_code zq_T 112 33 = some (.invokevirtual 448, 3, 0) := by decide +kernel
theorem cd_112_36 : zt_code zq_T 112 36 = some (.ifCond .eq (7), 3, 0) := by decide +kernel
theorem cd_112_39 : zt_code zq_T 112 39 = some (.iconst 1, 1, 0) := by decide +kernel
theorem cd_112_40 : zt_code zq_T 112 40 = some (.goto (4), 3, 0) := by decide +kernel
theorem cd_112_43 : zt_code zq_T 112 43 = some (.iconst 0, 1, 0) := by decide +kernel
theorem cd_112_44 : zt_code zq_T 112 44 = some (.iload 6, 2, 0) := by decide +kernel
theorem cd_112_46 : zt_code zq_T 112 46 = some (.ifCond .eq (20), 3, 0) := by decide +kernel
theorem cd_112_49 : zt_code zq_T 112 49 = some (.aload_n 0, 1, 0) := by decide +kernel
theorem cd_112_50 : zt_code zq_T 112 50 = some (.iload_n 2, 1, 0) := by decide +kernel
theorem cd_112_51 : zt_code zq_T 112 51 = some (.bipush (78), 2, 0) := by decide +kernel
theorem cd_112_53 : zt_code zq_T 112 53 = some (.iload 7, 2, 0) := by decide +kernel
theorem cd_112_55 : zt_code zq_T 112 55 = some (.iadd, 1, 0) := by decide +kernel
theorem cd_112_56 : zt_code zq_T 112 56 = some (.invokevirtual 448, 3, 0) := by decide +kernel
theorem cd_112_59 : zt_code zq_T 112 59 = some (.ifCond .eq (7), 3, 0) := by decide +kernel
theorem cd_112_62 : zt_code zq_T 112 62 = some (.iconst 1, 1, 0) := by decide +kernel
theorem cd_112_63 : zt_code zq_T 112 63 = some (.goto (4), 3, 0) := by decide +kernel
theorem cd_112_66 : zt_code zq_T 112 66 = some (.iconst 0, 1, 0) := by decide +kernel
theorem cd_112_67 : zt_code zq_T 112 67 = some (.if_icmp .eq (7), 3, 0) := by decide +kernel
theorem cd_112_70 : zt_code zq_T 112 70 = some (.iconst 1, 1, 0) := by decide +kernel
theorem cd_112_71 : zt_code zq_T 112 71 = some (.goto (4), 3, 0) := by decide +kernel
theorem cd_112_74 : zt_code zq_T 112 74 = some (.iconst 0, 1, 0) := by decide +kernel
theorem cd_112_75 : zt_code zq_T 112 75 = some (.ireturn, 1, 0) := by decide +kernel
theorem cd_112_76 : zt_code zq_T 112 76 = some (.iload 5, 2, 0) := by decide +kernel
theorem cd_112_78 : zt_code zq_T 112 78 = some (.ifCond .eq (13), 3, 0) := by decide +kernel
theorem cd_112_81 : zt_code zq_T 112 81 = some (.aload_n 0, 1, 0) := by decide +kernel
theorem cd_112_82 : zt_code zq_T 112 82 = some (.iload_n 1, 1, 0) := by decide +kernel
theorem cd_112_83 : zt_code zq_T 112 83 = some (.iload 7, 2, 0) := by decide +kernel
theorem cd_112_85 : zt_code zq_T 112 85 = some (.invokevirtual 451, 3, 0) := by decide +kernel
theorem cd_112_88 : zt_code zq_T 112 88 = some (.goto (4), 3, 0) := by decide +kernel
theorem cd_112_91 : zt_code zq_T 112 91 = some (.iconst 0, 1, 0) := by decide +kernel
theorem cd_112_92 : zt_code zq_T 112 92 = some (.iload 6, 2, 0) := by decide +kernel
theorem cd_112_94 : zt_code zq_T 112 94 = some (.ifCond .eq (16), 3, 0) := by decide +kernel
theorem cd_112_97 : zt_code zq_T 112 97 = some (.aload_n 0, 1, 0) := by decide +kernel
theorem cd_112_98 : zt_code zq_T 112 98 = some (.iload_n 2, 1, 0) := by decide +kernel
theorem cd_112_99 : zt_code zq_T 112 99 = some (.bipush (78), 2, 0) := by decide +kernel
theorem cd_112_101 : zt_code zq_T 112 101 = some (.iload 7, 2, 0) := by decide +kernel
theorem cd_112_103 : zt_code zq_T 112 103 = some (.iadd, 1, 0) := by decide +kernel
theorem cd_112_104 : zt_code zq_T 112 104 = some (.invokevirtual 451, 3, 0) := by decide +kernel
theorem cd_112_107 : zt_code zq_T 112 107 = some (.goto (4), 3, 0) := by decide +kernel
theorem cd_112_110 : zt_code zq_T 112 110 = some (.iconst 0, 1, 0) := by decide +kernel
theorem cd_112_111 : zt_code zq_T 112 111 = some (.ior, 1, 0) := by decide +kernel
theorem cd_112_112 : zt_code zq_T 112 112 = some (.istore 8, 2, 0) := by decide +kernel
theorem cd_112_114 : zt_code zq_T 112 114 = some (.iconst 0, 1, 0) := by decide +kernel
theorem cd_112_115 : zt_code zq_T 112 115 = some (.istore 9, 2, 0) := by decide +kernel
theorem cd_112_117 : zt_code zq_T 112 117 = some (.iload 9, 2, 0) := by decide +kernel
theorem cd_112_119 : zt_code zq_T 112 119 = some (.bipush (26), 2, 0) := by decide +kernel
theorem cd_112_121 : zt_code zq_T 112 121 = some (.if_icmp .ge (114), 3, 0) := by decide +kernel
theorem cd_112_124 : zt_code zq_T 112 124 = some (.iload 8, 2, 0) := by decide +kernel
theorem cd_112_126 : zt_code zq_T 112 126 = some (.iload 9, 2, 0) := by decide +kernel
theorem cd_112_128 : zt_code zq_T 112 128 = some (.invokestatic 413, 3, 0) := by decide +kernel
theorem cd_112_131 : zt_code zq_T 112 131 = some (.ifCond .ne (6), 3, 0) := by decide +kernel
theorem cd_112_134 : zt_code zq_T 112 134 = some (.goto (95), 3, 0) := by decide +kernel
theorem cd_112_137 : zt_code zq_T 112 137 = some (.iload 5, 2, 0) := by decide +kernel
theorem cd_112_139 : zt_code zq_T 112 139 = some (.ifCond .eq (24), 3, 0) := by decide +kernel
theorem cd_112_142 : zt_code zq_T 112 142 = some (.aload_n 0, 1, 0) := by decide +kernel
theorem cd_112_143 : zt_code zq_T 112 143 = some (.iload_n 1, 1, 0) := by decide +kernel
theorem cd_112_144 : zt_code zq_T 112 144 = some (.iload 7, 2, 0) := by decide +kernel
theorem cd_112_146 : zt_code zq_T 112 146 = some (.iload 9, 2, 0) := by decide +kernel
theorem cd_112_148 : zt_code zq_T 112 148 = some (.iload 7, 2, 0) := by decide +kernel
theorem cd_112_150 : zt_code zq_T 112 150 = some (.bipush (13), 2, 0) := by decide +kernel
theorem cd_112_152 : zt_code zq_T 112 152 = some (.iadd, 1, 0) := by decide +kernel
theorem cd_112_153 : zt_code zq_T 112 153 = some (.invokevirtual 441, 3, 0) := by decide +kernel
theorem cd_112_156 : zt_code zq_T 112 156 = some (.ifCond .eq (7), 3, 0) := by decide +kernel
theorem cd_112_159 : zt_code zq_T 112 159 = some (.iconst 1, 1, 0) := by decide +kernel
theorem cd_112_160 : zt_code zq_T 112 160 = some (.goto (4), 3, 0) := by decide +kernel
theorem cd_112_163 : zt_code zq_T 112 163 = some (.iconst 0, 1, 0) := by decide +kernel
theorem cd_112_164 : zt_code zq_T 112 164 = some (.istore 10, 2, 0) := by decide +kernel
theorem cd_112_166 : zt_code zq_T 112 166 = some (.iload 6, 2, 0) := by decide +kernel
theorem cd_112_168 : zt_code zq_T 112 168 = some (.ifCond .eq (30), 3, 0) := by decide +kernel
theorem cd_112_171 : zt_code zq_T 112 171 = some (.aload_n 0, 1, 0) := by decide +kernel
theorem cd_112_172 : zt_code zq_T 112 172 = some (.iload_n 2, 1, 0) := by decide +kernel
theorem cd_112_173 : zt_code zq_T 112 173 = some (.bipush (78), 2, 0) := by decide +kernel
theorem cd_112_175 : zt_code zq_T 112 175 = some (.iload 7, 2, 0) := by decide +kernel
theorem cd_112_177 : zt_code zq_T 112 177 = some (.iadd, 1, 0) := by decide +kernel
theorem cd_112_178 : zt_code zq_T 112 178 = some (.iload 9, 2, 0) := by decide +kernel
theorem cd_112_180 : zt_code zq_T 112 180 = some (.bipush (78), 2, 0) := by decide +kernel
theorem cd_112_182 : zt_code zq_T 112 182 = some (.iload 7, 2, 0) := by decide +kernel
theorem cd_112_184 : zt_code zq_T 112 184 = some (.iadd, 1, 0) := by decide +kernel
theorem cd_112_185 : zt_code zq_T 112 185 = some (.bipush (13), 2, 0) := by decide +kernel
theorem cd_112_187 : zt_code zq_T 112 187 = some (.iadd, 1, 0) := by decide +kernel
theorem cd_112_188 : zt_code zq_T 112 188 = some (.invokevirtual 441, 3, 0) := by decide +kernel
theorem cd_112_191 : zt_code zq_T 112 191 = some (.ifCond .eq (7), 3, 0) := by decide +kernel
theorem cd_112_194 : zt_code zq_T 112 194 = some (.iconst 1, 1, 0) := by decide +kernel
theorem cd_112_195 : zt_code zq_T 112 195 = some (.goto (4), 3, 0) := by decide +kernel
theorem cd_112_198 : zt_code zq_T 112 198 = some (.iconst 0, 1, 0) := by decide +kernel
theorem cd_112_199 : zt_code zq_T 112 199 = some (.istore 11, 2, 0) := by decide +kernel
theorem cd_112_201 : zt_code zq_T 112 201 = some (.aload_n 0, 1, 0) := by decide +kernel
theorem cd_112_202 : zt_code zq_T 112 202 = some (.getfield 108, 3, 0) := by decide +kernel
theorem cd_112_205 : zt_code zq_T 112 205 = some (.iload_n 3, 1, 0) := by decide +kernel
theorem cd_112_206 : zt_code zq_T 112 206 = some (.iload 9, 2, 0) := by decide +kernel
theorem cd_112_208 : zt_code zq_T 112 208 = some (.iastore, 1, 0) := by decide +kernel
theorem cd_112_209 : zt_code zq_T 112 209 = some (.aload_n 0, 1, 0) := by decide +kernel
theorem cd_112_210 : zt_code zq_T 112 210 = some (.iload_n 1, 1, 0) := by decide +kernel
theorem cd_112_211 : zt_code zq_T 112 211 = some (.iload_n 2, 1, 0) := by decide +kernel
theorem cd_112_212 : zt_code zq_T 112 212 = some (.iload_n 3, 1, 0) := by decide +kernel
theorem cd_112_213 : zt_code zq_T 112 213 = some (.iconst 1, 1, 0) := by decide +kernel
theorem cd_112_214 : zt_code zq_T 112 214 = some (.iadd, 1, 0) := by decide +kernel
theorem cd_112_215 : zt_code zq_T 112 215 = some (.iload 4, 2, 0) := by decide +kernel
theorem cd_112_217 : zt_code zq_T 112 217 = some (.iload 10, 2, 0) := by decide +kernel
theorem cd_112_219 : zt_code zq_T 112 219 = some (.iload 11, 2, 0) := by decide +kernel
theorem cd_112_221 : zt_code zq_T 112 221 = some (.invokevirtual 502, 3, 0) := by decide +kernel
theorem cd_112_224 : zt_code zq_T 112 224 = some (.ifCond .eq (5), 3, 0) := by decide +kernel
theorem cd_112_227 : zt_code zq_T 112 227 = some (.iconst 1, 1, 0) := by decide +kernel
theorem cd_112_228 : zt_code zq_T 112 228 = some (.ireturn, 1, 0) := by decide +kernel
theorem cd_112_229 : zt_code zq_T 112 229 = some (.iinc 9 (1), 3, 0) := by decide +kernel
theorem cd_112_232 : zt_code zq_T 112 232 = some (.goto (-115), 3, 0) := by decide +kernel
theorem cd_112_235 : zt_code zq_T 112 235 = some (.iconst 0, 1, 0) := by decide +kernel
theorem cd_112_236 : zt_code zq_T 112 236 = some (.ireturn, 1, 0) := by decide +kernel
theorem cd_113_0 : zt_code zq_T 113 0 = some (.aload_n 0, 1, 0) := by decide +kernel
theorem cd_113_1 : zt_code zq_T 113 1 = some (.iconst 0, 1, 0) := by decide +kernel
theorem cd_113_2 : zt_code zq_T 113 2 = some (.putfield 114, 3, 0) := by decide +kernel
theorem cd_113_5 : zt_code zq_T 113 5 = some (.aload_n 0, 1, 0) := by decide +kernel
theorem cd_113_6 : zt_code zq_T 113 6 = some (.iload_n 1, 1, 0) := by decide +kernel
theorem cd_113_7 : zt_code zq_T 113 7 = some (.invokevirtual 357, 3, 0) := by decide +kernel
theorem cd_113_10 : zt_code zq_T 113 10 = some (.ifCond .eq (32), 3, 0) := by decide +kernel
theorem cd_113_13 : zt_code zq_T 113 13 = some (.aload_n 0, 1, 0) := by decide +kernel
theorem cd_113_14 : zt_code zq_T 113 14 = some (.iload_n 2, 1, 0) := by decide +kernel
theorem cd_113_15 : zt_code zq_T 113 15 = some (.invokevirtual 357, 3, 0) := by decide +kernel
theorem cd_113_18 : zt_code zq_T 113 18 = some (.ifCond .eq (24), 3, 0) := by decide +kernel
theorem cd_113_21 : zt_code zq_T 113 21 = some (.iload_n 3, 1, 0) := by decide +kernel
theorem cd_113_22 : zt_code zq_T 113 22 = some (.iconst (-1), 1, 0) := by decide +kernel
theorem cd_113_23 : zt_code zq_T 113 23 = some (.if_icmp .lt (19), 3, 0) := by decide +kernel
theorem cd_113_26 : zt_code zq_T 113 26 = some (.aload_n 0, 1, 0) := by decide +kernel
theorem cd_113_27 : zt_code zq_T 113 27 = some (.iload_n 1, 1, 0) := by decide +kernel
theorem cd_113_28 : zt_code zq_T 113 28 = some (.invokevirtual 372, 3, 0) := by decide +kernel
theorem cd_113_31 : zt_code zq_T 113 31 = some (.ifCond .eq (11), 3, 0) := by decide +kernel
theorem cd_113_34 : zt_code zq_T 113 34 = some (.aload_n 0, 1, 0) := by decide +kernel
theorem cd_113_35 : zt_code zq_T 113 35 = some (.iload_n 2, 1, 0) := by decide +kernel
theorem cd_113_36 : zt_code zq_T 113 36 = some (.invokevirtual 372, 3, 0) := by decide +kernel
theorem cd_113_39 : zt_code zq_T 113 39 = some (.ifCond .ne (5), 3, 0) := by decide +kernel
theorem cd_113_42 : zt_code zq_T 113 42 = some (.iconst (-1), 1, 0) := by decide +kernel
theorem cd_113_43 : zt_code zq_T 113 43 = some (.ireturn, 1, 0) := by decide +kernel
theorem cd_113_44 : zt_code zq_T 113 44 = some (.aload_n 0, 1, 0) := by decide +kernel
theorem cd_113_45 : zt_code zq_T 113 45 = some (.iconst 0, 1, 0) := by decide +kernel
theorem cd_113_46 : zt_code zq_T 113 46 = some (.invokevirtual 438, 3, 0) := by decide +kernel
theorem cd_113_49 : zt_code zq_T 113 49 = some (.aload_n 0, 1, 0) := by decide +kernel
theorem cd_113_50 : zt_code zq_T 113 50 = some (.bipush (78), 2, 0) := by decide +kernel
theorem cd_113_52 : zt_code zq_T 113 52 = some (.invokevirtual 438, 3, 0) := by decide +kernel
theorem cd_113_55 : zt_code zq_T 113 55 = some (.iconst 0, 1, 0) := by decide +kernel
theorem cd_113_56 : zt_code zq_T 113 56 = some (.istore 4, 2, 0) := by decide +kernel
theorem cd_113_58 : zt_code zq_T 113 58 = some (.iload 4, 2, 0) := by decide +kernel
theorem cd_113_60 : zt_code zq_T 113 60 = some (.iconst 4, 1, 0) := by decide +kernel
theorem cd_113_61 : zt_code zq_T 113 61 = some (.if_icmp .gt (50), 3, 0) := by decide +kernel
theorem cd_113_64 : zt_code zq_T 113 64 = some (.aload_n 0, 1, 0) := by decide +kernel
theorem cd_113_65 : zt_code zq_T 113 65 = some (.iload_n 1, 1, 0) := by decide +kernel
theorem cd_113_66 : zt_code zq_T 113 66 = some (.iload_n 2, 1, 0) := by decide +kernel
theorem cd_113_67 : zt_code zq_T 113 67 = some (.iconst 0, 1, 0) := by decide +kernel
theorem cd_113_68 : zt_code zq_T 113 68 = some (.iload 4, 2, 0) := by decide +kernel
theorem cd_113_70 : zt_code zq_T 113 70 = some (.iconst 1, 1, 0) := by decide +kernel
theorem cd_113_71 : zt_code zq_T 113 71 = some (.iconst 1, 1, 0) := by decide +kernel
theorem cd_113_72 : zt_code zq_T 113 72 = some (.invokevirtual 502, 3, 0) := by decide +kernel
theorem cd_113_75 : zt_code zq_T 113 75 = some (.ifCond .eq (30), 3, 0) := by decide +kernel
theorem cd_113_78 : zt_code zq_T 113 78 = some (.iload_n 3, 1, 0) := by decide +kernel
theorem cd_113_79 : zt_code zq_T 113 79 = some (.iconst (-1), 1, 0) := by decide +kernel
theorem cd_113_80 : zt_code zq_T 113 80 = some (.if_icmp .ne (8), 3, 0) := by decide +kernel
theorem cd_113_83 : zt_code zq_T 113 83 = some (.iload 4, 2, 0) := by decide +kernel
theorem cd_113_85 : zt_code zq_T 113 85 = some (.goto (19), 3, 0) := by decide +kernel
theorem cd_113_88 : zt_code zq_T 113 88 = some (.iload_n 3, 1, 0) := by decide +kernel
theorem cd_113_89 : zt_code zq_T 113 89 = some (.iload 4, 2, 0) := by decide +kernel
theorem cd_113_91 : zt_code zq_T 113 91 = some (.if_icmp .ge (12), 3, 0) := by decide +kernel
theorem cd_113_94 : zt_code zq_T 113 94 = some (.aload_n 0, 1, 0) := by decide +kernel
theorem cd_113_95 : zt_code zq_T 113 95 = some (.getfield 108, 3, 0) := by decide +kernel
theorem cd_113_98 : zt_code zq_T 113 98 = some (.iload_n 3, 1, 0) := by decide +kernel
theorem cd_113_99 : zt_code zq_T 113 99 = some (.iaload, 1, 0) := by decide +kernel
theorem cd_113_100 : zt_code zq_T 113 100 = some (.goto (4), 3, 0) := by decide +kernel
theorem cd_113_103 : zt_code zq_T 113 103 = some (.iconst (-1), 1, 0) := by decide +kernel
theorem cd_113_104 : zt_code zq_T 113 104 = some (.ireturn, 1, 0) := by decide +kernel
theorem cd_113_105 : zt_code zq_T 113 105 = some (.iinc 4 (1), 3, 0) := by decide +kernel
theorem cd_113_108 : zt_code zq_T 113 108 = some (.goto (-50), 3, 0) := by decide +kernel
theorem cd_113_111 : zt_code zq_T 113 111 = some (.iconst (-1), 1, 0) := by decide +kernel
theorem cd_113_112 : zt_code zq_T 113 112 = some (.ireturn, 1, 0) := by decide +kernel
theorem cd_114_0 : zt_code zq_T 114 0 = some (.iload_n 1, 1, 0) := by decide +kernel
theorem cd_114_1 : zt_code zq_T 114 1 = some (.i2l, 1, 0) := by decide +kernel
theorem cd_114_2 : zt_code zq_T 114 2 = some (.lconst 0, 1, 0) := by decide +kernel
theorem cd_114_3 : zt_code zq_T 114 3 = some (.aload_n 0, 1, 0) := by decide +kernel
theorem cd_114_4 : zt_code zq_T 114 4 = some (.getfield 237, 3, 0) := by decide +kernel
theorem cd_114_7 : zt_code zq_T 114 7 = some (.iconst 1, 1, 0) := by decide +kernel
theorem cd_114_8 : zt_code zq_T 114 8 = some (.isub, 1, 0) := by decide +kernel
theorem cd_114_9 : zt_code zq_T 114 9 = some (.i2l, 1, 0) := by decide +kernel
theorem cd_114_10 : zt_code zq_T 114 10 = some (.invokestatic 204, 3, 0) := by decide +kernel
theorem cd_114_13 : zt_code zq_T 114 13 = some (.ireturn, 1, 0) := by decide +kernel
theorem cd_115_0 : zt_code zq_T 115 0 = some (.iconst 0, 1, 0) := by decide +kernel
theorem cd_115_1 : zt_code zq_T 115 1 = some (.istore_n 2, 1, 0) := by decide +kernel
theorem cd_115_2 : zt_code zq_T 115 2 = some (.iload_n 2, 1, 0) := by decide +kernel
theorem cd_115_3 : zt_code zq_T 115 3 = some (.aload_n 0, 1, 0) := by decide +kernel
theorem cd_115_4 : zt_code zq_T 115 4 = some (.getfield 230, 3, 0) := by decide +kernel
theorem cd_115_7 : zt_code zq_T 115 7 = some (.if_icmp .ge (26), 3, 0) := by decide +kernel
theorem cd_115_10 : zt_code zq_T 115 10 = some (.aload_n 0, 1, 0) := by decide +kernel
theorem cd_115_11 : zt_code zq_T 115 11 = some (.iload_n 2, 1, 0) := by decide +kernel
theorem cd_115_12 : zt_code zq_T 115 12 = some (.iconst 0, 1, 0) := by decide +kernel
theorem cd_115_13 : zt_code zq_T 115 13 = some (.invokevirtual 258, 3, 0) := by decide +kernel
theorem cd_115_16 : zt_code zq_T 115 16 = some (.aload_n 0, 1, 0) := by decide +kernel
theorem cd_115_17 : zt_code zq_T 115 17 = some (.getfield 44, 3, 0) := by decide +kernel
theorem cd_115_20 : zt_code zq_T 115 20 = some (.iconst 4, 1, 0) := by decide +kernel
theorem cd_115_21 : zt_code zq_T 115 21 = some (.iload_n 1, 1, 0) := by decide +kernel
theorem cd_115_22 : zt_code zq_T 115 22 = some (.imul, 1, 0) := by decide +kernel
theorem cd_115_23 : zt_code zq_T 115 23 = some (.iaload, 1, 0) := by decide +kernel
theorem cd_115_24 : zt_code zq_T 115 24 = some (.if_icmp .eq (9), 3, 0) := by decide +kernel
theorem cd_115_27 : zt_code zq_T 115 27 = some (.iinc 2 (1), 3, 0) := by decide +kernel
theorem cd_115_30 : zt_code zq_T 115 30 = some (.goto (-28), 3, 0) := by decide +kernel
theorem cd_115_33 : zt_code zq_T 115 33 = some (.iload_n 2, 1, 0) := by decide +kernel
theorem cd_115_34 : zt_code zq_T 115 34 = some (.aload_n 0, 1, 0) := by decide +kernel
theorem cd_115_35 : zt_code zq_T 115 35 = some (.getfield 230, 3, 0) := by decide +kernel
theorem cd_115_38 : zt_code zq_T 115 38 = some (.if_icmp .ge (7), 3, 0) := by decide +kernel
theorem cd_115_41 : zt_code zq_T 115 41 = some (.iload_n 2, 1, 0) := by decide +kernel
theorem cd_115_42 : zt_code zq_T 115 42 = some (.goto (4), 3, 0) := by decide +kernel
theorem cd_115_45 : zt_code zq_T 115 45 = some (.iconst (-1), 1, 0) := by decide +kernel
theorem cd_115_46 : zt_code zq_T 115 46 = some (.ireturn, 1, 0) := by decide +kernel
theorem cd_116_0 : zt_code zq_T 116 0 = some (.aload_n 0, 1, 0) := by decide +kernel
theorem cd_116_1 : zt_code zq_T 116 1 = some (.iconst (-1), 1, 0) := by decide +kernel
theorem cd_116_2 : zt_code zq_T 116 2 = some (.putfield 506, 3, 0) := by decide +kernel
theorem cd_116_5 : zt_code zq_T 116 5 = some (.aload_n 0, 1, 0) := by decide +kernel
theorem cd_116_6 : zt_code zq_T 116 6 = some (.iconst 0, 1, 0) := by decide +kernel
theorem cd_116_7 : zt_code zq_T 116 7 = some (.putfield 509, 3, 0) := by decide +kernel
theorem cd_116_10 : zt_code zq_T 116 10 = some (.aload_n 0, 1, 0) := by decide +kernel
theorem cd_116_11 : zt_code zq_T 116 11 = some (.iconst 0, 1, 0) := by decide +kernel
theorem cd_116_12 : zt_code zq_T 116 12 = some (.putfield 512, 3, 0) := by decide +kernel
theorem cd_116_15 : zt_code zq_T 116 15 = some (.aload_n 0, 1, 0) := by decide +kernel
theorem cd_116_16 : zt_code zq_T 116 16 = some (.iload_n 1, 1, 0) := by decide +kernel
theorem cd_116_17 : zt_code zq_T 116 17 = some (.invokevirtual 515, 3, 0) := by decide +kernel
theorem cd_116_20 : zt_code zq_T 116 20 = some (.istore_n 2, 1, 0) := by decide +kernel
theorem cd_116_21 : zt_code zq_T 116 21 = some (.iconst 0, 1, 0) := by decide +kernel
theorem cd_116_22 : zt_code zq_T 116 22 = some (.istore_n 3, 1, 0) := by decide +kernel
theorem cd_116_23 : zt_code zq_T 116 23 = some (.iconst 0, 1, 0) := by decide +kernel
theorem cd_116_24 : zt_code zq_T 116 24 = some (.istore 4, 2, 0) := by decide +kernel
theorem cd_116_26 : zt_code zq_T 116 26 = some (.iload 4, 2, 0) := by decide +kernel
theorem cd_116_28 : zt_code zq_T 116 28 = some (.aload_n 0, 1, 0) := by decide +kernel
theorem cd_116_29 : zt_code zq_T 116 29 = some (.getfield 237, 3, 0) := by decide +kernel
theorem cd_116_32 : zt_code zq_T 116 32 = some (.if_icmp .ge (45), 3, 0) := by decide +kernel
theorem cd_116_35 : zt_code zq_T 116 35 = some (.aload_n 0, 1, 0) := by decide +kernel
theorem cd_116_36 : zt_code zq_T 116 36 = some (.getfield 44, 3, 0) := by decide +kernel
theorem cd_116_39 : zt_code zq_T 116 39 = some (.iconst 4, 1, 0) := by decide +kernel
theorem cd_116_40 : zt_code zq_T 116 40 = some (.iload 4, 2, 0) := by decide +kernel
theorem cd_116_42 : zt_code zq_T 116 42 = some (.imul, 1, 0) := by decide +kernel
theorem cd_116_43 : zt_code zq_T 116 43 = some (.iconst 1, 1, 0) := by decide +kernel
theorem cd_116_44 : zt_code zq_T 116 44 = some (.iadd, 1, 0) := by decide +kernel
theorem cd_116_45 : zt_code zq_T 116 45 = some (.iaload, 1, 0) := by decide +kernel
theorem cd_116_46 : zt_code zq_T 116 46 = some (.iload_n 1, 1, 0) := by decide +kernel
theorem cd_116_47 : zt_code zq_T 116 47 = some (.if_icmp .eq (6), 3, 0) := by decide +kernel
theorem cd_116_50 : zt_code zq_T 116 50 = some (.goto (21), 3, 0) := by decide +kernel
