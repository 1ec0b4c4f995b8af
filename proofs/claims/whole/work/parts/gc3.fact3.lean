/-! facts -/
theorem cd_116_53 : zt_code zq_T 116 53 = some (.aload_n 0, 1, 0) := by decide +kernel
theorem cd_116_54 : zt_code zq_T 116 54 = some (.getfield 84, 3, 0) := by decide +kernel
theorem cd_116_57 : zt_code zq_T 116 57 = some (.iload_n 3, 1, 0) := by decide +kernel
theorem cd_116_58 : zt_code zq_T 116 58 = some (.aload_n 0, 1, 0) := by decide +kernel
theorem cd_116_59 : zt_code zq_T 116 59 = some (.getfield 44, 3, 0) := by decide +kernel
theorem cd_116_62 : zt_code zq_T 116 62 = some (.iconst 4, 1, 0) := by decide +kernel
theorem cd_116_63 : zt_code zq_T 116 63 = some (.iload 4, 2, 0) := by decide +kernel
theorem cd_116_65 : zt_code zq_T 116 65 = some (.imul, 1, 0) := by decide +kernel
theorem cd_116_66 : zt_code zq_T 116 66 = some (.iaload, 1, 0) := by decide +kernel
theorem cd_116_67 : zt_code zq_T 116 67 = some (.iastore, 1, 0) := by decide +kernel
theorem cd_116_68 : zt_code zq_T 116 68 = some (.iinc 3 (1), 3, 0) := by decide +kernel
theorem cd_116_71 : zt_code zq_T 116 71 = some (.iinc 4 (1), 3, 0) := by decide +kernel
theorem cd_116_74 : zt_code zq_T 116 74 = some (.goto (-48), 3, 0) := by decide +kernel
theorem cd_116_77 : zt_code zq_T 116 77 = some (.iload_n 2, 1, 0) := by decide +kernel
theorem cd_116_78 : zt_code zq_T 116 78 = some (.iconst (-1), 1, 0) := by decide +kernel
theorem cd_116_79 : zt_code zq_T 116 79 = some (.if_icmp .eq (13), 3, 0) := by decide +kernel
theorem cd_116_82 : zt_code zq_T 116 82 = some (.aload_n 0, 1, 0) := by decide +kernel
theorem cd_116_83 : zt_code zq_T 116 83 = some (.iload_n 2, 1, 0) := by decide +kernel
theorem cd_116_84 : zt_code zq_T 116 84 = some (.invokevirtual 372, 3, 0) := by decide +kernel
theorem cd_116_87 : zt_code zq_T 116 87 = some (.ifCond .ne (5), 3, 0) := by decide +kernel
theorem cd_116_90 : zt_code zq_T 116 90 = some (.iconst 2, 1, 0) := by decide +kernel
theorem cd_116_91 : zt_code zq_T 116 91 = some (.ireturn, 1, 0) := by decide +kernel
theorem cd_116_92 : zt_code zq_T 116 92 = some (.iload_n 2, 1, 0) := by decide +kernel
theorem cd_116_93 : zt_code zq_T 116 93 = some (.iconst (-1), 1, 0) := by decide +kernel
theorem cd_116_94 : zt_code zq_T 116 94 = some (.if_icmp .ne (7), 3, 0) := by decide +kernel
theorem cd_116_97 : zt_code zq_T 116 97 = some (.iconst 0, 1, 0) := by decide +kernel
theorem cd_116_98 : zt_code zq_T 116 98 = some (.goto (13), 3, 0) := by decide +kernel
theorem cd_116_101 : zt_code zq_T 116 101 = some (.aload_n 0, 1, 0) := by decide +kernel
theorem cd_116_102 : zt_code zq_T 116 102 = some (.iload_n 2, 1, 0) := by decide +kernel
theorem cd_116_103 : zt_code zq_T 116 103 = some (.aload_n 0, 1, 0) := by decide +kernel
theorem cd_116_104 : zt_code zq_T 116 104 = some (.getfield 84, 3, 0) := by decide +kernel
theorem cd_116_107 : zt_code zq_T 116 107 = some (.iload_n 3, 1, 0) := by decide +kernel
theorem cd_116_108 : zt_code zq_T 116 108 = some (.invokevirtual 444, 3, 0) := by decide +kernel
theorem cd_116_111 : zt_code zq_T 116 111 = some (.istore 4, 2, 0) := by decide +kernel
theorem cd_116_113 : zt_code zq_T 116 113 = some (.iload_n 2, 1, 0) := by decide +kernel
theorem cd_116_114 : zt_code zq_T 116 114 = some (.iconst (-1), 1, 0) := by decide +kernel
theorem cd_116_115 : zt_code zq_T 116 115 = some (.if_icmp .eq (12), 3, 0) := by decide +kernel
theorem cd_116_118 : zt_code zq_T 116 118 = some (.aload_n 0, 1, 0) := by decide +kernel
theorem cd_116_119 : zt_code zq_T 116 119 = some (.iload_n 2, 1, 0) := by decide +kernel
theorem cd_116_120 : zt_code zq_T 116 120 = some (.iconst 0, 1, 0) := by decide +kernel
theorem cd_116_121 : zt_code zq_T 116 121 = some (.invokevirtual 448, 3, 0) := by decide +kernel
theorem cd_116_124 : zt_code zq_T 116 124 = some (.ifCond .eq (7), 3, 0) := by decide +kernel
theorem cd_116_127 : zt_code zq_T 116 127 = some (.iconst 1, 1, 0) := by decide +kernel
theorem cd_116_128 : zt_code zq_T 116 128 = some (.goto (4), 3, 0) := by decide +kernel
theorem cd_116_131 : zt_code zq_T 116 131 = some (.iconst 0, 1, 0) := by decide +kernel
theorem cd_116_132 : zt_code zq_T 116 132 = some (.istore 5, 2, 0) := by decide +kernel
theorem cd_116_134 : zt_code zq_T 116 134 = some (.iload 4, 2, 0) := by decide +kernel
theorem cd_116_136 : zt_code zq_T 116 136 = some (.iload_n 3, 1, 0) := by decide +kernel
theorem cd_116_137 : zt_code zq_T 116 137 = some (.if_icmp .ne (10), 3, 0) := by decide +kernel
theorem cd_116_140 : zt_code zq_T 116 140 = some (.iload 5, 2, 0) := by decide +kernel
theorem cd_116_142 : zt_code zq_T 116 142 = some (.ifCond .eq (5), 3, 0) := by decide +kernel
theorem cd_116_145 : zt_code zq_T 116 145 = some (.iconst 1, 1, 0) := by decide +kernel
theorem cd_116_146 : zt_code zq_T 116 146 = some (.ireturn, 1, 0) := by decide +kernel
theorem cd_116_147 : zt_code zq_T 116 147 = some (.aload_n 0, 1, 0) := by decide +kernel
theorem cd_116_148 : zt_code zq_T 116 148 = some (.iload 4, 2, 0) := by decide +kernel
theorem cd_116_150 : zt_code zq_T 116 150 = some (.putfield 506, 3, 0) := by decide +kernel
theorem cd_116_153 : zt_code zq_T 116 153 = some (.aload_n 0, 1, 0) := by decide +kernel
theorem cd_116_154 : zt_code zq_T 116 154 = some (.iload 5, 2, 0) := by decide +kernel
theorem cd_116_156 : zt_code zq_T 116 156 = some (.putfield 512, 3, 0) := by decide +kernel
theorem cd_116_159 : zt_code zq_T 116 159 = some (.aload_n 0, 1, 0) := by decide +kernel
theorem cd_116_160 : zt_code zq_T 116 160 = some (.iload_n 2, 1, 0) := by decide +kernel
theorem cd_116_161 : zt_code zq_T 116 161 = some (.iconst (-1), 1, 0) := by decide +kernel
theorem cd_116_162 : zt_code zq_T 116 162 = some (.if_icmp .ne (7), 3, 0) := by decide +kernel
theorem cd_116_165 : zt_code zq_T 116 165 = some (.iconst 0, 1, 0) := by decide +kernel
theorem cd_116_166 : zt_code zq_T 116 166 = some (.goto (9), 3, 0) := by decide +kernel
theorem cd_116_169 : zt_code zq_T 116 169 = some (.aload_n 0, 1, 0) := by decide +kernel
theorem cd_116_170 : zt_code zq_T 116 170 = some (.iload_n 2, 1, 0) := by decide +kernel
theorem cd_116_171 : zt_code zq_T 116 171 = some (.iconst 0, 1, 0) := by decide +kernel
theorem cd_116_172 : zt_code zq_T 116 172 = some (.invokevirtual 451, 3, 0) := by decide +kernel
theorem cd_116_175 : zt_code zq_T 116 175 = some (.putfield 509, 3, 0) := by decide +kernel
theorem cd_116_178 : zt_code zq_T 116 178 = some (.iconst 0, 1, 0) := by decide +kernel
theorem cd_116_179 : zt_code zq_T 116 179 = some (.ireturn, 1, 0) := by decide +kernel
theorem cd_117_0 : zt_code zq_T 117 0 = some (.aload_n 0, 1, 0) := by decide +kernel
theorem cd_117_1 : zt_code zq_T 117 1 = some (.iconst 0, 1, 0) := by decide +kernel
theorem cd_117_2 : zt_code zq_T 117 2 = some (.putfield 114, 3, 0) := by decide +kernel
theorem cd_117_5 : zt_code zq_T 117 5 = some (.aload_n 0, 1, 0) := by decide +kernel
theorem cd_117_6 : zt_code zq_T 117 6 = some (.iload_n 1, 1, 0) := by decide +kernel
theorem cd_117_7 : zt_code zq_T 117 7 = some (.invokevirtual 518, 3, 0) := by decide +kernel
theorem cd_117_10 : zt_code zq_T 117 10 = some (.ifCond .eq (15), 3, 0) := by decide +kernel
theorem cd_117_13 : zt_code zq_T 117 13 = some (.iload_n 2, 1, 0) := by decide +kernel
theorem cd_117_14 : zt_code zq_T 117 14 = some (.i2l, 1, 0) := by decide +kernel
theorem cd_117_15 : zt_code zq_T 117 15 = some (.lconst 0, 1, 0) := by decide +kernel
theorem cd_117_16 : zt_code zq_T 117 16 = some (.ldc2_w 521, 3, 0) := by decide +kernel
theorem cd_117_19 : zt_code zq_T 117 19 = some (.invokestatic 204, 3, 0) := by decide +kernel
theorem cd_117_22 : zt_code zq_T 117 22 = some (.ifCond .ne (6), 3, 0) := by decide +kernel
theorem cd_117_25 : zt_code zq_T 117 25 = some (.bipush (-2), 2, 0) := by decide +kernel
theorem cd_117_27 : zt_code zq_T 117 27 = some (.ireturn, 1, 0) := by decide +kernel
theorem cd_117_28 : zt_code zq_T 117 28 = some (.iload_n 2, 1, 0) := by decide +kernel
theorem cd_117_29 : zt_code zq_T 117 29 = some (.iconst 4, 1, 0) := by decide +kernel
theorem cd_117_30 : zt_code zq_T 117 30 = some (.if_icmp .ge (32), 3, 0) := by decide +kernel
theorem cd_117_33 : zt_code zq_T 117 33 = some (.aload_n 0, 1, 0) := by decide +kernel
theorem cd_117_34 : zt_code zq_T 117 34 = some (.getfield 44, 3, 0) := by decide +kernel
theorem cd_117_37 : zt_code zq_T 117 37 = some (.iconst 4, 1, 0) := by decide +kernel
theorem cd_117_38 : zt_code zq_T 117 38 = some (.iload_n 1, 1, 0) := by decide +kernel
theorem cd_117_39 : zt_code zq_T 117 39 = some (.imul, 1, 0) := by decide +kernel
theorem cd_117_40 : zt_code zq_T 117 40 = some (.iload_n 2, 1, 0) := by decide +kernel
theorem cd_117_41 : zt_code zq_T 117 41 = some (.iconst 1, 1, 0) := by decide +kernel
theorem cd_117_42 : zt_code zq_T 117 42 = some (.if_icmp .ne (7), 3, 0) := by decide +kernel
theorem cd_117_45 : zt_code zq_T 117 45 = some (.iconst 2, 1, 0) := by decide +kernel
theorem cd_117_46 : zt_code zq_T 117 46 = some (.goto (13), 3, 0) := by decide +kernel
theorem cd_117_49 : zt_code zq_T 117 49 = some (.iload_n 2, 1, 0) := by decide +kernel
theorem cd_117_50 : zt_code zq_T 117 50 = some (.iconst 2, 1, 0) := by decide +kernel
theorem cd_117_51 : zt_code zq_T 117 51 = some (.if_icmp .ne (7), 3, 0) := by decide +kernel
theorem cd_117_54 : zt_code zq_T 117 54 = some (.iconst 1, 1, 0) := by decide +kernel
theorem cd_117_55 : zt_code zq_T 117 55 = some (.goto (4), 3, 0) := by decide +kernel
theorem cd_117_58 : zt_code zq_T 117 58 = some (.iload_n 2, 1, 0) := by decide +kernel
theorem cd_117_59 : zt_code zq_T 117 59 = some (.iadd, 1, 0) := by decide +kernel
theorem cd_117_60 : zt_code zq_T 117 60 = some (.iaload, 1, 0) := by decide +kernel
theorem cd_117_61 : zt_code zq_T 117 61 = some (.ireturn, 1, 0) := by decide +kernel
theorem cd_117_62 : zt_code zq_T 117 62 = some (.aload_n 0, 1, 0) := by decide +kernel
theorem cd_117_63 : zt_code zq_T 117 63 = some (.iload_n 1, 1, 0) := by decide +kernel
theorem cd_117_64 : zt_code zq_T 117 64 = some (.invokevirtual 523, 3, 0) := by decide +kernel
theorem cd_117_67 : zt_code zq_T 117 67 = some (.istore_n 3, 1, 0) := by decide +kernel
theorem cd_117_68 : zt_code zq_T 117 68 = some (.iload_n 2, 1, 0) := by decide +kernel
theorem cd_117_69 : zt_code zq_T 117 69 = some (.iconst 4, 1, 0) := by decide +kernel
theorem cd_117_70 : zt_code zq_T 117 70 = some (.if_icmp .ne (7), 3, 0) := by decide +kernel
theorem cd_117_73 : zt_code zq_T 117 73 = some (.iload_n 3, 1, 0) := by decide +kernel
theorem cd_117_74 : zt_code zq_T 117 74 = some (.goto (40), 3, 0) := by decide +kernel
theorem cd_117_77 : zt_code zq_T 117 77 = some (.iload_n 2, 1, 0) := by decide +kernel
theorem cd_117_78 : zt_code zq_T 117 78 = some (.iconst 5, 1, 0) := by decide +kernel
theorem cd_117_79 : zt_code zq_T 117 79 = some (.if_icmp .ne (10), 3, 0) := by decide +kernel
theorem cd_117_82 : zt_code zq_T 117 82 = some (.aload_n 0, 1, 0) := by decide +kernel
theorem cd_117_83 : zt_code zq_T 117 83 = some (.getfield 506, 3, 0) := by decide +kernel
theorem cd_117_86 : zt_code zq_T 117 86 = some (.goto (28), 3, 0) := by decide +kernel
theorem cd_117_89 : zt_code zq_T 117 89 = some (.iload_n 2, 1, 0) := by decide +kernel
theorem cd_117_90 : zt_code zq_T 117 90 = some (.bipush (6), 2, 0) := by decide +kernel
theorem cd_117_92 : zt_code zq_T 117 92 = some (.if_icmp .ne (10), 3, 0) := by decide +kernel
theorem cd_117_95 : zt_code zq_T 117 95 = some (.aload_n 0, 1, 0) := by decide +kernel
theorem cd_117_96 : zt_code zq_T 117 96 = some (.getfield 509, 3, 0) := by decide +kernel
theorem cd_117_99 : zt_code zq_T 117 99 = some (.goto (15), 3, 0) := by decide +kernel
theorem cd_117_102 : zt_code zq_T 117 102 = some (.aload_n 0, 1, 0) := by decide +kernel
theorem cd_117_103 : zt_code zq_T 117 103 = some (.getfield 512, 3, 0) := by decide +kernel
theorem cd_117_106 : zt_code zq_T 117 106 = some (.ifCond .eq (7), 3, 0) := by decide +kernel
theorem cd_117_109 : zt_code zq_T 117 109 = some (.iconst 1, 1, 0) := by decide +kernel
theorem cd_117_110 : zt_code zq_T 117 110 = some (.goto (4), 3, 0) := by decide +kernel
theorem cd_117_113 : zt_code zq_T 117 113 = some (.iconst 0, 1, 0) := by decide +kernel
theorem cd_117_114 : zt_code zq_T 117 114 = some (.ireturn, 1, 0) := by decide +kernel
theorem cd_118_0 : zt_code zq_T 118 0 = some (.iconst 0, 1, 0) := by decide +kernel
theorem cd_118_1 : zt_code zq_T 118 1 = some (.istore_n 1, 1, 0) := by decide +kernel
theorem cd_118_2 : zt_code zq_T 118 2 = some (.iconst 0, 1, 0) := by decide +kernel
theorem cd_118_3 : zt_code zq_T 118 3 = some (.istore_n 2, 1, 0) := by decide +kernel
theorem cd_118_4 : zt_code zq_T 118 4 = some (.iload_n 2, 1, 0) := by decide +kernel
theorem cd_118_5 : zt_code zq_T 118 5 = some (.aload_n 0, 1, 0) := by decide +kernel
theorem cd_118_6 : zt_code zq_T 118 6 = some (.getfield 237, 3, 0) := by decide +kernel
theorem cd_118_9 : zt_code zq_T 118 9 = some (.if_icmp .ge (25), 3, 0) := by decide +kernel
theorem cd_118_12 : zt_code zq_T 118 12 = some (.iload_n 1, 1, 0) := by decide +kernel
theorem cd_118_13 : zt_code zq_T 118 13 = some (.aload_n 0, 1, 0) := by decide +kernel
theorem cd_118_14 : zt_code zq_T 118 14 = some (.iload_n 2, 1, 0) := by decide +kernel
theorem cd_118_15 : zt_code zq_T 118 15 = some (.invokevirtual 523, 3, 0) := by decide +kernel
theorem cd_118_18 : zt_code zq_T 118 18 = some (.ifCond .ne (7), 3, 0) := by decide +kernel
theorem cd_118_21 : zt_code zq_T 118 21 = some (.iconst 1, 1, 0) := by decide +kernel
theorem cd_118_22 : zt_code zq_T 118 22 = some (.goto (4), 3, 0) := by decide +kernel
theorem cd_118_25 : zt_code zq_T 118 25 = some (.iconst 0, 1, 0) := by decide +kernel
theorem cd_118_26 : zt_code zq_T 118 26 = some (.iadd, 1, 0) := by decide +kernel
theorem cd_118_27 : zt_code zq_T 118 27 = some (.istore_n 1, 1, 0) := by decide +kernel
theorem cd_118_28 : zt_code zq_T 118 28 = some (.iinc 2 (1), 3, 0) := by decide +kernel
theorem cd_118_31 : zt_code zq_T 118 31 = some (.goto (-27), 3, 0) := by decide +kernel
theorem cd_118_34 : zt_code zq_T 118 34 = some (.iload_n 1, 1, 0) := by decide +kernel
theorem cd_118_35 : zt_code zq_T 118 35 = some (.ireturn, 1, 0) := by decide +kernel
theorem cd_119_0 : zt_code zq_T 119 0 = some (.aload_n 0, 1, 0) := by decide +kernel
theorem cd_119_1 : zt_code zq_T 119 1 = some (.iconst 0, 1, 0) := by decide +kernel
theorem cd_119_2 : zt_code zq_T 119 2 = some (.putfield 114, 3, 0) := by decide +kernel
theorem cd_119_5 : zt_code zq_T 119 5 = some (.aload_n 0, 1, 0) := by decide +kernel
theorem cd_119_6 : zt_code zq_T 119 6 = some (.getfield 237, 3, 0) := by decide +kernel
theorem cd_119_9 : zt_code zq_T 119 9 = some (.ifCond .eq (8), 3, 0) := by decide +kernel
theorem cd_119_12 : zt_code zq_T 119 12 = some (.iload_n 1, 1, 0) := by decide +kernel
theorem cd_119_13 : zt_code zq_T 119 13 = some (.iconst (-1), 1, 0) := by decide +kernel
theorem cd_119_14 : zt_code zq_T 119 14 = some (.if_icmp .ge (5), 3, 0) := by decide +kernel
theorem cd_119_17 : zt_code zq_T 119 17 = some (.iconst (-1), 1, 0) := by decide +kernel
theorem cd_119_18 : zt_code zq_T 119 18 = some (.ireturn, 1, 0) := by decide +kernel
theorem cd_119_19 : zt_code zq_T 119 19 = some (.iload_n 1, 1, 0) := by decide +kernel
theorem cd_119_20 : zt_code zq_T 119 20 = some (.iconst (-1), 1, 0) := by decide +kernel
theorem cd_119_21 : zt_code zq_T 119 21 = some (.if_icmp .ne (8), 3, 0) := by decide +kernel
theorem cd_119_24 : zt_code zq_T 119 24 = some (.aload_n 0, 1, 0) := by decide +kernel
theorem cd_119_25 : zt_code zq_T 119 25 = some (.invokevirtual 526, 3, 0) := by decide +kernel
theorem cd_119_28 : zt_code zq_T 119 28 = some (.ireturn, 1, 0) := by decide +kernel
theorem cd_119_29 : zt_code zq_T 119 29 = some (.iconst 0, 1, 0) := by decide +kernel
theorem cd_119_30 : zt_code zq_T 119 30 = some (.istore_n 2, 1, 0) := by decide +kernel
theorem cd_119_31 : zt_code zq_T 119 31 = some (.iconst 0, 1, 0) := by decide +kernel
theorem cd_119_32 : zt_code zq_T 119 32 = some (.istore_n 3, 1, 0) := by decide +kernel
theorem cd_119_33 : zt_code zq_T 119 33 = some (.iload_n 3, 1, 0) := by decide +kernel
theorem cd_119_34 : zt_code zq_T 119 34 = some (.aload_n 0, 1, 0) := by decide +kernel
theorem cd_119_35 : zt_code zq_T 119 35 = some (.getfield 237, 3, 0) := by decide +kernel
theorem cd_119_38 : zt_code zq_T 119 38 = some (.if_icmp .ge (30), 3, 0) := by decide +kernel
theorem cd_119_41 : zt_code zq_T 119 41 = some (.aload_n 0, 1, 0) := by decide +kernel
theorem cd_119_42 : zt_code zq_T 119 42 = some (.iload_n 3, 1, 0) := by decide +kernel
theorem cd_119_43 : zt_code zq_T 119 43 = some (.invokevirtual 523, 3, 0) := by decide +kernel
theorem cd_119_46 : zt_code zq_T 119 46 = some (.ifCond .eq (6), 3, 0) := by decide +kernel
theorem cd_119_49 : zt_code zq_T 119 49 = some (.goto (13), 3, 0) := by decide +kernel
theorem cd_119_52 : zt_code zq_T 119 52 = some (.iload_n 2, 1, 0) := by decide +kernel
theorem cd_119_53 : zt_code zq_T 119 53 = some (.iload_n 1, 1, 0) := by decide +kernel
theorem cd_119_54 : zt_code zq_T 119 54 = some (.if_icmp .ne (5), 3, 0) := by decide +kernel
theorem cd_119_57 : zt_code zq_T 119 57 = some (.iload_n 3, 1, 0) := by decide +kernel
theorem cd_119_58 : zt_code zq_T 119 58 = some (.ireturn, 1, 0) := by decide +kernel
theorem cd_119_59 : zt_code zq_T 119 59 = some (.iinc 2 (1), 3, 0) := by decide +kernel
theorem cd_119_62 : zt_code zq_T 119 62 = some (.iinc 3 (1), 3, 0) := by decide +kernel
theorem cd_119_65 : zt_code zq_T 119 65 = some (.goto (-32), 3, 0) := by decide +kernel
theorem cd_119_68 : zt_code zq_T 119 68 = some (.iconst (-1), 1, 0) := by decide +kernel
theorem cd_119_69 : zt_code zq_T 119 69 = some (.ireturn, 1, 0) := by decide +kernel
theorem cd_120_0 : zt_code zq_T 120 0 = some (.aload_n 0, 1, 0) := by decide +kernel
theorem cd_120_1 : zt_code zq_T 120 1 = some (.getfield 111, 3, 0) := by decide +kernel
theorem cd_120_4 : zt_code zq_T 120 4 = some (.aload_n 0, 1, 0) := by decide +kernel
theorem cd_120_5 : zt_code zq_T 120 5 = some (.getfield 529, 3, 0) := by decide +kernel
theorem cd_120_8 : zt_code zq_T 120 8 = some (.iload_n 1, 1, 0) := by decide +kernel
theorem cd_120_9 : zt_code zq_T 120 9 = some (.iastore, 1, 0) := by decide +kernel
theorem cd_120_10 : zt_code zq_T 120 10 = some (.aload_n 0, 1, 0) := by decide +kernel
theorem cd_120_11 : zt_code zq_T 120 11 = some (.dup, 1, 0) := by decide +kernel
theorem cd_120_12 : zt_code zq_T 120 12 = some (.getfield 529, 3, 0) := by decide +kernel
theorem cd_120_15 : zt_code zq_T 120 15 = some (.iconst 1, 1, 0) := by decide +kernel
theorem cd_120_16 : zt_code zq_T 120 16 = some (.iadd, 1, 0) := by decide +kernel
theorem cd_120_17 : zt_code zq_T 120 17 = some (.putfield 529, 3, 0) := by decide +kernel
theorem cd_120_20 : zt_code zq_T 120 20 = some (.return_, 1, 0) := by decide +kernel
theorem cd_121_0 : zt_code zq_T 121 0 = some (.iconst 0, 1, 0) := by decide +kernel
theorem cd_121_1 : zt_code zq_T 121 1 = some (.istore_n 2, 1, 0) := by decide +kernel
theorem cd_121_2 : zt_code zq_T 121 2 = some (.iload_n 2, 1, 0) := by decide +kernel
theorem cd_121_3 : zt_code zq_T 121 3 = some (.aload_n 1, 1, 0) := by decide +kernel
theorem cd_121_4 : zt_code zq_T 121 4 = some (.invokevirtual 532, 3, 0) := by decide +kernel
theorem cd_121_7 : zt_code zq_T 121 7 = some (.if_icmp .ge (18), 3, 0) := by decide +kernel
theorem cd_121_10 : zt_code zq_T 121 10 = some (.aload_n 0, 1, 0) := by decide +kernel
theorem cd_121_11 : zt_code zq_T 121 11 = some (.aload_n 1, 1, 0) := by decide +kernel
theorem cd_121_12 : zt_code zq_T 121 12 = some (.iload_n 2, 1, 0) := by decide +kernel
theorem cd_121_13 : zt_code zq_T 121 13 = some (.invokevirtual 536, 3, 0) := by decide +kernel
theorem cd_121_16 : zt_code zq_T 121 16 = some (.invokevirtual 540, 3, 0) := by decide +kernel
theorem cd_121_19 : zt_code zq_T 121 19 = some (.iinc 2 (1), 3, 0) := by decide +kernel
theorem cd_121_22 : zt_code zq_T 121 22 = some (.goto (-20), 3, 0) := by decide +kernel
theorem cd_121_25 : zt_code zq_T 121 25 = some (.return_, 1, 0) := by decide +kernel
theorem cd_122_0 : zt_code zq_T 122 0 = some (.aload_n 0, 1, 0) := by decide +kernel
theorem cd_122_1 : zt_code zq_T 122 1 = some (.getfield 44, 3, 0) := by decide +kernel
theorem cd_122_4 : zt_code zq_T 122 4 = some (.iconst 4, 1, 0) := by decide +kernel
theorem cd_122_5 : zt_code zq_T 122 5 = some (.iload_n 1, 1, 0) := by decide +kernel
theorem cd_122_6 : zt_code zq_T 122 6 = some (.imul, 1, 0) := by decide +kernel
theorem cd_122_7 : zt_code zq_T 122 7 = some (.iconst 1, 1, 0) := by decide +kernel
theorem cd_122_8 : zt_code zq_T 122 8 = some (.iadd, 1, 0) := by decide +kernel
theorem cd_122_9 : zt_code zq_T 122 9 = some (.iaload, 1, 0) := by decide +kernel
theorem cd_122_10 : zt_code zq_T 122 10 = some (.iconst (-1), 1, 0) := by decide +kernel
theorem cd_122_11 : zt_code zq_T 122 11 = some (.if_icmp .eq (23), 3, 0) := by decide +kernel
theorem cd_122_14 : zt_code zq_T 122 14 = some (.aload_n 0, 1, 0) := by decide +kernel
theorem cd_122_15 : zt_code zq_T 122 15 = some (.aload_n 0, 1, 0) := by decide +kernel
theorem cd_122_16 : zt_code zq_T 122 16 = some (.getfield 44, 3, 0) := by decide +kernel
theorem cd_122_19 : zt_code zq_T 122 19 = some (.iconst 4, 1, 0) := by decide +kernel
theorem cd_122_20 : zt_code zq_T 122 20 = some (.iload_n 1, 1, 0) := by decide +kernel
theorem cd_122_21 : zt_code zq_T 122 21 = some (.imul, 1, 0) := by decide +kernel
theorem cd_122_22 : zt_code zq_T 122 22 = some (.iconst 1, 1, 0) := by decide +kernel
theorem cd_122_23 : zt_code zq_T 122 23 = some (.iadd, 1, 0) := by decide +kernel
theorem cd_122_24 : zt_code zq_T 122 24 = some (.iaload, 1, 0) := by decide +kernel
theorem cd_122_25 : zt_code zq_T 122 25 = some (.invokevirtual 542, 3, 0) := by decide +kernel
theorem cd_122_28 : zt_code zq_T 122 28 = some (.aload_n 0, 1, 0) := by decide +kernel
theorem cd_122_29 : zt_code zq_T 122 29 = some (.bipush (47), 2, 0) := by decide +kernel
theorem cd_122_31 : zt_code zq_T 122 31 = some (.invokevirtual 540, 3, 0) := by decide +kernel
theorem cd_122_34 : zt_code zq_T 122 34 = some (.aload_n 0, 1, 0) := by decide +kernel
theorem cd_122_35 : zt_code zq_T 122 35 = some (.bipush (97), 2, 0) := by decide +kernel
theorem cd_122_37 : zt_code zq_T 122 37 = some (.aload_n 0, 1, 0) := by decide +kernel
theorem cd_122_38 : zt_code zq_T 122 38 = some (.getfield 44, 3, 0) := by decide +kernel
theorem cd_122_41 : zt_code zq_T 122 41 = some (.iconst 4, 1, 0) := by decide +kernel
theorem cd_122_42 : zt_code zq_T 122 42 = some (.iload_n 1, 1, 0) := by decide +kernel
theorem cd_122_43 : zt_code zq_T 122 43 = some (.imul, 1, 0) := by decide +kernel
theorem cd_122_44 : zt_code zq_T 122 44 = some (.iaload, 1, 0) := by decide +kernel
theorem cd_122_45 : zt_code zq_T 122 45 = some (.iadd, 1, 0) := by decide +kernel
theorem cd_122_46 : zt_code zq_T 122 46 = some (.invokevirtual 540, 3, 0) := by decide +kernel
theorem cd_122_49 : zt_code zq_T 122 49 = some (.return_, 1, 0) := by decide +kernel
theorem cd_123_0 : zt_code zq_T 123 0 = some (.iconst 0, 1, 0) := by decide +kernel
theorem cd_123_1 : zt_code zq_T 123 1 = some (.istore_n 3, 1, 0) := by decide +kernel
theorem cd_123_2 : zt_code zq_T 123 2 = some (.iconst 0, 1, 0) := by decide +kernel
theorem cd_123_3 : zt_code zq_T 123 3 = some (.istore 4, 2, 0) := by decide +kernel
theorem cd_123_5 : zt_code zq_T 123 5 = some (.iload 4, 2, 0) := by decide +kernel
theorem cd_123_7 : zt_code zq_T 123 7 = some (.aload_n 0, 1, 0) := by decide +kernel
theorem cd_123_8 : zt_code zq_T 123 8 = some (.getfield 237, 3, 0) := by decide +kernel
theorem cd_123_11 : zt_code zq_T 123 11 = some (.if_icmp .ge (45), 3, 0) := by decide +kernel
theorem cd_123_14 : zt_code zq_T 123 14 = some (.aload_n 0, 1, 0) := by decide +kernel
theorem cd_123_15 : zt_code zq_T 123 15 = some (.getfield 44, 3, 0) := by decide +kernel
theorem cd_123_18 : zt_code zq_T 123 18 = some (.iconst 4, 1, 0) := by decide +kernel
theorem cd_123_19 : zt_code zq_T 123 19 = some (.iload 4, 2, 0) := by decide +kernel
theorem cd_123_21 : zt_code zq_T 123 21 = some (.imul, 1, 0) := by decide +kernel
theorem cd_123_22 : zt_code zq_T 123 22 = some (.iconst 1, 1, 0) := by decide +kernel
theorem cd_123_23 : zt_code zq_T 123 23 = some (.iadd, 1, 0) := by decide +kernel
theorem cd_123_24 : zt_code zq_T 123 24 = some (.iaload, 1, 0) := by decide +kernel
theorem cd_123_25 : zt_code zq_T 123 25 = some (.iload_n 1, 1, 0) := by decide +kernel
theorem cd_123_26 : zt_code zq_T 123 26 = some (.if_icmp .eq (6), 3, 0) := by decide +kernel
theorem cd_123_29 : zt_code zq_T 123 29 = some (.goto (21), 3, 0) := by decide +kernel
theorem cd_123_32 : zt_code zq_T 123 32 = some (.iload_n 3, 1, 0) := by decide +kernel
theorem cd_123_33 : zt_code zq_T 123 33 = some (.iload_n 2, 1, 0) := by decide +kernel
theorem cd_123_34 : zt_code zq_T 123 34 = some (.if_icmp .ne (13), 3, 0) := by decide +kernel
theorem cd_123_37 : zt_code zq_T 123 37 = some (.aload_n 0, 1, 0) := by decide +kernel
theorem cd_123_38 : zt_code zq_T 123 38 = some (.getfield 44, 3, 0) := by decide +kernel
theorem cd_123_41 : zt_code zq_T 123 41 = some (.iconst 4, 1, 0) := by decide +kernel
theorem cd_123_42 : zt_code zq_T 123 42 = some (.iload 4, 2, 0) := by decide +kernel
theorem cd_123_44 : zt_code zq_T 123 44 = some (.imul, 1, 0) := by decide +kernel
theorem cd_123_45 : zt_code zq_T 123 45 = some (.iaload, 1, 0) := by decide +kernel
theorem cd_123_46 : zt_code zq_T 123 46 = some (.ireturn, 1, 0) := by decide +kernel
theorem cd_123_47 : zt_code zq_T 123 47 = some (.iinc 3 (1), 3, 0) := by decide +kernel
theorem cd_123_50 : zt_code zq_T 123 50 = some (.iinc 4 (1), 3, 0) := by decide +kernel
theorem cd_123_53 : zt_code zq_T 123 53 = some (.goto (-48), 3, 0) := by decide +kernel
theorem cd_123_56 : zt_code zq_T 123 56 = some (.iconst (-1), 1, 0) := by decide +kernel
theorem cd_123_57 : zt_code zq_T 123 57 = some (.ireturn, 1, 0) := by decide +kernel
theorem cd_124_0 : zt_code zq_T 124 0 = some (.aload_n 0, 1, 0) := by decide +kernel
theorem cd_124_1 : zt_code zq_T 124 1 = some (.iconst 0, 1, 0) := by decide +kernel
theorem cd_124_2 : zt_code zq_T 124 2 = some (.putfield 529, 3, 0) := by decide +kernel
theorem cd_124_5 : zt_code zq_T 124 5 = some (.aload_n 0, 1, 0) := by decide +kernel
theorem cd_124_6 : zt_code zq_T 124 6 = some (.iload_n 1, 1, 0) := by decide +kernel
theorem cd_124_7 : zt_code zq_T 124 7 = some (.invokevirtual 542, 3, 0) := by decide +kernel
theorem cd_124_10 : zt_code zq_T 124 10 = some (.aload_n 0, 1, 0) := by decide +kernel
theorem cd_124_11 : zt_code zq_T 124 11 = some (.ldc_w 545, 3, 0) := by decide +kernel
theorem cd_124_14 : zt_code zq_T 124 14 = some (.invokevirtual 547, 3, 0) := by decide +kernel
theorem cd_124_17 : zt_code zq_T 124 17 = some (.aload_n 0, 1, 0) := by decide +kernel
theorem cd_124_18 : zt_code zq_T 124 18 = some (.iload_n 1, 1, 0) := by decide +kernel
theorem cd_124_19 : zt_code zq_T 124 19 = some (.aload_n 0, 1, 0) := by decide +kernel
theorem cd_124_20 : zt_code zq_T 124 20 = some (.getfield 506, 3, 0) := by decide +kernel
theorem cd_124_23 : zt_code zq_T 124 23 = some (.invokevirtual 551, 3, 0) := by decide +kernel
theorem cd_124_26 : zt_code zq_T 124 26 = some (.istore_n 2, 1, 0) := by decide +kernel
theorem cd_124_27 : zt_code zq_T 124 27 = some (.iload_n 2, 1, 0) := by decide +kernel
theorem cd_124_28 : zt_code zq_T 124 28 = some (.iconst (-1), 1, 0) := by decide +kernel
theorem cd_124_29 : zt_code zq_T 124 29 = some (.if_icmp .ne (13), 3, 0) := by decide +kernel
theorem cd_124_32 : zt_code zq_T 124 32 = some (.aload_n 0, 1, 0) := by decide +kernel
theorem cd_124_33 : zt_code zq_T 124 33 = some (.ldc_w 554, 3, 0) := by decide +kernel
theorem cd_124_36 : zt_code zq_T 124 36 = some (.invokevirtual 547, 3, 0) := by decide +kernel
theorem cd_124_39 : zt_code zq_T 124 39 = some (.goto (11), 3, 0) := by decide +kernel
theorem cd_124_42 : zt_code zq_T 124 42 = some (.aload_n 0, 1, 0) := by decide +kernel
theorem cd_124_43 : zt_code zq_T 124 43 = some (.bipush (97), 2, 0) := by decide +kernel
theorem cd_124_45 : zt_code zq_T 124 45 = some (.iload_n 2, 1, 0) := by decide +kernel
theorem cd_124_46 : zt_code zq_T 124 46 = some (.iadd, 1, 0) := by decide +kernel
theorem cd_124_47 : zt_code zq_T 124 47 = some (.invokevirtual 540, 3, 0) := by decide +kernel
theorem cd_124_50 : zt_code zq_T 124 50 = some (.aload_n 0, 1, 0) := by decide +kernel
theorem cd_124_51 : zt_code zq_T 124 51 = some (.ldc_w 556, 3, 0) := by decide +kernel
theorem cd_124_54 : zt_code zq_T 124 54 = some (.invokevirtual 547, 3, 0) := by decide +kernel
theorem cd_124_57 : zt_code zq_T 124 57 = some (.aload_n 0, 1, 0) := by decide +kernel
theorem cd_124_58 : zt_code zq_T 124 58 = some (.getfield 506, 3, 0) := by decide +kernel
theorem cd_124_61 : zt_code zq_T 124 61 = some (.bipush (9), 2, 0) := by decide +kernel
theorem cd_124_63 : zt_code zq_T 124 63 = some (.if_icmp .le (17), 3, 0) := by decide +kernel
theorem cd_124_66 : zt_code zq_T 124 66 = some (.aload_n 0, 1, 0) := by decide +kernel
theorem cd_124_67 : zt_code zq_T 124 67 = some (.bipush (48), 2, 0) := by decide +kernel
theorem cd_124_69 : zt_code zq_T 124 69 = some (.aload_n 0, 1, 0) := by decide +kernel
theorem cd_124_70 : zt_code zq_T 124 70 = some (.getfield 506, 3, 0) := by decide +kernel
theorem cd_124_73 : zt_code zq_T 124 73 = some (.bipush (10), 2, 0) := by decide +kernel
theorem cd_124_75 : zt_code zq_T 124 75 = some (.idiv, 1, 0) := by decide +kernel
theorem cd_124_76 : zt_code zq_T 124 76 = some (.iadd, 1, 0) := by decide +kernel
theorem cd_124_77 : zt_code zq_T 124 77 = some (.invokevirtual 540, 3, 0) := by decide +kernel
theorem cd_124_80 : zt_code zq_T 124 80 = some (.aload_n 0, 1, 0) := by decide +kernel
theorem cd_124_81 : zt_code zq_T 124 81 = some (.bipush (48), 2, 0) := by decide +kernel
theorem cd_124_83 : zt_code zq_T 124 83 = some (.aload_n 0, 1, 0) := by decide +kernel
theorem cd_124_84 : zt_code zq_T 124 84 = some (.getfield 506, 3, 0) := by decide +kernel
theorem cd_124_87 : zt_code zq_T 124 87 = some (.bipush (10), 2, 0) := by decide +kernel
theorem cd_124_89 : zt_code zq_T 124 89 = some (.irem, 1, 0) := by decide +kernel
theorem cd_124_90 : zt_code zq_T 124 90 = some (.iadd, 1, 0) := by decide +kernel
theorem cd_124_91 : zt_code zq_T 124 91 = some (.invokevirtual 540, 3, 0) := by decide +kernel
theorem cd_124_94 : zt_code zq_T 124 94 = some (.aload_n 0, 1, 0) := by decide +kernel
theorem cd_124_95 : zt_code zq_T 124 95 = some (.ldc_w 558, 3, 0) := by decide +kernel
theorem cd_124_98 : zt_code zq_T 124 98 = some (.invokevirtual 547, 3, 0) := by decide +kernel
theorem cd_124_101 : zt_code zq_T 124 101 = some (.iconst 0, 1, 0) := by decide +kernel
theorem cd_124_102 : zt_code zq_T 124 102 = some (.istore_n 3, 1, 0) := by decide +kernel
theorem cd_124_103 : zt_code zq_T 124 103 = some (.iconst 0, 1, 0) := by decide +kernel
theorem cd_124_104 : zt_code zq_T 124 104 = some (.istore 4, 2, 0) := by decide +kernel
theorem cd_124_106 : zt_code zq_T 124 106 = some (.iload 4, 2, 0) := by decide +kernel
theorem cd_124_108 : zt_code zq_T 124 108 = some (.bipush (26), 2, 0) := by decide +kernel
theorem cd_124_110 : zt_code zq_T 124 110 = some (.if_icmp .gt (80), 3, 0) := by decide +kernel
theorem cd_124_113 : zt_code zq_T 124 113 = some (.iload 4, 2, 0) := by decide +kernel
theorem cd_124_115 : zt_code zq_T 124 115 = some (.bipush (26), 2, 0) := by decide +kernel
theorem cd_124_117 : zt_code zq_T 124 117 = some (.if_icmp .ge (18), 3, 0) := by decide +kernel
theorem cd_124_120 : zt_code zq_T 124 120 = some (.aload_n 0, 1, 0) := by decide +kernel
theorem cd_124_121 : zt_code zq_T 124 121 = some (.getfield 509, 3, 0) := by decide +kernel
theorem cd_124_124 : zt_code zq_T 124 124 = some (.iload 4, 2, 0) := by decide +kernel
theorem cd_124_126 : zt_code zq_T 124 126 = some (.invokestatic 413, 3, 0) := by decide +kernel
theorem cd_124_129 : zt_code zq_T 124 129 = some (.ifCond .ne (16), 3, 0) := by decide +kernel
theorem cd_124_132 : zt_code zq_T 124 132 = some (.goto (52), 3, 0) := by decide +kernel
theorem cd_124_135 : zt_code zq_T 124 135 = some (.aload_n 0, 1, 0) := by decide +kernel
theorem cd_124_136 : zt_code zq_T 124 136 = some (.getfield 512, 3, 0) := by decide +kernel
theorem cd_124_139 : zt_code zq_T 124 139 = some (.ifCond .ne (6), 3, 0) := by decide +kernel
theorem cd_124_142 : zt_code zq_T 124 142 = some (.goto (42), 3, 0) := by decide +kernel
theorem cd_124_145 : zt_code zq_T 124 145 = some (.iload_n 3, 1, 0) := by decide +kernel
theorem cd_124_146 : zt_code zq_T 124 146 = some (.ifCond .eq (10), 3, 0) := by decide +kernel
theorem cd_124_149 : zt_code zq_T 124 149 = some (.aload_n 0, 1, 0) := by decide +kernel
theorem cd_124_150 : zt_code zq_T 124 150 = some (.ldc_w 560, 3, 0) := by decide +kernel
theorem cd_124_153 : zt_code zq_T 124 153 = some (.invokevirtual 547, 3, 0) := by decide +kernel
theorem cd_124_156 : zt_code zq_T 124 156 = some (.iload 4, 2, 0) := by decide +kernel
theorem cd_124_158 : zt_code zq_T 124 158 = some (.bipush (26), 2, 0) := by decide +kernel
theorem cd_124_160 : zt_code zq_T 124 160 = some (.if_icmp .ge (15), 3, 0) := by decide +kernel
theorem cd_124_163 : zt_code zq_T 124 163 = some (.aload_n 0, 1, 0) := by decide +kernel
theorem cd_124_164 : zt_code zq_T 124 164 = some (.bipush (97), 2, 0) := by decide +kernel
theorem cd_124_166 : zt_code zq_T 124 166 = some (.iload 4, 2, 0) := by decide +kernel
theorem cd_124_168 : zt_code zq_T 124 168 = some (.iadd, 1, 0) := by decide +kernel
theorem cd_124_169 : zt_code zq_T 124 169 = some (.invokevirtual 540, 3, 0) := by decide +kernel
theorem cd_124_172 : zt_code zq_T 124 172 = some (.goto (10), 3, 0) := by decide +kernel
theorem cd_124_175 : zt_code zq_T 124 175 = some (.aload_n 0, 1, 0) := by decide +kernel
theorem cd_124_176 : zt_code zq_T 124 176 = some (.ldc_w 554, 3, 0) := by decide +kernel
theorem cd_124_179 : zt_code zq_T 124 179 = some (.invokevirtual 547, 3, 0) := by decide +kernel
theorem cd_124_182 : zt_code zq_T 124 182 = some (.iconst 1, 1, 0) := by decide +kernel
theorem cd_124_183 : zt_code zq_T 124 183 = some (.istore_n 3, 1, 0) := by decide +kernel
theorem cd_124_184 : zt_code zq_T 124 184 = some (.iinc 4 (1), 3, 0) := by decide +kernel
theorem cd_124_187 : zt_code zq_T 124 187 = some (.goto (-81), 3, 0) := by decide +kernel
theorem cd_124_190 : zt_code zq_T 124 190 = some (.return_, 1, 0) := by decide +kernel
theorem cd_125_0 : zt_code zq_T 125 0 = some (.aload_n 0, 1, 0) := by decide +kernel
theorem cd_125_1 : zt_code zq_T 125 1 = some (.iconst 0, 1, 0) := by decide +kernel
theorem cd_125_2 : zt_code zq_T 125 2 = some (.putfield 114, 3, 0) := by decide +kernel
theorem cd_125_5 : zt_code zq_T 125 5 = some (.aload_n 0, 1, 0) := by decide +kernel
theorem cd_125_6 : zt_code zq_T 125 6 = some (.iload_n 1, 1, 0) := by decide +kernel
theorem cd_125_7 : zt_code zq_T 125 7 = some (.invokevirtual 518, 3, 0) := by decide +kernel
theorem cd_125_10 : zt_code zq_T 125 10 = some (.ifCond .eq (11), 3, 0) := by decide +kernel
theorem cd_125_13 : zt_code zq_T 125 13 = some (.aload_n 0, 1, 0) := by decide +kernel
theorem cd_125_14 : zt_code zq_T 125 14 = some (.iload_n 1, 1, 0) := by decide +kernel
theorem cd_125_15 : zt_code zq_T 125 15 = some (.invokevirtual 523, 3, 0) := by decide +kernel
theorem cd_125_18 : zt_code zq_T 125 18 = some (.ifCond .eq (5), 3, 0) := by decide +kernel
theorem cd_125_21 : zt_code zq_T 125 21 = some (.iconst (-1), 1, 0) := by decide +kernel
theorem cd_125_22 : zt_code zq_T 125 22 = some (.ireturn, 1, 0) := by decide +kernel
theorem cd_125_23 : zt_code zq_T 125 23 = some (.aload_n 0, 1, 0) := by decide +kernel
theorem cd_125_24 : zt_code zq_T 125 24 = some (.iload_n 1, 1, 0) := by decide +kernel
theorem cd_125_25 : zt_code zq_T 125 25 = some (.invokevirtual 562, 3, 0) := by decide +kernel
theorem cd_125_28 : zt_code zq_T 125 28 = some (.iload_n 2, 1, 0) := by decide +kernel
theorem cd_125_29 : zt_code zq_T 125 29 = some (.iconst (-1), 1, 0) := by decide +kernel
theorem cd_125_30 : zt_code zq_T 125 30 = some (.if_icmp .ne (10), 3, 0) := by decide +kernel
theorem cd_125_33 : zt_code zq_T 125 33 = some (.aload_n 0, 1, 0) := by decide +kernel
theorem cd_125_34 : zt_code zq_T 125 34 = some (.getfield 529, 3, 0) := by decide +kernel
theorem cd_125_37 : zt_code zq_T 125 37 = some (.goto (29), 3, 0) := by decide +kernel
theorem cd_125_40 : zt_code zq_T 125 40 = some (.iload_n 2, 1, 0) := by decide +kernel
theorem cd_125_41 : zt_code zq_T 125 41 = some (.i2l, 1, 0) := by decide +kernel
theorem cd_125_42 : zt_code zq_T 125 42 = some (.lconst 0, 1, 0) := by decide +kernel
theorem cd_125_43 : zt_code zq_T 125 43 = some (.aload_n 0, 1, 0) := by decide +kernel
theorem cd_125_44 : zt_code zq_T 125 44 = some (.getfield 529, 3, 0) := by decide +kernel
theorem cd_125_47 : zt_code zq_T 125 47 = some (.iconst 1, 1, 0) := by decide +kernel
theorem cd_125_48 : zt_code zq_T 125 48 = some (.isub, 1, 0) := by decide +kernel
theorem cd_125_49 : zt_code zq_T 125 49 = some (.i2l, 1, 0) := by decide +kernel
theorem cd_125_50 : zt_code zq_T 125 50 = some (.invokestatic 204, 3, 0) := by decide +kernel
theorem cd_125_53 : zt_code zq_T 125 53 = some (.ifCond .eq (12), 3, 0) := by decide +kernel
theorem cd_125_56 : zt_code zq_T 125 56 = some (.aload_n 0, 1, 0) := by decide +kernel
theorem cd_125_57 : zt_code zq_T 125 57 = some (.getfield 111, 3, 0) := by decide +kernel
theorem cd_125_60 : zt_code zq_T 125 60 = some (.iload_n 2, 1, 0) := by decide +kernel
theorem cd_125_61 : zt_code zq_T 125 61 = some (.iaload, 1, 0) := by decide +kernel
theorem cd_125_62 : zt_code zq_T 125 62 = some (.goto (4), 3, 0) := by decide +kernel
theorem cd_125_65 : zt_code zq_T 125 65 = some (.iconst (-1), 1, 0) := by decide +kernel
theorem cd_125_66 : zt_code zq_T 125 66 = some (.ireturn, 1, 0) := by decide +kernel
theorem cd_126_0 : zt_code zq_T 126 0 = some (.aload_n 0, 1, 0) := by decide +kernel
theorem cd_126_1 : zt_code zq_T 126 1 = some (.iconst 0, 1, 0) := by decide +kernel
theorem cd_126_2 : zt_code zq_T 126 2 = some (.putfield 114, 3, 0) := by decide +kernel
theorem cd_126_5 : zt_code zq_T 126 5 = some (.aload_n 0, 1, 0) := by decide +kernel
theorem cd_126_6 : zt_code zq_T 126 6 = some (.iload_n 1, 1, 0) := by decide +kernel
theorem cd_126_7 : zt_code zq_T 126 7 = some (.invokevirtual 357, 3, 0) := by decide +kernel
theorem cd_126_10 : zt_code zq_T 126 10 = some (.ifCond .eq (21), 3, 0) := by decide +kernel
theorem cd_126_13 : zt_code zq_T 126 13 = some (.iload_n 2, 1, 0) := by decide +kernel
theorem cd_126_14 : zt_code zq_T 126 14 = some (.i2l, 1, 0) := by decide +kernel
theorem cd_126_15 : zt_code zq_T 126 15 = some (.lconst 0, 1, 0) := by decide +kernel
theorem cd_126_16 : zt_code zq_T 126 16 = some (.aload_n 0, 1, 0) := by decide +kernel
theorem cd_126_17 : zt_code zq_T 126 17 = some (.iload_n 1, 1, 0) := by decide +kernel
theorem cd_126_18 : zt_code zq_T 126 18 = some (.iconst 3, 1, 0) := by decide +kernel
theorem cd_126_19 : zt_code zq_T 126 19 = some (.invokevirtual 258, 3, 0) := by decide +kernel
theorem cd_126_22 : zt_code zq_T 126 22 = some (.iconst 1, 1, 0) := by decide +kernel
theorem cd_126_23 : zt_code zq_T 126 23 = some (.isub, 1, 0) := by decide +kernel
theorem cd_126_24 : zt_code zq_T 126 24 = some (.i2l, 1, 0) := by decide +kernel
theorem cd_126_25 : zt_code zq_T 126 25 = some (.invokestatic 204, 3, 0) := by decide +kernel
theorem cd_126_28 : zt_code zq_T 126 28 = some (.ifCond .ne (5), 3, 0) := by decide +kernel
theorem cd_126_31 : zt_code zq_T 126 31 = some (.iconst (-1), 1, 0) := by decide +kernel
theorem cd_126_32 : zt_code zq_T 126 32 = some (.ireturn, 1, 0) := by decide +kernel
theorem cd_126_33 : zt_code zq_T 126 33 = some (.iload_n 3, 1, 0) := by decide +kernel
theorem cd_126_34 : zt_code zq_T 126 34 = some (.i2l, 1, 0) := by decide +kernel
theorem cd_126_35 : zt_code zq_T 126 35 = some (.lconst 0, 1, 0) := by decide +kernel
theorem cd_126_36 : zt_code zq_T 126 36 = some (.ldc2_w 202, 3, 0) := by decide +kernel
theorem cd_126_39 : zt_code zq_T 126 39 = some (.invokestatic 204, 3, 0) := by decide +kernel
theorem cd_126_42 : zt_code zq_T 126 42 = some (.ifCond .eq (27), 3, 0) := by decide +kernel
theorem cd_126_45 : zt_code zq_T 126 45 = some (.iload 4, 2, 0) := by decide +kernel
theorem cd_126_47 : zt_code zq_T 126 47 = some (.iconst (-1), 1, 0) := by decide +kernel
theorem cd_126_48 : zt_code zq_T 126 48 = some (.if_icmp .eq (24), 3, 0) := by decide +kernel
theorem cd_126_51 : zt_code zq_T 126 51 = some (.iload 4, 2, 0) := by decide +kernel
theorem cd_126_53 : zt_code zq_T 126 53 = some (.i2l, 1, 0) := by decide +kernel
theorem cd_126_54 : zt_code zq_T 126 54 = some (.iconst 1, 1, 0) := by decide +kernel
theorem cd_126_55 : zt_code zq_T 126 55 = some (.iload_n 3, 1, 0) := by decide +kernel
theorem cd_126_56 : zt_code zq_T 126 56 = some (.invokestatic 144, 3, 0) := by decide +kernel
theorem cd_126_59 : zt_code zq_T 126 59 = some (.i2l, 1, 0) := by decide +kernel
theorem cd_126_60 : zt_code zq_T 126 60 = some (.ldc2_w 202, 3, 0) := by decide +kernel
theorem cd_126_63 : zt_code zq_T 126 63 = some (.invokestatic 204, 3, 0) := by decide +kernel
theorem cd_126_66 : zt_code zq_T 126 66 = some (.ifCond .ne (6), 3, 0) := by decide +kernel
theorem cd_126_69 : zt_code zq_T 126 69 = some (.bipush (-2), 2, 0) := by decide +kernel
theorem cd_126_71 : zt_code zq_T 126 71 = some (.ireturn, 1, 0) := by decide +kernel
theorem cd_126_72 : zt_code zq_T 126 72 = some (.aload_n 0, 1, 0) := by decide +kernel
theorem cd_126_73 : zt_code zq_T 126 73 = some (.iload_n 1, 1, 0) := by decide +kernel
theorem cd_126_74 : zt_code zq_T 126 74 = some (.iload_n 2, 1, 0) := by decide +kernel
theorem cd_126_75 : zt_code zq_T 126 75 = some (.invokevirtual 242, 3, 0) := by decide +kernel
theorem cd_126_78 : zt_code zq_T 126 78 = some (.iload_n 3, 1, 0) := by decide +kernel
theorem cd_126_79 : zt_code zq_T 126 79 = some (.if_icmp .ne (17), 3, 0) := by decide +kernel
theorem cd_126_82 : zt_code zq_T 126 82 = some (.aload_n 0, 1, 0) := by decide +kernel
theorem cd_126_83 : zt_code zq_T 126 83 = some (.iload_n 1, 1, 0) := by decide +kernel
theorem cd_126_84 : zt_code zq_T 126 84 = some (.iload_n 2, 1, 0) := by decide +kernel
theorem cd_126_85 : zt_code zq_T 126 85 = some (.invokevirtual 275, 3, 0) := by decide +kernel
theorem cd_126_88 : zt_code zq_T 126 88 = some (.iload 4, 2, 0) := by decide +kernel
theorem cd_126_90 : zt_code zq_T 126 90 = some (.if_icmp .ne (6), 3, 0) := by decide +kernel
theorem cd_126_93 : zt_code zq_T 126 93 = some (.bipush (-3), 2, 0) := by decide +kernel
theorem cd_126_95 : zt_code zq_T 126 95 = some (.ireturn, 1, 0) := by decide +kernel
theorem cd_126_96 : zt_code zq_T 126 96 = some (.aload_n 0, 1, 0) := by decide +kernel
theorem cd_126_97 : zt_code zq_T 126 97 = some (.getfield 26, 3, 0) := by decide +kernel
theorem cd_126_100 : zt_code zq_T 126 100 = some (.iconst 3, 1, 0) := by decide +kernel
theorem cd_126_101 : zt_code zq_T 126 101 = some (.bipush (8), 2, 0) := by decide +kernel
theorem cd_126_103 : zt_code zq_T 126 103 = some (.iload_n 1, 1, 0) := by decide +kernel
theorem cd_126_104 : zt_code zq_T 126 104 = some (.imul, 1, 0) := by decide +kernel
theorem cd_126_105 : zt_code zq_T 126 105 = some (.iload_n 2, 1, 0) := by decide +kernel
theorem cd_126_106 : zt_code zq_T 126 106 = some (.iadd, 1, 0) := by decide +kernel
theorem cd_126_107 : zt_code zq_T 126 107 = some (.imul, 1, 0) := by decide +kernel
theorem cd_126_108 : zt_code zq_T 126 108 = some (.iload_n 3, 1, 0) := by decide +kernel
theorem cd_126_109 : zt_code zq_T 126 109 = some (.iastore, 1, 0) := by decide +kernel
theorem cd_126_110 : zt_code zq_T 126 110 = some (.aload_n 0, 1, 0) := by decide +kernel
theorem cd_126_111 : zt_code zq_T 126 111 = some (.getfield 26, 3, 0) := by decide +kernel
theorem cd_126_114 : zt_code zq_T 126 114 = some (.iconst 3, 1, 0) := by decide +kernel
theorem cd_126_115 : zt_code zq_T 126 115 = some (.bipush (8), 2, 0) := by decide +kernel
theorem cd_126_117 : zt_code zq_T 126 117 = some (.iload_n 1, 1, 0) := by decide +kernel
theorem cd_126_118 : zt_code zq_T 126 118 = some (.imul, 1, 0) := by decide +kernel
theorem cd_126_119 : zt_code zq_T 126 119 = some (.iload_n 2, 1, 0) := by decide +kernel
theorem cd_126_120 : zt_code zq_T 126 120 = some (.iadd, 1, 0) := by decide +kernel
theorem cd_126_121 : zt_code zq_T 126 121 = some (.imul, 1, 0) := by decide +kernel
theorem cd_126_122 : zt_code zq_T 126 122 = some (.iconst 1, 1, 0) := by decide +kernel
theorem cd_126_123 : zt_code zq_T 126 123 = some (.iadd, 1, 0) := by decide +kernel
theorem cd_126_124 : zt_code zq_T 126 124 = some (.iload 4, 2, 0) := by decide +kernel
theorem cd_126_126 : zt_code zq_T 126 126 = some (.iastore, 1, 0) := by decide +kernel
theorem cd_126_127 : zt_code zq_T 126 127 = some (.aload_n 0, 1, 0) := by decide +kernel
theorem cd_126_128 : zt_code zq_T 126 128 = some (.iload_n 1, 1, 0) := by decide +kernel
theorem cd_126_129 : zt_code zq_T 126 129 = some (.invokevirtual 372, 3, 0) := by decide +kernel
theorem cd_126_132 : zt_code zq_T 126 132 = some (.ifCond .eq (7), 3, 0) := by decide +kernel
theorem cd_126_135 : zt_code zq_T 126 135 = some (.iconst 1, 1, 0) := by decide +kernel
theorem cd_126_136 : zt_code zq_T 126 136 = some (.goto (4), 3, 0) := by decide +kernel
theorem cd_126_139 : zt_code zq_T 126 139 = some (.iconst 0, 1, 0) := by decide +kernel
theorem cd_126_140 : zt_code zq_T 126 140 = some (.ireturn, 1, 0) := by decide +kernel
theorem cd_127_0 : zt_code zq_T 127 0 = some (.aload_n 0, 1, 0) := by decide +kernel
theorem cd_127_1 : zt_code zq_T 127 1 = some (.iconst 0, 1, 0) := by decide +kernel
theorem cd_127_2 : zt_code zq_T 127 2 = some (.putfield 114, 3, 0) := by decide +kernel
theorem cd_127_5 : zt_code zq_T 127 5 = some (.aload_n 0, 1, 0) := by decide +kernel
theorem cd_127_6 : zt_code zq_T 127 6 = some (.iload_n 1, 1, 0) := by decide +kernel
theorem cd_127_7 : zt_code zq_T 127 7 = some (.invokevirtual 357, 3, 0) := by decide +kernel
theorem cd_127_10 : zt_code zq_T 127 10 = some (.ifCond .eq (21), 3, 0) := by decide +kernel
theorem cd_127_13 : zt_code zq_T 127 13 = some (.iload_n 2, 1, 0) := by decide +kernel
theorem cd_127_14 : zt_code zq_T 127 14 = some (.i2l, 1, 0) := by decide +kernel
theorem cd_127_15 : zt_code zq_T 127 15 = some (.lconst 0, 1, 0) := by decide +kernel
theorem cd_127_16 : zt_code zq_T 127 16 = some (.aload_n 0, 1, 0) := by decide +kernel
theorem cd_127_17 : zt_code zq_T 127 17 = some (.iload_n 1, 1, 0) := by decide +kernel
theorem cd_127_18 : zt_code zq_T 127 18 = some (.iconst 2, 1, 0) := by decide +kernel
theorem cd_127_19 : zt_code zq_T 127 19 = some (.invokevirtual 258, 3, 0) := by decide +kernel
theorem cd_127_22 : zt_code zq_T 127 22 = some (.iconst 1, 1, 0) := by decide +kernel
theorem cd_127_23 : zt_code zq_T 127 23 = some (.isub, 1, 0) := by decide +kernel
theorem cd_127_24 : zt_code zq_T 127 24 = some (.i2l, 1, 0) := by decide +kernel
theorem cd_127_25 : zt_code zq_T 127 25 = some (.invokestatic 204, 3, 0) := by decide +kernel
theorem cd_127_28 : zt_code zq_T 127 28 = some (.ifCond .ne (5), 3, 0) := by decide +kernel
theorem cd_127_31 : zt_code zq_T 127 31 = some (.iconst (-1), 1, 0) := by decide +kernel
theorem cd_127_32 : zt_code zq_T 127 32 = some (.ireturn, 1, 0) := by decide +kernel
theorem cd_127_33 : zt_code zq_T 127 33 = some (.iload_n 3, 1, 0) := by decide +kernel
theorem cd_127_34 : zt_code zq_T 127 34 = some (.i2l, 1, 0) := by decide +kernel
theorem cd_127_35 : zt_code zq_T 127 35 = some (.lconst 0, 1, 0) := by decide +kernel
theorem cd_127_36 : zt_code zq_T 127 36 = some (.ldc2_w 565, 3, 0) := by decide +kernel
theorem cd_127_39 : zt_code zq_T 127 39 = some (.invokestatic 204, 3, 0) := by decide +kernel
theorem cd_127_42 : zt_code zq_T 127 42 = some (.ifCond .ne (6), 3, 0) := by decide +kernel
theorem cd_127_45 : zt_code zq_T 127 45 = some (.bipush (-2), 2, 0) := by decide +kernel
theorem cd_127_47 : zt_code zq_T 127 47 = some (.ireturn, 1, 0) := by decide +kernel
theorem cd_127_48 : zt_code zq_T 127 48 = some (.aload_n 0, 1, 0) := by decide +kernel
theorem cd_127_49 : zt_code zq_T 127 49 = some (.iload_n 1, 1, 0) := by decide +kernel
theorem cd_127_50 : zt_code zq_T 127 50 = some (.iload_n 2, 1, 0) := by decide +kernel
theorem cd_127_51 : zt_code zq_T 127 51 = some (.invokevirtual 289, 3, 0) := by decide +kernel
theorem cd_127_54 : zt_code zq_T 127 54 = some (.iload_n 3, 1, 0) := by decide +kernel
theorem cd_127_55 : zt_code zq_T 127 55 = some (.if_icmp .ne (6), 3, 0) := by decide +kernel
theorem cd_127_58 : zt_code zq_T 127 58 = some (.bipush (-3), 2, 0) := by decide +kernel
theorem cd_127_60 : zt_code zq_T 127 60 = some (.ireturn, 1, 0) := by decide +kernel
theorem cd_127_61 : zt_code zq_T 127 61 = some (.aload_n 0, 1, 0) := by decide +kernel
theorem cd_127_62 : zt_code zq_T 127 62 = some (.getfield 32, 3, 0) := by decide +kernel
theorem cd_127_65 : zt_code zq_T 127 65 = some (.iconst 2, 1, 0) := by decide +kernel
theorem cd_127_66 : zt_code zq_T 127 66 = some (.bipush (16), 2, 0) := by decide +kernel
theorem cd_127_68 : zt_code zq_T 127 68 = some (.iload_n 1, 1, 0) := by decide +kernel
theorem cd_127_69 : zt_code zq_T 127 69 = some (.imul, 1, 0) := by decide +kernel
theorem cd_127_70 : zt_code zq_T 127 70 = some (.iload_n 2, 1, 0) := by decide +kernel
theorem cd_127_71 : zt_code zq_T 127 71 = some (.iadd, 1, 0) := by decide +kernel
theorem cd_127_72 : zt_code zq_T 127 72 = some (.imul, 1, 0) := by decide +kernel
theorem cd_127_73 : zt_code zq_T 127 73 = some (.iload_n 3, 1, 0) := by decide +kernel
theorem cd_127_74 : zt_code zq_T 127 74 = some (.iastore, 1, 0) := by decide +kernel
theorem cd_127_75 : zt_code zq_T 127 75 = some (.aload_n 0, 1, 0) := by decide +kernel
theorem cd_127_76 : zt_code zq_T 127 76 = some (.iload_n 1, 1, 0) := by decide +kernel
theorem cd_127_77 : zt_code zq_T 127 77 = some (.invokevirtual 372, 3, 0) := by decide +kernel
theorem cd_127_80 : zt_code zq_T 127 80 = some (.ifCond .eq (7), 3, 0) := by decide +kernel
theorem cd_127_83 : zt_code zq_T 127 83 = some (.iconst 1, 1, 0) := by decide +kernel
theorem cd_127_84 : zt_code zq_T 127 84 = some (.goto (4), 3, 0) := by decide +kernel
theorem cd_127_87 : zt_code zq_T 127 87 = some (.iconst 0, 1, 0) := by decide +kernel
theorem cd_127_88 : zt_code zq_T 127 88 = some (.ireturn, 1, 0) := by decide +kernel
theorem cd_128_0 : zt_code zq_T 128 0 = some (.iconst 0, 1, 0) := by decide +kernel
theorem cd_128_1 : zt_code zq_T 128 1 = some (.istore_n 2, 1, 0) := by decide +kernel
theorem cd_128_2 : zt_code zq_T 128 2 = some (.iconst 0, 1, 0) := by decide +kernel
theorem cd_128_3 : zt_code zq_T 128 3 = some (.istore_n 3, 1, 0) := by decide +kernel
theorem cd_128_4 : zt_code zq_T 128 4 = some (.iload_n 3, 1, 0) := by decide +kernel
theorem cd_128_5 : zt_code zq_T 128 5 = some (.aload_n 0, 1, 0) := by decide +kernel
theorem cd_128_6 : zt_code zq_T 128 6 = some (.getfield 230, 3, 0) := by decide +kernel
theorem cd_128_9 : zt_code zq_T 128 9 = some (.if_icmp .ge (36), 3, 0) := by decide +kernel
theorem cd_128_12 : zt_code zq_T 128 12 = some (.iload_n 2, 1, 0) := by decide +kernel
theorem cd_128_13 : zt_code zq_T 128 13 = some (.aload_n 0, 1, 0) := by decide +kernel
theorem cd_128_14 : zt_code zq_T 128 14 = some (.iload_n 3, 1, 0) := by decide +kernel
theorem cd_128_15 : zt_code zq_T 128 15 = some (.iload_n 1, 1, 0) := by decide +kernel
theorem cd_128_16 : zt_code zq_T 128 16 = some (.ifCond .ne (7), 3, 0) := by decide +kernel
theorem cd_128_19 : zt_code zq_T 128 19 = some (.iconst 1, 1, 0) := by decide +kernel
theorem cd_128_20 : zt_code zq_T 128 20 = some (.goto (4), 3, 0) := by decide +kernel
theorem cd_128_23 : zt_code zq_T 128 23 = some (.iconst 0, 1, 0) := by decide +kernel
theorem cd_128_24 : zt_code zq_T 128 24 = some (.invokevirtual 347, 3, 0) := by decide +kernel
theorem cd_128_27 : zt_code zq_T 128 27 = some (.ifCond .ne (9), 3, 0) := by decide +kernel
theorem cd_128_30 : zt_code zq_T 128 30 = some (.iconst 1, 1, 0) := by decide +kernel
theorem cd_128_31 : zt_code zq_T 128 31 = some (.iload_n 3, 1, 0) := by decide +kernel
theorem cd_128_32 : zt_code zq_T 128 32 = some (.ishl, 1, 0) := by decide +kernel
theorem cd_128_33 : zt_code zq_T 128 33 = some (.goto (4), 3, 0) := by decide +kernel
theorem cd_128_36 : zt_code zq_T 128 36 = some (.iconst 0, 1, 0) := by decide +kernel
theorem cd_128_37 : zt_code zq_T 128 37 = some (.ior, 1, 0) := by decide +kernel
theorem cd_128_38 : zt_code zq_T 128 38 = some (.istore_n 2, 1, 0) := by decide +kernel
theorem cd_128_39 : zt_code zq_T 128 39 = some (.iinc 3 (1), 3, 0) := by decide +kernel
theorem cd_128_42 : zt_code zq_T 128 42 = some (.goto (-38), 3, 0) := by decide +kernel
theorem cd_128_45 : zt_code zq_T 128 45 = some (.iload_n 2, 1, 0) := by decide +kernel
theorem cd_128_46 : zt_code zq_T 128 46 = some (.ireturn, 1, 0) := by decide +kernel
theorem cd_129_0 : zt_code zq_T 129 0 = some (.aload_n 0, 1, 0) := by decide +kernel
theorem cd_129_1 : zt_code zq_T 129 1 = some (.getfield 237, 3, 0) := by decide +kernel
theorem cd_129_4 : zt_code zq_T 129 4 = some (.ifCond .ne (7), 3, 0) := by decide +kernel
theorem cd_129_7 : zt_code zq_T 129 7 = some (.iconst (-1), 1, 0) := by decide +kernel
theorem cd_129_8 : zt_code zq_T 129 8 = some (.goto (4), 3, 0) := by decide +kernel
theorem cd_129_11 : zt_code zq_T 129 11 = some (.iconst 0, 1, 0) := by decide +kernel
theorem cd_129_12 : zt_code zq_T 129 12 = some (.istore_n 1, 1, 0) := by decide +kernel
theorem cd_129_13 : zt_code zq_T 129 13 = some (.iconst 1, 1, 0) := by decide +kernel
theorem cd_129_14 : zt_code zq_T 129 14 = some (.istore_n 2, 1, 0) := by decide +kernel
theorem cd_129_15 : zt_code zq_T 129 15 = some (.iload_n 2, 1, 0) := by decide +kernel
theorem cd_129_16 : zt_code zq_T 129 16 = some (.aload_n 0, 1, 0) := by decide +kernel
theorem cd_129_17 : zt_code zq_T 129 17 = some (.getfield 237, 3, 0) := by decide +kernel
theorem cd_129_20 : zt_code zq_T 129 20 = some (.if_icmp .ge (38), 3, 0) := by decide +kernel
theorem cd_129_23 : zt_code zq_T 129 23 = some (.aload_n 0, 1, 0) := by decide +kernel
theorem cd_129_24 : zt_code zq_T 129 24 = some (.getfield 44, 3, 0) := by decide +kernel
theorem cd_129_27 : zt_code zq_T 129 27 = some (.iconst 4, 1, 0) := by decide +kernel
theorem cd_129_28 : zt_code zq_T 129 28 = some (.iload_n 2, 1, 0) := by decide +kernel
theorem cd_129_29 : zt_code zq_T 129 29 = some (.imul, 1, 0) := by decide +kernel
theorem cd_129_30 : zt_code zq_T 129 30 = some (.iconst 2, 1, 0) := by decide +kernel
theorem cd_129_31 : zt_code zq_T 129 31 = some (.iadd, 1, 0) := by decide +kernel
theorem cd_129_32 : zt_code zq_T 129 32 = some (.iaload, 1, 0) := by decide +kernel
theorem cd_129_33 : zt_code zq_T 129 33 = some (.aload_n 0, 1, 0) := by decide +kernel
theorem cd_129_34 : zt_code zq_T 129 34 = some (.getfield 44, 3, 0) := by decide +kernel
theorem cd_129_37 : zt_code zq_T 129 37 = some (.iconst 4, 1, 0) := by decide +kernel
theorem cd_129_38 : zt_code zq_T 129 38 = some (.iload_n 1, 1, 0) := by decide +kernel
theorem cd_129_39 : zt_code zq_T 129 39 = some (.imul, 1, 0) := by decide +kernel
theorem cd_129_40 : zt_code zq_T 129 40 = some (.iconst 2, 1, 0) := by decide +kernel
theorem cd_129_41 : zt_code zq_T 129 41 = some (.iadd, 1, 0) := by decide +kernel
theorem cd_129_42 : zt_code zq_T 129 42 = some (.iaload, 1, 0) := by decide +kernel
theorem cd_129_43 : zt_code zq_T 129 43 = some (.if_icmp .le (7), 3, 0) := by decide +kernel
theorem cd_129_46 : zt_code zq_T 129 46 = some (.iload_n 2, 1, 0) := by decide +kernel
theorem cd_129_47 : zt_code zq_T 129 47 = some (.goto (4), 3, 0) := by decide +kernel
theorem cd_129_50 : zt_code zq_T 129 50 = some (.iload_n 1, 1, 0) := by decide +kernel
theorem cd_129_51 : zt_code zq_T 129 51 = some (.istore_n 1, 1, 0) := by decide +kernel
theorem cd_129_52 : zt_code zq_T 129 52 = some (.iinc 2 (1), 3, 0) := by decide +kernel
theorem cd_129_55 : zt_code zq_T 129 55 = some (.goto (-40), 3, 0) := by decide +kernel
theorem cd_129_58 : zt_code zq_T 129 58 = some (.iload_n 1, 1, 0) := by decide +kernel
theorem cd_129_59 : zt_code zq_T 129 59 = some (.ireturn, 1, 0) := by decide +kernel
theorem cd_130_0 : zt_code zq_T 130 0 = some (.iconst 0, 1, 0) := by decide +kernel
theorem cd_130_1 : zt_code zq_T 130 1 = some (.istore_n 1, 1, 0) := by decide +kernel
theorem cd_130_2 : zt_code zq_T 130 2 = some (.iconst 0, 1, 0) := by decide +kernel
theorem cd_130_3 : zt_code zq_T 130 3 = some (.istore_n 2, 1, 0) := by decide +kernel
theorem cd_130_4 : zt_code zq_T 130 4 = some (.iload_n 2, 1, 0) := by decide +kernel
theorem cd_130_5 : zt_code zq_T 130 5 = some (.aload_n 0, 1, 0) := by decide +kernel
theorem cd_130_6 : zt_code zq_T 130 6 = some (.getfield 237, 3, 0) := by decide +kernel
theorem cd_130_9 : zt_code zq_T 130 9 = some (.if_icmp .ge (26), 3, 0) := by decide +kernel
theorem cd_130_12 : zt_code zq_T 130 12 = some (.iload_n 1, 1, 0) := by decide +kernel
theorem cd_130_13 : zt_code zq_T 130 13 = some (.aload_n 0, 1, 0) := by decide +kernel
theorem cd_130_14 : zt_code zq_T 130 14 = some (.getfield 44, 3, 0) := by decide +kernel
theorem cd_130_17 : zt_code zq_T 130 17 = some (.iconst 4, 1, 0) := by decide +kernel
theorem cd_130_18 : zt_code zq_T 130 18 = some (.iload_n 2, 1, 0) := by decide +kernel
theorem cd_130_19 : zt_code zq_T 130 19 = some (.imul, 1, 0) := by decide +kernel
theorem cd_130_20 : zt_code zq_T 130 20 = some (.iconst 3, 1, 0) := by decide +kernel
theorem cd_130_21 : zt_code zq_T 130 21 = some (.iadd, 1, 0) := by decide +kernel
theorem cd_130_22 : zt_code zq_T 130 22 = some (.iaload, 1, 0) := by decide +kernel
theorem cd_130_23 : zt_code zq_T 130 23 = some (.iconst 1, 1, 0) := by decide +kernel
theorem cd_130_24 : zt_code zq_T 130 24 = some (.iadd, 1, 0) := by decide +kernel
theorem cd_130_25 : zt_code zq_T 130 25 = some (.invokestatic 144, 3, 0) := by decide +kernel
theorem cd_130_28 : zt_code zq_T 130 28 = some (.istore_n 1, 1, 0) := by decide +kernel
theorem cd_130_29 : zt_code zq_T 130 29 = some (.iinc 2 (1), 3, 0) := by decide +kernel
theorem cd_130_32 : zt_code zq_T 130 32 = some (.goto (-28), 3, 0) := by decide +kernel
theorem cd_130_35 : zt_code zq_T 130 35 = some (.iload_n 1, 1, 0) := by decide +kernel
theorem cd_130_36 : zt_code zq_T 130 36 = some (.ireturn, 1, 0) := by decide +kernel
theorem cd_131_0 : zt_code zq_T 131 0 = some (.aload_n 0, 1, 0) := by decide +kernel
theorem cd_131_1 : zt_code zq_T 131 1 = some (.iconst 0, 1, 0) := by decide +kernel
theorem cd_131_2 : zt_code zq_T 131 2 = some (.putfield 114, 3, 0) := by decide +kernel
theorem cd_131_5 : zt_code zq_T 131 5 = some (.iload_n 1, 1, 0) := by decide +kernel
theorem cd_131_6 : zt_code zq_T 131 6 = some (.tableswitch (88) (0) (7) #[46, 51, 56, 61, 66, 72, 78, 83], 46, 0) := by decide +kernel
theorem cd_131_52 : zt_code zq_T 131 52 = some (.aload_n 0, 1, 0) := by decide +kernel
theorem cd_131_53 : zt_code zq_T 131 53 = some (.getfield 117, 3, 0) := by decide +kernel
theorem cd_131_56 : zt_code zq_T 131 56 = some (.ireturn, 1, 0) := by decide +kernel
theorem cd_131_57 : zt_code zq_T 131 57 = some (.aload_n 0, 1, 0) := by decide +kernel
theorem cd_131_58 : zt_code zq_T 131 58 = some (.getfield 230, 3, 0) := by decide +kernel
theorem cd_131_61 : zt_code zq_T 131 61 = some (.ireturn, 1, 0) := by decide +kernel
theorem cd_131_62 : zt_code zq_T 131 62 = some (.aload_n 0, 1, 0) := by decide +kernel
theorem cd_131_63 : zt_code zq_T 131 63 = some (.getfield 237, 3, 0) := by decide +kernel
theorem cd_131_66 : zt_code zq_T 131 66 = some (.ireturn, 1, 0) := by decide +kernel
theorem cd_131_67 : zt_code zq_T 131 67 = some (.aload_n 0, 1, 0) := by decide +kernel
theorem cd_131_68 : zt_code zq_T 131 68 = some (.invokevirtual 526, 3, 0) := by decide +kernel
theorem cd_131_71 : zt_code zq_T 131 71 = some (.ireturn, 1, 0) := by decide +kernel
theorem cd_131_72 : zt_code zq_T 131 72 = some (.aload_n 0, 1, 0) := by decide +kernel
theorem cd_131_73 : zt_code zq_T 131 73 = some (.iconst 0, 1, 0) := by decide +kernel
theorem cd_131_74 : zt_code zq_T 131 74 = some (.invokevirtual 567, 3, 0) := by decide +kernel
theorem cd_131_77 : zt_code zq_T 131 77 = some (.ireturn, 1, 0) := by decide +kernel
theorem cd_131_78 : zt_code zq_T 131 78 = some (.aload_n 0, 1, 0) := by decide +kernel
theorem cd_131_79 : zt_code zq_T 131 79 = some (.iconst 1, 1, 0) := by decide +kernel
theorem cd_131_80 : zt_code zq_T 131 80 = some (.invokevirtual 567, 3, 0) := by decide +kernel
theorem cd_131_83 : zt_code zq_T 131 83 = some (.ireturn, 1, 0) := by decide +kernel
theorem cd_131_84 : zt_code zq_T 131 84 = some (.aload_n 0, 1, 0) := by decide +kernel
theorem cd_131_85 : zt_code zq_T 131 85 = some (.invokevirtual 571, 3, 0) := by decide +kernel
theorem cd_131_88 : zt_code zq_T 131 88 = some (.ireturn, 1, 0) := by decide +kernel
theorem cd_131_89 : zt_code zq_T 131 89 = some (.aload_n 0, 1, 0) := by decide +kernel
theorem cd_131_90 : zt_code zq_T 131 90 = some (.invokevirtual 574, 3, 0) := by decide +kernel
theorem cd_131_93 : zt_code zq_T 131 93 = some (.ireturn, 1, 0) := by decide +kernel
theorem cd_131_94 : zt_code zq_T 131 94 = some (.iconst (-1), 1, 0) := by decide +kernel
theorem cd_131_95 : zt_code zq_T 131 95 = some (.ireturn, 1, 0) := by decide +kernel
theorem cd_132_0 : zt_code zq_T 132 0 = some (.aload_n 0, 1, 0) := by decide +kernel
theorem cd_132_1 : zt_code zq_T 132 1 = some (.invokespecial 3, 3, 0) := by decide +kernel
theorem cd_132_4 : zt_code zq_T 132 4 = some (.aload_n 0, 1, 0) := by decide +kernel
theorem cd_132_5 : zt_code zq_T 132 5 = some (.iconst (-1), 1, 0) := by decide +kernel
theorem cd_132_6 : zt_code zq_T 132 6 = some (.putfield 9, 3, 0) := by decide +kernel
theorem cd_132_9 : zt_code zq_T 132 9 = some (.aload_n 0, 1, 0) := by decide +kernel
theorem cd_132_10 : zt_code zq_T 132 10 = some (.iconst 4, 1, 0) := by decide +kernel
theorem cd_132_11 : zt_code zq_T 132 11 = some (.newarray .int, 2, 20) := by decide +kernel
theorem cd_132_13 : zt_code zq_T 132 13 = some (.putfield 15, 3, 0) := by decide +kernel
theorem cd_132_16 : zt_code zq_T 132 16 = some (.aload_n 0, 1, 0) := by decide +kernel
theorem cd_132_17 : zt_code zq_T 132 17 = some (.iconst (-1), 1, 0) := by decide +kernel
theorem cd_132_18 : zt_code zq_T 132 18 = some (.putfield 19, 3, 0) := by decide +kernel
theorem cd_132_21 : zt_code zq_T 132 21 = some (.aload_n 0, 1, 0) := by decide +kernel
theorem cd_132_22 : zt_code zq_T 132 22 = some (.iconst (-1), 1, 0) := by decide +kernel
theorem cd_132_23 : zt_code zq_T 132 23 = some (.putfield 22, 3, 0) := by decide +kernel
theorem cd_132_26 : zt_code zq_T 132 26 = some (.aload_n 0, 1, 0) := by decide +kernel
theorem cd_132_27 : zt_code zq_T 132 27 = some (.sipush (8738), 3, 0) := by decide +kernel
theorem cd_132_30 : zt_code zq_T 132 30 = some (.newarray .int, 2, 20) := by decide +kernel
theorem cd_132_32 : zt_code zq_T 132 32 = some (.putfield 25, 3, 0) := by decide +kernel
theorem cd_132_35 : zt_code zq_T 132 35 = some (.aload_n 0, 1, 0) := by decide +kernel
theorem cd_132_36 : zt_code zq_T 132 36 = some (.sipush (8738), 3, 0) := by decide +kernel
theorem cd_132_39 : zt_code zq_T 132 39 = some (.newarray .int, 2, 20) := by decide +kernel
theorem cd_132_41 : zt_code zq_T 132 41 = some (.putfield 28, 3, 0) := by decide +kernel
theorem cd_132_44 : zt_code zq_T 132 44 = some (.aload_n 0, 1, 0) := by decide +kernel
theorem cd_132_45 : zt_code zq_T 132 45 = some (.sipush (8738), 3, 0) := by decide +kernel
theorem cd_132_48 : zt_code zq_T 132 48 = some (.newarray .int, 2, 20) := by decide +kernel
theorem cd_132_50 : zt_code zq_T 132 50 = some (.putfield 31, 3, 0) := by decide +kernel
theorem cd_132_53 : zt_code zq_T 132 53 = some (.aload_n 0, 1, 0) := by decide +kernel
theorem cd_132_54 : zt_code zq_T 132 54 = some (.sipush (8738), 3, 0) := by decide +kernel
theorem cd_132_57 : zt_code zq_T 132 57 = some (.newarray .int, 2, 20) := by decide +kernel
theorem cd_132_59 : zt_code zq_T 132 59 = some (.putfield 34, 3, 0) := by decide +kernel
theorem cd_132_62 : zt_code zq_T 132 62 = some (.aload_n 0, 1, 0) := by decide +kernel
theorem cd_132_63 : zt_code zq_T 132 63 = some (.sipush (2048), 3, 0) := by decide +kernel
theorem cd_132_66 : zt_code zq_T 132 66 = some (.newarray .int, 2, 20) := by decide +kernel
theorem cd_132_68 : zt_code zq_T 132 68 = some (.putfield 37, 3, 0) := by decide +kernel
theorem cd_132_71 : zt_code zq_T 132 71 = some (.return_, 1, 0) := by decide +kernel
theorem cd_133_0 : zt_code zq_T 133 0 = some (.aload_n 0, 1, 0) := by decide +kernel
theorem cd_133_1 : zt_code zq_T 133 1 = some (.iconst (-1), 1, 0) := by decide +kernel
theorem cd_133_2 : zt_code zq_T 133 2 = some (.putfield 19, 3, 0) := by decide +kernel
theorem cd_133_5 : zt_code zq_T 133 5 = some (.aload_n 0, 1, 0) := by decide +kernel
theorem cd_133_6 : zt_code zq_T 133 6 = some (.iconst (-1), 1, 0) := by decide +kernel
theorem cd_133_7 : zt_code zq_T 133 7 = some (.putfield 22, 3, 0) := by decide +kernel
theorem cd_133_10 : zt_code zq_T 133 10 = some (.return_, 1, 0) := by decide +kernel
theorem cd_134_0 : zt_code zq_T 134 0 = some (.aload_n 0, 1, 0) := by decide +kernel
theorem cd_134_1 : zt_code zq_T 134 1 = some (.getfield 19, 3, 0) := by decide +kernel
theorem cd_134_4 : zt_code zq_T 134 4 = some (.iload_n 1, 1, 0) := by decide +kernel
theorem cd_134_5 : zt_code zq_T 134 5 = some (.if_icmp .ne (15), 3, 0) := by decide +kernel
theorem cd_134_8 : zt_code zq_T 134 8 = some (.aload_n 0, 1, 0) := by decide +kernel
theorem cd_134_9 : zt_code zq_T 134 9 = some (.getfield 22, 3, 0) := by decide +kernel
theorem cd_134_12 : zt_code zq_T 134 12 = some (.iload_n 2, 1, 0) := by decide +kernel
theorem cd_134_13 : zt_code zq_T 134 13 = some (.if_icmp .ne (7), 3, 0) := by decide +kernel
theorem cd_134_16 : zt_code zq_T 134 16 = some (.iconst 1, 1, 0) := by decide +kernel
theorem cd_134_17 : zt_code zq_T 134 17 = some (.goto (4), 3, 0) := by decide +kernel
theorem cd_134_20 : zt_code zq_T 134 20 = some (.iconst 0, 1, 0) := by decide +kernel
theorem cd_134_21 : zt_code zq_T 134 21 = some (.ireturn, 1, 0) := by decide +kernel
theorem cd_135_0 : zt_code zq_T 135 0 = some (.aload_n 0, 1, 0) := by decide +kernel
theorem cd_135_1 : zt_code zq_T 135 1 = some (.iload_n 1, 1, 0) := by decide +kernel
theorem cd_135_2 : zt_code zq_T 135 2 = some (.putfield 19, 3, 0) := by decide +kernel
theorem cd_135_5 : zt_code zq_T 135 5 = some (.aload_n 0, 1, 0) := by decide +kernel
theorem cd_135_6 : zt_code zq_T 135 6 = some (.iload_n 2, 1, 0) := by decide +kernel
theorem cd_135_7 : zt_code zq_T 135 7 = some (.putfield 22, 3, 0) := by decide +kernel
theorem cd_135_10 : zt_code zq_T 135 10 = some (.return_, 1, 0) := by decide +kernel
theorem cd_136_0 : zt_code zq_T 136 0 = some (.aload_n 0, 1, 0) := by decide +kernel
theorem cd_136_1 : zt_code zq_T 136 1 = some (.iconst (-1), 1, 0) := by decide +kernel
theorem cd_136_2 : zt_code zq_T 136 2 = some (.putfield 9, 3, 0) := by decide +kernel
theorem cd_136_5 : zt_code zq_T 136 5 = some (.aload_n 1, 1, 0) := by decide +kernel
theorem cd_136_6 : zt_code zq_T 136 6 = some (.getfield 40, 3, 0) := by decide +kernel
theorem cd_136_9 : zt_code zq_T 136 9 = some (.ifnull (17), 3, 0) := by decide +kernel
theorem cd_136_12 : zt_code zq_T 136 12 = some (.aload_n 1, 1, 0) := by decide +kernel
theorem cd_136_13 : zt_code zq_T 136 13 = some (.getfield 40, 3, 0) := by decide +kernel
theorem cd_136_16 : zt_code zq_T 136 16 = some (.getfield 46, 3, 0) := by decide +kernel
theorem cd_136_19 : zt_code zq_T 136 19 = some (.ifCond .eq (7), 3, 0) := by decide +kernel
theorem cd_136_22 : zt_code zq_T 136 22 = some (.iconst 1, 1, 0) := by decide +kernel
theorem cd_136_23 : zt_code zq_T 136 23 = some (.goto (4), 3, 0) := by decide +kernel
theorem cd_136_26 : zt_code zq_T 136 26 = some (.iconst 0, 1, 0) := by decide +kernel
theorem cd_136_27 : zt_code zq_T 136 27 = some (.istore 4, 2, 0) := by decide +kernel
theorem cd_136_29 : zt_code zq_T 136 29 = some (.aload_n 2, 1, 0) := by decide +kernel
theorem cd_136_30 : zt_code zq_T 136 30 = some (.getfield 40, 3, 0) := by decide +kernel
theorem cd_136_33 : zt_code zq_T 136 33 = some (.ifnull (17), 3, 0) := by decide +kernel
theorem cd_136_36 : zt_code zq_T 136 36 = some (.aload_n 2, 1, 0) := by decide +kernel
theorem cd_136_37 : zt_code zq_T 136 37 = some (.getfield 40, 3, 0) := by decide +kernel
theorem cd_136_40 : zt_code zq_T 136 40 = some (.getfield 46, 3, 0) := by decide +kernel
theorem cd_136_43 : zt_code zq_T 136 43 = some (.ifCond .eq (7), 3, 0) := by decide +kernel
theorem cd_136_46 : zt_code zq_T 136 46 = some (.iconst 1, 1, 0) := by decide +kernel
theorem cd_136_47 : zt_code zq_T 136 47 = some (.goto (4), 3, 0) := by decide +kernel
theorem cd_136_50 : zt_code zq_T 136 50 = some (.iconst 0, 1, 0) := by decide +kernel
theorem cd_136_51 : zt_code zq_T 136 51 = some (.istore 5, 2, 0) := by decide +kernel
theorem cd_136_53 : zt_code zq_T 136 53 = some (.iload 4, 2, 0) := by decide +kernel
theorem cd_136_55 : zt_code zq_T 136 55 = some (.iload 5, 2, 0) := by decide +kernel
theorem cd_136_57 : zt_code zq_T 136 57 = some (.if_icmp .eq (9), 3, 0) := by decide +kernel
theorem cd_136_60 : zt_code zq_T 136 60 = some (.aload_n 0, 1, 0) := by decide +kernel
theorem cd_136_61 : zt_code zq_T 136 61 = some (.iconst 0, 1, 0) := by decide +kernel
theorem cd_136_62 : zt_code zq_T 136 62 = some (.putfield 9, 3, 0) := by decide +kernel
theorem cd_136_65 : zt_code zq_T 136 65 = some (.return_, 1, 0) := by decide +kernel
theorem cd_136_66 : zt_code zq_T 136 66 = some (.iconst 0, 1, 0) := by decide +kernel
theorem cd_136_67 : zt_code zq_T 136 67 = some (.istore 6, 2, 0) := by decide +kernel
theorem cd_136_69 : zt_code zq_T 136 69 = some (.iload 6, 2, 0) := by decide +kernel
theorem cd_136_71 : zt_code zq_T 136 71 = some (.sipush (2048), 3, 0) := by decide +kernel
theorem cd_136_74 : zt_code zq_T 136 74 = some (.if_icmp .ge (17), 3, 0) := by decide +kernel
theorem cd_136_77 : zt_code zq_T 136 77 = some (.aload_n 0, 1, 0) := by decide +kernel
theorem cd_136_78 : zt_code zq_T 136 78 = some (.getfield 37, 3, 0) := by decide +kernel
theorem cd_136_81 : zt_code zq_T 136 81 = some (.iload 6, 2, 0) := by decide +kernel
theorem cd_136_83 : zt_code zq_T 136 83 = some (.iconst (-1), 1, 0) := by decide +kernel
theorem cd_136_84 : zt_code zq_T 136 84 = some (.iastore, 1, 0) := by decide +kernel
theorem cd_136_85 : zt_code zq_T 136 85 = some (.iinc 6 (1), 3, 0) := by decide +kernel
theorem cd_136_88 : zt_code zq_T 136 88 = some (.goto (-19), 3, 0) := by decide +kernel
theorem cd_136_91 : zt_code zq_T 136 91 = some (.aload_n 0, 1, 0) := by decide +kernel
theorem cd_136_92 : zt_code zq_T 136 92 = some (.iconst 0, 1, 0) := by decide +kernel
theorem cd_136_93 : zt_code zq_T 136 93 = some (.putfield 52, 3, 0) := by decide +kernel
theorem cd_136_96 : zt_code zq_T 136 96 = some (.aload_n 0, 1, 0) := by decide +kernel
theorem cd_136_97 : zt_code zq_T 136 97 = some (.iconst 0, 1, 0) := by decide +kernel
theorem cd_136_98 : zt_code zq_T 136 98 = some (.iconst 0, 1, 0) := by decide +kernel
theorem cd_136_99 : zt_code zq_T 136 99 = some (.iconst 0, 1, 0) := by decide +kernel
theorem cd_136_100 : zt_code zq_T 136 100 = some (.invokevirtual 55, 3, 0) := by decide +kernel
theorem cd_136_103 : zt_code zq_T 136 103 = some (.iconst 0, 1, 0) := by decide +kernel
theorem cd_136_104 : zt_code zq_T 136 104 = some (.istore 6, 2, 0) := by decide +kernel
theorem cd_136_106 : zt_code zq_T 136 106 = some (.iconst 1, 1, 0) := by decide +kernel
theorem cd_136_107 : zt_code zq_T 136 107 = some (.istore 7, 2, 0) := by decide +kernel
theorem cd_136_109 : zt_code zq_T 136 109 = some (.iload 7, 2, 0) := by decide +kernel
theorem cd_136_111 : zt_code zq_T 136 111 = some (.iconst 4, 1, 0) := by decide +kernel
theorem cd_136_112 : zt_code zq_T 136 112 = some (.if_icmp .gt (51), 3, 0) := by decide +kernel
theorem cd_136_115 : zt_code zq_T 136 115 = some (.aload_n 0, 1, 0) := by decide +kernel
theorem cd_136_116 : zt_code zq_T 136 116 = some (.getfield 52, 3, 0) := by decide +kernel
theorem cd_136_119 : zt_code zq_T 136 119 = some (.istore 8, 2, 0) := by decide +kernel
theorem cd_136_121 : zt_code zq_T 136 121 = some (.iload 6, 2, 0) := by decide +kernel
theorem cd_136_123 : zt_code zq_T 136 123 = some (.istore 9, 2, 0) := by decide +kernel
theorem cd_136_125 : zt_code zq_T 136 125 = some (.iload 9, 2, 0) := by decide +kernel
theorem cd_136_127 : zt_code zq_T 136 127 = some (.iload 8, 2, 0) := by decide +kernel
theorem cd_136_129 : zt_code zq_T 136 129 = some (.if_icmp .ge (24), 3, 0) := by decide +kernel
theorem cd_136_132 : zt_code zq_T 136 132 = some (.aload_n 0, 1, 0) := by decide +kernel
theorem cd_136_133 : zt_code zq_T 136 133 = some (.aload_n 1, 1, 0) := by decide +kernel
theorem cd_136_134 : zt_code zq_T 136 134 = some (.aload_n 2, 1, 0) := by decide +kernel
theorem cd_136_135 : zt_code zq_T 136 135 = some (.iload 9, 2, 0) := by decide +kernel
theorem cd_136_137 : zt_code zq_T 136 137 = some (.iload 7, 2, 0) := by decide +kernel
theorem cd_136_139 : zt_code zq_T 136 139 = some (.aload_n 3, 1, 0) := by decide +kernel
theorem cd_136_140 : zt_code zq_T 136 140 = some (.invokevirtual 59, 3, 0) := by decide +kernel
theorem cd_136_143 : zt_code zq_T 136 143 = some (.ifCond .eq (4), 3, 0) := by decide +kernel
theorem cd_136_146 : zt_code zq_T 136 146 = some (.return_, 1, 0) := by decide +kernel
theorem cd_136_147 : zt_code zq_T 136 147 = some (.iinc 9 (1), 3, 0) := by decide +kernel
theorem cd_136_150 : zt_code zq_T 136 150 = some (.goto (-25), 3, 0) := by decide +kernel
theorem cd_136_153 : zt_code zq_T 136 153 = some (.iload 8, 2, 0) := by decide +kernel
theorem cd_136_155 : zt_code zq_T 136 155 = some (.istore 6, 2, 0) := by decide +kernel
theorem cd_136_157 : zt_code zq_T 136 157 = some (.iinc 7 (1), 3, 0) := by decide +kernel
theorem cd_136_160 : zt_code zq_T 136 160 = some (.goto (-51), 3, 0) := by decide +kernel
theorem cd_136_163 : zt_code zq_T 136 163 = some (.return_, 1, 0) := by decide +kernel
theorem cd_137_0 : zt_code zq_T 137 0 = some (.aload_n 1, 1, 0) := by decide +kernel
theorem cd_137_1 : zt_code zq_T 137 1 = some (.invokevirtual 63, 3, 0) := by decide +kernel
theorem cd_137_4 : zt_code zq_T 137 4 = some (.aload_n 2, 1, 0) := by decide +kernel
theorem cd_137_5 : zt_code zq_T 137 5 = some (.invokevirtual 63, 3, 0) := by decide +kernel
theorem cd_137_8 : zt_code zq_T 137 8 = some (.ior, 1, 0) := by decide +kernel
theorem cd_137_9 : zt_code zq_T 137 9 = some (.istore 6, 2, 0) := by decide +kernel
theorem cd_137_11 : zt_code zq_T 137 11 = some (.iconst 0, 1, 0) := by decide +kernel
theorem cd_137_12 : zt_code zq_T 137 12 = some (.istore 7, 2, 0) := by decide +kernel
theorem cd_137_14 : zt_code zq_T 137 14 = some (.iload 7, 2, 0) := by decide +kernel
theorem cd_137_16 : zt_code zq_T 137 16 = some (.bipush (26), 2, 0) := by decide +kernel
theorem cd_137_18 : zt_code zq_T 137 18 = some (.if_icmp .ge (108), 3, 0) := by decide +kernel
theorem cd_137_21 : zt_code zq_T 137 21 = some (.iload 6, 2, 0) := by decide +kernel
theorem cd_137_23 : zt_code zq_T 137 23 = some (.iload 7, 2, 0) := by decide +kernel
theorem cd_137_25 : zt_code zq_T 137 25 = some (.ishr, 1, 0) := by decide +kernel
theorem cd_137_26 : zt_code zq_T 137 26 = some (.iconst 1, 1, 0) := by decide +kernel
theorem cd_137_27 : zt_code zq_T 137 27 = some (.iand, 1, 0) := by decide +kernel
theorem cd_137_28 : zt_code zq_T 137 28 = some (.ifCond .eq (92), 3, 0) := by decide +kernel
theorem cd_137_31 : zt_code zq_T 137 31 = some (.aload_n 0, 1, 0) := by decide +kernel
theorem cd_137_32 : zt_code zq_T 137 32 = some (.aload_n 1, 1, 0) := by decide +kernel
theorem cd_137_33 : zt_code zq_T 137 33 = some (.aload_n 2, 1, 0) := by decide +kernel
theorem cd_137_34 : zt_code zq_T 137 34 = some (.iload_n 3, 1, 0) := by decide +kernel
theorem cd_137_35 : zt_code zq_T 137 35 = some (.iload 7, 2, 0) := by decide +kernel
theorem cd_137_37 : zt_code zq_T 137 37 = some (.aload 5, 2, 0) := by decide +kernel
theorem cd_137_39 : zt_code zq_T 137 39 = some (.invokevirtual 67, 3, 0) := by decide +kernel
theorem cd_137_42 : zt_code zq_T 137 42 = some (.aload_n 0, 1, 0) := by decide +kernel
theorem cd_137_43 : zt_code zq_T 137 43 = some (.getfield 71, 3, 0) := by decide +kernel
theorem cd_137_46 : zt_code zq_T 137 46 = some (.ifCond .eq (14), 3, 0) := by decide +kernel
theorem cd_137_49 : zt_code zq_T 137 49 = some (.aload_n 0, 1, 0) := by decide +kernel
theorem cd_137_50 : zt_code zq_T 137 50 = some (.iload_n 3, 1, 0) := by decide +kernel
theorem cd_137_51 : zt_code zq_T 137 51 = some (.iload 7, 2, 0) := by decide +kernel
theorem cd_137_53 : zt_code zq_T 137 53 = some (.iload 4, 2, 0) := by decide +kernel
theorem cd_137_55 : zt_code zq_T 137 55 = some (.invokevirtual 74, 3, 0) := by decide +kernel
theorem cd_137_58 : zt_code zq_T 137 58 = some (.iconst 1, 1, 0) := by decide +kernel
theorem cd_137_59 : zt_code zq_T 137 59 = some (.ireturn, 1, 0) := by decide +kernel
theorem cd_137_60 : zt_code zq_T 137 60 = some (.aload_n 0, 1, 0) := by decide +kernel
theorem cd_137_61 : zt_code zq_T 137 61 = some (.getfield 77, 3, 0) := by decide +kernel
theorem cd_137_64 : zt_code zq_T 137 64 = some (.iconst (-1), 1, 0) := by decide +kernel
theorem cd_137_65 : zt_code zq_T 137 65 = some (.if_icmp .ne (11), 3, 0) := by decide +kernel
theorem cd_137_68 : zt_code zq_T 137 68 = some (.aload_n 0, 1, 0) := by decide +kernel
theorem cd_137_69 : zt_code zq_T 137 69 = some (.getfield 80, 3, 0) := by decide +kernel
theorem cd_137_72 : zt_code zq_T 137 72 = some (.iconst (-1), 1, 0) := by decide +kernel
theorem cd_137_73 : zt_code zq_T 137 73 = some (.if_icmp .eq (7), 3, 0) := by decide +kernel
theorem cd_137_76 : zt_code zq_T 137 76 = some (.iconst 1, 1, 0) := by decide +kernel
theorem cd_137_77 : zt_code zq_T 137 77 = some (.goto (4), 3, 0) := by decide +kernel
theorem cd_137_80 : zt_code zq_T 137 80 = some (.iconst 0, 1, 0) := by decide +kernel
theorem cd_137_81 : zt_code zq_T 137 81 = some (.istore 8, 2, 0) := by decide +kernel
theorem cd_137_83 : zt_code zq_T 137 83 = some (.iload 8, 2, 0) := by decide +kernel
theorem cd_137_85 : zt_code zq_T 137 85 = some (.ifCond .eq (35), 3, 0) := by decide +kernel
theorem cd_137_88 : zt_code zq_T 137 88 = some (.iload 4, 2, 0) := by decide +kernel
theorem cd_137_90 : zt_code zq_T 137 90 = some (.iconst 4, 1, 0) := by decide +kernel
theorem cd_137_91 : zt_code zq_T 137 91 = some (.if_icmp .ge (29), 3, 0) := by decide +kernel
theorem cd_137_94 : zt_code zq_T 137 94 = some (.aload_n 0, 1, 0) := by decide +kernel
theorem cd_137_95 : zt_code zq_T 137 95 = some (.invokevirtual 83, 3, 0) := by decide +kernel
theorem cd_137_98 : zt_code zq_T 137 98 = some (.ifCond .ne (22), 3, 0) := by decide +kernel
theorem cd_137_101 : zt_code zq_T 137 101 = some (.aload_n 0, 1, 0) := by decide +kernel
theorem cd_137_102 : zt_code zq_T 137 102 = some (.aload_n 0, 1, 0) := by decide +kernel
theorem cd_137_103 : zt_code zq_T 137 103 = some (.getfield 77, 3, 0) := by decide +kernel
theorem cd_137_106 : zt_code zq_T 137 106 = some (.aload_n 0, 1, 0) := by decide +kernel
theorem cd_137_107 : zt_code zq_T 137 107 = some (.getfield 80, 3, 0) := by decide +kernel
theorem cd_137_110 : zt_code zq_T 137 110 = some (.iload_n 3, 1, 0) := by decide +kernel
theorem cd_137_111 : zt_code zq_T 137 111 = some (.bipush (32), 2, 0) := by decide +kernel
theorem cd_137_113 : zt_code zq_T 137 113 = some (.imul, 1, 0) := by decide +kernel
theorem cd_137_114 : zt_code zq_T 137 114 = some (.iload 7, 2, 0) := by decide +kernel
theorem cd_137_116 : zt_code zq_T 137 116 = some (.iadd, 1, 0) := by decide +kernel
theorem cd_137_117 : zt_code zq_T 137 117 = some (.invokevirtual 55, 3, 0) := by decide +kernel
theorem cd_137_120 : zt_code zq_T 137 120 = some (.iinc 7 (1), 3, 0) := by decide +kernel
theorem cd_137_123 : zt_code zq_T 137 123 = some (.goto (-109), 3, 0) := by decide +kernel
theorem cd_137_126 : zt_code zq_T 137 126 = some (.iconst 0, 1, 0) := by decide +kernel
theorem cd_137_127 : zt_code zq_T 137 127 = some (.ireturn, 1, 0) := by decide +kernel
theorem cd_138_0 : zt_code zq_T 138 0 = some (.aload_n 0, 1, 0) := by decide +kernel
theorem cd_138_1 : zt_code zq_T 138 1 = some (.aload_n 1, 1, 0) := by decide +kernel
theorem cd_138_2 : zt_code zq_T 138 2 = some (.aload_n 0, 1, 0) := by decide +kernel
theorem cd_138_3 : zt_code zq_T 138 3 = some (.getfield 25, 3, 0) := by decide +kernel
theorem cd_138_6 : zt_code zq_T 138 6 = some (.iload_n 3, 1, 0) := by decide +kernel
theorem cd_138_7 : zt_code zq_T 138 7 = some (.iaload, 1, 0) := by decide +kernel
theorem cd_138_8 : zt_code zq_T 138 8 = some (.iload 4, 2, 0) := by decide +kernel
theorem cd_138_10 : zt_code zq_T 138 10 = some (.aload 5, 2, 0) := by decide +kernel
theorem cd_138_12 : zt_code zq_T 138 12 = some (.invokestatic 87, 3, 0) := by decide +kernel
theorem cd_138_15 : zt_code zq_T 138 15 = some (.putfield 77, 3, 0) := by decide +kernel
theorem cd_138_18 : zt_code zq_T 138 18 = some (.aload_n 0, 1, 0) := by decide +kernel
theorem cd_138_19 : zt_code zq_T 138 19 = some (.getfield 77, 3, 0) := by decide +kernel
theorem cd_138_22 : zt_code zq_T 138 22 = some (.iconst (-1), 1, 0) := by decide +kernel
theorem cd_138_23 : zt_code zq_T 138 23 = some (.if_icmp .eq (15), 3, 0) := by decide +kernel
theorem cd_138_26 : zt_code zq_T 138 26 = some (.aload 5, 2, 0) := by decide +kernel
theorem cd_138_28 : zt_code zq_T 138 28 = some (.invokevirtual 91, 3, 0) := by decide +kernel
theorem cd_138_31 : zt_code zq_T 138 31 = some (.ifCond .eq (7), 3, 0) := by decide +kernel
theorem cd_138_34 : zt_code zq_T 138 34 = some (.iconst 1, 1, 0) := by decide +kernel
theorem cd_138_35 : zt_code zq_T 138 35 = some (.goto (4), 3, 0) := by decide +kernel
theorem cd_138_38 : zt_code zq_T 138 38 = some (.iconst 0, 1, 0) := by decide +kernel
theorem cd_138_39 : zt_code zq_T 138 39 = some (.istore 6, 2, 0) := by decide +kernel
theorem cd_138_41 : zt_code zq_T 138 41 = some (.aload_n 0, 1, 0) := by decide +kernel
theorem cd_138_42 : zt_code zq_T 138 42 = some (.aload_n 2, 1, 0) := by decide +kernel
theorem cd_138_43 : zt_code zq_T 138 43 = some (.aload_n 0, 1, 0) := by decide +kernel
theorem cd_138_44 : zt_code zq_T 138 44 = some (.getfield 28, 3, 0) := by decide +kernel
theorem cd_138_47 : zt_code zq_T 138 47 = some (.iload_n 3, 1, 0) := by decide +kernel
theorem cd_138_48 : zt_code zq_T 138 48 = some (.iaload, 1, 0) := by decide +kernel
theorem cd_138_49 : zt_code zq_T 138 49 = some (.iload 4, 2, 0) := by decide +kernel
theorem cd_138_51 : zt_code zq_T 138 51 = some (.aload 5, 2, 0) := by decide +kernel
theorem cd_138_53 : zt_code zq_T 138 53 = some (.invokestatic 87, 3, 0) := by decide +kernel
theorem cd_138_56 : zt_code zq_T 138 56 = some (.putfield 80, 3, 0) := by decide +kernel
theorem cd_138_59 : zt_code zq_T 138 59 = some (.aload_n 0, 1, 0) := by decide +kernel
theorem cd_138_60 : zt_code zq_T 138 60 = some (.getfield 80, 3, 0) := by decide +kernel
theorem cd_138_63 : zt_code zq_T 138 63 = some (.iconst (-1), 1, 0) := by decide +kernel
theorem cd_138_64 : zt_code zq_T 138 64 = some (.if_icmp .eq (15), 3, 0) := by decide +kernel
theorem cd_138_67 : zt_code zq_T 138 67 = some (.aload 5, 2, 0) := by decide +kernel
theorem cd_138_69 : zt_code zq_T 138 69 = some (.invokevirtual 91, 3, 0) := by decide +kernel
theorem cd_138_72 : zt_code zq_T 138 72 = some (.ifCond .eq (7), 3, 0) := by decide +kernel
theorem cd_138_75 : zt_code zq_T 138 75 = some (.iconst 1, 1, 0) := by decide +kernel
theorem cd_138_76 : zt_code zq_T 138 76 = some (.goto (4), 3, 0) := by decide +kernel
theorem cd_138_79 : zt_code zq_T 138 79 = some (.iconst 0, 1, 0) := by decide +kernel
theorem cd_138_80 : zt_code zq_T 138 80 = some (.istore 7, 2, 0) := by decide +kernel
theorem cd_138_82 : zt_code zq_T 138 82 = some (.aload_n 0, 1, 0) := by decide +kernel
theorem cd_138_83 : zt_code zq_T 138 83 = some (.iload 6, 2, 0) := by decide +kernel
theorem cd_138_85 : zt_code zq_T 138 85 = some (.iload 7, 2, 0) := by decide +kernel
theorem cd_138_87 : zt_code zq_T 138 87 = some (.if_icmp .eq (7), 3, 0) := by decide +kernel
theorem cd_138_90 : zt_code zq_T 138 90 = some (.iconst 1, 1, 0) := by decide +kernel
theorem cd_138_91 : zt_code zq_T 138 91 = some (.goto (4), 3, 0) := by decide +kernel
theorem cd_138_94 : zt_code zq_T 138 94 = some (.iconst 0, 1, 0) := by decide +kernel
theorem cd_138_95 : zt_code zq_T 138 95 = some (.putfield 71, 3, 0) := by decide +kernel
theorem cd_138_98 : zt_code zq_T 138 98 = some (.return_, 1, 0) := by decide +kernel
theorem cd_139_0 : zt_code zq_T 139 0 = some (.iload_n 1, 1, 0) := by decide +kernel
theorem cd_139_1 : zt_code zq_T 139 1 = some (.iconst (-1), 1, 0) := by decide +kernel
theorem cd_139_2 : zt_code zq_T 139 2 = some (.if_icmp .ne (5), 3, 0) := by decide +kernel
theorem cd_139_5 : zt_code zq_T 139 5 = some (.iconst (-1), 1, 0) := by decide +kernel
theorem cd_139_6 : zt_code zq_T 139 6 = some (.ireturn, 1, 0) := by decide +kernel
theorem cd_139_7 : zt_code zq_T 139 7 = some (.aload_n 3, 1, 0) := by decide +kernel
theorem cd_139_8 : zt_code zq_T 139 8 = some (.aload_n 0, 1, 0) := by decide +kernel
theorem cd_139_9 : zt_code zq_T 139 9 = some (.iload_n 1, 1, 0) := by decide +kernel
theorem cd_139_10 : zt_code zq_T 139 10 = some (.invokevirtual 96, 3, 0) := by decide +kernel
theorem cd_139_13 : zt_code zq_T 139 13 = some (.aload_n 3, 1, 0) := by decide +kernel
theorem cd_139_14 : zt_code zq_T 139 14 = some (.iload_n 2, 1, 0) := by decide +kernel
theorem cd_139_15 : zt_code zq_T 139 15 = some (.invokevirtual 100, 3, 0) := by decide +kernel
theorem cd_139_18 : zt_code zq_T 139 18 = some (.ifCond .eq (10), 3, 0) := by decide +kernel
theorem cd_139_21 : zt_code zq_T 139 21 = some (.aload_n 3, 1, 0) := by decide +kernel
theorem cd_139_22 : zt_code zq_T 139 22 = some (.invokevirtual 104, 3, 0) := by decide +kernel
theorem cd_139_25 : zt_code zq_T 139 25 = some (.goto (4), 3, 0) := by decide +kernel
theorem cd_139_28 : zt_code zq_T 139 28 = some (.iconst (-1), 1, 0) := by decide +kernel
theorem cd_139_29 : zt_code zq_T 139 29 = some (.ireturn, 1, 0) := by decide +kernel
theorem cd_140_0 : zt_code zq_T 140 0 = some (.iload_n 0, 1, 0) := by decide +kernel
theorem cd_140_1 : zt_code zq_T 140 1 = some (.bipush (31), 2, 0) := by decide +kernel
theorem cd_140_3 : zt_code zq_T 140 3 = some (.imul, 1, 0) := by decide +kernel
theorem cd_140_4 : zt_code zq_T 140 4 = some (.iload_n 1, 1, 0) := by decide +kernel
theorem cd_140_5 : zt_code zq_T 140 5 = some (.bipush (17), 2, 0) := by decide +kernel
theorem cd_140_7 : zt_code zq_T 140 7 = some (.imul, 1, 0) := by decide +kernel
theorem cd_140_8 : zt_code zq_T 140 8 = some (.iadd, 1, 0) := by decide +kernel
theorem cd_140_9 : zt_code zq_T 140 9 = some (.istore_n 2, 1, 0) := by decide +kernel
theorem cd_140_10 : zt_code zq_T 140 10 = some (.iload_n 2, 1, 0) := by decide +kernel
theorem cd_140_11 : zt_code zq_T 140 11 = some (.iload_n 2, 1, 0) := by decide +kernel
theorem cd_140_12 : zt_code zq_T 140 12 = some (.bipush (13), 2, 0) := by decide +kernel
theorem cd_140_14 : zt_code zq_T 140 14 = some (.iushr, 1, 0) := by decide +kernel
theorem cd_140_15 : zt_code zq_T 140 15 = some (.ixor, 1, 0) := by decide +kernel
theorem cd_140_16 : zt_code zq_T 140 16 = some (.sipush (2047), 3, 0) := by decide +kernel
theorem cd_140_19 : zt_code zq_T 140 19 = some (.iand, 1, 0) := by decide +kernel
theorem cd_140_20 : zt_code zq_T 140 20 = some (.ireturn, 1, 0) := by decide +kernel
theorem cd_141_0 : zt_code zq_T 141 0 = some (.aload_n 0, 1, 0) := by decide +kernel
theorem cd_141_1 : zt_code zq_T 141 1 = some (.getfield 37, 3, 0) := by decide +kernel
theorem cd_141_4 : zt_code zq_T 141 4 = some (.aload_n 0, 1, 0) := by decide +kernel
theorem cd_141_5 : zt_code zq_T 141 5 = some (.getfield 77, 3, 0) := by decide +kernel
theorem cd_141_8 : zt_code zq_T 141 8 = some (.aload_n 0, 1, 0) := by decide +kernel
theorem cd_141_9 : zt_code zq_T 141 9 = some (.getfield 80, 3, 0) := by decide +kernel
theorem cd_141_12 : zt_code zq_T 141 12 = some (.invokestatic 107, 3, 0) := by decide +kernel
theorem cd_141_15 : zt_code zq_T 141 15 = some (.iaload, 1, 0) := by decide +kernel
theorem cd_141_16 : zt_code zq_T 141 16 = some (.istore_n 1, 1, 0) := by decide +kernel
theorem cd_141_17 : zt_code zq_T 141 17 = some (.iconst 0, 1, 0) := by decide +kernel
theorem cd_141_18 : zt_code zq_T 141 18 = some (.istore_n 2, 1, 0) := by decide +kernel
theorem cd_141_19 : zt_code zq_T 141 19 = some (.iload_n 2, 1, 0) := by decide +kernel
theorem cd_141_20 : zt_code zq_T 141 20 = some (.aload_n 0, 1, 0) := by decide +kernel
theorem cd_141_21 : zt_code zq_T 141 21 = some (.getfield 52, 3, 0) := by decide +kernel
theorem cd_141_24 : zt_code zq_T 141 24 = some (.if_icmp .ge (49), 3, 0) := by decide +kernel
theorem cd_141_27 : zt_code zq_T 141 27 = some (.iload_n 1, 1, 0) := by decide +kernel
theorem cd_141_28 : zt_code zq_T 141 28 = some (.iconst (-1), 1, 0) := by decide +kernel
theorem cd_141_29 : zt_code zq_T 141 29 = some (.if_icmp .eq (44), 3, 0) := by decide +kernel
theorem cd_141_32 : zt_code zq_T 141 32 = some (.aload_n 0, 1, 0) := by decide +kernel
theorem cd_141_33 : zt_code zq_T 141 33 = some (.getfield 25, 3, 0) := by decide +kernel
theorem cd_141_36 : zt_code zq_T 141 36 = some (.iload_n 1, 1, 0) := by decide +kernel
theorem cd_141_37 : zt_code zq_T 141 37 = some (.iaload, 1, 0) := by decide +kernel
theorem cd_141_38 : zt_code zq_T 141 38 = some (.aload_n 0, 1, 0) := by decide +kernel
theorem cd_141_39 : zt_code zq_T 141 39 = some (.getfield 77, 3, 0) := by decide +kernel
theorem cd_141_42 : zt_code zq_T 141 42 = some (.if_icmp .ne (18), 3, 0) := by decide +kernel
theorem cd_141_45 : zt_code zq_T 141 45 = some (.aload_n 0, 1, 0) := by decide +kernel
theorem cd_141_46 : zt_code zq_T 141 46 = some (.getfield 28, 3, 0) := by decide +kernel
theorem cd_141_49 : zt_code zq_T 141 49 = some (.iload_n 1, 1, 0) := by decide +kernel
theorem cd_141_50 : zt_code zq_T 141 50 = some (.iaload, 1, 0) := by decide +kernel
theorem cd_141_51 : zt_code zq_T 141 51 = some (.aload_n 0, 1, 0) := by decide +kernel
theorem cd_141_52 : zt_code zq_T 141 52 = some (.getfield 80, 3, 0) := by decide +kernel
theorem cd_141_55 : zt_code zq_T 141 55 = some (.if_icmp .ne (5), 3, 0) := by decide +kernel
theorem cd_141_58 : zt_code zq_T 141 58 = some (.iconst 1, 1, 0) := by decide +kernel
theorem cd_141_59 : zt_code zq_T 141 59 = some (.ireturn, 1, 0) := by decide +kernel
theorem cd_141_60 : zt_code zq_T 141 60 = some (.aload_n 0, 1, 0) := by decide +kernel
theorem cd_141_61 : zt_code zq_T 141 61 = some (.getfield 34, 3, 0) := by decide +kernel
theorem cd_141_64 : zt_code zq_T 141 64 = some (.iload_n 1, 1, 0) := by decide +kernel
theorem cd_141_65 : zt_code zq_T 141 65 = some (.iaload, 1, 0) := by decide +kernel
theorem cd_141_66 : zt_code zq_T 141 66 = some (.istore_n 1, 1, 0) := by decide +kernel
theorem cd_141_67 : zt_code zq_T 141 67 = some (.iinc 2 (1), 3, 0) := by decide +kernel
theorem cd_141_70 : zt_code zq_T 141 70 = some (.goto (-51), 3, 0) := by decide +kernel
theorem cd_141_73 : zt_code zq_T 141 73 = some (.iconst 0, 1, 0) := by decide +kernel
theorem cd_141_74 : zt_code zq_T 141 74 = some (.ireturn, 1, 0) := by decide +kernel
theorem cd_142_0 : zt_code zq_T 142 0 = some (.aload_n 0, 1, 0) := by decide +kernel
theorem cd_142_1 : zt_code zq_T 142 1 = some (.getfield 52, 3, 0) := by decide +kernel
theorem cd_142_4 : zt_code zq_T 142 4 = some (.sipush (8738), 3, 0) := by decide +kernel
theorem cd_142_7 : zt_code zq_T 142 7 = some (.if_icmp .lt (4), 3, 0) := by decide +kernel
theorem cd_142_10 : zt_code zq_T 142 10 = some (.return_, 1, 0) := by decide +kernel
theorem cd_142_11 : zt_code zq_T 142 11 = some (.iload_n 1, 1, 0) := by decide +kernel
theorem cd_142_12 : zt_code zq_T 142 12 = some (.iload_n 2, 1, 0) := by decide +kernel
theorem cd_142_13 : zt_code zq_T 142 13 = some (.invokestatic 107, 3, 0) := by decide +kernel
theorem cd_142_16 : zt_code zq_T 142 16 = some (.istore 4, 2, 0) := by decide +kernel
theorem cd_142_18 : zt_code zq_T 142 18 = some (.aload_n 0, 1, 0) := by decide +kernel
theorem cd_142_19 : zt_code zq_T 142 19 = some (.getfield 25, 3, 0) := by decide +kernel
theorem cd_142_22 : zt_code zq_T 142 22 = some (.aload_n 0, 1, 0) := by decide +kernel
theorem cd_142_23 : zt_code zq_T 142 23 = some (.getfield 52, 3, 0) := by decide +kernel
theorem cd_142_26 : zt_code zq_T 142 26 = some (.iload_n 1, 1, 0) := by decide +kernel
theorem cd_142_27 : zt_code zq_T 142 27 = some (.iastore, 1, 0) := by decide +kernel
theorem cd_142_28 : zt_code zq_T 142 28 = some (.aload_n 0, 1, 0) := by decide +kernel
theorem cd_142_29 : zt_code zq_T 142 29 = some (.getfield 28, 3, 0) := by decide +kernel
theorem cd_142_32 : zt_code zq_T 142 32 = some (.aload_n 0, 1, 0) := by decide +kernel
theorem cd_142_33 : zt_code zq_T 142 33 = some (.getfield 52, 3, 0) := by decide +kernel
theorem cd_142_36 : zt_code zq_T 142 36 = some (.iload_n 2, 1, 0) := by decide +kernel
theorem cd_142_37 : zt_code zq_T 142 37 = some (.iastore, 1, 0) := by decide +kernel
theorem cd_142_38 : zt_code zq_T 142 38 = some (.aload_n 0, 1, 0) := by decide +kernel
theorem cd_142_39 : zt_code zq_T 142 39 = some (.getfield 31, 3, 0) := by decide +kernel
theorem cd_142_42 : zt_code zq_T 142 42 = some (.aload_n 0, 1, 0) := by decide +kernel
theorem cd_142_43 : zt_code zq_T 142 43 = some (.getfield 52, 3, 0) := by decide +kernel
theorem cd_142_46 : zt_code zq_T 142 46 = some (.iload_n 3, 1, 0) := by decide +kernel
theorem cd_142_47 : zt_code zq_T 142 47 = some (.iastore, 1, 0) := by decide +kernel
theorem cd_142_48 : zt_code zq_T 142 48 = some (.aload_n 0, 1, 0) := by decide +kernel
theorem cd_142_49 : zt_code zq_T 142 49 = some (.getfield 34, 3, 0) := by decide +kernel
theorem cd_142_52 : zt_code zq_T 142 52 = some (.aload_n 0, 1, 0) := by decide +kernel
theorem cd_142_53 : zt_code zq_T 142 53 = some (.getfield 52, 3, 0) := by decide +kernel
theorem cd_142_56 : zt_code zq_T 142 56 = some (.aload_n 0, 1, 0) := by decide +kernel
theorem cd_142_57 : zt_code zq_T 142 57 = some (.getfield 37, 3, 0) := by decide +kernel
theorem cd_142_60 : zt_code zq_T 142 60 = some (.iload 4, 2, 0) := by decide +kernel
theorem cd_142_62 : zt_code zq_T 142 62 = some (.iaload, 1, 0) := by decide +kernel
theorem cd_142_63 : zt_code zq_T 142 63 = some (.iastore, 1, 0) := by decide +kernel
theorem cd_142_64 : zt_code zq_T 142 64 = some (.aload_n 0, 1, 0) := by decide +kernel
theorem cd_142_65 : zt_code zq_T 142 65 = some (.getfield 37, 3, 0) := by decide +kernel
theorem cd_142_68 : zt_code zq_T 142 68 = some (.iload 4, 2, 0) := by decide +kernel
theorem cd_142_70 : zt_code zq_T 142 70 = some (.aload_n 0, 1, 0) := by decide +kernel
theorem cd_142_71 : zt_code zq_T 142 71 = some (.getfield 52, 3, 0) := by decide +kernel
theorem cd_142_74 : zt_code zq_T 142 74 = some (.iastore, 1, 0) := by decide +kernel
theorem cd_142_75 : zt_code zq_T 142 75 = some (.aload_n 0, 1, 0) := by decide +kernel
theorem cd_142_76 : zt_code zq_T 142 76 = some (.dup, 1, 0) := by decide +kernel
theorem cd_142_77 : zt_code zq_T 142 77 = some (.getfield 52, 3, 0) := by decide +kernel
theorem cd_142_80 : zt_code zq_T 142 80 = some (.iconst 1, 1, 0) := by decide +kernel
theorem cd_142_81 : zt_code zq_T 142 81 = some (.iadd, 1, 0) := by decide +kernel
theorem cd_142_82 : zt_code zq_T 142 82 = some (.putfield 52, 3, 0) := by decide +kernel
theorem cd_142_85 : zt_code zq_T 142 85 = some (.return_, 1, 0) := by decide +kernel
theorem cd_143_0 : zt_code zq_T 143 0 = some (.aload_n 0, 1, 0) := by decide +kernel
theorem cd_143_1 : zt_code zq_T 143 1 = some (.iload_n 3, 1, 0) := by decide +kernel
theorem cd_143_2 : zt_code zq_T 143 2 = some (.putfield 9, 3, 0) := by decide +kernel
theorem cd_143_5 : zt_code zq_T 143 5 = some (.aload_n 0, 1, 0) := by decide +kernel
theorem cd_143_6 : zt_code zq_T 143 6 = some (.getfield 15, 3, 0) := by decide +kernel
theorem cd_143_9 : zt_code zq_T 143 9 = some (.iload_n 3, 1, 0) := by decide +kernel
theorem cd_143_10 : zt_code zq_T 143 10 = some (.iconst 1, 1, 0) := by decide +kernel
theorem cd_143_11 : zt_code zq_T 143 11 = some (.isub, 1, 0) := by decide +kernel
theorem cd_143_12 : zt_code zq_T 143 12 = some (.iload_n 2, 1, 0) := by decide +kernel
theorem cd_143_13 : zt_code zq_T 143 13 = some (.iastore, 1, 0) := by decide +kernel
theorem cd_143_14 : zt_code zq_T 143 14 = some (.iload_n 1, 1, 0) := by decide +kernel
theorem cd_143_15 : zt_code zq_T 143 15 = some (.istore 4, 2, 0) := by decide +kernel
theorem cd_143_17 : zt_code zq_T 143 17 = some (.iload_n 3, 1, 0) := by decide +kernel
theorem cd_143_18 : zt_code zq_T 143 18 = some (.iconst 2, 1, 0) := by decide +kernel
theorem cd_143_19 : zt_code zq_T 143 19 = some (.isub, 1, 0) := by decide +kernel
theorem cd_143_20 : zt_code zq_T 143 20 = some (.istore 5, 2, 0) := by decide +kernel
theorem cd_143_22 : zt_code zq_T 143 22 = some (.iload 5, 2, 0) := by decide +kernel
theorem cd_143_24 : zt_code zq_T 143 24 = some (.ifCond .lt (37), 3, 0) := by decide +kernel
theorem cd_143_27 : zt_code zq_T 143 27 = some (.aload_n 0, 1, 0) := by decide +kernel
theorem cd_143_28 : zt_code zq_T 143 28 = some (.getfield 15, 3, 0) := by decide +kernel
theorem cd_143_31 : zt_code zq_T 143 31 = some (.iload 5, 2, 0) := by decide +kernel
theorem cd_143_33 : zt_code zq_T 143 33 = some (.aload_n 0, 1, 0) := by decide +kernel
theorem cd_143_34 : zt_code zq_T 143 34 = some (.getfield 31, 3, 0) := by decide +kernel
theorem cd_143_37 : zt_code zq_T 143 37 = some (.iload 4, 2, 0) := by decide +kernel
theorem cd_143_39 : zt_code zq_T 143 39 = some (.iaload, 1, 0) := by decide +kernel
theorem cd_143_40 : zt_code zq_T 143 40 = some (.bipush (31), 2, 0) := by decide +kernel
theorem cd_143_42 : zt_code zq_T 143 42 = some (.iand, 1, 0) := by decide +kernel
theorem cd_143_43 : zt_code zq_T 143 43 = some (.iastore, 1, 0) := by decide +kernel
theorem cd_143_44 : zt_code zq_T 143 44 = some (.aload_n 0, 1, 0) := by decide +kernel
theorem cd_143_45 : zt_code zq_T 143 45 = some (.getfield 31, 3, 0) := by decide +kernel
theorem cd_143_48 : zt_code zq_T 143 48 = some (.iload 4, 2, 0) := by decide +kernel
theorem cd_143_50 : zt_code zq_T 143 50 = some (.iaload, 1, 0) := by decide +kernel
theorem cd_143_51 : zt_code zq_T 143 51 = some (.iconst 5, 1, 0) := by decide +kernel
theorem cd_143_52 : zt_code zq_T 143 52 = some (.ishr, 1, 0) := by decide +kernel
theorem cd_143_53 : zt_code zq_T 143 53 = some (.istore 4, 2, 0) := by decide +kernel
theorem cd_143_55 : zt_code zq_T 143 55 = some (.iinc 5 (-1), 3, 0) := by decide +kernel
theorem cd_143_58 : zt_code zq_T 143 58 = some (.goto (-36), 3, 0) := by decide +kernel
theorem cd_143_61 : zt_code zq_T 143 61 = some (.return_, 1, 0) := by decide +kernel
theorem cd_144_0 : zt_code zq_T 144 0 = some (.aload_n 0, 1, 0) := by decide +kernel
theorem cd_144_1 : zt_code zq_T 144 1 = some (.invokespecial 3, 3, 0) := by decide +kernel
theorem cd_144_4 : zt_code zq_T 144 4 = some (.aload_n 0, 1, 0) := by decide +kernel
theorem cd_144_5 : zt_code zq_T 144 5 = some (.bipush (60), 2, 0) := by decide +kernel
theorem cd_144_7 : zt_code zq_T 144 7 = some (.newarray .int, 2, 20) := by decide +kernel
theorem cd_144_9 : zt_code zq_T 144 9 = some (.putfield 9, 3, 0) := by decide +kernel
theorem cd_144_12 : zt_code zq_T 144 12 = some (.aload_n 0, 1, 0) := by decide +kernel
theorem cd_144_13 : zt_code zq_T 144 13 = some (.bipush (60), 2, 0) := by decide +kernel
theorem cd_144_15 : zt_code zq_T 144 15 = some (.newarray .int, 2, 20) := by decide +kernel
theorem cd_144_17 : zt_code zq_T 144 17 = some (.putfield 15, 3, 0) := by decide +kernel
theorem cd_144_20 : zt_code zq_T 144 20 = some (.aload_n 0, 1, 0) := by decide +kernel
theorem cd_144_21 : zt_code zq_T 144 21 = some (.bipush (60), 2, 0) := by decide +kernel
theorem cd_144_23 : zt_code zq_T 144 23 = some (.newarray .int, 2, 20) := by decide +kernel
theorem cd_144_25 : zt_code zq_T 144 25 = some (.putfield 18, 3, 0) := by decide +kernel
theorem cd_144_28 : zt_code zq_T 144 28 = some (.aload_n 0, 1, 0) := by decide +kernel
theorem cd_144_29 : zt_code zq_T 144 29 = some (.bipush (60), 2, 0) := by decide +kernel
theorem cd_144_31 : zt_code zq_T 144 31 = some (.newarray .int, 2, 20) := by decide +kernel
theorem cd_144_33 : zt_code zq_T 144 33 = some (.putfield 21, 3, 0) := by decide +kernel
theorem cd_144_36 : zt_code zq_T 144 36 = some (.aload_n 0, 1, 0) := by decide +kernel
theorem cd_144_37 : zt_code zq_T 144 37 = some (.bipush (60), 2, 0) := by decide +kernel
theorem cd_144_39 : zt_code zq_T 144 39 = some (.newarray .int, 2, 20) := by decide +kernel
theorem cd_144_41 : zt_code zq_T 144 41 = some (.putfield 24, 3, 0) := by decide +kernel
theorem cd_144_44 : zt_code zq_T 144 44 = some (.aload_n 0, 1, 0) := by decide +kernel
theorem cd_144_45 : zt_code zq_T 144 45 = some (.bipush (60), 2, 0) := by decide +kernel
theorem cd_144_47 : zt_code zq_T 144 47 = some (.newarray .int, 2, 20) := by decide +kernel
theorem cd_144_49 : zt_code zq_T 144 49 = some (.putfield 27, 3, 0) := by decide +kernel
theorem cd_144_52 : zt_code zq_T 144 52 = some (.aload_n 0, 1, 0) := by decide +kernel
theorem cd_144_53 : zt_code zq_T 144 53 = some (.bipush (60), 2, 0) := by decide +kernel
theorem cd_144_55 : zt_code zq_T 144 55 = some (.newarray .int, 2, 20) := by decide +kernel
theorem cd_144_57 : zt_code zq_T 144 57 = some (.putfield 30, 3, 0) := by decide +kernel
theorem cd_144_60 : zt_code zq_T 144 60 = some (.aload_n 0, 1, 0) := by decide +kernel
theorem cd_144_61 : zt_code zq_T 144 61 = some (.bipush (60), 2, 0) := by decide +kernel
theorem cd_144_63 : zt_code zq_T 144 63 = some (.newarray .int, 2, 20) := by decide +kernel
theorem cd_144_65 : zt_code zq_T 144 65 = some (.putfield 33, 3, 0) := by decide +kernel
theorem cd_144_68 : zt_code zq_T 144 68 = some (.aload_n 0, 1, 0) := by decide +kernel
theorem cd_144_69 : zt_code zq_T 144 69 = some (.sipush (160), 3, 0) := by decide +kernel
theorem cd_144_72 : zt_code zq_T 144 72 = some (.newarray .int, 2, 20) := by decide +kernel
theorem cd_144_74 : zt_code zq_T 144 74 = some (.putfield 36, 3, 0) := by decide +kernel
theorem cd_144_77 : zt_code zq_T 144 77 = some (.return_, 1, 0) := by decide +kernel
theorem cd_145_0 : zt_code zq_T 145 0 = some (.aload_n 0, 1, 0) := by decide +kernel
theorem cd_145_1 : zt_code zq_T 145 1 = some (.iconst 0, 1, 0) := by decide +kernel
theorem cd_145_2 : zt_code zq_T 145 2 = some (.putfield 39, 3, 0) := by decide +kernel
theorem cd_145_5 : zt_code zq_T 145 5 = some (.aload_n 0, 1, 0) := by decide +kernel
theorem cd_145_6 : zt_code zq_T 145 6 = some (.iconst (-1), 1, 0) := by decide +kernel
theorem cd_145_7 : zt_code zq_T 145 7 = some (.putfield 43, 3, 0) := by decide +kernel
theorem cd_145_10 : zt_code zq_T 145 10 = some (.aload_n 0, 1, 0) := by decide +kernel
theorem cd_145_11 : zt_code zq_T 145 11 = some (.iconst (-1), 1, 0) := by decide +kernel
theorem cd_145_12 : zt_code zq_T 145 12 = some (.putfield 46, 3, 0) := by decide +kernel
theorem cd_145_15 : zt_code zq_T 145 15 = some (.aload_n 0, 1, 0) := by decide +kernel
theorem cd_145_16 : zt_code zq_T 145 16 = some (.iconst 1, 1, 0) := by decide +kernel
theorem cd_145_17 : zt_code zq_T 145 17 = some (.putfield 49, 3, 0) := by decide +kernel
theorem cd_145_20 : zt_code zq_T 145 20 = some (.iconst 0, 1, 0) := by decide +kernel
theorem cd_145_21 : zt_code zq_T 145 21 = some (.istore_n 3, 1, 0) := by decide +kernel
theorem cd_145_22 : zt_code zq_T 145 22 = some (.iload_n 3, 1, 0) := by decide +kernel
theorem cd_145_23 : zt_code zq_T 145 23 = some (.iload_n 2, 1, 0) := by decide +kernel
theorem cd_145_24 : zt_code zq_T 145 24 = some (.if_icmp .ge (61), 3, 0) := by decide +kernel
theorem cd_145_27 : zt_code zq_T 145 27 = some (.aload_n 1, 1, 0) := by decide +kernel
theorem cd_145_28 : zt_code zq_T 145 28 = some (.iload_n 3, 1, 0) := by decide +kernel
theorem cd_145_29 : zt_code zq_T 145 29 = some (.iaload, 1, 0) := by decide +kernel
theorem cd_145_30 : zt_code zq_T 145 30 = some (.bipush (32), 2, 0) := by decide +kernel
theorem cd_145_32 : zt_code zq_T 145 32 = some (.if_icmp .eq (33), 3, 0) := by decide +kernel
theorem cd_145_35 : zt_code zq_T 145 35 = some (.aload_n 0, 1, 0) := by decide +kernel
theorem cd_145_36 : zt_code zq_T 145 36 = some (.getfield 49, 3, 0) := by decide +kernel
theorem cd_145_39 : zt_code zq_T 145 39 = some (.ifCond .eq (16), 3, 0) := by decide +kernel
theorem cd_145_42 : zt_code zq_T 145 42 = some (.aload_n 0, 1, 0) := by decide +kernel
theorem cd_145_43 : zt_code zq_T 145 43 = some (.aload_n 1, 1, 0) := by decide +kernel
theorem cd_145_44 : zt_code zq_T 145 44 = some (.iload_n 3, 1, 0) := by decide +kernel
theorem cd_145_45 : zt_code zq_T 145 45 = some (.iaload, 1, 0) := by decide +kernel
theorem cd_145_46 : zt_code zq_T 145 46 = some (.invokevirtual 53, 3, 0) := by decide +kernel
theorem cd_145_49 : zt_code zq_T 145 49 = some (.ifCond .eq (20), 3, 0) := by decide +kernel
theorem cd_145_52 : zt_code zq_T 145 52 = some (.goto (13), 3, 0) := by decide +kernel
theorem cd_145_55 : zt_code zq_T 145 55 = some (.aload_n 0, 1, 0) := by decide +kernel
theorem cd_145_56 : zt_code zq_T 145 56 = some (.aload_n 1, 1, 0) := by decide +kernel
theorem cd_145_57 : zt_code zq_T 145 57 = some (.iload_n 3, 1, 0) := by decide +kernel
theorem cd_145_58 : zt_code zq_T 145 58 = some (.iaload, 1, 0) := by decide +kernel
theorem cd_145_59 : zt_code zq_T 145 59 = some (.invokevirtual 57, 3, 0) := by decide +kernel
theorem cd_145_62 : zt_code zq_T 145 62 = some (.ifCond .eq (7), 3, 0) := by decide +kernel
theorem cd_145_65 : zt_code zq_T 145 65 = some (.iconst 1, 1, 0) := by decide +kernel
theorem cd_145_66 : zt_code zq_T 145 66 = some (.goto (4), 3, 0) := by decide +kernel
theorem cd_145_69 : zt_code zq_T 145 69 = some (.iconst 0, 1, 0) := by decide +kernel
theorem cd_145_70 : zt_code zq_T 145 70 = some (.istore 4, 2, 0) := by decide +kernel
theorem cd_145_72 : zt_code zq_T 145 72 = some (.iload 4, 2, 0) := by decide +kernel
theorem cd_145_74 : zt_code zq_T 145 74 = some (.ifCond .ne (5), 3, 0) := by decide +kernel
theorem cd_145_77 : zt_code zq_T 145 77 = some (.iload_n 3, 1, 0) := by decide +kernel
theorem cd_145_78 : zt_code zq_T 145 78 = some (.ireturn, 1, 0) := by decide +kernel
theorem cd_145_79 : zt_code zq_T 145 79 = some (.iinc 3 (1), 3, 0) := by decide +kernel
theorem cd_145_82 : zt_code zq_T 145 82 = some (.goto (-60), 3, 0) := by decide +kernel
theorem cd_145_85 : zt_code zq_T 145 85 = some (.aload_n 0, 1, 0) := by decide +kernel
theorem cd_145_86 : zt_code zq_T 145 86 = some (.getfield 49, 3, 0) := by decide +kernel
theorem cd_145_89 : zt_code zq_T 145 89 = some (.ifCond .ne (11), 3, 0) := by decide +kernel
theorem cd_145_92 : zt_code zq_T 145 92 = some (.aload_n 0, 1, 0) := by decide +kernel
theorem cd_145_93 : zt_code zq_T 145 93 = some (.getfield 43, 3, 0) := by decide +kernel
theorem cd_145_96 : zt_code zq_T 145 96 = some (.iconst (-1), 1, 0) := by decide +kernel
theorem cd_145_97 : zt_code zq_T 145 97 = some (.if_icmp .eq (7), 3, 0) := by decide +kernel
theorem cd_145_100 : zt_code zq_T 145 100 = some (.iload_n 2, 1, 0) := by decide +kernel
theorem cd_145_101 : zt_code zq_T 145 101 = some (.goto (4), 3, 0) := by decide +kernel
theorem cd_145_104 : zt_code zq_T 145 104 = some (.iconst (-1), 1, 0) := by decide +kernel
theorem cd_145_105 : zt_code zq_T 145 105 = some (.ireturn, 1, 0) := by decide +kernel
theorem cd_146_0 : zt_code zq_T 146 0 = some (.aload_n 0, 1, 0) := by decide +kernel
theorem cd_146_1 : zt_code zq_T 146 1 = some (.getfield 39, 3, 0) := by decide +kernel
theorem cd_146_4 : zt_code zq_T 146 4 = some (.bipush (60), 2, 0) := by decide +kernel
theorem cd_146_6 : zt_code zq_T 146 6 = some (.if_icmp .ge (25), 3, 0) := by decide +kernel
theorem cd_146_9 : zt_code zq_T 146 9 = some (.aload_n 0, 1, 0) := by decide +kernel
theorem cd_146_10 : zt_code zq_T 146 10 = some (.getfield 43, 3, 0) := by decide +kernel
theorem cd_146_13 : zt_code zq_T 146 13 = some (.iconst (-1), 1, 0) := by decide +kernel
theorem cd_146_14 : zt_code zq_T 146 14 = some (.if_icmp .eq (21), 3, 0) := by decide +kernel
theorem cd_146_17 : zt_code zq_T 146 17 = some (.aload_n 0, 1, 0) := by decide +kernel
theorem cd_146_18 : zt_code zq_T 146 18 = some (.getfield 18, 3, 0) := by decide +kernel
theorem cd_146_21 : zt_code zq_T 146 21 = some (.aload_n 0, 1, 0) := by decide +kernel
theorem cd_146_22 : zt_code zq_T 146 22 = some (.getfield 43, 3, 0) := by decide +kernel
theorem cd_146_25 : zt_code zq_T 146 25 = some (.iaload, 1, 0) := by decide +kernel
theorem cd_146_26 : zt_code zq_T 146 26 = some (.bipush (24), 2, 0) := by decide +kernel
theorem cd_146_28 : zt_code zq_T 146 28 = some (.if_icmp .lt (7), 3, 0) := by decide +kernel
theorem cd_146_31 : zt_code zq_T 146 31 = some (.iconst 1, 1, 0) := by decide +kernel
theorem cd_146_32 : zt_code zq_T 146 32 = some (.goto (4), 3, 0) := by decide +kernel
theorem cd_146_35 : zt_code zq_T 146 35 = some (.iconst 0, 1, 0) := by decide +kernel
theorem cd_146_36 : zt_code zq_T 146 36 = some (.istore_n 2, 1, 0) := by decide +kernel
theorem cd_146_37 : zt_code zq_T 146 37 = some (.iload_n 1, 1, 0) := by decide +kernel
theorem cd_146_38 : zt_code zq_T 146 38 = some (.bipush (97), 2, 0) := by decide +kernel
theorem cd_146_40 : zt_code zq_T 146 40 = some (.if_icmp .lt (13), 3, 0) := by decide +kernel
theorem cd_146_43 : zt_code zq_T 146 43 = some (.iload_n 1, 1, 0) := by decide +kernel
theorem cd_146_44 : zt_code zq_T 146 44 = some (.bipush (122), 2, 0) := by decide +kernel
theorem cd_146_46 : zt_code zq_T 146 46 = some (.if_icmp .gt (7), 3, 0) := by decide +kernel
theorem cd_146_49 : zt_code zq_T 146 49 = some (.iload_n 2, 1, 0) := by decide +kernel
theorem cd_146_50 : zt_code zq_T 146 50 = some (.ifCond .eq (5), 3, 0) := by decide +kernel
theorem cd_146_53 : zt_code zq_T 146 53 = some (.iconst 0, 1, 0) := by decide +kernel
theorem cd_146_54 : zt_code zq_T 146 54 = some (.ireturn, 1, 0) := by decide +kernel
theorem cd_146_55 : zt_code zq_T 146 55 = some (.aload_n 0, 1, 0) := by decide +kernel
theorem cd_146_56 : zt_code zq_T 146 56 = some (.getfield 9, 3, 0) := by decide +kernel
theorem cd_146_59 : zt_code zq_T 146 59 = some (.aload_n 0, 1, 0) := by decide +kernel
theorem cd_146_60 : zt_code zq_T 146 60 = some (.getfield 39, 3, 0) := by decide +kernel
theorem cd_146_63 : zt_code zq_T 146 63 = some (.iload_n 1, 1, 0) := by decide +kernel
theorem cd_146_64 : zt_code zq_T 146 64 = some (.bipush (97), 2, 0) := by decide +kernel
theorem cd_146_66 : zt_code zq_T 146 66 = some (.isub, 1, 0) := by decide +kernel
theorem cd_146_67 : zt_code zq_T 146 67 = some (.iastore, 1, 0) := by decide +kernel
theorem cd_146_68 : zt_code zq_T 146 68 = some (.aload_n 0, 1, 0) := by decide +kernel
theorem cd_146_69 : zt_code zq_T 146 69 = some (.getfield 15, 3, 0) := by decide +kernel
theorem cd_146_72 : zt_code zq_T 146 72 = some (.aload_n 0, 1, 0) := by decide +kernel
theorem cd_146_73 : zt_code zq_T 146 73 = some (.getfield 39, 3, 0) := by decide +kernel
theorem cd_146_76 : zt_code zq_T 146 76 = some (.aload_n 0, 1, 0) := by decide +kernel
theorem cd_146_77 : zt_code zq_T 146 77 = some (.getfield 43, 3, 0) := by decide +kernel
theorem cd_146_80 : zt_code zq_T 146 80 = some (.iastore, 1, 0) := by decide +kernel
theorem cd_146_81 : zt_code zq_T 146 81 = some (.aload_n 0, 1, 0) := by decide +kernel
theorem cd_146_82 : zt_code zq_T 146 82 = some (.getfield 18, 3, 0) := by decide +kernel
theorem cd_146_85 : zt_code zq_T 146 85 = some (.aload_n 0, 1, 0) := by decide +kernel
theorem cd_146_86 : zt_code zq_T 146 86 = some (.getfield 39, 3, 0) := by decide +kernel
theorem cd_146_89 : zt_code zq_T 146 89 = some (.iconst 0, 1, 0) := by decide +kernel
theorem cd_146_90 : zt_code zq_T 146 90 = some (.iastore, 1, 0) := by decide +kernel
theorem cd_146_91 : zt_code zq_T 146 91 = some (.aload_n 0, 1, 0) := by decide +kernel
theorem cd_146_92 : zt_code zq_T 146 92 = some (.getfield 21, 3, 0) := by decide +kernel
theorem cd_146_95 : zt_code zq_T 146 95 = some (.aload_n 0, 1, 0) := by decide +kernel
theorem cd_146_96 : zt_code zq_T 146 96 = some (.getfield 39, 3, 0) := by decide +kernel
theorem cd_146_99 : zt_code zq_T 146 99 = some (.aload_n 0, 1, 0) := by decide +kernel
theorem cd_146_100 : zt_code zq_T 146 100 = some (.getfield 43, 3, 0) := by decide +kernel
theorem cd_146_103 : zt_code zq_T 146 103 = some (.iconst (-1), 1, 0) := by decide +kernel
theorem cd_146_104 : zt_code zq_T 146 104 = some (.if_icmp .ne (7), 3, 0) := by decide +kernel
theorem cd_146_107 : zt_code zq_T 146 107 = some (.iconst 0, 1, 0) := by decide +kernel
theorem cd_146_108 : zt_code zq_T 146 108 = some (.goto (14), 3, 0) := by decide +kernel
theorem cd_146_111 : zt_code zq_T 146 111 = some (.aload_n 0, 1, 0) := by decide +kernel
theorem cd_146_112 : zt_code zq_T 146 112 = some (.getfield 21, 3, 0) := by decide +kernel
theorem cd_146_115 : zt_code zq_T 146 115 = some (.aload_n 0, 1, 0) := by decide +kernel
theorem cd_146_116 : zt_code zq_T 146 116 = some (.getfield 43, 3, 0) := by decide +kernel
theorem cd_146_119 : zt_code zq_T 146 119 = some (.iaload, 1, 0) := by decide +kernel
theorem cd_146_120 : zt_code zq_T 146 120 = some (.iconst 1, 1, 0) := by decide +kernel
theorem cd_146_121 : zt_code zq_T 146 121 = some (.iadd, 1, 0) := by decide +kernel
theorem cd_146_122 : zt_code zq_T 146 122 = some (.iastore, 1, 0) := by decide +kernel
theorem cd_146_123 : zt_code zq_T 146 123 = some (.aload_n 0, 1, 0) := by decide +kernel
theorem cd_146_124 : zt_code zq_T 146 124 = some (.getfield 43, 3, 0) := by decide +kernel
theorem cd_146_127 : zt_code zq_T 146 127 = some (.iconst (-1), 1, 0) := by decide +kernel
theorem cd_146_128 : zt_code zq_T 146 128 = some (.if_icmp .eq (16), 3, 0) := by decide +kernel
theorem cd_146_131 : zt_code zq_T 146 131 = some (.aload_n 0, 1, 0) := by decide +kernel
theorem cd_146_132 : zt_code zq_T 146 132 = some (.getfield 18, 3, 0) := by decide +kernel
theorem cd_146_135 : zt_code zq_T 146 135 = some (.aload_n 0, 1, 0) := by decide +kernel
theorem cd_146_136 : zt_code zq_T 146 136 = some (.getfield 43, 3, 0) := by decide +kernel
theorem cd_146_139 : zt_code zq_T 146 139 = some (.dup2, 1, 0) := by decide +kernel
theorem cd_146_140 : zt_code zq_T 146 140 = some (.iaload, 1, 0) := by decide +kernel
theorem cd_146_141 : zt_code zq_T 146 141 = some (.iconst 1, 1, 0) := by decide +kernel
theorem cd_146_142 : zt_code zq_T 146 142 = some (.iadd, 1, 0) := by decide +kernel
theorem cd_146_143 : zt_code zq_T 146 143 = some (.iastore, 1, 0) := by decide +kernel
theorem cd_146_144 : zt_code zq_T 146 144 = some (.aload_n 0, 1, 0) := by decide +kernel
theorem cd_146_145 : zt_code zq_T 146 145 = some (.aload_n 0, 1, 0) := by decide +kernel
theorem cd_146_146 : zt_code zq_T 146 146 = some (.getfield 39, 3, 0) := by decide +kernel
theorem cd_146_149 : zt_code zq_T 146 149 = some (.putfield 46, 3, 0) := by decide +kernel
theorem cd_146_152 : zt_code zq_T 146 152 = some (.aload_n 0, 1, 0) := by decide +kernel
theorem cd_146_153 : zt_code zq_T 146 153 = some (.dup, 1, 0) := by decide +kernel
theorem cd_146_154 : zt_code zq_T 146 154 = some (.getfield 39, 3, 0) := by decide +kernel
theorem cd_146_157 : zt_code zq_T 146 157 = some (.iconst 1, 1, 0) := by decide +kernel
theorem cd_146_158 : zt_code zq_T 146 158 = some (.iadd, 1, 0) := by decide +kernel
theorem cd_146_159 : zt_code zq_T 146 159 = some (.putfield 39, 3, 0) := by decide +kernel
theorem cd_146_162 : zt_code zq_T 146 162 = some (.aload_n 0, 1, 0) := by decide +kernel
theorem cd_146_163 : zt_code zq_T 146 163 = some (.iconst 0, 1, 0) := by decide +kernel
theorem cd_146_164 : zt_code zq_T 146 164 = some (.putfield 49, 3, 0) := by decide +kernel
theorem cd_146_167 : zt_code zq_T 146 167 = some (.iconst 1, 1, 0) := by decide +kernel
theorem cd_146_168 : zt_code zq_T 146 168 = some (.ireturn, 1, 0) := by decide +kernel
theorem cd_147_0 : zt_code zq_T 147 0 = some (.iload_n 1, 1, 0) := by decide +kernel
theorem cd_147_1 : zt_code zq_T 147 1 = some (.bipush (40), 2, 0) := by decide +kernel
theorem cd_147_3 : zt_code zq_T 147 3 = some (.if_icmp .ne (42), 3, 0) := by decide +kernel
theorem cd_147_6 : zt_code zq_T 147 6 = some (.aload_n 0, 1, 0) := by decide +kernel
theorem cd_147_7 : zt_code zq_T 147 7 = some (.getfield 46, 3, 0) := by decide +kernel
theorem cd_147_10 : zt_code zq_T 147 10 = some (.iconst (-1), 1, 0) := by decide +kernel
theorem cd_147_11 : zt_code zq_T 147 11 = some (.if_icmp .eq (34), 3, 0) := by decide +kernel
theorem cd_147_14 : zt_code zq_T 147 14 = some (.aload_n 0, 1, 0) := by decide +kernel
theorem cd_147_15 : zt_code zq_T 147 15 = some (.getfield 21, 3, 0) := by decide +kernel
theorem cd_147_18 : zt_code zq_T 147 18 = some (.aload_n 0, 1, 0) := by decide +kernel
theorem cd_147_19 : zt_code zq_T 147 19 = some (.getfield 46, 3, 0) := by decide +kernel
theorem cd_147_22 : zt_code zq_T 147 22 = some (.iaload, 1, 0) := by decide +kernel
theorem cd_147_23 : zt_code zq_T 147 23 = some (.iconst 1, 1, 0) := by decide +kernel
theorem cd_147_24 : zt_code zq_T 147 24 = some (.iadd, 1, 0) := by decide +kernel
theorem cd_147_25 : zt_code zq_T 147 25 = some (.bipush (8), 2, 0) := by decide +kernel
theorem cd_147_27 : zt_code zq_T 147 27 = some (.if_icmp .ge (18), 3, 0) := by decide +kernel
theorem cd_147_30 : zt_code zq_T 147 30 = some (.aload_n 0, 1, 0) := by decide +kernel
theorem cd_147_31 : zt_code zq_T 147 31 = some (.aload_n 0, 1, 0) := by decide +kernel
theorem cd_147_32 : zt_code zq_T 147 32 = some (.getfield 46, 3, 0) := by decide +kernel
theorem cd_147_35 : zt_code zq_T 147 35 = some (.putfield 43, 3, 0) := by decide +kernel
theorem cd_147_38 : zt_code zq_T 147 38 = some (.aload_n 0, 1, 0) := by decide +kernel
theorem cd_147_39 : zt_code zq_T 147 39 = some (.iconst 1, 1, 0) := by decide +kernel
theorem cd_147_40 : zt_code zq_T 147 40 = some (.putfield 49, 3, 0) := by decide +kernel
theorem cd_147_43 : zt_code zq_T 147 43 = some (.iconst 1, 1, 0) := by decide +kernel
theorem cd_147_44 : zt_code zq_T 147 44 = some (.ireturn, 1, 0) := by decide +kernel
theorem cd_147_45 : zt_code zq_T 147 45 = some (.aload_n 0, 1, 0) := by decide +kernel
theorem cd_147_46 : zt_code zq_T 147 46 = some (.getfield 43, 3, 0) := by decide +kernel
theorem cd_147_49 : zt_code zq_T 147 49 = some (.iconst (-1), 1, 0) := by decide +kernel
theorem cd_147_50 : zt_code zq_T 147 50 = some (.if_icmp .eq (15), 3, 0) := by decide +kernel
theorem cd_147_53 : zt_code zq_T 147 53 = some (.iload_n 1, 1, 0) := by decide +kernel
theorem cd_147_54 : zt_code zq_T 147 54 = some (.bipush (44), 2, 0) := by decide +kernel
theorem cd_147_56 : zt_code zq_T 147 56 = some (.if_icmp .eq (11), 3, 0) := by decide +kernel
theorem cd_147_59 : zt_code zq_T 147 59 = some (.iload_n 1, 1, 0) := by decide +kernel
theorem cd_147_60 : zt_code zq_T 147 60 = some (.bipush (41), 2, 0) := by decide +kernel
theorem cd_147_62 : zt_code zq_T 147 62 = some (.if_icmp .eq (5), 3, 0) := by decide +kernel
theorem cd_147_65 : zt_code zq_T 147 65 = some (.iconst 0, 1, 0) := by decide +kernel
theorem cd_147_66 : zt_code zq_T 147 66 = some (.ireturn, 1, 0) := by decide +kernel
theorem cd_147_67 : zt_code zq_T 147 67 = some (.iload_n 1, 1, 0) := by decide +kernel
theorem cd_147_68 : zt_code zq_T 147 68 = some (.bipush (44), 2, 0) := by decide +kernel
theorem cd_147_70 : zt_code zq_T 147 70 = some (.if_icmp .ne (11), 3, 0) := by decide +kernel
theorem cd_147_73 : zt_code zq_T 147 73 = some (.aload_n 0, 1, 0) := by decide +kernel
theorem cd_147_74 : zt_code zq_T 147 74 = some (.iconst 1, 1, 0) := by decide +kernel
theorem cd_147_75 : zt_code zq_T 147 75 = some (.putfield 49, 3, 0) := by decide +kernel
theorem cd_147_78 : zt_code zq_T 147 78 = some (.goto (21), 3, 0) := by decide +kernel
theorem cd_147_81 : zt_code zq_T 147 81 = some (.aload_n 0, 1, 0) := by decide +kernel
theorem cd_147_82 : zt_code zq_T 147 82 = some (.iconst (-1), 1, 0) := by decide +kernel
theorem cd_147_83 : zt_code zq_T 147 83 = some (.putfield 46, 3, 0) := by decide +kernel
theorem cd_147_86 : zt_code zq_T 147 86 = some (.aload_n 0, 1, 0) := by decide +kernel
theorem cd_147_87 : zt_code zq_T 147 87 = some (.aload_n 0, 1, 0) := by decide +kernel
theorem cd_147_88 : zt_code zq_T 147 88 = some (.getfield 15, 3, 0) := by decide +kernel
theorem cd_147_91 : zt_code zq_T 147 91 = some (.aload_n 0, 1, 0) := by decide +kernel
theorem cd_147_92 : zt_code zq_T 147 92 = some (.getfield 43, 3, 0) := by decide +kernel
theorem cd_147_95 : zt_code zq_T 147 95 = some (.iaload, 1, 0) := by decide +kernel
theorem cd_147_96 : zt_code zq_T 147 96 = some (.putfield 43, 3, 0) := by decide +kernel
theorem cd_147_99 : zt_code zq_T 147 99 = some (.iconst 1, 1, 0) := by decide +kernel
theorem cd_147_100 : zt_code zq_T 147 100 = some (.ireturn, 1, 0) := by decide +kernel
theorem cd_148_0 : zt_code zq_T 148 0 = some (.iconst 0, 1, 0) := by decide +kernel
theorem cd_148_1 : zt_code zq_T 148 1 = some (.istore_n 3, 1, 0) := by decide +kernel
theorem cd_148_2 : zt_code zq_T 148 2 = some (.iload_n 3, 1, 0) := by decide +kernel
theorem cd_148_3 : zt_code zq_T 148 3 = some (.aload_n 0, 1, 0) := by decide +kernel
theorem cd_148_4 : zt_code zq_T 148 4 = some (.getfield 39, 3, 0) := by decide +kernel
theorem cd_148_7 : zt_code zq_T 148 7 = some (.if_icmp .ge (97), 3, 0) := by decide +kernel
theorem cd_148_10 : zt_code zq_T 148 10 = some (.aload_n 1, 1, 0) := by decide +kernel
theorem cd_148_11 : zt_code zq_T 148 11 = some (.aload_n 0, 1, 0) := by decide +kernel
theorem cd_148_12 : zt_code zq_T 148 12 = some (.getfield 9, 3, 0) := by decide +kernel
theorem cd_148_15 : zt_code zq_T 148 15 = some (.iload_n 3, 1, 0) := by decide +kernel
theorem cd_148_16 : zt_code zq_T 148 16 = some (.iaload, 1, 0) := by decide +kernel
theorem cd_148_17 : zt_code zq_T 148 17 = some (.invokevirtual 60, 3, 0) := by decide +kernel
theorem cd_148_20 : zt_code zq_T 148 20 = some (.istore 4, 2, 0) := by decide +kernel
theorem cd_148_22 : zt_code zq_T 148 22 = some (.iload 4, 2, 0) := by decide +kernel
theorem cd_148_24 : zt_code zq_T 148 24 = some (.iconst (-1), 1, 0) := by decide +kernel
theorem cd_148_25 : zt_code zq_T 148 25 = some (.if_icmp .ne (28), 3, 0) := by decide +kernel
theorem cd_148_28 : zt_code zq_T 148 28 = some (.aload_n 0, 1, 0) := by decide +kernel
theorem cd_148_29 : zt_code zq_T 148 29 = some (.iload_n 3, 1, 0) := by decide +kernel
theorem cd_148_30 : zt_code zq_T 148 30 = some (.aload_n 0, 1, 0) := by decide +kernel
theorem cd_148_31 : zt_code zq_T 148 31 = some (.getfield 18, 3, 0) := by decide +kernel
theorem cd_148_34 : zt_code zq_T 148 34 = some (.iload_n 3, 1, 0) := by decide +kernel
theorem cd_148_35 : zt_code zq_T 148 35 = some (.iaload, 1, 0) := by decide +kernel
theorem cd_148_36 : zt_code zq_T 148 36 = some (.ifCond .ne (7), 3, 0) := by decide +kernel
theorem cd_148_39 : zt_code zq_T 148 39 = some (.iconst 1, 1, 0) := by decide +kernel
theorem cd_148_40 : zt_code zq_T 148 40 = some (.goto (4), 3, 0) := by decide +kernel
theorem cd_148_43 : zt_code zq_T 148 43 = some (.iconst 0, 1, 0) := by decide +kernel
theorem cd_148_44 : zt_code zq_T 148 44 = some (.iconst 0, 1, 0) := by decide +kernel
theorem cd_148_45 : zt_code zq_T 148 45 = some (.iconst 0, 1, 0) := by decide +kernel
theorem cd_148_46 : zt_code zq_T 148 46 = some (.iconst 1, 1, 0) := by decide +kernel
theorem cd_148_47 : zt_code zq_T 148 47 = some (.invokevirtual 66, 3, 0) := by decide +kernel
theorem cd_148_50 : zt_code zq_T 148 50 = some (.goto (48), 3, 0) := by decide +kernel
theorem cd_148_53 : zt_code zq_T 148 53 = some (.aload_n 1, 1, 0) := by decide +kernel
theorem cd_148_54 : zt_code zq_T 148 54 = some (.getfield 70, 3, 0) := by decide +kernel
theorem cd_148_57 : zt_code zq_T 148 57 = some (.iload 4, 2, 0) := by decide +kernel
theorem cd_148_59 : zt_code zq_T 148 59 = some (.aaload, 1, 0) := by decide +kernel
theorem cd_148_60 : zt_code zq_T 148 60 = some (.getfield 74, 3, 0) := by decide +kernel
theorem cd_148_63 : zt_code zq_T 148 63 = some (.ifCond .eq (19), 3, 0) := by decide +kernel
theorem cd_148_66 : zt_code zq_T 148 66 = some (.aload_n 0, 1, 0) := by decide +kernel
theorem cd_148_67 : zt_code zq_T 148 67 = some (.iload_n 3, 1, 0) := by decide +kernel
theorem cd_148_68 : zt_code zq_T 148 68 = some (.aload_n 1, 1, 0) := by decide +kernel
theorem cd_148_69 : zt_code zq_T 148 69 = some (.getfield 70, 3, 0) := by decide +kernel
theorem cd_148_72 : zt_code zq_T 148 72 = some (.iload 4, 2, 0) := by decide +kernel
theorem cd_148_74 : zt_code zq_T 148 74 = some (.aaload, 1, 0) := by decide +kernel
theorem cd_148_75 : zt_code zq_T 148 75 = some (.aload_n 2, 1, 0) := by decide +kernel
theorem cd_148_76 : zt_code zq_T 148 76 = some (.invokevirtual 79, 3, 0) := by decide +kernel
theorem cd_148_79 : zt_code zq_T 148 79 = some (.goto (19), 3, 0) := by decide +kernel
theorem cd_148_82 : zt_code zq_T 148 82 = some (.aload_n 0, 1, 0) := by decide +kernel
theorem cd_148_83 : zt_code zq_T 148 83 = some (.iload_n 3, 1, 0) := by decide +kernel
theorem cd_148_84 : zt_code zq_T 148 84 = some (.iconst 1, 1, 0) := by decide +kernel
theorem cd_148_85 : zt_code zq_T 148 85 = some (.iconst 0, 1, 0) := by decide +kernel
theorem cd_148_86 : zt_code zq_T 148 86 = some (.iconst 0, 1, 0) := by decide +kernel
theorem cd_148_87 : zt_code zq_T 148 87 = some (.iconst 0, 1, 0) := by decide +kernel
theorem cd_148_88 : zt_code zq_T 148 88 = some (.invokevirtual 66, 3, 0) := by decide +kernel
theorem cd_148_91 : zt_code zq_T 148 91 = some (.aload_n 0, 1, 0) := by decide +kernel
theorem cd_148_92 : zt_code zq_T 148 92 = some (.getfield 24, 3, 0) := by decide +kernel
theorem cd_148_95 : zt_code zq_T 148 95 = some (.iload_n 3, 1, 0) := by decide +kernel
theorem cd_148_96 : zt_code zq_T 148 96 = some (.iconst 2, 1, 0) := by decide +kernel
theorem cd_148_97 : zt_code zq_T 148 97 = some (.iastore, 1, 0) := by decide +kernel
theorem cd_148_98 : zt_code zq_T 148 98 = some (.iinc 3 (1), 3, 0) := by decide +kernel
theorem cd_148_101 : zt_code zq_T 148 101 = some (.goto (-99), 3, 0) := by decide +kernel
theorem cd_148_104 : zt_code zq_T 148 104 = some (.return_, 1, 0) := by decide +kernel
theorem cd_149_0 : zt_code zq_T 149 0 = some (.aload_n 3, 1, 0) := by decide +kernel
theorem cd_149_1 : zt_code zq_T 149 1 = some (.aload_n 2, 1, 0) := by decide +kernel
theorem cd_149_2 : zt_code zq_T 149 2 = some (.invokevirtual 83, 3, 0) := by decide +kernel
theorem cd_149_5 : zt_code zq_T 149 5 = some (.iconst 0, 1, 0) := by decide +kernel
theorem cd_149_6 : zt_code zq_T 149 6 = some (.istore 4, 2, 0) := by decide +kernel
theorem cd_149_8 : zt_code zq_T 149 8 = some (.iconst 1, 1, 0) := by decide +kernel
theorem cd_149_9 : zt_code zq_T 149 9 = some (.istore 5, 2, 0) := by decide +kernel
theorem cd_149_11 : zt_code zq_T 149 11 = some (.iload_n 1, 1, 0) := by decide +kernel
theorem cd_149_12 : zt_code zq_T 149 12 = some (.iconst 1, 1, 0) := by decide +kernel
theorem cd_149_13 : zt_code zq_T 149 13 = some (.iadd, 1, 0) := by decide +kernel
theorem cd_149_14 : zt_code zq_T 149 14 = some (.istore 6, 2, 0) := by decide +kernel
theorem cd_149_16 : zt_code zq_T 149 16 = some (.iload 6, 2, 0) := by decide +kernel
theorem cd_149_18 : zt_code zq_T 149 18 = some (.aload_n 0, 1, 0) := by decide +kernel
theorem cd_149_19 : zt_code zq_T 149 19 = some (.getfield 39, 3, 0) := by decide +kernel
theorem cd_149_22 : zt_code zq_T 149 22 = some (.if_icmp .ge (53), 3, 0) := by decide +kernel
theorem cd_149_25 : zt_code zq_T 149 25 = some (.iload 5, 2, 0) := by decide +kernel
theorem cd_149_27 : zt_code zq_T 149 27 = some (.ifCond .eq (48), 3, 0) := by decide +kernel
theorem cd_149_30 : zt_code zq_T 149 30 = some (.aload_n 0, 1, 0) := by decide +kernel
theorem cd_149_31 : zt_code zq_T 149 31 = some (.getfield 15, 3, 0) := by decide +kernel
theorem cd_149_34 : zt_code zq_T 149 34 = some (.iload 6, 2, 0) := by decide +kernel
theorem cd_149_36 : zt_code zq_T 149 36 = some (.iaload, 1, 0) := by decide +kernel
theorem cd_149_37 : zt_code zq_T 149 37 = some (.iload_n 1, 1, 0) := by decide +kernel
theorem cd_149_38 : zt_code zq_T 149 38 = some (.if_icmp .ne (31), 3, 0) := by decide +kernel
theorem cd_149_41 : zt_code zq_T 149 41 = some (.aload_n 3, 1, 0) := by decide +kernel
theorem cd_149_42 : zt_code zq_T 149 42 = some (.aload_n 0, 1, 0) := by decide +kernel
theorem cd_149_43 : zt_code zq_T 149 43 = some (.getfield 9, 3, 0) := by decide +kernel
theorem cd_149_46 : zt_code zq_T 149 46 = some (.iload 6, 2, 0) := by decide +kernel
theorem cd_149_48 : zt_code zq_T 149 48 = some (.iaload, 1, 0) := by decide +kernel
theorem cd_149_49 : zt_code zq_T 149 49 = some (.invokevirtual 89, 3, 0) := by decide +kernel
theorem cd_149_52 : zt_code zq_T 149 52 = some (.istore 5, 2, 0) := by decide +kernel
theorem cd_149_54 : zt_code zq_T 149 54 = some (.iload 4, 2, 0) := by decide +kernel
theorem cd_149_56 : zt_code zq_T 149 56 = some (.iload 5, 2, 0) := by decide +kernel
theorem cd_149_58 : zt_code zq_T 149 58 = some (.ifCond .eq (7), 3, 0) := by decide +kernel
theorem cd_149_61 : zt_code zq_T 149 61 = some (.iconst 1, 1, 0) := by decide +kernel
theorem cd_149_62 : zt_code zq_T 149 62 = some (.goto (4), 3, 0) := by decide +kernel
theorem cd_149_65 : zt_code zq_T 149 65 = some (.iconst 0, 1, 0) := by decide +kernel
theorem cd_149_66 : zt_code zq_T 149 66 = some (.iadd, 1, 0) := by decide +kernel
theorem cd_149_67 : zt_code zq_T 149 67 = some (.istore 4, 2, 0) := by decide +kernel
theorem cd_149_69 : zt_code zq_T 149 69 = some (.iinc 6 (1), 3, 0) := by decide +kernel
theorem cd_149_72 : zt_code zq_T 149 72 = some (.goto (-56), 3, 0) := by decide +kernel
theorem cd_149_75 : zt_code zq_T 149 75 = some (.aload_n 3, 1, 0) := by decide +kernel
theorem cd_149_76 : zt_code zq_T 149 76 = some (.invokevirtual 92, 3, 0) := by decide +kernel
theorem cd_149_79 : zt_code zq_T 149 79 = some (.istore 6, 2, 0) := by decide +kernel
theorem cd_149_81 : zt_code zq_T 149 81 = some (.aload_n 0, 1, 0) := by decide +kernel
theorem cd_149_82 : zt_code zq_T 149 82 = some (.iload_n 1, 1, 0) := by decide +kernel
theorem cd_149_83 : zt_code zq_T 149 83 = some (.iload 4, 2, 0) := by decide +kernel
theorem cd_149_85 : zt_code zq_T 149 85 = some (.aload_n 0, 1, 0) := by decide +kernel
theorem cd_149_86 : zt_code zq_T 149 86 = some (.getfield 18, 3, 0) := by decide +kernel
theorem cd_149_89 : zt_code zq_T 149 89 = some (.iload_n 1, 1, 0) := by decide +kernel
theorem cd_149_90 : zt_code zq_T 149 90 = some (.iaload, 1, 0) := by decide +kernel
theorem cd_149_91 : zt_code zq_T 149 91 = some (.if_icmp .ne (12), 3, 0) := by decide +kernel
theorem cd_149_94 : zt_code zq_T 149 94 = some (.iload 6, 2, 0) := by decide +kernel
theorem cd_149_96 : zt_code zq_T 149 96 = some (.ifCond .eq (7), 3, 0) := by decide +kernel
theorem cd_149_99 : zt_code zq_T 149 99 = some (.iconst 1, 1, 0) := by decide +kernel
theorem cd_149_100 : zt_code zq_T 149 100 = some (.goto (4), 3, 0) := by decide +kernel
theorem cd_149_103 : zt_code zq_T 149 103 = some (.iconst 0, 1, 0) := by decide +kernel
theorem cd_149_104 : zt_code zq_T 149 104 = some (.iload 4, 2, 0) := by decide +kernel
theorem cd_149_106 : zt_code zq_T 149 106 = some (.aload_n 3, 1, 0) := by decide +kernel
theorem cd_149_107 : zt_code zq_T 149 107 = some (.invokevirtual 96, 3, 0) := by decide +kernel
theorem cd_149_110 : zt_code zq_T 149 110 = some (.iload 6, 2, 0) := by decide +kernel
theorem cd_149_112 : zt_code zq_T 149 112 = some (.invokevirtual 66, 3, 0) := by decide +kernel
theorem cd_149_115 : zt_code zq_T 149 115 = some (.return_, 1, 0) := by decide +kernel
theorem cd_150_0 : zt_code zq_T 150 0 = some (.aload_n 0, 1, 0) := by decide +kernel
theorem cd_150_1 : zt_code zq_T 150 1 = some (.getfield 24, 3, 0) := by decide +kernel
theorem cd_150_4 : zt_code zq_T 150 4 = some (.iload_n 1, 1, 0) := by decide +kernel
theorem cd_150_5 : zt_code zq_T 150 5 = some (.iload_n 2, 1, 0) := by decide +kernel
theorem cd_150_6 : zt_code zq_T 150 6 = some (.ifCond .eq (7), 3, 0) := by decide +kernel
theorem cd_150_9 : zt_code zq_T 150 9 = some (.iconst 1, 1, 0) := by decide +kernel
theorem cd_150_10 : zt_code zq_T 150 10 = some (.goto (4), 3, 0) := by decide +kernel
theorem cd_150_13 : zt_code zq_T 150 13 = some (.iconst 0, 1, 0) := by decide +kernel
theorem cd_150_14 : zt_code zq_T 150 14 = some (.iastore, 1, 0) := by decide +kernel
theorem cd_150_15 : zt_code zq_T 150 15 = some (.aload_n 0, 1, 0) := by decide +kernel
theorem cd_150_16 : zt_code zq_T 150 16 = some (.getfield 27, 3, 0) := by decide +kernel
theorem cd_150_19 : zt_code zq_T 150 19 = some (.iload_n 1, 1, 0) := by decide +kernel
theorem cd_150_20 : zt_code zq_T 150 20 = some (.iload_n 2, 1, 0) := by decide +kernel
theorem cd_150_21 : zt_code zq_T 150 21 = some (.ifCond .eq (7), 3, 0) := by decide +kernel
theorem cd_150_24 : zt_code zq_T 150 24 = some (.iconst (-1), 1, 0) := by decide +kernel
theorem cd_150_25 : zt_code zq_T 150 25 = some (.goto (4), 3, 0) := by decide +kernel
theorem cd_150_28 : zt_code zq_T 150 28 = some (.iload_n 3, 1, 0) := by decide +kernel
theorem cd_150_29 : zt_code zq_T 150 29 = some (.iastore, 1, 0) := by decide +kernel
theorem cd_150_30 : zt_code zq_T 150 30 = some (.aload_n 0, 1, 0) := by decide +kernel
theorem cd_150_31 : zt_code zq_T 150 31 = some (.getfield 30, 3, 0) := by decide +kernel
theorem cd_150_34 : zt_code zq_T 150 34 = some (.iload_n 1, 1, 0) := by decide +kernel
theorem cd_150_35 : zt_code zq_T 150 35 = some (.iload_n 2, 1, 0) := by decide +kernel
theorem cd_150_36 : zt_code zq_T 150 36 = some (.ifCond .eq (7), 3, 0) := by decide +kernel
theorem cd_150_39 : zt_code zq_T 150 39 = some (.iconst 0, 1, 0) := by decide +kernel
theorem cd_150_40 : zt_code zq_T 150 40 = some (.goto (5), 3, 0) := by decide +kernel
theorem cd_150_43 : zt_code zq_T 150 43 = some (.iload 4, 2, 0) := by decide +kernel
theorem cd_150_45 : zt_code zq_T 150 45 = some (.iastore, 1, 0) := by decide +kernel
theorem cd_150_46 : zt_code zq_T 150 46 = some (.aload_n 0, 1, 0) := by decide +kernel
theorem cd_150_47 : zt_code zq_T 150 47 = some (.getfield 33, 3, 0) := by decide +kernel
theorem cd_150_50 : zt_code zq_T 150 50 = some (.iload_n 1, 1, 0) := by decide +kernel
theorem cd_150_51 : zt_code zq_T 150 51 = some (.iload_n 2, 1, 0) := by decide +kernel
theorem cd_150_52 : zt_code zq_T 150 52 = some (.ifCond .eq (7), 3, 0) := by decide +kernel
theorem cd_150_55 : zt_code zq_T 150 55 = some (.iconst 0, 1, 0) := by decide +kernel
theorem cd_150_56 : zt_code zq_T 150 56 = some (.goto (8), 3, 0) := by decide +kernel
theorem cd_150_59 : zt_code zq_T 150 59 = some (.iload 5, 2, 0) := by decide +kernel
theorem cd_150_61 : zt_code zq_T 150 61 = some (.invokestatic 100, 3, 0) := by decide +kernel
theorem cd_150_64 : zt_code zq_T 150 64 = some (.iastore, 1, 0) := by decide +kernel
theorem cd_150_65 : zt_code zq_T 150 65 = some (.return_, 1, 0) := by decide +kernel
theorem cd_151_0 : zt_code zq_T 151 0 = some (.iconst 0, 1, 0) := by decide +kernel
theorem cd_151_1 : zt_code zq_T 151 1 = some (.istore_n 1, 1, 0) := by decide +kernel
theorem cd_151_2 : zt_code zq_T 151 2 = some (.iconst 0, 1, 0) := by decide +kernel
theorem cd_151_3 : zt_code zq_T 151 3 = some (.istore_n 2, 1, 0) := by decide +kernel
theorem cd_151_4 : zt_code zq_T 151 4 = some (.iload_n 2, 1, 0) := by decide +kernel
theorem cd_151_5 : zt_code zq_T 151 5 = some (.aload_n 0, 1, 0) := by decide +kernel
theorem cd_151_6 : zt_code zq_T 151 6 = some (.getfield 39, 3, 0) := by decide +kernel
theorem cd_151_9 : zt_code zq_T 151 9 = some (.if_icmp .ge (26), 3, 0) := by decide +kernel
theorem cd_151_12 : zt_code zq_T 151 12 = some (.iload_n 1, 1, 0) := by decide +kernel
theorem cd_151_13 : zt_code zq_T 151 13 = some (.aload_n 0, 1, 0) := by decide +kernel
theorem cd_151_14 : zt_code zq_T 151 14 = some (.getfield 24, 3, 0) := by decide +kernel
theorem cd_151_17 : zt_code zq_T 151 17 = some (.iload_n 2, 1, 0) := by decide +kernel
theorem cd_151_18 : zt_code zq_T 151 18 = some (.iaload, 1, 0) := by decide +kernel
theorem cd_151_19 : zt_code zq_T 151 19 = some (.ifCond .ne (7), 3, 0) := by decide +kernel
theorem cd_151_22 : zt_code zq_T 151 22 = some (.iconst 1, 1, 0) := by decide +kernel
theorem cd_151_23 : zt_code zq_T 151 23 = some (.goto (4), 3, 0) := by decide +kernel
theorem cd_151_26 : zt_code zq_T 151 26 = some (.iconst 0, 1, 0) := by decide +kernel
theorem cd_151_27 : zt_code zq_T 151 27 = some (.iadd, 1, 0) := by decide +kernel
theorem cd_151_28 : zt_code zq_T 151 28 = some (.istore_n 1, 1, 0) := by decide +kernel
theorem cd_151_29 : zt_code zq_T 151 29 = some (.iinc 2 (1), 3, 0) := by decide +kernel
theorem cd_151_32 : zt_code zq_T 151 32 = some (.goto (-28), 3, 0) := by decide +kernel
theorem cd_151_35 : zt_code zq_T 151 35 = some (.iload_n 1, 1, 0) := by decide +kernel
theorem cd_151_36 : zt_code zq_T 151 36 = some (.ireturn, 1, 0) := by decide +kernel
theorem cd_152_0 : zt_code zq_T 152 0 = some (.iconst 0, 1, 0) := by decide +kernel
theorem cd_152_1 : zt_code zq_T 152 1 = some (.istore_n 2, 1, 0) := by decide +kernel
theorem cd_152_2 : zt_code zq_T 152 2 = some (.iconst 0, 1, 0) := by decide +kernel
theorem cd_152_3 : zt_code zq_T 152 3 = some (.istore_n 3, 1, 0) := by decide +kernel
theorem cd_152_4 : zt_code zq_T 152 4 = some (.iload_n 3, 1, 0) := by decide +kernel
theorem cd_152_5 : zt_code zq_T 152 5 = some (.aload_n 0, 1, 0) := by decide +kernel
theorem cd_152_6 : zt_code zq_T 152 6 = some (.getfield 39, 3, 0) := by decide +kernel
theorem cd_152_9 : zt_code zq_T 152 9 = some (.if_icmp .ge (28), 3, 0) := by decide +kernel
theorem cd_152_12 : zt_code zq_T 152 12 = some (.aload_n 0, 1, 0) := by decide +kernel
theorem cd_152_13 : zt_code zq_T 152 13 = some (.getfield 24, 3, 0) := by decide +kernel
theorem cd_152_16 : zt_code zq_T 152 16 = some (.iload_n 3, 1, 0) := by decide +kernel
theorem cd_152_17 : zt_code zq_T 152 17 = some (.iaload, 1, 0) := by decide +kernel
theorem cd_152_18 : zt_code zq_T 152 18 = some (.ifCond .ne (13), 3, 0) := by decide +kernel
theorem cd_152_21 : zt_code zq_T 152 21 = some (.iload_n 2, 1, 0) := by decide +kernel
theorem cd_152_22 : zt_code zq_T 152 22 = some (.iload_n 1, 1, 0) := by decide +kernel
theorem cd_152_23 : zt_code zq_T 152 23 = some (.if_icmp .ne (5), 3, 0) := by decide +kernel
theorem cd_152_26 : zt_code zq_T 152 26 = some (.iload_n 3, 1, 0) := by decide +kernel
theorem cd_152_27 : zt_code zq_T 152 27 = some (.ireturn, 1, 0) := by decide +kernel
theorem cd_152_28 : zt_code zq_T 152 28 = some (.iinc 2 (1), 3, 0) := by decide +kernel
theorem cd_152_31 : zt_code zq_T 152 31 = some (.iinc 3 (1), 3, 0) := by decide +kernel
theorem cd_152_34 : zt_code zq_T 152 34 = some (.goto (-30), 3, 0) := by decide +kernel
theorem cd_152_37 : zt_code zq_T 152 37 = some (.iconst (-1), 1, 0) := by decide +kernel
theorem cd_152_38 : zt_code zq_T 152 38 = some (.ireturn, 1, 0) := by decide +kernel
theorem cd_153_0 : zt_code zq_T 153 0 = some (.iconst (-1), 1, 0) := by decide +kernel
theorem cd_153_1 : zt_code zq_T 153 1 = some (.istore_n 1, 1, 0) := by decide +kernel
theorem cd_153_2 : zt_code zq_T 153 2 = some (.iconst 0, 1, 0) := by decide +kernel
theorem cd_153_3 : zt_code zq_T 153 3 = some (.istore_n 2, 1, 0) := by decide +kernel
theorem cd_153_4 : zt_code zq_T 153 4 = some (.iload_n 2, 1, 0) := by decide +kernel
theorem cd_153_5 : zt_code zq_T 153 5 = some (.aload_n 0, 1, 0) := by decide +kernel
theorem cd_153_6 : zt_code zq_T 153 6 = some (.getfield 39, 3, 0) := by decide +kernel
theorem cd_153_9 : zt_code zq_T 153 9 = some (.if_icmp .ge (31), 3, 0) := by decide +kernel
theorem cd_153_12 : zt_code zq_T 153 12 = some (.iload_n 1, 1, 0) := by decide +kernel
theorem cd_153_13 : zt_code zq_T 153 13 = some (.iconst (-1), 1, 0) := by decide +kernel
theorem cd_153_14 : zt_code zq_T 153 14 = some (.if_icmp .eq (18), 3, 0) := by decide +kernel
theorem cd_153_17 : zt_code zq_T 153 17 = some (.aload_n 0, 1, 0) := by decide +kernel
theorem cd_153_18 : zt_code zq_T 153 18 = some (.getfield 18, 3, 0) := by decide +kernel
theorem cd_153_21 : zt_code zq_T 153 21 = some (.iload_n 2, 1, 0) := by decide +kernel
theorem cd_153_22 : zt_code zq_T 153 22 = some (.iaload, 1, 0) := by decide +kernel
theorem cd_153_23 : zt_code zq_T 153 23 = some (.aload_n 0, 1, 0) := by decide +kernel
theorem cd_153_24 : zt_code zq_T 153 24 = some (.getfield 18, 3, 0) := by decide +kernel
theorem cd_153_27 : zt_code zq_T 153 27 = some (.iload_n 1, 1, 0) := by decide +kernel
theorem cd_153_28 : zt_code zq_T 153 28 = some (.iaload, 1, 0) := by decide +kernel
theorem cd_153_29 : zt_code zq_T 153 29 = some (.if_icmp .le (5), 3, 0) := by decide +kernel
theorem cd_153_32 : zt_code zq_T 153 32 = some (.iload_n 2, 1, 0) := by decide +kernel
theorem cd_153_33 : zt_code zq_T 153 33 = some (.istore_n 1, 1, 0) := by decide +kernel
theorem cd_153_34 : zt_code zq_T 153 34 = some (.iinc 2 (1), 3, 0) := by decide +kernel
theorem cd_153_37 : zt_code zq_T 153 37 = some (.goto (-33), 3, 0) := by decide +kernel
theorem cd_153_40 : zt_code zq_T 153 40 = some (.iload_n 1, 1, 0) := by decide +kernel
theorem cd_153_41 : zt_code zq_T 153 41 = some (.ireturn, 1, 0) := by decide +kernel
theorem cd_154_0 : zt_code zq_T 154 0 = some (.iconst 0, 1, 0) := by decide +kernel
theorem cd_154_1 : zt_code zq_T 154 1 = some (.istore_n 1, 1, 0) := by decide +kernel
theorem cd_154_2 : zt_code zq_T 154 2 = some (.iconst 0, 1, 0) := by decide +kernel
theorem cd_154_3 : zt_code zq_T 154 3 = some (.istore_n 2, 1, 0) := by decide +kernel
theorem cd_154_4 : zt_code zq_T 154 4 = some (.iload_n 2, 1, 0) := by decide +kernel
theorem cd_154_5 : zt_code zq_T 154 5 = some (.aload_n 0, 1, 0) := by decide +kernel
theorem cd_154_6 : zt_code zq_T 154 6 = some (.getfield 39, 3, 0) := by decide +kernel
theorem cd_154_9 : zt_code zq_T 154 9 = some (.if_icmp .ge (22), 3, 0) := by decide +kernel
theorem cd_154_12 : zt_code zq_T 154 12 = some (.iload_n 1, 1, 0) := by decide +kernel
theorem cd_154_13 : zt_code zq_T 154 13 = some (.aload_n 0, 1, 0) := by decide +kernel
theorem cd_154_14 : zt_code zq_T 154 14 = some (.getfield 21, 3, 0) := by decide +kernel
theorem cd_154_17 : zt_code zq_T 154 17 = some (.iload_n 2, 1, 0) := by decide +kernel
theorem cd_154_18 : zt_code zq_T 154 18 = some (.iaload, 1, 0) := by decide +kernel
theorem cd_154_19 : zt_code zq_T 154 19 = some (.iconst 1, 1, 0) := by decide +kernel
theorem cd_154_20 : zt_code zq_T 154 20 = some (.iadd, 1, 0) := by decide +kernel
theorem cd_154_21 : zt_code zq_T 154 21 = some (.invokestatic 104, 3, 0) := by decide +kernel
theorem cd_154_24 : zt_code zq_T 154 24 = some (.istore_n 1, 1, 0) := by decide +kernel
theorem cd_154_25 : zt_code zq_T 154 25 = some (.iinc 2 (1), 3, 0) := by decide +kernel
theorem cd_154_28 : zt_code zq_T 154 28 = some (.goto (-24), 3, 0) := by decide +kernel
theorem cd_154_31 : zt_code zq_T 154 31 = some (.iload_n 1, 1, 0) := by decide +kernel
theorem cd_154_32 : zt_code zq_T 154 32 = some (.ireturn, 1, 0) := by decide +kernel
theorem cd_155_0 : zt_code zq_T 155 0 = some (.aload_n 0, 1, 0) := by decide +kernel
theorem cd_155_1 : zt_code zq_T 155 1 = some (.iconst 0, 1, 0) := by decide +kernel
theorem cd_155_2 : zt_code zq_T 155 2 = some (.putfield 110, 3, 0) := by decide +kernel
theorem cd_155_5 : zt_code zq_T 155 5 = some (.iconst 0, 1, 0) := by decide +kernel
theorem cd_155_6 : zt_code zq_T 155 6 = some (.istore_n 2, 1, 0) := by decide +kernel
theorem cd_155_7 : zt_code zq_T 155 7 = some (.iload_n 2, 1, 0) := by decide +kernel
theorem cd_155_8 : zt_code zq_T 155 8 = some (.aload_n 0, 1, 0) := by decide +kernel
theorem cd_155_9 : zt_code zq_T 155 9 = some (.getfield 21, 3, 0) := by decide +kernel
theorem cd_155_12 : zt_code zq_T 155 12 = some (.iload_n 1, 1, 0) := by decide +kernel
theorem cd_155_13 : zt_code zq_T 155 13 = some (.iaload, 1, 0) := by decide +kernel
theorem cd_155_14 : zt_code zq_T 155 14 = some (.if_icmp .gt (37), 3, 0) := by decide +kernel
theorem cd_155_17 : zt_code zq_T 155 17 = some (.iload_n 2, 1, 0) := by decide +kernel
theorem cd_155_18 : zt_code zq_T 155 18 = some (.ifCond .le (9), 3, 0) := by decide +kernel
theorem cd_155_21 : zt_code zq_T 155 21 = some (.aload_n 0, 1, 0) := by decide +kernel
theorem cd_155_22 : zt_code zq_T 155 22 = some (.bipush (47), 2, 0) := by decide +kernel
theorem cd_155_24 : zt_code zq_T 155 24 = some (.invokevirtual 113, 3, 0) := by decide +kernel
theorem cd_155_27 : zt_code zq_T 155 27 = some (.aload_n 0, 1, 0) := by decide +kernel
theorem cd_155_28 : zt_code zq_T 155 28 = some (.bipush (97), 2, 0) := by decide +kernel
theorem cd_155_30 : zt_code zq_T 155 30 = some (.aload_n 0, 1, 0) := by decide +kernel
theorem cd_155_31 : zt_code zq_T 155 31 = some (.getfield 9, 3, 0) := by decide +kernel
theorem cd_155_34 : zt_code zq_T 155 34 = some (.aload_n 0, 1, 0) := by decide +kernel
theorem cd_155_35 : zt_code zq_T 155 35 = some (.iload_n 1, 1, 0) := by decide +kernel
theorem cd_155_36 : zt_code zq_T 155 36 = some (.iload_n 2, 1, 0) := by decide +kernel
theorem cd_155_37 : zt_code zq_T 155 37 = some (.invokevirtual 117, 3, 0) := by decide +kernel
theorem cd_155_40 : zt_code zq_T 155 40 = some (.iaload, 1, 0) := by decide +kernel
theorem cd_155_41 : zt_code zq_T 155 41 = some (.iadd, 1, 0) := by decide +kernel
theorem cd_155_42 : zt_code zq_T 155 42 = some (.invokevirtual 113, 3, 0) := by decide +kernel
theorem cd_155_45 : zt_code zq_T 155 45 = some (.iinc 2 (1), 3, 0) := by decide +kernel
theorem cd_155_48 : zt_code zq_T 155 48 = some (.goto (-41), 3, 0) := by decide +kernel
theorem cd_155_51 : zt_code zq_T 155 51 = some (.aload_n 0, 1, 0) := by decide +kernel
theorem cd_155_52 : zt_code zq_T 155 52 = some (.ldc 120, 2, 0) := by decide +kernel
theorem cd_155_54 : zt_code zq_T 155 54 = some (.invokevirtual 122, 3, 0) := by decide +kernel
theorem cd_155_57 : zt_code zq_T 155 57 = some (.aload_n 0, 1, 0) := by decide +kernel
theorem cd_155_58 : zt_code zq_T 155 58 = some (.iload_n 1, 1, 0) := by decide +kernel
theorem cd_155_59 : zt_code zq_T 155 59 = some (.aload_n 0, 1, 0) := by decide +kernel
theorem cd_155_60 : zt_code zq_T 155 60 = some (.getfield 27, 3, 0) := by decide +kernel
theorem cd_155_63 : zt_code zq_T 155 63 = some (.iload_n 1, 1, 0) := by decide +kernel
theorem cd_155_64 : zt_code zq_T 155 64 = some (.iaload, 1, 0) := by decide +kernel
theorem cd_155_65 : zt_code zq_T 155 65 = some (.invokevirtual 125, 3, 0) := by decide +kernel
theorem cd_155_68 : zt_code zq_T 155 68 = some (.istore_n 2, 1, 0) := by decide +kernel
theorem cd_155_69 : zt_code zq_T 155 69 = some (.iload_n 2, 1, 0) := by decide +kernel
theorem cd_155_70 : zt_code zq_T 155 70 = some (.iconst (-1), 1, 0) := by decide +kernel
theorem cd_155_71 : zt_code zq_T 155 71 = some (.if_icmp .ne (12), 3, 0) := by decide +kernel
theorem cd_155_74 : zt_code zq_T 155 74 = some (.aload_n 0, 1, 0) := by decide +kernel
theorem cd_155_75 : zt_code zq_T 155 75 = some (.ldc 128, 2, 0) := by decide +kernel
theorem cd_155_77 : zt_code zq_T 155 77 = some (.invokevirtual 122, 3, 0) := by decide +kernel
theorem cd_155_80 : zt_code zq_T 155 80 = some (.goto (16), 3, 0) := by decide +kernel
theorem cd_155_83 : zt_code zq_T 155 83 = some (.aload_n 0, 1, 0) := by decide +kernel
theorem cd_155_84 : zt_code zq_T 155 84 = some (.bipush (97), 2, 0) := by decide +kernel
theorem cd_155_86 : zt_code zq_T 155 86 = some (.aload_n 0, 1, 0) := by decide +kernel
theorem cd_155_87 : zt_code zq_T 155 87 = some (.getfield 9, 3, 0) := by decide +kernel
theorem cd_155_90 : zt_code zq_T 155 90 = some (.iload_n 2, 1, 0) := by decide +kernel
theorem cd_155_91 : zt_code zq_T 155 91 = some (.iaload, 1, 0) := by decide +kernel
theorem cd_155_92 : zt_code zq_T 155 92 = some (.iadd, 1, 0) := by decide +kernel
theorem cd_155_93 : zt_code zq_T 155 93 = some (.invokevirtual 113, 3, 0) := by decide +kernel
theorem cd_155_96 : zt_code zq_T 155 96 = some (.aload_n 0, 1, 0) := by decide +kernel
theorem cd_155_97 : zt_code zq_T 155 97 = some (.ldc 130, 2, 0) := by decide +kernel
theorem cd_155_99 : zt_code zq_T 155 99 = some (.invokevirtual 122, 3, 0) := by decide +kernel
theorem cd_155_102 : zt_code zq_T 155 102 = some (.aload_n 0, 1, 0) := by decide +kernel
theorem cd_155_103 : zt_code zq_T 155 103 = some (.getfield 27, 3, 0) := by decide +kernel
theorem cd_155_106 : zt_code zq_T 155 106 = some (.iload_n 1, 1, 0) := by decide +kernel
theorem cd_155_107 : zt_code zq_T 155 107 = some (.iaload, 1, 0) := by decide +kernel
theorem cd_155_108 : zt_code zq_T 155 108 = some (.bipush (10), 2, 0) := by decide +kernel
theorem cd_155_110 : zt_code zq_T 155 110 = some (.if_icmp .lt (19), 3, 0) := by decide +kernel
theorem cd_155_113 : zt_code zq_T 155 113 = some (.aload_n 0, 1, 0) := by decide +kernel
theorem cd_155_114 : zt_code zq_T 155 114 = some (.bipush (48), 2, 0) := by decide +kernel
theorem cd_155_116 : zt_code zq_T 155 116 = some (.aload_n 0, 1, 0) := by decide +kernel
theorem cd_155_117 : zt_code zq_T 155 117 = some (.getfield 27, 3, 0) := by decide +kernel
theorem cd_155_120 : zt_code zq_T 155 120 = some (.iload_n 1, 1, 0) := by decide +kernel
theorem cd_155_121 : zt_code zq_T 155 121 = some (.iaload, 1, 0) := by decide +kernel
theorem cd_155_122 : zt_code zq_T 155 122 = some (.bipush (10), 2, 0) := by decide +kernel
theorem cd_155_124 : zt_code zq_T 155 124 = some (.idiv, 1, 0) := by decide +kernel
theorem cd_155_125 : zt_code zq_T 155 125 = some (.iadd, 1, 0) := by decide +kernel
theorem cd_155_126 : zt_code zq_T 155 126 = some (.invokevirtual 113, 3, 0) := by decide +kernel
theorem cd_155_129 : zt_code zq_T 155 129 = some (.aload_n 0, 1, 0) := by decide +kernel
theorem cd_155_130 : zt_code zq_T 155 130 = some (.bipush (48), 2, 0) := by decide +kernel
theorem cd_155_132 : zt_code zq_T 155 132 = some (.aload_n 0, 1, 0) := by decide +kernel
theorem cd_155_133 : zt_code zq_T 155 133 = some (.getfield 27, 3, 0) := by decide +kernel
theorem cd_155_136 : zt_code zq_T 155 136 = some (.iload_n 1, 1, 0) := by decide +kernel
theorem cd_155_137 : zt_code zq_T 155 137 = some (.iaload, 1, 0) := by decide +kernel
theorem cd_155_138 : zt_code zq_T 155 138 = some (.bipush (10), 2, 0) := by decide +kernel
theorem cd_155_140 : zt_code zq_T 155 140 = some (.irem, 1, 0) := by decide +kernel
theorem cd_155_141 : zt_code zq_T 155 141 = some (.iadd, 1, 0) := by decide +kernel
theorem cd_155_142 : zt_code zq_T 155 142 = some (.invokevirtual 113, 3, 0) := by decide +kernel
theorem cd_155_145 : zt_code zq_T 155 145 = some (.aload_n 0, 1, 0) := by decide +kernel
theorem cd_155_146 : zt_code zq_T 155 146 = some (.ldc 132, 2, 0) := by decide +kernel
theorem cd_155_148 : zt_code zq_T 155 148 = some (.invokevirtual 122, 3, 0) := by decide +kernel
theorem cd_155_151 : zt_code zq_T 155 151 = some (.aload_n 0, 1, 0) := by decide +kernel
theorem cd_155_152 : zt_code zq_T 155 152 = some (.iload_n 1, 1, 0) := by decide +kernel
theorem cd_155_153 : zt_code zq_T 155 153 = some (.invokevirtual 134, 3, 0) := by decide +kernel
theorem cd_155_156 : zt_code zq_T 155 156 = some (.return_, 1, 0) := by decide +kernel
theorem cd_156_0 : zt_code zq_T 156 0 = some (.aload_n 0, 1, 0) := by decide +kernel
theorem cd_156_1 : zt_code zq_T 156 1 = some (.getfield 110, 3, 0) := by decide +kernel
theorem cd_156_4 : zt_code zq_T 156 4 = some (.istore_n 2, 1, 0) := by decide +kernel
theorem cd_156_5 : zt_code zq_T 156 5 = some (.iconst 0, 1, 0) := by decide +kernel
theorem cd_156_6 : zt_code zq_T 156 6 = some (.istore_n 3, 1, 0) := by decide +kernel
theorem cd_156_7 : zt_code zq_T 156 7 = some (.iload_n 3, 1, 0) := by decide +kernel
theorem cd_156_8 : zt_code zq_T 156 8 = some (.bipush (26), 2, 0) := by decide +kernel
theorem cd_156_10 : zt_code zq_T 156 10 = some (.if_icmp .ge (44), 3, 0) := by decide +kernel
theorem cd_156_13 : zt_code zq_T 156 13 = some (.aload_n 0, 1, 0) := by decide +kernel
theorem cd_156_14 : zt_code zq_T 156 14 = some (.getfield 30, 3, 0) := by decide +kernel
theorem cd_156_17 : zt_code zq_T 156 17 = some (.iload_n 1, 1, 0) := by decide +kernel
theorem cd_156_18 : zt_code zq_T 156 18 = some (.iaload, 1, 0) := by decide +kernel
theorem cd_156_19 : zt_code zq_T 156 19 = some (.iload_n 3, 1, 0) := by decide +kernel
theorem cd_156_20 : zt_code zq_T 156 20 = some (.ishr, 1, 0) := by decide +kernel
theorem cd_156_21 : zt_code zq_T 156 21 = some (.iconst 1, 1, 0) := by decide +kernel
theorem cd_156_22 : zt_code zq_T 156 22 = some (.iand, 1, 0) := by decide +kernel
theorem cd_156_23 : zt_code zq_T 156 23 = some (.ifCond .eq (25), 3, 0) := by decide +kernel
theorem cd_156_26 : zt_code zq_T 156 26 = some (.aload_n 0, 1, 0) := by decide +kernel
theorem cd_156_27 : zt_code zq_T 156 27 = some (.getfield 110, 3, 0) := by decide +kernel
theorem cd_156_30 : zt_code zq_T 156 30 = some (.iload_n 2, 1, 0) := by decide +kernel
theorem cd_156_31 : zt_code zq_T 156 31 = some (.if_icmp .le (9), 3, 0) := by decide +kernel
theorem cd_156_34 : zt_code zq_T 156 34 = some (.aload_n 0, 1, 0) := by decide +kernel
theorem cd_156_35 : zt_code zq_T 156 35 = some (.ldc 137, 2, 0) := by decide +kernel
theorem cd_156_37 : zt_code zq_T 156 37 = some (.invokevirtual 122, 3, 0) := by decide +kernel
theorem cd_156_40 : zt_code zq_T 156 40 = some (.aload_n 0, 1, 0) := by decide +kernel
theorem cd_156_41 : zt_code zq_T 156 41 = some (.bipush (97), 2, 0) := by decide +kernel
theorem cd_156_43 : zt_code zq_T 156 43 = some (.iload_n 3, 1, 0) := by decide +kernel
theorem cd_156_44 : zt_code zq_T 156 44 = some (.iadd, 1, 0) := by decide +kernel
theorem cd_156_45 : zt_code zq_T 156 45 = some (.invokevirtual 113, 3, 0) := by decide +kernel
theorem cd_156_48 : zt_code zq_T 156 48 = some (.iinc 3 (1), 3, 0) := by decide +kernel
theorem cd_156_51 : zt_code zq_T 156 51 = some (.goto (-44), 3, 0) := by decide +kernel
theorem cd_156_54 : zt_code zq_T 156 54 = some (.aload_n 0, 1, 0) := by decide +kernel
theorem cd_156_55 : zt_code zq_T 156 55 = some (.getfield 33, 3, 0) := by decide +kernel
theorem cd_156_58 : zt_code zq_T 156 58 = some (.iload_n 1, 1, 0) := by decide +kernel
theorem cd_156_59 : zt_code zq_T 156 59 = some (.iaload, 1, 0) := by decide +kernel
theorem cd_156_60 : zt_code zq_T 156 60 = some (.ifCond .eq (23), 3, 0) := by decide +kernel
theorem cd_156_63 : zt_code zq_T 156 63 = some (.aload_n 0, 1, 0) := by decide +kernel
theorem cd_156_64 : zt_code zq_T 156 64 = some (.getfield 110, 3, 0) := by decide +kernel
theorem cd_156_67 : zt_code zq_T 156 67 = some (.iload_n 2, 1, 0) := by decide +kernel
theorem cd_156_68 : zt_code zq_T 156 68 = some (.if_icmp .le (9), 3, 0) := by decide +kernel
theorem cd_156_71 : zt_code zq_T 156 71 = some (.aload_n 0, 1, 0) := by decide +kernel
theorem cd_156_72 : zt_code zq_T 156 72 = some (.ldc 137, 2, 0) := by decide +kernel
theorem cd_156_74 : zt_code zq_T 156 74 = some (.invokevirtual 122, 3, 0) := by decide +kernel
theorem cd_156_77 : zt_code zq_T 156 77 = some (.aload_n 0, 1, 0) := by decide +kernel
theorem cd_156_78 : zt_code zq_T 156 78 = some (.ldc 128, 2, 0) := by decide +kernel
theorem cd_156_80 : zt_code zq_T 156 80 = some (.invokevirtual 122, 3, 0) := by decide +kernel
theorem cd_156_83 : zt_code zq_T 156 83 = some (.return_, 1, 0) := by decide +kernel
theorem cd_157_0 : zt_code zq_T 157 0 = some (.iload_n 1, 1, 0) := by decide +kernel
theorem cd_157_1 : zt_code zq_T 157 1 = some (.istore_n 3, 1, 0) := by decide +kernel
theorem cd_157_2 : zt_code zq_T 157 2 = some (.aload_n 0, 1, 0) := by decide +kernel
theorem cd_157_3 : zt_code zq_T 157 3 = some (.getfield 21, 3, 0) := by decide +kernel
theorem cd_157_6 : zt_code zq_T 157 6 = some (.iload_n 1, 1, 0) := by decide +kernel
theorem cd_157_7 : zt_code zq_T 157 7 = some (.iaload, 1, 0) := by decide +kernel
theorem cd_157_8 : zt_code zq_T 157 8 = some (.istore 4, 2, 0) := by decide +kernel
theorem cd_157_10 : zt_code zq_T 157 10 = some (.iload 4, 2, 0) := by decide +kernel
theorem cd_157_12 : zt_code zq_T 157 12 = some (.iload_n 2, 1, 0) := by decide +kernel
theorem cd_157_13 : zt_code zq_T 157 13 = some (.if_icmp .le (26), 3, 0) := by decide +kernel
theorem cd_157_16 : zt_code zq_T 157 16 = some (.aload_n 0, 1, 0) := by decide +kernel
theorem cd_157_17 : zt_code zq_T 157 17 = some (.getfield 15, 3, 0) := by decide +kernel
theorem cd_157_20 : zt_code zq_T 157 20 = some (.iload_n 3, 1, 0) := by decide +kernel
theorem cd_157_21 : zt_code zq_T 157 21 = some (.iaload, 1, 0) := by decide +kernel
theorem cd_157_22 : zt_code zq_T 157 22 = some (.iconst (-1), 1, 0) := by decide +kernel
theorem cd_157_23 : zt_code zq_T 157 23 = some (.if_icmp .eq (16), 3, 0) := by decide +kernel
theorem cd_157_26 : zt_code zq_T 157 26 = some (.aload_n 0, 1, 0) := by decide +kernel
theorem cd_157_27 : zt_code zq_T 157 27 = some (.getfield 15, 3, 0) := by decide +kernel
theorem cd_157_30 : zt_code zq_T 157 30 = some (.iload_n 3, 1, 0) := by decide +kernel
theorem cd_157_31 : zt_code zq_T 157 31 = some (.iaload, 1, 0) := by decide +kernel
theorem cd_157_32 : zt_code zq_T 157 32 = some (.istore_n 3, 1, 0) := by decide +kernel
theorem cd_157_33 : zt_code zq_T 157 33 = some (.iinc 4 (-1), 3, 0) := by decide +kernel
theorem cd_157_36 : zt_code zq_T 157 36 = some (.goto (-26), 3, 0) := by decide +kernel
theorem cd_157_39 : zt_code zq_T 157 39 = some (.iload_n 3, 1, 0) := by decide +kernel
theorem cd_157_40 : zt_code zq_T 157 40 = some (.ireturn, 1, 0) := by decide +kernel
theorem cd_158_0 : zt_code zq_T 158 0 = some (.iconst 0, 1, 0) := by decide +kernel
theorem cd_158_1 : zt_code zq_T 158 1 = some (.istore_n 3, 1, 0) := by decide +kernel
theorem cd_158_2 : zt_code zq_T 158 2 = some (.iload_n 1, 1, 0) := by decide +kernel
theorem cd_158_3 : zt_code zq_T 158 3 = some (.iconst 1, 1, 0) := by decide +kernel
theorem cd_158_4 : zt_code zq_T 158 4 = some (.iadd, 1, 0) := by decide +kernel
theorem cd_158_5 : zt_code zq_T 158 5 = some (.istore 4, 2, 0) := by decide +kernel
theorem cd_158_7 : zt_code zq_T 158 7 = some (.iload 4, 2, 0) := by decide +kernel
theorem cd_158_9 : zt_code zq_T 158 9 = some (.aload_n 0, 1, 0) := by decide +kernel
theorem cd_158_10 : zt_code zq_T 158 10 = some (.getfield 39, 3, 0) := by decide +kernel
theorem cd_158_13 : zt_code zq_T 158 13 = some (.if_icmp .ge (31), 3, 0) := by decide +kernel
theorem cd_158_16 : zt_code zq_T 158 16 = some (.aload_n 0, 1, 0) := by decide +kernel
theorem cd_158_17 : zt_code zq_T 158 17 = some (.getfield 15, 3, 0) := by decide +kernel
theorem cd_158_20 : zt_code zq_T 158 20 = some (.iload 4, 2, 0) := by decide +kernel
theorem cd_158_22 : zt_code zq_T 158 22 = some (.iaload, 1, 0) := by decide +kernel
theorem cd_158_23 : zt_code zq_T 158 23 = some (.iload_n 1, 1, 0) := by decide +kernel
theorem cd_158_24 : zt_code zq_T 158 24 = some (.if_icmp .ne (14), 3, 0) := by decide +kernel
theorem cd_158_27 : zt_code zq_T 158 27 = some (.iload_n 3, 1, 0) := by decide +kernel
theorem cd_158_28 : zt_code zq_T 158 28 = some (.iload_n 2, 1, 0) := by decide +kernel
theorem cd_158_29 : zt_code zq_T 158 29 = some (.if_icmp .ne (6), 3, 0) := by decide +kernel
theorem cd_158_32 : zt_code zq_T 158 32 = some (.iload 4, 2, 0) := by decide +kernel
theorem cd_158_34 : zt_code zq_T 158 34 = some (.ireturn, 1, 0) := by decide +kernel
theorem cd_158_35 : zt_code zq_T 158 35 = some (.iinc 3 (1), 3, 0) := by decide +kernel
theorem cd_158_38 : zt_code zq_T 158 38 = some (.iinc 4 (1), 3, 0) := by decide +kernel
theorem cd_158_41 : zt_code zq_T 158 41 = some (.goto (-34), 3, 0) := by decide +kernel
theorem cd_158_44 : zt_code zq_T 158 44 = some (.iconst (-1), 1, 0) := by decide +kernel
theorem cd_158_45 : zt_code zq_T 158 45 = some (.ireturn, 1, 0) := by decide +kernel
theorem cd_159_0 : zt_code zq_T 159 0 = some (.aload_n 0, 1, 0) := by decide +kernel
theorem cd_159_1 : zt_code zq_T 159 1 = some (.getfield 110, 3, 0) := by decide +kernel
theorem cd_159_4 : zt_code zq_T 159 4 = some (.sipush (160), 3, 0) := by decide +kernel
theorem cd_159_7 : zt_code zq_T 159 7 = some (.if_icmp .ge (23), 3, 0) := by decide +kernel
theorem cd_159_10 : zt_code zq_T 159 10 = some (.aload_n 0, 1, 0) := by decide +kernel
theorem cd_159_11 : zt_code zq_T 159 11 = some (.getfield 36, 3, 0) := by decide +kernel
theorem cd_159_14 : zt_code zq_T 159 14 = some (.aload_n 0, 1, 0) := by decide +kernel
theorem cd_159_15 : zt_code zq_T 159 15 = some (.getfield 110, 3, 0) := by decide +kernel
theorem cd_159_18 : zt_code zq_T 159 18 = some (.iload_n 1, 1, 0) := by decide +kernel
theorem cd_159_19 : zt_code zq_T 159 19 = some (.iastore, 1, 0) := by decide +kernel
theorem cd_159_20 : zt_code zq_T 159 20 = some (.aload_n 0, 1, 0) := by decide +kernel
theorem cd_159_21 : zt_code zq_T 159 21 = some (.dup, 1, 0) := by decide +kernel
theorem cd_159_22 : zt_code zq_T 159 22 = some (.getfield 110, 3, 0) := by decide +kernel
theorem cd_159_25 : zt_code zq_T 159 25 = some (.iconst 1, 1, 0) := by decide +kernel
theorem cd_159_26 : zt_code zq_T 159 26 = some (.iadd, 1, 0) := by decide +kernel
theorem cd_159_27 : zt_code zq_T 159 27 = some (.putfield 110, 3, 0) := by decide +kernel
theorem cd_159_30 : zt_code zq_T 159 30 = some (.return_, 1, 0) := by decide +kernel
theorem cd_160_0 : zt_code zq_T 160 0 = some (.iconst 0, 1, 0) := by decide +kernel
theorem cd_160_1 : zt_code zq_T 160 1 = some (.istore_n 2, 1, 0) := by decide +kernel
theorem cd_160_2 : zt_code zq_T 160 2 = some (.iload_n 2, 1, 0) := by decide +kernel
theorem cd_160_3 : zt_code zq_T 160 3 = some (.aload_n 1, 1, 0) := by decide +kernel
theorem cd_160_4 : zt_code zq_T 160 4 = some (.invokevirtual 139, 3, 0) := by decide +kernel
theorem cd_160_7 : zt_code zq_T 160 7 = some (.if_icmp .ge (18), 3, 0) := by decide +kernel
theorem cd_160_10 : zt_code zq_T 160 10 = some (.aload_n 0, 1, 0) := by decide +kernel
theorem cd_160_11 : zt_code zq_T 160 11 = some (.aload_n 1, 1, 0) := by decide +kernel
theorem cd_160_12 : zt_code zq_T 160 12 = some (.iload_n 2, 1, 0) := by decide +kernel
theorem cd_160_13 : zt_code zq_T 160 13 = some (.invokevirtual 144, 3, 0) := by decide +kernel
theorem cd_160_16 : zt_code zq_T 160 16 = some (.invokevirtual 113, 3, 0) := by decide +kernel
theorem cd_160_19 : zt_code zq_T 160 19 = some (.iinc 2 (1), 3, 0) := by decide +kernel
theorem cd_160_22 : zt_code zq_T 160 22 = some (.goto (-20), 3, 0) := by decide +kernel
theorem cd_160_25 : zt_code zq_T 160 25 = some (.return_, 1, 0) := by decide +kernel
theorem cd_161_0 : zt_code zq_T 161 0 = some (.aload_n 0, 1, 0) := by decide +kernel
theorem cd_161_1 : zt_code zq_T 161 1 = some (.invokespecial 3, 3, 0) := by decide +kernel
theorem cd_161_4 : zt_code zq_T 161 4 = some (.aload_n 0, 1, 0) := by decide +kernel
theorem cd_161_5 : zt_code zq_T 161 5 = some (.bipush (25), 2, 0) := by decide +kernel
theorem cd_161_7 : zt_code zq_T 161 7 = some (.newarray .int, 2, 20) := by decide +kernel
theorem cd_161_9 : zt_code zq_T 161 9 = some (.putfield 11, 3, 0) := by decide +kernel
theorem cd_161_12 : zt_code zq_T 161 12 = some (.return_, 1, 0) := by decide +kernel
theorem cd_162_0 : zt_code zq_T 162 0 = some (.aload_n 1, 1, 0) := by decide +kernel
theorem cd_162_1 : zt_code zq_T 162 1 = some (.getfield 15, 3, 0) := by decide +kernel
theorem cd_162_4 : zt_code zq_T 162 4 = some (.ifnonnull (4), 3, 0) := by decide +kernel
theorem cd_162_7 : zt_code zq_T 162 7 = some (.return_, 1, 0) := by decide +kernel
theorem cd_162_8 : zt_code zq_T 162 8 = some (.aload_n 0, 1, 0) := by decide +kernel
theorem cd_162_9 : zt_code zq_T 162 9 = some (.aload_n 1, 1, 0) := by decide +kernel
theorem cd_162_10 : zt_code zq_T 162 10 = some (.aload_n 1, 1, 0) := by decide +kernel
theorem cd_162_11 : zt_code zq_T 162 11 = some (.getfield 15, 3, 0) := by decide +kernel
theorem cd_162_14 : zt_code zq_T 162 14 = some (.iconst 0, 1, 0) := by decide +kernel
theorem cd_162_15 : zt_code zq_T 162 15 = some (.invokevirtual 21, 3, 0) := by decide +kernel
theorem cd_162_18 : zt_code zq_T 162 18 = some (.iconst 0, 1, 0) := by decide +kernel
theorem cd_162_19 : zt_code zq_T 162 19 = some (.istore_n 2, 1, 0) := by decide +kernel
theorem cd_162_20 : zt_code zq_T 162 20 = some (.iload_n 2, 1, 0) := by decide +kernel
theorem cd_162_21 : zt_code zq_T 162 21 = some (.aload_n 1, 1, 0) := by decide +kernel
theorem cd_162_22 : zt_code zq_T 162 22 = some (.getfield 25, 3, 0) := by decide +kernel
theorem cd_162_25 : zt_code zq_T 162 25 = some (.if_icmp .ge (75), 3, 0) := by decide +kernel
theorem cd_162_28 : zt_code zq_T 162 28 = some (.aload_n 1, 1, 0) := by decide +kernel
theorem cd_162_29 : zt_code zq_T 162 29 = some (.getfield 29, 3, 0) := by decide +kernel
theorem cd_162_32 : zt_code zq_T 162 32 = some (.iload_n 2, 1, 0) := by decide +kernel
theorem cd_162_33 : zt_code zq_T 162 33 = some (.aaload, 1, 0) := by decide +kernel
theorem cd_162_34 : zt_code zq_T 162 34 = some (.astore_n 3, 1, 0) := by decide +kernel
theorem cd_162_35 : zt_code zq_T 162 35 = some (.aload_n 1, 1, 0) := by decide +kernel
theorem cd_162_36 : zt_code zq_T 162 36 = some (.getfield 33, 3, 0) := by decide +kernel
theorem cd_162_39 : zt_code zq_T 162 39 = some (.iload_n 2, 1, 0) := by decide +kernel
theorem cd_162_40 : zt_code zq_T 162 40 = some (.iaload, 1, 0) := by decide +kernel
theorem cd_162_41 : zt_code zq_T 162 41 = some (.iconst 1, 1, 0) := by decide +kernel
theorem cd_162_42 : zt_code zq_T 162 42 = some (.if_icmp .lt (24), 3, 0) := by decide +kernel
theorem cd_162_45 : zt_code zq_T 162 45 = some (.aload_n 3, 1, 0) := by decide +kernel
theorem cd_162_46 : zt_code zq_T 162 46 = some (.ifnull (24), 3, 0) := by decide +kernel
theorem cd_162_49 : zt_code zq_T 162 49 = some (.aload_n 3, 1, 0) := by decide +kernel
theorem cd_162_50 : zt_code zq_T 162 50 = some (.getfield 36, 3, 0) := by decide +kernel
theorem cd_162_53 : zt_code zq_T 162 53 = some (.ifnull (17), 3, 0) := by decide +kernel
theorem cd_162_56 : zt_code zq_T 162 56 = some (.aload_n 3, 1, 0) := by decide +kernel
theorem cd_162_57 : zt_code zq_T 162 57 = some (.getfield 36, 3, 0) := by decide +kernel
theorem cd_162_60 : zt_code zq_T 162 60 = some (.getfield 41, 3, 0) := by decide +kernel
theorem cd_162_63 : zt_code zq_T 162 63 = some (.ifCond .eq (7), 3, 0) := by decide +kernel
theorem cd_162_66 : zt_code zq_T 162 66 = some (.iconst 1, 1, 0) := by decide +kernel
theorem cd_162_67 : zt_code zq_T 162 67 = some (.goto (4), 3, 0) := by decide +kernel
theorem cd_162_70 : zt_code zq_T 162 70 = some (.iconst 0, 1, 0) := by decide +kernel
theorem cd_162_71 : zt_code zq_T 162 71 = some (.istore 4, 2, 0) := by decide +kernel
theorem cd_162_73 : zt_code zq_T 162 73 = some (.aload_n 1, 1, 0) := by decide +kernel
theorem cd_162_74 : zt_code zq_T 162 74 = some (.getfield 45, 3, 0) := by decide +kernel
theorem cd_162_77 : zt_code zq_T 162 77 = some (.iload_n 2, 1, 0) := by decide +kernel
theorem cd_162_78 : zt_code zq_T 162 78 = some (.iload 4, 2, 0) := by decide +kernel
theorem cd_162_80 : zt_code zq_T 162 80 = some (.ifCond .eq (7), 3, 0) := by decide +kernel
theorem cd_162_83 : zt_code zq_T 162 83 = some (.iconst 1, 1, 0) := by decide +kernel
theorem cd_162_84 : zt_code zq_T 162 84 = some (.goto (9), 3, 0) := by decide +kernel
theorem cd_162_87 : zt_code zq_T 162 87 = some (.aload_n 1, 1, 0) := by decide +kernel
theorem cd_162_88 : zt_code zq_T 162 88 = some (.getfield 33, 3, 0) := by decide +kernel
theorem cd_162_91 : zt_code zq_T 162 91 = some (.iload_n 2, 1, 0) := by decide +kernel
theorem cd_162_92 : zt_code zq_T 162 92 = some (.iaload, 1, 0) := by decide +kernel
theorem cd_162_93 : zt_code zq_T 162 93 = some (.iastore, 1, 0) := by decide +kernel
theorem cd_162_94 : zt_code zq_T 162 94 = some (.iinc 2 (1), 3, 0) := by decide +kernel
theorem cd_162_97 : zt_code zq_T 162 97 = some (.goto (-77), 3, 0) := by decide +kernel
theorem cd_162_100 : zt_code zq_T 162 100 = some (.iconst 0, 1, 0) := by decide +kernel
theorem cd_162_101 : zt_code zq_T 162 101 = some (.istore_n 2, 1, 0) := by decide +kernel
theorem cd_162_102 : zt_code zq_T 162 102 = some (.iload_n 2, 1, 0) := by decide +kernel
theorem cd_162_103 : zt_code zq_T 162 103 = some (.aload_n 1, 1, 0) := by decide +kernel
theorem cd_162_104 : zt_code zq_T 162 104 = some (.getfield 48, 3, 0) := by decide +kernel
theorem cd_162_107 : zt_code zq_T 162 107 = some (.if_icmp .ge (85), 3, 0) := by decide +kernel
theorem cd_162_110 : zt_code zq_T 162 110 = some (.aload_n 1, 1, 0) := by decide +kernel
theorem cd_162_111 : zt_code zq_T 162 111 = some (.getfield 51, 3, 0) := by decide +kernel
theorem cd_162_114 : zt_code zq_T 162 114 = some (.iload_n 2, 1, 0) := by decide +kernel
theorem cd_162_115 : zt_code zq_T 162 115 = some (.aaload, 1, 0) := by decide +kernel
theorem cd_162_116 : zt_code zq_T 162 116 = some (.ifnonnull (7), 3, 0) := by decide +kernel
theorem cd_162_119 : zt_code zq_T 162 119 = some (.aconst_null, 1, 3) := by decide +kernel
theorem cd_162_120 : zt_code zq_T 162 120 = some (.goto (12), 3, 0) := by decide +kernel
theorem cd_162_123 : zt_code zq_T 162 123 = some (.aload_n 1, 1, 0) := by decide +kernel
theorem cd_162_124 : zt_code zq_T 162 124 = some (.getfield 51, 3, 0) := by decide +kernel
theorem cd_162_127 : zt_code zq_T 162 127 = some (.iload_n 2, 1, 0) := by decide +kernel
theorem cd_162_128 : zt_code zq_T 162 128 = some (.aaload, 1, 0) := by decide +kernel
theorem cd_162_129 : zt_code zq_T 162 129 = some (.invokevirtual 54, 3, 0) := by decide +kernel
theorem cd_162_132 : zt_code zq_T 162 132 = some (.astore_n 3, 1, 0) := by decide +kernel
theorem cd_162_133 : zt_code zq_T 162 133 = some (.aload_n 3, 1, 0) := by decide +kernel
theorem cd_162_134 : zt_code zq_T 162 134 = some (.ifnonnull (7), 3, 0) := by decide +kernel
theorem cd_162_137 : zt_code zq_T 162 137 = some (.aconst_null, 1, 3) := by decide +kernel
theorem cd_162_138 : zt_code zq_T 162 138 = some (.goto (7), 3, 0) := by decide +kernel
theorem cd_162_141 : zt_code zq_T 162 141 = some (.aload_n 3, 1, 0) := by decide +kernel
theorem cd_162_142 : zt_code zq_T 162 142 = some (.invokevirtual 54, 3, 0) := by decide +kernel
theorem cd_162_145 : zt_code zq_T 162 145 = some (.astore 4, 2, 0) := by decide +kernel
theorem cd_162_147 : zt_code zq_T 162 147 = some (.aload_n 1, 1, 0) := by decide +kernel
theorem cd_162_148 : zt_code zq_T 162 148 = some (.getfield 58, 3, 0) := by decide +kernel
theorem cd_162_151 : zt_code zq_T 162 151 = some (.iload_n 2, 1, 0) := by decide +kernel
theorem cd_162_152 : zt_code zq_T 162 152 = some (.aload 4, 2, 0) := by decide +kernel
theorem cd_162_154 : zt_code zq_T 162 154 = some (.ifnonnull (7), 3, 0) := by decide +kernel
theorem cd_162_157 : zt_code zq_T 162 157 = some (.aload_n 3, 1, 0) := by decide +kernel
theorem cd_162_158 : zt_code zq_T 162 158 = some (.goto (5), 3, 0) := by decide +kernel
theorem cd_162_161 : zt_code zq_T 162 161 = some (.aload 4, 2, 0) := by decide +kernel
theorem cd_162_163 : zt_code zq_T 162 163 = some (.invokestatic 61, 3, 0) := by decide +kernel
theorem cd_162_166 : zt_code zq_T 162 166 = some (.iastore, 1, 0) := by decide +kernel
theorem cd_162_167 : zt_code zq_T 162 167 = some (.aload_n 1, 1, 0) := by decide +kernel
theorem cd_162_168 : zt_code zq_T 162 168 = some (.getfield 65, 3, 0) := by decide +kernel
theorem cd_162_171 : zt_code zq_T 162 171 = some (.iload_n 2, 1, 0) := by decide +kernel
theorem cd_162_172 : zt_code zq_T 162 172 = some (.aload 4, 2, 0) := by decide +kernel
theorem cd_162_174 : zt_code zq_T 162 174 = some (.ifnonnull (7), 3, 0) := by decide +kernel
theorem cd_162_177 : zt_code zq_T 162 177 = some (.iconst (-1), 1, 0) := by decide +kernel
theorem cd_162_178 : zt_code zq_T 162 178 = some (.goto (7), 3, 0) := by decide +kernel
theorem cd_162_181 : zt_code zq_T 162 181 = some (.aload_n 3, 1, 0) := by decide +kernel
theorem cd_162_182 : zt_code zq_T 162 182 = some (.getfield 68, 3, 0) := by decide +kernel
theorem cd_162_185 : zt_code zq_T 162 185 = some (.iastore, 1, 0) := by decide +kernel
theorem cd_162_186 : zt_code zq_T 162 186 = some (.iinc 2 (1), 3, 0) := by decide +kernel
theorem cd_162_189 : zt_code zq_T 162 189 = some (.goto (-87), 3, 0) := by decide +kernel
theorem cd_162_192 : zt_code zq_T 162 192 = some (.return_, 1, 0) := by decide +kernel
theorem cd_163_0 : zt_code zq_T 163 0 = some (.iload_n 3, 1, 0) := by decide +kernel
theorem cd_163_1 : zt_code zq_T 163 1 = some (.bipush (40), 2, 0) := by decide +kernel
theorem cd_163_3 : zt_code zq_T 163 3 = some (.if_icmp .le (4), 3, 0) := by decide +kernel
theorem cd_163_6 : zt_code zq_T 163 6 = some (.return_, 1, 0) := by decide +kernel
theorem cd_163_7 : zt_code zq_T 163 7 = some (.aload_n 2, 1, 0) := by decide +kernel
theorem cd_163_8 : zt_code zq_T 163 8 = some (.getfield 36, 3, 0) := by decide +kernel
theorem cd_163_11 : zt_code zq_T 163 11 = some (.astore 4, 2, 0) := by decide +kernel
theorem cd_163_13 : zt_code zq_T 163 13 = some (.aload 4, 2, 0) := by decide +kernel
theorem cd_163_15 : zt_code zq_T 163 15 = some (.ifnull (23), 3, 0) := by decide +kernel
theorem cd_163_18 : zt_code zq_T 163 18 = some (.aload_n 0, 1, 0) := by decide +kernel
theorem cd_163_19 : zt_code zq_T 163 19 = some (.aload_n 1, 1, 0) := by decide +kernel
theorem cd_163_20 : zt_code zq_T 163 20 = some (.aload 4, 2, 0) := by decide +kernel
theorem cd_163_22 : zt_code zq_T 163 22 = some (.iload_n 3, 1, 0) := by decide +kernel
theorem cd_163_23 : zt_code zq_T 163 23 = some (.iconst 1, 1, 0) := by decide +kernel
theorem cd_163_24 : zt_code zq_T 163 24 = some (.iadd, 1, 0) := by decide +kernel
theorem cd_163_25 : zt_code zq_T 163 25 = some (.invokevirtual 21, 3, 0) := by decide +kernel
theorem cd_163_28 : zt_code zq_T 163 28 = some (.aload 4, 2, 0) := by decide +kernel
theorem cd_163_30 : zt_code zq_T 163 30 = some (.getfield 71, 3, 0) := by decide +kernel
theorem cd_163_33 : zt_code zq_T 163 33 = some (.astore 4, 2, 0) := by decide +kernel
theorem cd_163_35 : zt_code zq_T 163 35 = some (.goto (-22), 3, 0) := by decide +kernel
theorem cd_163_38 : zt_code zq_T 163 38 = some (.aload_n 0, 1, 0) := by decide +kernel
theorem cd_163_39 : zt_code zq_T 163 39 = some (.aload_n 2, 1, 0) := by decide +kernel
theorem cd_163_40 : zt_code zq_T 163 40 = some (.invokevirtual 74, 3, 0) := by decide +kernel
theorem cd_163_43 : zt_code zq_T 163 43 = some (.aload_n 2, 1, 0) := by decide +kernel
theorem cd_163_44 : zt_code zq_T 163 44 = some (.getfield 78, 3, 0) := by decide +kernel
theorem cd_163_47 : zt_code zq_T 163 47 = some (.tableswitch (91) (0) (4) #[33, 41, 49, 57, 65], 33, 0) := by decide +kernel
theorem cd_163_80 : zt_code zq_T 163 80 = some (.aload_n 0, 1, 0) := by decide +kernel
theorem cd_163_81 : zt_code zq_T 163 81 = some (.aload_n 2, 1, 0) := by decide +kernel
theorem cd_163_82 : zt_code zq_T 163 82 = some (.invokevirtual 81, 3, 0) := by decide +kernel
theorem cd_163_85 : zt_code zq_T 163 85 = some (.goto (58), 3, 0) := by decide +kernel
theorem cd_163_88 : zt_code zq_T 163 88 = some (.aload_n 0, 1, 0) := by decide +kernel
theorem cd_163_89 : zt_code zq_T 163 89 = some (.aload_n 2, 1, 0) := by decide +kernel
theorem cd_163_90 : zt_code zq_T 163 90 = some (.invokevirtual 84, 3, 0) := by decide +kernel
theorem cd_163_93 : zt_code zq_T 163 93 = some (.goto (50), 3, 0) := by decide +kernel
theorem cd_163_96 : zt_code zq_T 163 96 = some (.aload_n 0, 1, 0) := by decide +kernel
theorem cd_163_97 : zt_code zq_T 163 97 = some (.aload_n 2, 1, 0) := by decide +kernel
theorem cd_163_98 : zt_code zq_T 163 98 = some (.invokevirtual 87, 3, 0) := by decide +kernel
theorem cd_163_101 : zt_code zq_T 163 101 = some (.goto (42), 3, 0) := by decide +kernel
theorem cd_163_104 : zt_code zq_T 163 104 = some (.aload_n 0, 1, 0) := by decide +kernel
theorem cd_163_105 : zt_code zq_T 163 105 = some (.aload_n 2, 1, 0) := by decide +kernel
theorem cd_163_106 : zt_code zq_T 163 106 = some (.invokevirtual 90, 3, 0) := by decide +kernel
theorem cd_163_109 : zt_code zq_T 163 109 = some (.goto (34), 3, 0) := by decide +kernel
theorem cd_163_112 : zt_code zq_T 163 112 = some (.aload_n 0, 1, 0) := by decide +kernel
theorem cd_163_113 : zt_code zq_T 163 113 = some (.aload_n 2, 1, 0) := by decide +kernel
theorem cd_163_114 : zt_code zq_T 163 114 = some (.aload_n 1, 1, 0) := by decide +kernel
theorem cd_163_115 : zt_code zq_T 163 115 = some (.getfield 33, 3, 0) := by decide +kernel
theorem cd_163_118 : zt_code zq_T 163 118 = some (.aload_n 2, 1, 0) := by decide +kernel
theorem cd_163_119 : zt_code zq_T 163 119 = some (.getfield 68, 3, 0) := by decide +kernel
theorem cd_163_122 : zt_code zq_T 163 122 = some (.iaload, 1, 0) := by decide +kernel
theorem cd_163_123 : zt_code zq_T 163 123 = some (.aload_n 1, 1, 0) := by decide +kernel
theorem cd_163_124 : zt_code zq_T 163 124 = some (.getfield 93, 3, 0) := by decide +kernel
theorem cd_163_127 : zt_code zq_T 163 127 = some (.aload_n 2, 1, 0) := by decide +kernel
theorem cd_163_128 : zt_code zq_T 163 128 = some (.getfield 68, 3, 0) := by decide +kernel
theorem cd_163_131 : zt_code zq_T 163 131 = some (.iaload, 1, 0) := by decide +kernel
theorem cd_163_132 : zt_code zq_T 163 132 = some (.invokevirtual 96, 3, 0) := by decide +kernel
theorem cd_163_135 : zt_code zq_T 163 135 = some (.goto (8), 3, 0) := by decide +kernel
theorem cd_163_138 : zt_code zq_T 163 138 = some (.aload_n 0, 1, 0) := by decide +kernel
theorem cd_163_139 : zt_code zq_T 163 139 = some (.aload_n 2, 1, 0) := by decide +kernel
theorem cd_163_140 : zt_code zq_T 163 140 = some (.invokevirtual 100, 3, 0) := by decide +kernel
theorem cd_163_143 : zt_code zq_T 163 143 = some (.return_, 1, 0) := by decide +kernel
theorem cd_164_0 : zt_code zq_T 164 0 = some (.aload_n 1, 1, 0) := by decide +kernel
theorem cd_164_1 : zt_code zq_T 164 1 = some (.iconst 0, 1, 0) := by decide +kernel
theorem cd_164_2 : zt_code zq_T 164 2 = some (.putfield 103, 3, 0) := by decide +kernel
theorem cd_164_5 : zt_code zq_T 164 5 = some (.aload_n 1, 1, 0) := by decide +kernel
theorem cd_164_6 : zt_code zq_T 164 6 = some (.iconst 0, 1, 0) := by decide +kernel
theorem cd_164_7 : zt_code zq_T 164 7 = some (.putfield 106, 3, 0) := by decide +kernel
theorem cd_164_10 : zt_code zq_T 164 10 = some (.aload_n 1, 1, 0) := by decide +kernel
theorem cd_164_11 : zt_code zq_T 164 11 = some (.iconst 0, 1, 0) := by decide +kernel
theorem cd_164_12 : zt_code zq_T 164 12 = some (.putfield 109, 3, 0) := by decide +kernel
theorem cd_164_15 : zt_code zq_T 164 15 = some (.aload_n 1, 1, 0) := by decide +kernel
theorem cd_164_16 : zt_code zq_T 164 16 = some (.getfield 36, 3, 0) := by decide +kernel
theorem cd_164_19 : zt_code zq_T 164 19 = some (.astore_n 2, 1, 0) := by decide +kernel
theorem cd_164_20 : zt_code zq_T 164 20 = some (.aload_n 2, 1, 0) := by decide +kernel
theorem cd_164_21 : zt_code zq_T 164 21 = some (.ifnull (50), 3, 0) := by decide +kernel
theorem cd_164_24 : zt_code zq_T 164 24 = some (.aload_n 1, 1, 0) := by decide +kernel
theorem cd_164_25 : zt_code zq_T 164 25 = some (.dup, 1, 0) := by decide +kernel
theorem cd_164_26 : zt_code zq_T 164 26 = some (.getfield 103, 3, 0) := by decide +kernel
theorem cd_164_29 : zt_code zq_T 164 29 = some (.aload_n 2, 1, 0) := by decide +kernel
theorem cd_164_30 : zt_code zq_T 164 30 = some (.getfield 103, 3, 0) := by decide +kernel
theorem cd_164_33 : zt_code zq_T 164 33 = some (.ior, 1, 0) := by decide +kernel
theorem cd_164_34 : zt_code zq_T 164 34 = some (.putfield 103, 3, 0) := by decide +kernel
theorem cd_164_37 : zt_code zq_T 164 37 = some (.aload_n 1, 1, 0) := by decide +kernel
theorem cd_164_38 : zt_code zq_T 164 38 = some (.dup, 1, 0) := by decide +kernel
theorem cd_164_39 : zt_code zq_T 164 39 = some (.getfield 106, 3, 0) := by decide +kernel
theorem cd_164_42 : zt_code zq_T 164 42 = some (.aload_n 2, 1, 0) := by decide +kernel
theorem cd_164_43 : zt_code zq_T 164 43 = some (.getfield 106, 3, 0) := by decide +kernel
theorem cd_164_46 : zt_code zq_T 164 46 = some (.ior, 1, 0) := by decide +kernel
theorem cd_164_47 : zt_code zq_T 164 47 = some (.putfield 106, 3, 0) := by decide +kernel
theorem cd_164_50 : zt_code zq_T 164 50 = some (.aload_n 1, 1, 0) := by decide +kernel
theorem cd_164_51 : zt_code zq_T 164 51 = some (.dup, 1, 0) := by decide +kernel
theorem cd_164_52 : zt_code zq_T 164 52 = some (.getfield 109, 3, 0) := by decide +kernel
theorem cd_164_55 : zt_code zq_T 164 55 = some (.aload_n 2, 1, 0) := by decide +kernel
theorem cd_164_56 : zt_code zq_T 164 56 = some (.getfield 109, 3, 0) := by decide +kernel
theorem cd_164_59 : zt_code zq_T 164 59 = some (.ior, 1, 0) := by decide +kernel
theorem cd_164_60 : zt_code zq_T 164 60 = some (.putfield 109, 3, 0) := by decide +kernel
theorem cd_164_63 : zt_code zq_T 164 63 = some (.aload_n 2, 1, 0) := by decide +kernel
theorem cd_164_64 : zt_code zq_T 164 64 = some (.getfield 71, 3, 0) := by decide +kernel
theorem cd_164_67 : zt_code zq_T 164 67 = some (.astore_n 2, 1, 0) := by decide +kernel
theorem cd_164_68 : zt_code zq_T 164 68 = some (.goto (-48), 3, 0) := by decide +kernel
theorem cd_164_71 : zt_code zq_T 164 71 = some (.iconst 0, 1, 0) := by decide +kernel
theorem cd_164_72 : zt_code zq_T 164 72 = some (.istore_n 2, 1, 0) := by decide +kernel
theorem cd_164_73 : zt_code zq_T 164 73 = some (.iload_n 2, 1, 0) := by decide +kernel
theorem cd_164_74 : zt_code zq_T 164 74 = some (.iconst 5, 1, 0) := by decide +kernel
theorem cd_164_75 : zt_code zq_T 164 75 = some (.if_icmp .ge (16), 3, 0) := by decide +kernel
theorem cd_164_78 : zt_code zq_T 164 78 = some (.aload_n 1, 1, 0) := by decide +kernel
theorem cd_164_79 : zt_code zq_T 164 79 = some (.getfield 112, 3, 0) := by decide +kernel
theorem cd_164_82 : zt_code zq_T 164 82 = some (.iload_n 2, 1, 0) := by decide +kernel
theorem cd_164_83 : zt_code zq_T 164 83 = some (.iconst 0, 1, 0) := by decide +kernel
theorem cd_164_84 : zt_code zq_T 164 84 = some (.iastore, 1, 0) := by decide +kernel
theorem cd_164_85 : zt_code zq_T 164 85 = some (.iinc 2 (1), 3, 0) := by decide +kernel
theorem cd_164_88 : zt_code zq_T 164 88 = some (.goto (-15), 3, 0) := by decide +kernel
theorem cd_164_91 : zt_code zq_T 164 91 = some (.return_, 1, 0) := by decide +kernel
theorem cd_165_0 : zt_code zq_T 165 0 = some (.aload_n 1, 1, 0) := by decide +kernel
theorem cd_165_1 : zt_code zq_T 165 1 = some (.iconst 1, 1, 0) := by decide +kernel
theorem cd_165_2 : zt_code zq_T 165 2 = some (.aload_n 1, 1, 0) := by decide +kernel
theorem cd_165_3 : zt_code zq_T 165 3 = some (.getfield 68, 3, 0) := by decide +kernel
theorem cd_165_6 : zt_code zq_T 165 6 = some (.ishl, 1, 0) := by decide +kernel
theorem cd_165_7 : zt_code zq_T 165 7 = some (.putfield 103, 3, 0) := by decide +kernel
theorem cd_165_10 : zt_code zq_T 165 10 = some (.aload_n 1, 1, 0) := by decide +kernel
theorem cd_165_11 : zt_code zq_T 165 11 = some (.aload_n 1, 1, 0) := by decide +kernel
theorem cd_165_12 : zt_code zq_T 165 12 = some (.getfield 103, 3, 0) := by decide +kernel
theorem cd_165_15 : zt_code zq_T 165 15 = some (.putfield 106, 3, 0) := by decide +kernel
theorem cd_165_18 : zt_code zq_T 165 18 = some (.aload_n 1, 1, 0) := by decide +kernel
theorem cd_165_19 : zt_code zq_T 165 19 = some (.aload_n 1, 1, 0) := by decide +kernel
theorem cd_165_20 : zt_code zq_T 165 20 = some (.getfield 103, 3, 0) := by decide +kernel
theorem cd_165_23 : zt_code zq_T 165 23 = some (.putfield 109, 3, 0) := by decide +kernel
theorem cd_165_26 : zt_code zq_T 165 26 = some (.aload_n 1, 1, 0) := by decide +kernel
theorem cd_165_27 : zt_code zq_T 165 27 = some (.iconst 0, 1, 0) := by decide +kernel
theorem cd_165_28 : zt_code zq_T 165 28 = some (.putfield 41, 3, 0) := by decide +kernel
theorem cd_165_31 : zt_code zq_T 165 31 = some (.aload_n 1, 1, 0) := by decide +kernel
theorem cd_165_32 : zt_code zq_T 165 32 = some (.iconst 1, 1, 0) := by decide +kernel
theorem cd_165_33 : zt_code zq_T 165 33 = some (.putfield 115, 3, 0) := by decide +kernel
theorem cd_165_36 : zt_code zq_T 165 36 = some (.aload_n 1, 1, 0) := by decide +kernel
theorem cd_165_37 : zt_code zq_T 165 37 = some (.iconst 1, 1, 0) := by decide +kernel
theorem cd_165_38 : zt_code zq_T 165 38 = some (.putfield 118, 3, 0) := by decide +kernel
theorem cd_165_41 : zt_code zq_T 165 41 = some (.aload_n 1, 1, 0) := by decide +kernel
theorem cd_165_42 : zt_code zq_T 165 42 = some (.getfield 112, 3, 0) := by decide +kernel
theorem cd_165_45 : zt_code zq_T 165 45 = some (.iconst 1, 1, 0) := by decide +kernel
theorem cd_165_46 : zt_code zq_T 165 46 = some (.iconst 1, 1, 0) := by decide +kernel
theorem cd_165_47 : zt_code zq_T 165 47 = some (.iastore, 1, 0) := by decide +kernel
theorem cd_165_48 : zt_code zq_T 165 48 = some (.return_, 1, 0) := by decide +kernel
theorem cd_166_0 : zt_code zq_T 166 0 = some (.aload_n 1, 1, 0) := by decide +kernel
theorem cd_166_1 : zt_code zq_T 166 1 = some (.iconst 1, 1, 0) := by decide +kernel
theorem cd_166_2 : zt_code zq_T 166 2 = some (.putfield 41, 3, 0) := by decide +kernel
theorem cd_166_5 : zt_code zq_T 166 5 = some (.aload_n 1, 1, 0) := by decide +kernel
theorem cd_166_6 : zt_code zq_T 166 6 = some (.iconst 0, 1, 0) := by decide +kernel
theorem cd_166_7 : zt_code zq_T 166 7 = some (.putfield 115, 3, 0) := by decide +kernel
theorem cd_166_10 : zt_code zq_T 166 10 = some (.aload_n 1, 1, 0) := by decide +kernel
theorem cd_166_11 : zt_code zq_T 166 11 = some (.iconst 0, 1, 0) := by decide +kernel
theorem cd_166_12 : zt_code zq_T 166 12 = some (.putfield 118, 3, 0) := by decide +kernel
theorem cd_166_15 : zt_code zq_T 166 15 = some (.return_, 1, 0) := by decide +kernel
theorem cd_167_0 : zt_code zq_T 167 0 = some (.iconst 1, 1, 0) := by decide +kernel
theorem cd_167_1 : zt_code zq_T 167 1 = some (.istore_n 2, 1, 0) := by decide +kernel
theorem cd_167_2 : zt_code zq_T 167 2 = some (.aload_n 1, 1, 0) := by decide +kernel
theorem cd_167_3 : zt_code zq_T 167 3 = some (.iconst 0, 1, 0) := by decide +kernel
theorem cd_167_4 : zt_code zq_T 167 4 = some (.putfield 103, 3, 0) := by decide +kernel
theorem cd_167_7 : zt_code zq_T 167 7 = some (.aload_n 1, 1, 0) := by decide +kernel
theorem cd_167_8 : zt_code zq_T 167 8 = some (.iconst 0, 1, 0) := by decide +kernel
theorem cd_167_9 : zt_code zq_T 167 9 = some (.putfield 106, 3, 0) := by decide +kernel
theorem cd_167_12 : zt_code zq_T 167 12 = some (.aload_n 0, 1, 0) := by decide +kernel
theorem cd_167_13 : zt_code zq_T 167 13 = some (.iconst 0, 1, 0) := by decide +kernel
theorem cd_167_14 : zt_code zq_T 167 14 = some (.invokevirtual 121, 3, 0) := by decide +kernel
theorem cd_167_17 : zt_code zq_T 167 17 = some (.aload_n 1, 1, 0) := by decide +kernel
theorem cd_167_18 : zt_code zq_T 167 18 = some (.getfield 36, 3, 0) := by decide +kernel
theorem cd_167_21 : zt_code zq_T 167 21 = some (.astore_n 3, 1, 0) := by decide +kernel
theorem cd_167_22 : zt_code zq_T 167 22 = some (.aload_n 3, 1, 0) := by decide +kernel
theorem cd_167_23 : zt_code zq_T 167 23 = some (.ifnull (81), 3, 0) := by decide +kernel
theorem cd_167_26 : zt_code zq_T 167 26 = some (.iload_n 2, 1, 0) := by decide +kernel
theorem cd_167_27 : zt_code zq_T 167 27 = some (.ifCond .eq (16), 3, 0) := by decide +kernel
theorem cd_167_30 : zt_code zq_T 167 30 = some (.aload_n 1, 1, 0) := by decide +kernel
theorem cd_167_31 : zt_code zq_T 167 31 = some (.dup, 1, 0) := by decide +kernel
theorem cd_167_32 : zt_code zq_T 167 32 = some (.getfield 103, 3, 0) := by decide +kernel
theorem cd_167_35 : zt_code zq_T 167 35 = some (.aload_n 3, 1, 0) := by decide +kernel
theorem cd_167_36 : zt_code zq_T 167 36 = some (.getfield 103, 3, 0) := by decide +kernel
theorem cd_167_39 : zt_code zq_T 167 39 = some (.ior, 1, 0) := by decide +kernel
theorem cd_167_40 : zt_code zq_T 167 40 = some (.putfield 103, 3, 0) := by decide +kernel
theorem cd_167_43 : zt_code zq_T 167 43 = some (.iload_n 2, 1, 0) := by decide +kernel
theorem cd_167_44 : zt_code zq_T 167 44 = some (.ifCond .eq (14), 3, 0) := by decide +kernel
theorem cd_167_47 : zt_code zq_T 167 47 = some (.aload_n 3, 1, 0) := by decide +kernel
theorem cd_167_48 : zt_code zq_T 167 48 = some (.getfield 41, 3, 0) := by decide +kernel
theorem cd_167_51 : zt_code zq_T 167 51 = some (.ifCond .eq (7), 3, 0) := by decide +kernel
theorem cd_167_54 : zt_code zq_T 167 54 = some (.iconst 1, 1, 0) := by decide +kernel
theorem cd_167_55 : zt_code zq_T 167 55 = some (.goto (4), 3, 0) := by decide +kernel
theorem cd_167_58 : zt_code zq_T 167 58 = some (.iconst 0, 1, 0) := by decide +kernel
theorem cd_167_59 : zt_code zq_T 167 59 = some (.istore_n 2, 1, 0) := by decide +kernel
theorem cd_167_60 : zt_code zq_T 167 60 = some (.aload_n 1, 1, 0) := by decide +kernel
theorem cd_167_61 : zt_code zq_T 167 61 = some (.aload_n 3, 1, 0) := by decide +kernel
theorem cd_167_62 : zt_code zq_T 167 62 = some (.getfield 41, 3, 0) := by decide +kernel
theorem cd_167_65 : zt_code zq_T 167 65 = some (.ifCond .eq (15), 3, 0) := by decide +kernel
theorem cd_167_68 : zt_code zq_T 167 68 = some (.aload_n 1, 1, 0) := by decide +kernel
theorem cd_167_69 : zt_code zq_T 167 69 = some (.getfield 106, 3, 0) := by decide +kernel
theorem cd_167_72 : zt_code zq_T 167 72 = some (.aload_n 3, 1, 0) := by decide +kernel
theorem cd_167_73 : zt_code zq_T 167 73 = some (.getfield 106, 3, 0) := by decide +kernel
theorem cd_167_76 : zt_code zq_T 167 76 = some (.ior, 1, 0) := by decide +kernel
theorem cd_167_77 : zt_code zq_T 167 77 = some (.goto (7), 3, 0) := by decide +kernel
theorem cd_167_80 : zt_code zq_T 167 80 = some (.aload_n 3, 1, 0) := by decide +kernel
theorem cd_167_81 : zt_code zq_T 167 81 = some (.getfield 106, 3, 0) := by decide +kernel
theorem cd_167_84 : zt_code zq_T 167 84 = some (.putfield 106, 3, 0) := by decide +kernel
theorem cd_167_87 : zt_code zq_T 167 87 = some (.aload_n 0, 1, 0) := by decide +kernel
theorem cd_167_88 : zt_code zq_T 167 88 = some (.aload_n 3, 1, 0) := by decide +kernel
theorem cd_167_89 : zt_code zq_T 167 89 = some (.aload_n 3, 1, 0) := by decide +kernel
theorem cd_167_90 : zt_code zq_T 167 90 = some (.getfield 41, 3, 0) := by decide +kernel
theorem cd_167_93 : zt_code zq_T 167 93 = some (.invokevirtual 125, 3, 0) := by decide +kernel
theorem cd_167_96 : zt_code zq_T 167 96 = some (.aload_n 3, 1, 0) := by decide +kernel
theorem cd_167_97 : zt_code zq_T 167 97 = some (.getfield 71, 3, 0) := by decide +kernel
theorem cd_167_100 : zt_code zq_T 167 100 = some (.astore_n 3, 1, 0) := by decide +kernel
theorem cd_167_101 : zt_code zq_T 167 101 = some (.goto (-79), 3, 0) := by decide +kernel
theorem cd_167_104 : zt_code zq_T 167 104 = some (.aload_n 0, 1, 0) := by decide +kernel
theorem cd_167_105 : zt_code zq_T 167 105 = some (.aload_n 1, 1, 0) := by decide +kernel
theorem cd_167_106 : zt_code zq_T 167 106 = some (.iconst 0, 1, 0) := by decide +kernel
theorem cd_167_107 : zt_code zq_T 167 107 = some (.iconst 1, 1, 0) := by decide +kernel
theorem cd_167_108 : zt_code zq_T 167 108 = some (.invokevirtual 129, 3, 0) := by decide +kernel
theorem cd_167_111 : zt_code zq_T 167 111 = some (.aload_n 0, 1, 0) := by decide +kernel
theorem cd_167_112 : zt_code zq_T 167 112 = some (.aload_n 1, 1, 0) := by decide +kernel
theorem cd_167_113 : zt_code zq_T 167 113 = some (.invokevirtual 132, 3, 0) := by decide +kernel
theorem cd_167_116 : zt_code zq_T 167 116 = some (.return_, 1, 0) := by decide +kernel
theorem cd_168_0 : zt_code zq_T 168 0 = some (.iconst 1, 1, 0) := by decide +kernel
theorem cd_168_1 : zt_code zq_T 168 1 = some (.istore_n 2, 1, 0) := by decide +kernel
theorem cd_168_2 : zt_code zq_T 168 2 = some (.iconst 0, 1, 0) := by decide +kernel
theorem cd_168_3 : zt_code zq_T 168 3 = some (.istore_n 3, 1, 0) := by decide +kernel
theorem cd_168_4 : zt_code zq_T 168 4 = some (.iconst 0, 1, 0) := by decide +kernel
theorem cd_168_5 : zt_code zq_T 168 5 = some (.istore 4, 2, 0) := by decide +kernel
theorem cd_168_7 : zt_code zq_T 168 7 = some (.aload_n 1, 1, 0) := by decide +kernel
theorem cd_168_8 : zt_code zq_T 168 8 = some (.getfield 36, 3, 0) := by decide +kernel
theorem cd_168_11 : zt_code zq_T 168 11 = some (.astore 5, 2, 0) := by decide +kernel
theorem cd_168_13 : zt_code zq_T 168 13 = some (.aload 5, 2, 0) := by decide +kernel
theorem cd_168_15 : zt_code zq_T 168 15 = some (.ifnull (68), 3, 0) := by decide +kernel
theorem cd_168_18 : zt_code zq_T 168 18 = some (.iload_n 2, 1, 0) := by decide +kernel
theorem cd_168_19 : zt_code zq_T 168 19 = some (.ifCond .eq (15), 3, 0) := by decide +kernel
theorem cd_168_22 : zt_code zq_T 168 22 = some (.aload 5, 2, 0) := by decide +kernel
theorem cd_168_24 : zt_code zq_T 168 24 = some (.getfield 41, 3, 0) := by decide +kernel
theorem cd_168_27 : zt_code zq_T 168 27 = some (.ifCond .eq (7), 3, 0) := by decide +kernel
theorem cd_168_30 : zt_code zq_T 168 30 = some (.iconst 1, 1, 0) := by decide +kernel
theorem cd_168_31 : zt_code zq_T 168 31 = some (.goto (4), 3, 0) := by decide +kernel
theorem cd_168_34 : zt_code zq_T 168 34 = some (.iconst 0, 1, 0) := by decide +kernel
theorem cd_168_35 : zt_code zq_T 168 35 = some (.istore_n 2, 1, 0) := by decide +kernel
theorem cd_168_36 : zt_code zq_T 168 36 = some (.iload_n 3, 1, 0) := by decide +kernel
theorem cd_168_37 : zt_code zq_T 168 37 = some (.aload 5, 2, 0) := by decide +kernel
theorem cd_168_39 : zt_code zq_T 168 39 = some (.getfield 115, 3, 0) := by decide +kernel
theorem cd_168_42 : zt_code zq_T 168 42 = some (.iadd, 1, 0) := by decide +kernel
theorem cd_168_43 : zt_code zq_T 168 43 = some (.istore_n 3, 1, 0) := by decide +kernel
theorem cd_168_44 : zt_code zq_T 168 44 = some (.iload 4, 2, 0) := by decide +kernel
theorem cd_168_46 : zt_code zq_T 168 46 = some (.iconst (-1), 1, 0) := by decide +kernel
theorem cd_168_47 : zt_code zq_T 168 47 = some (.if_icmp .eq (12), 3, 0) := by decide +kernel
theorem cd_168_50 : zt_code zq_T 168 50 = some (.aload 5, 2, 0) := by decide +kernel
theorem cd_168_52 : zt_code zq_T 168 52 = some (.getfield 118, 3, 0) := by decide +kernel
theorem cd_168_55 : zt_code zq_T 168 55 = some (.iconst (-1), 1, 0) := by decide +kernel
theorem cd_168_56 : zt_code zq_T 168 56 = some (.if_icmp .ne (7), 3, 0) := by decide +kernel
theorem cd_168_59 : zt_code zq_T 168 59 = some (.iconst (-1), 1, 0) := by decide +kernel
theorem cd_168_60 : zt_code zq_T 168 60 = some (.goto (11), 3, 0) := by decide +kernel
theorem cd_168_63 : zt_code zq_T 168 63 = some (.iload 4, 2, 0) := by decide +kernel
theorem cd_168_65 : zt_code zq_T 168 65 = some (.aload 5, 2, 0) := by decide +kernel
theorem cd_168_67 : zt_code zq_T 168 67 = some (.getfield 118, 3, 0) := by decide +kernel
theorem cd_168_70 : zt_code zq_T 168 70 = some (.iadd, 1, 0) := by decide +kernel
theorem cd_168_71 : zt_code zq_T 168 71 = some (.istore 4, 2, 0) := by decide +kernel
theorem cd_168_73 : zt_code zq_T 168 73 = some (.aload 5, 2, 0) := by decide +kernel
theorem cd_168_75 : zt_code zq_T 168 75 = some (.getfield 71, 3, 0) := by decide +kernel
theorem cd_168_78 : zt_code zq_T 168 78 = some (.astore 5, 2, 0) := by decide +kernel
theorem cd_168_80 : zt_code zq_T 168 80 = some (.goto (-67), 3, 0) := by decide +kernel
theorem cd_168_83 : zt_code zq_T 168 83 = some (.aload_n 1, 1, 0) := by decide +kernel
theorem cd_168_84 : zt_code zq_T 168 84 = some (.iload_n 2, 1, 0) := by decide +kernel
theorem cd_168_85 : zt_code zq_T 168 85 = some (.putfield 41, 3, 0) := by decide +kernel
theorem cd_168_88 : zt_code zq_T 168 88 = some (.aload_n 1, 1, 0) := by decide +kernel
theorem cd_168_89 : zt_code zq_T 168 89 = some (.iload_n 3, 1, 0) := by decide +kernel
theorem cd_168_90 : zt_code zq_T 168 90 = some (.putfield 115, 3, 0) := by decide +kernel
theorem cd_168_93 : zt_code zq_T 168 93 = some (.aload_n 1, 1, 0) := by decide +kernel
theorem cd_168_94 : zt_code zq_T 168 94 = some (.iload 4, 2, 0) := by decide +kernel
theorem cd_168_96 : zt_code zq_T 168 96 = some (.putfield 118, 3, 0) := by decide +kernel
theorem cd_168_99 : zt_code zq_T 168 99 = some (.return_, 1, 0) := by decide +kernel
theorem cd_169_0 : zt_code zq_T 169 0 = some (.iconst 0, 1, 0) := by decide +kernel
theorem cd_169_1 : zt_code zq_T 169 1 = some (.istore_n 2, 1, 0) := by decide +kernel
theorem cd_169_2 : zt_code zq_T 169 2 = some (.iconst (-1), 1, 0) := by decide +kernel
theorem cd_169_3 : zt_code zq_T 169 3 = some (.istore_n 3, 1, 0) := by decide +kernel
theorem cd_169_4 : zt_code zq_T 169 4 = some (.iconst 0, 1, 0) := by decide +kernel
theorem cd_169_5 : zt_code zq_T 169 5 = some (.istore 4, 2, 0) := by decide +kernel
theorem cd_169_7 : zt_code zq_T 169 7 = some (.aload_n 1, 1, 0) := by decide +kernel
theorem cd_169_8 : zt_code zq_T 169 8 = some (.getfield 36, 3, 0) := by decide +kernel
theorem cd_169_11 : zt_code zq_T 169 11 = some (.astore 5, 2, 0) := by decide +kernel
theorem cd_169_13 : zt_code zq_T 169 13 = some (.aload 5, 2, 0) := by decide +kernel
theorem cd_169_15 : zt_code zq_T 169 15 = some (.ifnull (118), 3, 0) := by decide +kernel
theorem cd_169_18 : zt_code zq_T 169 18 = some (.iload_n 2, 1, 0) := by decide +kernel
theorem cd_169_19 : zt_code zq_T 169 19 = some (.ifCond .ne (11), 3, 0) := by decide +kernel
theorem cd_169_22 : zt_code zq_T 169 22 = some (.aload 5, 2, 0) := by decide +kernel
theorem cd_169_24 : zt_code zq_T 169 24 = some (.getfield 41, 3, 0) := by decide +kernel
theorem cd_169_27 : zt_code zq_T 169 27 = some (.ifCond .eq (7), 3, 0) := by decide +kernel
theorem cd_169_30 : zt_code zq_T 169 30 = some (.iconst 1, 1, 0) := by decide +kernel
theorem cd_169_31 : zt_code zq_T 169 31 = some (.goto (4), 3, 0) := by decide +kernel
theorem cd_169_34 : zt_code zq_T 169 34 = some (.iconst 0, 1, 0) := by decide +kernel
theorem cd_169_35 : zt_code zq_T 169 35 = some (.istore_n 2, 1, 0) := by decide +kernel
theorem cd_169_36 : zt_code zq_T 169 36 = some (.iload_n 3, 1, 0) := by decide +kernel
theorem cd_169_37 : zt_code zq_T 169 37 = some (.iconst (-1), 1, 0) := by decide +kernel
theorem cd_169_38 : zt_code zq_T 169 38 = some (.if_icmp .ne (11), 3, 0) := by decide +kernel
theorem cd_169_41 : zt_code zq_T 169 41 = some (.aload 5, 2, 0) := by decide +kernel
theorem cd_169_43 : zt_code zq_T 169 43 = some (.getfield 115, 3, 0) := by decide +kernel
theorem cd_169_46 : zt_code zq_T 169 46 = some (.goto (12), 3, 0) := by decide +kernel
theorem cd_169_49 : zt_code zq_T 169 49 = some (.iload_n 3, 1, 0) := by decide +kernel
theorem cd_169_50 : zt_code zq_T 169 50 = some (.aload 5, 2, 0) := by decide +kernel
theorem cd_169_52 : zt_code zq_T 169 52 = some (.getfield 115, 3, 0) := by decide +kernel
theorem cd_169_55 : zt_code zq_T 169 55 = some (.invokestatic 135, 3, 0) := by decide +kernel
theorem cd_169_58 : zt_code zq_T 169 58 = some (.istore_n 3, 1, 0) := by decide +kernel
theorem cd_169_59 : zt_code zq_T 169 59 = some (.iload 4, 2, 0) := by decide +kernel
theorem cd_169_61 : zt_code zq_T 169 61 = some (.iconst (-1), 1, 0) := by decide +kernel
theorem cd_169_62 : zt_code zq_T 169 62 = some (.if_icmp .eq (12), 3, 0) := by decide +kernel
theorem cd_169_65 : zt_code zq_T 169 65 = some (.aload 5, 2, 0) := by decide +kernel
theorem cd_169_67 : zt_code zq_T 169 67 = some (.getfield 118, 3, 0) := by decide +kernel
theorem cd_169_70 : zt_code zq_T 169 70 = some (.iconst (-1), 1, 0) := by decide +kernel
theorem cd_169_71 : zt_code zq_T 169 71 = some (.if_icmp .ne (7), 3, 0) := by decide +kernel
theorem cd_169_74 : zt_code zq_T 169 74 = some (.iconst (-1), 1, 0) := by decide +kernel
theorem cd_169_75 : zt_code zq_T 169 75 = some (.goto (13), 3, 0) := by decide +kernel
theorem cd_169_78 : zt_code zq_T 169 78 = some (.iload 4, 2, 0) := by decide +kernel
theorem cd_169_80 : zt_code zq_T 169 80 = some (.aload 5, 2, 0) := by decide +kernel
theorem cd_169_82 : zt_code zq_T 169 82 = some (.getfield 118, 3, 0) := by decide +kernel
theorem cd_169_85 : zt_code zq_T 169 85 = some (.invokestatic 141, 3, 0) := by decide +kernel
theorem cd_169_88 : zt_code zq_T 169 88 = some (.istore 4, 2, 0) := by decide +kernel
theorem cd_169_90 : zt_code zq_T 169 90 = some (.iconst 1, 1, 0) := by decide +kernel
theorem cd_169_91 : zt_code zq_T 169 91 = some (.istore 6, 2, 0) := by decide +kernel
theorem cd_169_93 : zt_code zq_T 169 93 = some (.iload 6, 2, 0) := by decide +kernel
theorem cd_169_95 : zt_code zq_T 169 95 = some (.iconst 5, 1, 0) := by decide +kernel
theorem cd_169_96 : zt_code zq_T 169 96 = some (.if_icmp .ge (27), 3, 0) := by decide +kernel
theorem cd_169_99 : zt_code zq_T 169 99 = some (.aload_n 1, 1, 0) := by decide +kernel
theorem cd_169_100 : zt_code zq_T 169 100 = some (.getfield 112, 3, 0) := by decide +kernel
theorem cd_169_103 : zt_code zq_T 169 103 = some (.iload 6, 2, 0) := by decide +kernel
theorem cd_169_105 : zt_code zq_T 169 105 = some (.dup2, 1, 0) := by decide +kernel
theorem cd_169_106 : zt_code zq_T 169 106 = some (.iaload, 1, 0) := by decide +kernel
theorem cd_169_107 : zt_code zq_T 169 107 = some (.aload 5, 2, 0) := by decide +kernel
theorem cd_169_109 : zt_code zq_T 169 109 = some (.getfield 112, 3, 0) := by decide +kernel
theorem cd_169_112 : zt_code zq_T 169 112 = some (.iload 6, 2, 0) := by decide +kernel
theorem cd_169_114 : zt_code zq_T 169 114 = some (.iaload, 1, 0) := by decide +kernel
theorem cd_169_115 : zt_code zq_T 169 115 = some (.iadd, 1, 0) := by decide +kernel
theorem cd_169_116 : zt_code zq_T 169 116 = some (.iastore, 1, 0) := by decide +kernel
theorem cd_169_117 : zt_code zq_T 169 117 = some (.iinc 6 (1), 3, 0) := by decide +kernel
theorem cd_169_120 : zt_code zq_T 169 120 = some (.goto (-27), 3, 0) := by decide +kernel
theorem cd_169_123 : zt_code zq_T 169 123 = some (.aload 5, 2, 0) := by decide +kernel
theorem cd_169_125 : zt_code zq_T 169 125 = some (.getfield 71, 3, 0) := by decide +kernel
theorem cd_169_128 : zt_code zq_T 169 128 = some (.astore 5, 2, 0) := by decide +kernel
theorem cd_169_130 : zt_code zq_T 169 130 = some (.goto (-117), 3, 0) := by decide +kernel
theorem cd_169_133 : zt_code zq_T 169 133 = some (.aload_n 1, 1, 0) := by decide +kernel
theorem cd_169_134 : zt_code zq_T 169 134 = some (.iload_n 2, 1, 0) := by decide +kernel
theorem cd_169_135 : zt_code zq_T 169 135 = some (.putfield 41, 3, 0) := by decide +kernel
theorem cd_169_138 : zt_code zq_T 169 138 = some (.aload_n 1, 1, 0) := by decide +kernel
theorem cd_169_139 : zt_code zq_T 169 139 = some (.iload_n 3, 1, 0) := by decide +kernel
theorem cd_169_140 : zt_code zq_T 169 140 = some (.putfield 115, 3, 0) := by decide +kernel
theorem cd_169_143 : zt_code zq_T 169 143 = some (.aload_n 1, 1, 0) := by decide +kernel
theorem cd_169_144 : zt_code zq_T 169 144 = some (.iload 4, 2, 0) := by decide +kernel
theorem cd_169_146 : zt_code zq_T 169 146 = some (.putfield 118, 3, 0) := by decide +kernel
theorem cd_169_149 : zt_code zq_T 169 149 = some (.return_, 1, 0) := by decide +kernel
theorem cd_170_0 : zt_code zq_T 170 0 = some (.aload_n 1, 1, 0) := by decide +kernel
theorem cd_170_1 : zt_code zq_T 170 1 = some (.getfield 36, 3, 0) := by decide +kernel
theorem cd_170_4 : zt_code zq_T 170 4 = some (.astore 4, 2, 0) := by decide +kernel
theorem cd_170_6 : zt_code zq_T 170 6 = some (.aload 4, 2, 0) := by decide +kernel
theorem cd_170_8 : zt_code zq_T 170 8 = some (.ifnonnull (4), 3, 0) := by decide +kernel
theorem cd_170_11 : zt_code zq_T 170 11 = some (.return_, 1, 0) := by decide +kernel
theorem cd_170_12 : zt_code zq_T 170 12 = some (.aload 4, 2, 0) := by decide +kernel
theorem cd_170_14 : zt_code zq_T 170 14 = some (.getfield 41, 3, 0) := by decide +kernel
theorem cd_170_17 : zt_code zq_T 170 17 = some (.ifCond .ne (8), 3, 0) := by decide +kernel
theorem cd_170_20 : zt_code zq_T 170 20 = some (.iload_n 2, 1, 0) := by decide +kernel
theorem cd_170_21 : zt_code zq_T 170 21 = some (.iconst 1, 1, 0) := by decide +kernel
theorem cd_170_22 : zt_code zq_T 170 22 = some (.if_icmp .ge (7), 3, 0) := by decide +kernel
theorem cd_170_25 : zt_code zq_T 170 25 = some (.iconst 1, 1, 0) := by decide +kernel
theorem cd_170_26 : zt_code zq_T 170 26 = some (.goto (4), 3, 0) := by decide +kernel
theorem cd_170_29 : zt_code zq_T 170 29 = some (.iload_n 2, 1, 0) := by decide +kernel
theorem cd_170_30 : zt_code zq_T 170 30 = some (.istore 5, 2, 0) := by decide +kernel
theorem cd_170_32 : zt_code zq_T 170 32 = some (.aload_n 1, 1, 0) := by decide +kernel
theorem cd_170_33 : zt_code zq_T 170 33 = some (.iload_n 2, 1, 0) := by decide +kernel
theorem cd_170_34 : zt_code zq_T 170 34 = some (.ifCond .eq (11), 3, 0) := by decide +kernel
theorem cd_170_37 : zt_code zq_T 170 37 = some (.aload 4, 2, 0) := by decide +kernel
theorem cd_170_39 : zt_code zq_T 170 39 = some (.getfield 41, 3, 0) := by decide +kernel
theorem cd_170_42 : zt_code zq_T 170 42 = some (.ifCond .eq (7), 3, 0) := by decide +kernel
theorem cd_170_45 : zt_code zq_T 170 45 = some (.iconst 1, 1, 0) := by decide +kernel
theorem cd_170_46 : zt_code zq_T 170 46 = some (.goto (4), 3, 0) := by decide +kernel
theorem cd_170_49 : zt_code zq_T 170 49 = some (.iconst 0, 1, 0) := by decide +kernel
theorem cd_170_50 : zt_code zq_T 170 50 = some (.putfield 41, 3, 0) := by decide +kernel
theorem cd_170_53 : zt_code zq_T 170 53 = some (.aload_n 1, 1, 0) := by decide +kernel
theorem cd_170_54 : zt_code zq_T 170 54 = some (.aload_n 1, 1, 0) := by decide +kernel
theorem cd_170_55 : zt_code zq_T 170 55 = some (.getfield 41, 3, 0) := by decide +kernel
theorem cd_170_58 : zt_code zq_T 170 58 = some (.ifCond .eq (7), 3, 0) := by decide +kernel
theorem cd_170_61 : zt_code zq_T 170 61 = some (.iconst 0, 1, 0) := by decide +kernel
theorem cd_170_62 : zt_code zq_T 170 62 = some (.goto (11), 3, 0) := by decide +kernel
theorem cd_170_65 : zt_code zq_T 170 65 = some (.aload 4, 2, 0) := by decide +kernel
theorem cd_170_67 : zt_code zq_T 170 67 = some (.getfield 115, 3, 0) := by decide +kernel
theorem cd_170_70 : zt_code zq_T 170 70 = some (.iload 5, 2, 0) := by decide +kernel
theorem cd_170_72 : zt_code zq_T 170 72 = some (.imul, 1, 0) := by decide +kernel
theorem cd_170_73 : zt_code zq_T 170 73 = some (.putfield 115, 3, 0) := by decide +kernel
theorem cd_170_76 : zt_code zq_T 170 76 = some (.aload 4, 2, 0) := by decide +kernel
theorem cd_170_78 : zt_code zq_T 170 78 = some (.getfield 118, 3, 0) := by decide +kernel
theorem cd_170_81 : zt_code zq_T 170 81 = some (.ifCond .ne (11), 3, 0) := by decide +kernel
theorem cd_170_84 : zt_code zq_T 170 84 = some (.aload_n 1, 1, 0) := by decide +kernel
theorem cd_170_85 : zt_code zq_T 170 85 = some (.iconst 0, 1, 0) := by decide +kernel
theorem cd_170_86 : zt_code zq_T 170 86 = some (.putfield 118, 3, 0) := by decide +kernel
theorem cd_170_89 : zt_code zq_T 170 89 = some (.goto (32), 3, 0) := by decide +kernel
theorem cd_170_92 : zt_code zq_T 170 92 = some (.aload_n 1, 1, 0) := by decide +kernel
theorem cd_170_93 : zt_code zq_T 170 93 = some (.iload_n 3, 1, 0) := by decide +kernel
theorem cd_170_94 : zt_code zq_T 170 94 = some (.iconst (-1), 1, 0) := by decide +kernel
theorem cd_170_95 : zt_code zq_T 170 95 = some (.if_icmp .eq (12), 3, 0) := by decide +kernel
theorem cd_170_98 : zt_code zq_T 170 98 = some (.aload 4, 2, 0) := by decide +kernel
theorem cd_170_100 : zt_code zq_T 170 100 = some (.getfield 118, 3, 0) := by decide +kernel
theorem cd_170_103 : zt_code zq_T 170 103 = some (.iconst (-1), 1, 0) := by decide +kernel
theorem cd_170_104 : zt_code zq_T 170 104 = some (.if_icmp .ne (7), 3, 0) := by decide +kernel
theorem cd_170_107 : zt_code zq_T 170 107 = some (.iconst (-1), 1, 0) := by decide +kernel
theorem cd_170_108 : zt_code zq_T 170 108 = some (.goto (10), 3, 0) := by decide +kernel
theorem cd_170_111 : zt_code zq_T 170 111 = some (.aload 4, 2, 0) := by decide +kernel
theorem cd_170_113 : zt_code zq_T 170 113 = some (.getfield 118, 3, 0) := by decide +kernel
theorem cd_170_116 : zt_code zq_T 170 116 = some (.iload_n 3, 1, 0) := by decide +kernel
theorem cd_170_117 : zt_code zq_T 170 117 = some (.imul, 1, 0) := by decide +kernel
theorem cd_170_118 : zt_code zq_T 170 118 = some (.putfield 118, 3, 0) := by decide +kernel
theorem cd_170_121 : zt_code zq_T 170 121 = some (.aload_n 0, 1, 0) := by decide +kernel
theorem cd_170_122 : zt_code zq_T 170 122 = some (.iconst 0, 1, 0) := by decide +kernel
theorem cd_170_123 : zt_code zq_T 170 123 = some (.invokevirtual 121, 3, 0) := by decide +kernel
theorem cd_170_126 : zt_code zq_T 170 126 = some (.iconst 1, 1, 0) := by decide +kernel
theorem cd_170_127 : zt_code zq_T 170 127 = some (.istore 6, 2, 0) := by decide +kernel
theorem cd_170_129 : zt_code zq_T 170 129 = some (.iload 6, 2, 0) := by decide +kernel
theorem cd_170_131 : zt_code zq_T 170 131 = some (.iconst 5, 1, 0) := by decide +kernel
theorem cd_170_132 : zt_code zq_T 170 132 = some (.if_icmp .ge (41), 3, 0) := by decide +kernel
theorem cd_170_135 : zt_code zq_T 170 135 = some (.iload_n 3, 1, 0) := by decide +kernel
theorem cd_170_136 : zt_code zq_T 170 136 = some (.iconst (-1), 1, 0) := by decide +kernel
theorem cd_170_137 : zt_code zq_T 170 137 = some (.if_icmp .eq (9), 3, 0) := by decide +kernel
theorem cd_170_140 : zt_code zq_T 170 140 = some (.iload 6, 2, 0) := by decide +kernel
theorem cd_170_142 : zt_code zq_T 170 142 = some (.iload_n 3, 1, 0) := by decide +kernel
theorem cd_170_143 : zt_code zq_T 170 143 = some (.if_icmp .gt (30), 3, 0) := by decide +kernel
theorem cd_170_146 : zt_code zq_T 170 146 = some (.aload_n 0, 1, 0) := by decide +kernel
theorem cd_170_147 : zt_code zq_T 170 147 = some (.aload 4, 2, 0) := by decide +kernel
theorem cd_170_149 : zt_code zq_T 170 149 = some (.iconst 0, 1, 0) := by decide +kernel
theorem cd_170_150 : zt_code zq_T 170 150 = some (.invokevirtual 125, 3, 0) := by decide +kernel
theorem cd_170_153 : zt_code zq_T 170 153 = some (.iload 6, 2, 0) := by decide +kernel
theorem cd_170_155 : zt_code zq_T 170 155 = some (.iload 5, 2, 0) := by decide +kernel
theorem cd_170_157 : zt_code zq_T 170 157 = some (.if_icmp .lt (10), 3, 0) := by decide +kernel
theorem cd_170_160 : zt_code zq_T 170 160 = some (.aload_n 0, 1, 0) := by decide +kernel
theorem cd_170_161 : zt_code zq_T 170 161 = some (.aload_n 1, 1, 0) := by decide +kernel
theorem cd_170_162 : zt_code zq_T 170 162 = some (.iconst 0, 1, 0) := by decide +kernel
theorem cd_170_163 : zt_code zq_T 170 163 = some (.iconst 1, 1, 0) := by decide +kernel
theorem cd_170_164 : zt_code zq_T 170 164 = some (.invokevirtual 129, 3, 0) := by decide +kernel
theorem cd_170_167 : zt_code zq_T 170 167 = some (.iinc 6 (1), 3, 0) := by decide +kernel
theorem cd_170_170 : zt_code zq_T 170 170 = some (.goto (-41), 3, 0) := by decide +kernel
theorem cd_170_173 : zt_code zq_T 170 173 = some (.return_, 1, 0) := by decide +kernel
theorem cd_171_0 : zt_code zq_T 171 0 = some (.aload_n 1, 1, 0) := by decide +kernel
theorem cd_171_1 : zt_code zq_T 171 1 = some (.iconst 0, 1, 0) := by decide +kernel
theorem cd_171_2 : zt_code zq_T 171 2 = some (.putfield 144, 3, 0) := by decide +kernel
theorem cd_171_5 : zt_code zq_T 171 5 = some (.iconst 1, 1, 0) := by decide +kernel
theorem cd_171_6 : zt_code zq_T 171 6 = some (.istore_n 2, 1, 0) := by decide +kernel
theorem cd_171_7 : zt_code zq_T 171 7 = some (.iload_n 2, 1, 0) := by decide +kernel
theorem cd_171_8 : zt_code zq_T 171 8 = some (.iconst 4, 1, 0) := by decide +kernel
theorem cd_171_9 : zt_code zq_T 171 9 = some (.if_icmp .gt (14), 3, 0) := by decide +kernel
theorem cd_171_12 : zt_code zq_T 171 12 = some (.aload_n 0, 1, 0) := by decide +kernel
theorem cd_171_13 : zt_code zq_T 171 13 = some (.iload_n 2, 1, 0) := by decide +kernel
theorem cd_171_14 : zt_code zq_T 171 14 = some (.invokevirtual 147, 3, 0) := by decide +kernel
theorem cd_171_17 : zt_code zq_T 171 17 = some (.iinc 2 (1), 3, 0) := by decide +kernel
theorem cd_171_20 : zt_code zq_T 171 20 = some (.goto (-13), 3, 0) := by decide +kernel
theorem cd_171_23 : zt_code zq_T 171 23 = some (.aload_n 0, 1, 0) := by decide +kernel
theorem cd_171_24 : zt_code zq_T 171 24 = some (.iconst 0, 1, 0) := by decide +kernel
theorem cd_171_25 : zt_code zq_T 171 25 = some (.invokevirtual 121, 3, 0) := by decide +kernel
theorem cd_171_28 : zt_code zq_T 171 28 = some (.aload_n 1, 1, 0) := by decide +kernel
theorem cd_171_29 : zt_code zq_T 171 29 = some (.getfield 36, 3, 0) := by decide +kernel
theorem cd_171_32 : zt_code zq_T 171 32 = some (.astore_n 2, 1, 0) := by decide +kernel
theorem cd_171_33 : zt_code zq_T 171 33 = some (.aload_n 2, 1, 0) := by decide +kernel
theorem cd_171_34 : zt_code zq_T 171 34 = some (.ifnull (70), 3, 0) := by decide +kernel
theorem cd_171_37 : zt_code zq_T 171 37 = some (.aload_n 2, 1, 0) := by decide +kernel
theorem cd_171_38 : zt_code zq_T 171 38 = some (.getfield 41, 3, 0) := by decide +kernel
theorem cd_171_41 : zt_code zq_T 171 41 = some (.ifCond .ne (18), 3, 0) := by decide +kernel
theorem cd_171_44 : zt_code zq_T 171 44 = some (.aload_n 1, 1, 0) := by decide +kernel
theorem cd_171_45 : zt_code zq_T 171 45 = some (.dup, 1, 0) := by decide +kernel
theorem cd_171_46 : zt_code zq_T 171 46 = some (.getfield 144, 3, 0) := by decide +kernel
theorem cd_171_49 : zt_code zq_T 171 49 = some (.iconst 1, 1, 0) := by decide +kernel
theorem cd_171_50 : zt_code zq_T 171 50 = some (.aload_n 2, 1, 0) := by decide +kernel
theorem cd_171_51 : zt_code zq_T 171 51 = some (.getfield 150, 3, 0) := by decide +kernel
theorem cd_171_54 : zt_code zq_T 171 54 = some (.ishl, 1, 0) := by decide +kernel
theorem cd_171_55 : zt_code zq_T 171 55 = some (.ior, 1, 0) := by decide +kernel
theorem cd_171_56 : zt_code zq_T 171 56 = some (.putfield 144, 3, 0) := by decide +kernel
theorem cd_171_59 : zt_code zq_T 171 59 = some (.iconst 4, 1, 0) := by decide +kernel
theorem cd_171_60 : zt_code zq_T 171 60 = some (.istore_n 3, 1, 0) := by decide +kernel
theorem cd_171_61 : zt_code zq_T 171 61 = some (.iload_n 3, 1, 0) := by decide +kernel
theorem cd_171_62 : zt_code zq_T 171 62 = some (.ifCond .lt (34), 3, 0) := by decide +kernel
theorem cd_171_65 : zt_code zq_T 171 65 = some (.aload_n 2, 1, 0) := by decide +kernel
theorem cd_171_66 : zt_code zq_T 171 66 = some (.getfield 41, 3, 0) := by decide +kernel
theorem cd_171_69 : zt_code zq_T 171 69 = some (.ifCond .ne (8), 3, 0) := by decide +kernel
theorem cd_171_72 : zt_code zq_T 171 72 = some (.aload_n 0, 1, 0) := by decide +kernel
theorem cd_171_73 : zt_code zq_T 171 73 = some (.iload_n 3, 1, 0) := by decide +kernel
theorem cd_171_74 : zt_code zq_T 171 74 = some (.invokevirtual 147, 3, 0) := by decide +kernel
theorem cd_171_77 : zt_code zq_T 171 77 = some (.iload_n 3, 1, 0) := by decide +kernel
theorem cd_171_78 : zt_code zq_T 171 78 = some (.ifCond .le (12), 3, 0) := by decide +kernel
theorem cd_171_81 : zt_code zq_T 171 81 = some (.aload_n 0, 1, 0) := by decide +kernel
theorem cd_171_82 : zt_code zq_T 171 82 = some (.iload_n 3, 1, 0) := by decide +kernel
theorem cd_171_83 : zt_code zq_T 171 83 = some (.iload_n 3, 1, 0) := by decide +kernel
theorem cd_171_84 : zt_code zq_T 171 84 = some (.iconst 1, 1, 0) := by decide +kernel
theorem cd_171_85 : zt_code zq_T 171 85 = some (.isub, 1, 0) := by decide +kernel
theorem cd_171_86 : zt_code zq_T 171 86 = some (.aload_n 2, 1, 0) := by decide +kernel
theorem cd_171_87 : zt_code zq_T 171 87 = some (.invokevirtual 153, 3, 0) := by decide +kernel
theorem cd_171_90 : zt_code zq_T 171 90 = some (.iinc 3 (-1), 3, 0) := by decide +kernel
theorem cd_171_93 : zt_code zq_T 171 93 = some (.goto (-32), 3, 0) := by decide +kernel
theorem cd_171_96 : zt_code zq_T 171 96 = some (.aload_n 2, 1, 0) := by decide +kernel
theorem cd_171_97 : zt_code zq_T 171 97 = some (.getfield 71, 3, 0) := by decide +kernel
theorem cd_171_100 : zt_code zq_T 171 100 = some (.astore_n 2, 1, 0) := by decide +kernel
theorem cd_171_101 : zt_code zq_T 171 101 = some (.goto (-68), 3, 0) := by decide +kernel
theorem cd_171_104 : zt_code zq_T 171 104 = some (.iconst 1, 1, 0) := by decide +kernel
theorem cd_171_105 : zt_code zq_T 171 105 = some (.istore_n 2, 1, 0) := by decide +kernel
theorem cd_171_106 : zt_code zq_T 171 106 = some (.iconst 1, 1, 0) := by decide +kernel
theorem cd_171_107 : zt_code zq_T 171 107 = some (.istore_n 3, 1, 0) := by decide +kernel
theorem cd_171_108 : zt_code zq_T 171 108 = some (.iload_n 3, 1, 0) := by decide +kernel
theorem cd_171_109 : zt_code zq_T 171 109 = some (.iconst 4, 1, 0) := by decide +kernel
theorem cd_171_110 : zt_code zq_T 171 110 = some (.if_icmp .gt (20), 3, 0) := by decide +kernel
theorem cd_171_113 : zt_code zq_T 171 113 = some (.iload_n 2, 1, 0) := by decide +kernel
theorem cd_171_114 : zt_code zq_T 171 114 = some (.iload_n 3, 1, 0) := by decide +kernel
theorem cd_171_115 : zt_code zq_T 171 115 = some (.imul, 1, 0) := by decide +kernel
theorem cd_171_116 : zt_code zq_T 171 116 = some (.istore_n 2, 1, 0) := by decide +kernel
theorem cd_171_117 : zt_code zq_T 171 117 = some (.aload_n 0, 1, 0) := by decide +kernel
theorem cd_171_118 : zt_code zq_T 171 118 = some (.aload_n 1, 1, 0) := by decide +kernel
theorem cd_171_119 : zt_code zq_T 171 119 = some (.iload_n 3, 1, 0) := by decide +kernel
theorem cd_171_120 : zt_code zq_T 171 120 = some (.iload_n 2, 1, 0) := by decide +kernel
theorem cd_171_121 : zt_code zq_T 171 121 = some (.invokevirtual 129, 3, 0) := by decide +kernel
theorem cd_171_124 : zt_code zq_T 171 124 = some (.iinc 3 (1), 3, 0) := by decide +kernel
theorem cd_171_127 : zt_code zq_T 171 127 = some (.goto (-19), 3, 0) := by decide +kernel
theorem cd_171_130 : zt_code zq_T 171 130 = some (.aload_n 0, 1, 0) := by decide +kernel
theorem cd_171_131 : zt_code zq_T 171 131 = some (.aload_n 1, 1, 0) := by decide +kernel
theorem cd_171_132 : zt_code zq_T 171 132 = some (.invokevirtual 132, 3, 0) := by decide +kernel
theorem cd_171_135 : zt_code zq_T 171 135 = some (.return_, 1, 0) := by decide +kernel
theorem cd_172_0 : zt_code zq_T 172 0 = some (.iconst 0, 1, 0) := by decide +kernel
theorem cd_172_1 : zt_code zq_T 172 1 = some (.istore_n 2, 1, 0) := by decide +kernel
theorem cd_172_2 : zt_code zq_T 172 2 = some (.iload_n 2, 1, 0) := by decide +kernel
theorem cd_172_3 : zt_code zq_T 172 3 = some (.iconst 5, 1, 0) := by decide +kernel
theorem cd_172_4 : zt_code zq_T 172 4 = some (.if_icmp .ge (20), 3, 0) := by decide +kernel
theorem cd_172_7 : zt_code zq_T 172 7 = some (.aload_n 0, 1, 0) := by decide +kernel
theorem cd_172_8 : zt_code zq_T 172 8 = some (.getfield 11, 3, 0) := by decide +kernel
theorem cd_172_11 : zt_code zq_T 172 11 = some (.iload_n 1, 1, 0) := by decide +kernel
theorem cd_172_12 : zt_code zq_T 172 12 = some (.iconst 5, 1, 0) := by decide +kernel
theorem cd_172_13 : zt_code zq_T 172 13 = some (.imul, 1, 0) := by decide +kernel
theorem cd_172_14 : zt_code zq_T 172 14 = some (.iload_n 2, 1, 0) := by decide +kernel
theorem cd_172_15 : zt_code zq_T 172 15 = some (.iadd, 1, 0) := by decide +kernel
theorem cd_172_16 : zt_code zq_T 172 16 = some (.iconst 0, 1, 0) := by decide +kernel
theorem cd_172_17 : zt_code zq_T 172 17 = some (.iastore, 1, 0) := by decide +kernel
theorem cd_172_18 : zt_code zq_T 172 18 = some (.iinc 2 (1), 3, 0) := by decide +kernel
theorem cd_172_21 : zt_code zq_T 172 21 = some (.goto (-19), 3, 0) := by decide +kernel
theorem cd_172_24 : zt_code zq_T 172 24 = some (.return_, 1, 0) := by decide +kernel
theorem cd_173_0 : zt_code zq_T 173 0 = some (.aload_n 0, 1, 0) := by decide +kernel
theorem cd_173_1 : zt_code zq_T 173 1 = some (.iload_n 1, 1, 0) := by decide +kernel
theorem cd_173_2 : zt_code zq_T 173 2 = some (.invokevirtual 147, 3, 0) := by decide +kernel
theorem cd_173_5 : zt_code zq_T 173 5 = some (.aload_n 0, 1, 0) := by decide +kernel
theorem cd_173_6 : zt_code zq_T 173 6 = some (.getfield 11, 3, 0) := by decide +kernel
theorem cd_173_9 : zt_code zq_T 173 9 = some (.iload_n 1, 1, 0) := by decide +kernel
theorem cd_173_10 : zt_code zq_T 173 10 = some (.iconst 5, 1, 0) := by decide +kernel
theorem cd_173_11 : zt_code zq_T 173 11 = some (.imul, 1, 0) := by decide +kernel
theorem cd_173_12 : zt_code zq_T 173 12 = some (.iconst 1, 1, 0) := by decide +kernel
theorem cd_173_13 : zt_code zq_T 173 13 = some (.iastore, 1, 0) := by decide +kernel
theorem cd_173_14 : zt_code zq_T 173 14 = some (.return_, 1, 0) := by decide +kernel
theorem cd_174_0 : zt_code zq_T 174 0 = some (.iconst 4, 1, 0) := by decide +kernel
theorem cd_174_1 : zt_code zq_T 174 1 = some (.istore_n 3, 1, 0) := by decide +kernel
theorem cd_174_2 : zt_code zq_T 174 2 = some (.iload_n 3, 1, 0) := by decide +kernel
theorem cd_174_3 : zt_code zq_T 174 3 = some (.ifCond .lt (70), 3, 0) := by decide +kernel
theorem cd_174_6 : zt_code zq_T 174 6 = some (.iload_n 2, 1, 0) := by decide +kernel
theorem cd_174_7 : zt_code zq_T 174 7 = some (.ifCond .eq (12), 3, 0) := by decide +kernel
theorem cd_174_10 : zt_code zq_T 174 10 = some (.aload_n 0, 1, 0) := by decide +kernel
theorem cd_174_11 : zt_code zq_T 174 11 = some (.getfield 11, 3, 0) := by decide +kernel
theorem cd_174_14 : zt_code zq_T 174 14 = some (.iload_n 3, 1, 0) := by decide +kernel
theorem cd_174_15 : zt_code zq_T 174 15 = some (.iaload, 1, 0) := by decide +kernel
theorem cd_174_16 : zt_code zq_T 174 16 = some (.goto (4), 3, 0) := by decide +kernel
theorem cd_174_19 : zt_code zq_T 174 19 = some (.iconst 0, 1, 0) := by decide +kernel
theorem cd_174_20 : zt_code zq_T 174 20 = some (.istore 4, 2, 0) := by decide +kernel
theorem cd_174_22 : zt_code zq_T 174 22 = some (.iconst 1, 1, 0) := by decide +kernel
theorem cd_174_23 : zt_code zq_T 174 23 = some (.istore 5, 2, 0) := by decide +kernel
theorem cd_174_25 : zt_code zq_T 174 25 = some (.iload 5, 2, 0) := by decide +kernel
theorem cd_174_27 : zt_code zq_T 174 27 = some (.iload_n 3, 1, 0) := by decide +kernel
theorem cd_174_28 : zt_code zq_T 174 28 = some (.if_icmp .gt (31), 3, 0) := by decide +kernel
theorem cd_174_31 : zt_code zq_T 174 31 = some (.iload 4, 2, 0) := by decide +kernel
theorem cd_174_33 : zt_code zq_T 174 33 = some (.aload_n 0, 1, 0) := by decide +kernel
theorem cd_174_34 : zt_code zq_T 174 34 = some (.getfield 11, 3, 0) := by decide +kernel
theorem cd_174_37 : zt_code zq_T 174 37 = some (.iload_n 3, 1, 0) := by decide +kernel
theorem cd_174_38 : zt_code zq_T 174 38 = some (.iload 5, 2, 0) := by decide +kernel
theorem cd_174_40 : zt_code zq_T 174 40 = some (.isub, 1, 0) := by decide +kernel
theorem cd_174_41 : zt_code zq_T 174 41 = some (.iaload, 1, 0) := by decide +kernel
theorem cd_174_42 : zt_code zq_T 174 42 = some (.aload_n 1, 1, 0) := by decide +kernel
theorem cd_174_43 : zt_code zq_T 174 43 = some (.getfield 112, 3, 0) := by decide +kernel
theorem cd_174_46 : zt_code zq_T 174 46 = some (.iload 5, 2, 0) := by decide +kernel
theorem cd_174_48 : zt_code zq_T 174 48 = some (.iaload, 1, 0) := by decide +kernel
theorem cd_174_49 : zt_code zq_T 174 49 = some (.imul, 1, 0) := by decide +kernel
theorem cd_174_50 : zt_code zq_T 174 50 = some (.iadd, 1, 0) := by decide +kernel
theorem cd_174_51 : zt_code zq_T 174 51 = some (.istore 4, 2, 0) := by decide +kernel
theorem cd_174_53 : zt_code zq_T 174 53 = some (.iinc 5 (1), 3, 0) := by decide +kernel
theorem cd_174_56 : zt_code zq_T 174 56 = some (.goto (-31), 3, 0) := by decide +kernel
theorem cd_174_59 : zt_code zq_T 174 59 = some (.aload_n 0, 1, 0) := by decide +kernel
theorem cd_174_60 : zt_code zq_T 174 60 = some (.getfield 11, 3, 0) := by decide +kernel
theorem cd_174_63 : zt_code zq_T 174 63 = some (.iload_n 3, 1, 0) := by decide +kernel
theorem cd_174_64 : zt_code zq_T 174 64 = some (.iload 4, 2, 0) := by decide +kernel
theorem cd_174_66 : zt_code zq_T 174 66 = some (.iastore, 1, 0) := by decide +kernel
theorem cd_174_67 : zt_code zq_T 174 67 = some (.iinc 3 (-1), 3, 0) := by decide +kernel
theorem cd_174_70 : zt_code zq_T 174 70 = some (.goto (-68), 3, 0) := by decide +kernel
theorem cd_174_73 : zt_code zq_T 174 73 = some (.return_, 1, 0) := by decide +kernel
theorem cd_175_0 : zt_code zq_T 175 0 = some (.iconst 1, 1, 0) := by decide +kernel
theorem cd_175_1 : zt_code zq_T 175 1 = some (.istore 4, 2, 0) := by decide +kernel
theorem cd_175_3 : zt_code zq_T 175 3 = some (.iload 4, 2, 0) := by decide +kernel
theorem cd_175_5 : zt_code zq_T 175 5 = some (.iconst 5, 1, 0) := by decide +kernel
theorem cd_175_6 : zt_code zq_T 175 6 = some (.if_icmp .ge (61), 3, 0) := by decide +kernel
theorem cd_175_9 : zt_code zq_T 175 9 = some (.iconst 1, 1, 0) := by decide +kernel
theorem cd_175_10 : zt_code zq_T 175 10 = some (.istore 5, 2, 0) := by decide +kernel
theorem cd_175_12 : zt_code zq_T 175 12 = some (.iload 5, 2, 0) := by decide +kernel
theorem cd_175_14 : zt_code zq_T 175 14 = some (.iload 4, 2, 0) := by decide +kernel
theorem cd_175_16 : zt_code zq_T 175 16 = some (.if_icmp .gt (45), 3, 0) := by decide +kernel
theorem cd_175_19 : zt_code zq_T 175 19 = some (.aload_n 0, 1, 0) := by decide +kernel
theorem cd_175_20 : zt_code zq_T 175 20 = some (.getfield 11, 3, 0) := by decide +kernel
theorem cd_175_23 : zt_code zq_T 175 23 = some (.iload_n 1, 1, 0) := by decide +kernel
theorem cd_175_24 : zt_code zq_T 175 24 = some (.iconst 5, 1, 0) := by decide +kernel
theorem cd_175_25 : zt_code zq_T 175 25 = some (.imul, 1, 0) := by decide +kernel
theorem cd_175_26 : zt_code zq_T 175 26 = some (.iload 4, 2, 0) := by decide +kernel
theorem cd_175_28 : zt_code zq_T 175 28 = some (.iadd, 1, 0) := by decide +kernel
theorem cd_175_29 : zt_code zq_T 175 29 = some (.dup2, 1, 0) := by decide +kernel
theorem cd_175_30 : zt_code zq_T 175 30 = some (.iaload, 1, 0) := by decide +kernel
theorem cd_175_31 : zt_code zq_T 175 31 = some (.aload_n 0, 1, 0) := by decide +kernel
theorem cd_175_32 : zt_code zq_T 175 32 = some (.getfield 11, 3, 0) := by decide +kernel
theorem cd_175_35 : zt_code zq_T 175 35 = some (.iload_n 2, 1, 0) := by decide +kernel
theorem cd_175_36 : zt_code zq_T 175 36 = some (.iconst 5, 1, 0) := by decide +kernel
theorem cd_175_37 : zt_code zq_T 175 37 = some (.imul, 1, 0) := by decide +kernel
theorem cd_175_38 : zt_code zq_T 175 38 = some (.iload 4, 2, 0) := by decide +kernel
theorem cd_175_40 : zt_code zq_T 175 40 = some (.iadd, 1, 0) := by decide +kernel
theorem cd_175_41 : zt_code zq_T 175 41 = some (.iload 5, 2, 0) := by decide +kernel
theorem cd_175_43 : zt_code zq_T 175 43 = some (.isub, 1, 0) := by decide +kernel
theorem cd_175_44 : zt_code zq_T 175 44 = some (.iaload, 1, 0) := by decide +kernel
theorem cd_175_45 : zt_code zq_T 175 45 = some (.aload_n 3, 1, 0) := by decide +kernel
theorem cd_175_46 : zt_code zq_T 175 46 = some (.getfield 112, 3, 0) := by decide +kernel
theorem cd_175_49 : zt_code zq_T 175 49 = some (.iload 5, 2, 0) := by decide +kernel
theorem cd_175_51 : zt_code zq_T 175 51 = some (.iaload, 1, 0) := by decide +kernel
theorem cd_175_52 : zt_code zq_T 175 52 = some (.imul, 1, 0) := by decide +kernel
theorem cd_175_53 : zt_code zq_T 175 53 = some (.iadd, 1, 0) := by decide +kernel
theorem cd_175_54 : zt_code zq_T 175 54 = some (.iastore, 1, 0) := by decide +kernel
theorem cd_175_55 : zt_code zq_T 175 55 = some (.iinc 5 (1), 3, 0) := by decide +kernel
theorem cd_175_58 : zt_code zq_T 175 58 = some (.goto (-46), 3, 0) := by decide +kernel
theorem cd_175_61 : zt_code zq_T 175 61 = some (.iinc 4 (1), 3, 0) := by decide +kernel
theorem cd_175_64 : zt_code zq_T 175 64 = some (.goto (-61), 3, 0) := by decide +kernel
theorem cd_175_67 : zt_code zq_T 175 67 = some (.return_, 1, 0) := by decide +kernel
theorem cd_176_0 : zt_code zq_T 176 0 = some (.iconst 1, 1, 0) := by decide +kernel
theorem cd_176_1 : zt_code zq_T 176 1 = some (.istore 4, 2, 0) := by decide +kernel
theorem cd_176_3 : zt_code zq_T 176 3 = some (.iload 4, 2, 0) := by decide +kernel
theorem cd_176_5 : zt_code zq_T 176 5 = some (.iconst 5, 1, 0) := by decide +kernel
theorem cd_176_6 : zt_code zq_T 176 6 = some (.if_icmp .ge (32), 3, 0) := by decide +kernel
theorem cd_176_9 : zt_code zq_T 176 9 = some (.aload_n 1, 1, 0) := by decide +kernel
theorem cd_176_10 : zt_code zq_T 176 10 = some (.getfield 112, 3, 0) := by decide +kernel
theorem cd_176_13 : zt_code zq_T 176 13 = some (.iload 4, 2, 0) := by decide +kernel
theorem cd_176_15 : zt_code zq_T 176 15 = some (.dup2, 1, 0) := by decide +kernel
theorem cd_176_16 : zt_code zq_T 176 16 = some (.iaload, 1, 0) := by decide +kernel
theorem cd_176_17 : zt_code zq_T 176 17 = some (.aload_n 0, 1, 0) := by decide +kernel
theorem cd_176_18 : zt_code zq_T 176 18 = some (.getfield 11, 3, 0) := by decide +kernel
theorem cd_176_21 : zt_code zq_T 176 21 = some (.iload_n 2, 1, 0) := by decide +kernel
theorem cd_176_22 : zt_code zq_T 176 22 = some (.iconst 5, 1, 0) := by decide +kernel
theorem cd_176_23 : zt_code zq_T 176 23 = some (.imul, 1, 0) := by decide +kernel
theorem cd_176_24 : zt_code zq_T 176 24 = some (.iload 4, 2, 0) := by decide +kernel
theorem cd_176_26 : zt_code zq_T 176 26 = some (.iadd, 1, 0) := by decide +kernel
theorem cd_176_27 : zt_code zq_T 176 27 = some (.iaload, 1, 0) := by decide +kernel
theorem cd_176_28 : zt_code zq_T 176 28 = some (.iload_n 3, 1, 0) := by decide +kernel
theorem cd_176_29 : zt_code zq_T 176 29 = some (.imul, 1, 0) := by decide +kernel
theorem cd_176_30 : zt_code zq_T 176 30 = some (.iadd, 1, 0) := by decide +kernel
theorem cd_176_31 : zt_code zq_T 176 31 = some (.iastore, 1, 0) := by decide +kernel
theorem cd_176_32 : zt_code zq_T 176 32 = some (.iinc 4 (1), 3, 0) := by decide +kernel
theorem cd_176_35 : zt_code zq_T 176 35 = some (.goto (-32), 3, 0) := by decide +kernel
theorem cd_176_38 : zt_code zq_T 176 38 = some (.return_, 1, 0) := by decide +kernel
theorem cd_177_0 : zt_code zq_T 177 0 = some (.aload_n 0, 1, 0) := by decide +kernel
theorem cd_177_1 : zt_code zq_T 177 1 = some (.invokespecial 3, 3, 0) := by decide +kernel
theorem cd_177_4 : zt_code zq_T 177 4 = some (.aload_n 0, 1, 0) := by decide +kernel
theorem cd_177_5 : zt_code zq_T 177 5 = some (.aconst_null, 1, 3) := by decide +kernel
theorem cd_177_6 : zt_code zq_T 177 6 = some (.putfield 9, 3, 0) := by decide +kernel
theorem cd_177_9 : zt_code zq_T 177 9 = some (.aload_n 0, 1, 0) := by decide +kernel
theorem cd_177_10 : zt_code zq_T 177 10 = some (.aconst_null, 1, 3) := by decide +kernel
theorem cd_177_11 : zt_code zq_T 177 11 = some (.putfield 15, 3, 0) := by decide +kernel
theorem cd_177_14 : zt_code zq_T 177 14 = some (.aload_n 0, 1, 0) := by decide +kernel
theorem cd_177_15 : zt_code zq_T 177 15 = some (.aconst_null, 1, 3) := by decide +kernel
theorem cd_177_16 : zt_code zq_T 177 16 = some (.putfield 18, 3, 0) := by decide +kernel
theorem cd_177_19 : zt_code zq_T 177 19 = some (.aload_n 0, 1, 0) := by decide +kernel
theorem cd_177_20 : zt_code zq_T 177 20 = some (.aconst_null, 1, 3) := by decide +kernel
theorem cd_177_21 : zt_code zq_T 177 21 = some (.putfield 21, 3, 0) := by decide +kernel
theorem cd_177_24 : zt_code zq_T 177 24 = some (.aload_n 0, 1, 0) := by decide +kernel
theorem cd_177_25 : zt_code zq_T 177 25 = some (.iconst 5, 1, 0) := by decide +kernel
theorem cd_177_26 : zt_code zq_T 177 26 = some (.newarray .int, 2, 21) := by decide +kernel
theorem cd_177_28 : zt_code zq_T 177 28 = some (.putfield 24, 3, 0) := by decide +kernel
theorem cd_177_31 : zt_code zq_T 177 31 = some (.return_, 1, 0) := by decide +kernel
theorem cd_178_0 : zt_code zq_T 178 0 = some (.aload_n 0, 1, 0) := by decide +kernel
theorem cd_178_1 : zt_code zq_T 178 1 = some (.iload_n 1, 1, 0) := by decide +kernel
theorem cd_178_2 : zt_code zq_T 178 2 = some (.putfield 28, 3, 0) := by decide +kernel
theorem cd_178_5 : zt_code zq_T 178 5 = some (.aload_n 0, 1, 0) := by decide +kernel
theorem cd_178_6 : zt_code zq_T 178 6 = some (.iload_n 2, 1, 0) := by decide +kernel
theorem cd_178_7 : zt_code zq_T 178 7 = some (.putfield 32, 3, 0) := by decide +kernel
theorem cd_178_10 : zt_code zq_T 178 10 = some (.aload_n 0, 1, 0) := by decide +kernel
theorem cd_178_11 : zt_code zq_T 178 11 = some (.iconst 0, 1, 0) := by decide +kernel
theorem cd_178_12 : zt_code zq_T 178 12 = some (.putfield 35, 3, 0) := by decide +kernel
theorem cd_178_15 : zt_code zq_T 178 15 = some (.aload_n 0, 1, 0) := by decide +kernel
theorem cd_178_16 : zt_code zq_T 178 16 = some (.iconst 0, 1, 0) := by decide +kernel
theorem cd_178_17 : zt_code zq_T 178 17 = some (.putfield 38, 3, 0) := by decide +kernel
theorem cd_178_20 : zt_code zq_T 178 20 = some (.aload_n 0, 1, 0) := by decide +kernel
theorem cd_178_21 : zt_code zq_T 178 21 = some (.aconst_null, 1, 3) := by decide +kernel
theorem cd_178_22 : zt_code zq_T 178 22 = some (.putfield 9, 3, 0) := by decide +kernel
theorem cd_178_25 : zt_code zq_T 178 25 = some (.aload_n 0, 1, 0) := by decide +kernel
theorem cd_178_26 : zt_code zq_T 178 26 = some (.aconst_null, 1, 3) := by decide +kernel
theorem cd_178_27 : zt_code zq_T 178 27 = some (.putfield 15, 3, 0) := by decide +kernel
theorem cd_178_30 : zt_code zq_T 178 30 = some (.aload_n 0, 1, 0) := by decide +kernel
theorem cd_178_31 : zt_code zq_T 178 31 = some (.aconst_null, 1, 3) := by decide +kernel
theorem cd_178_32 : zt_code zq_T 178 32 = some (.putfield 18, 3, 0) := by decide +kernel
theorem cd_178_35 : zt_code zq_T 178 35 = some (.aload_n 0, 1, 0) := by decide +kernel
theorem cd_178_36 : zt_code zq_T 178 36 = some (.aconst_null, 1, 3) := by decide +kernel
theorem cd_178_37 : zt_code zq_T 178 37 = some (.putfield 21, 3, 0) := by decide +kernel
theorem cd_178_40 : zt_code zq_T 178 40 = some (.return_, 1, 0) := by decide +kernel
theorem cd_179_0 : zt_code zq_T 179 0 = some (.aload_n 1, 1, 0) := by decide +kernel
theorem cd_179_1 : zt_code zq_T 179 1 = some (.aload_n 0, 1, 0) := by decide +kernel
theorem cd_179_2 : zt_code zq_T 179 2 = some (.putfield 9, 3, 0) := by decide +kernel
theorem cd_179_5 : zt_code zq_T 179 5 = some (.aload_n 0, 1, 0) := by decide +kernel
theorem cd_179_6 : zt_code zq_T 179 6 = some (.getfield 18, 3, 0) := by decide +kernel
theorem cd_179_9 : zt_code zq_T 179 9 = some (.ifnonnull (11), 3, 0) := by decide +kernel
theorem cd_179_12 : zt_code zq_T 179 12 = some (.aload_n 0, 1, 0) := by decide +kernel
theorem cd_179_13 : zt_code zq_T 179 13 = some (.aload_n 1, 1, 0) := by decide +kernel
theorem cd_179_14 : zt_code zq_T 179 14 = some (.putfield 15, 3, 0) := by decide +kernel
theorem cd_179_17 : zt_code zq_T 179 17 = some (.goto (24), 3, 0) := by decide +kernel
theorem cd_179_20 : zt_code zq_T 179 20 = some (.aload_n 0, 1, 0) := by decide +kernel
theorem cd_179_21 : zt_code zq_T 179 21 = some (.getfield 18, 3, 0) := by decide +kernel
theorem cd_179_24 : zt_code zq_T 179 24 = some (.aload_n 1, 1, 0) := by decide +kernel
theorem cd_179_25 : zt_code zq_T 179 25 = some (.putfield 21, 3, 0) := by decide +kernel
theorem cd_179_28 : zt_code zq_T 179 28 = some (.aload_n 1, 1, 0) := by decide +kernel
theorem cd_179_29 : zt_code zq_T 179 29 = some (.aload_n 0, 1, 0) := by decide +kernel
theorem cd_179_30 : zt_code zq_T 179 30 = some (.getfield 18, 3, 0) := by decide +kernel
theorem cd_179_33 : zt_code zq_T 179 33 = some (.getfield 35, 3, 0) := by decide +kernel
theorem cd_179_36 : zt_code zq_T 179 36 = some (.iconst 1, 1, 0) := by decide +kernel
theorem cd_179_37 : zt_code zq_T 179 37 = some (.iadd, 1, 0) := by decide +kernel
theorem cd_179_38 : zt_code zq_T 179 38 = some (.putfield 35, 3, 0) := by decide +kernel
theorem cd_179_41 : zt_code zq_T 179 41 = some (.aload_n 0, 1, 0) := by decide +kernel
theorem cd_179_42 : zt_code zq_T 179 42 = some (.aload_n 1, 1, 0) := by decide +kernel
theorem cd_179_43 : zt_code zq_T 179 43 = some (.putfield 18, 3, 0) := by decide +kernel
theorem cd_179_46 : zt_code zq_T 179 46 = some (.aload_n 0, 1, 0) := by decide +kernel
theorem cd_179_47 : zt_code zq_T 179 47 = some (.aload_n 0, 1, 0) := by decide +kernel
theorem cd_179_48 : zt_code zq_T 179 48 = some (.getfield 38, 3, 0) := by decide +kernel
theorem cd_179_51 : zt_code zq_T 179 51 = some (.aload_n 1, 1, 0) := by decide +kernel
theorem cd_179_52 : zt_code zq_T 179 52 = some (.getfield 38, 3, 0) := by decide +kernel
theorem cd_179_55 : zt_code zq_T 179 55 = some (.invokestatic 41, 3, 0) := by decide +kernel
theorem cd_179_58 : zt_code zq_T 179 58 = some (.putfield 38, 3, 0) := by decide +kernel
theorem cd_179_61 : zt_code zq_T 179 61 = some (.return_, 1, 0) := by decide +kernel
theorem cd_180_0 : zt_code zq_T 180 0 = some (.aload_n 0, 1, 0) := by decide +kernel
theorem cd_180_1 : zt_code zq_T 180 1 = some (.getfield 9, 3, 0) := by decide +kernel
theorem cd_180_4 : zt_code zq_T 180 4 = some (.astore_n 1, 1, 0) := by decide +kernel
theorem cd_180_5 : zt_code zq_T 180 5 = some (.aload_n 1, 1, 0) := by decide +kernel
theorem cd_180_6 : zt_code zq_T 180 6 = some (.ifnull (19), 3, 0) := by decide +kernel
theorem cd_180_9 : zt_code zq_T 180 9 = some (.aload_n 1, 1, 0) := by decide +kernel
theorem cd_180_10 : zt_code zq_T 180 10 = some (.getfield 28, 3, 0) := by decide +kernel
theorem cd_180_13 : zt_code zq_T 180 13 = some (.iconst 4, 1, 0) := by decide +kernel
theorem cd_180_14 : zt_code zq_T 180 14 = some (.if_icmp .eq (11), 3, 0) := by decide +kernel
theorem cd_180_17 : zt_code zq_T 180 17 = some (.aload_n 1, 1, 0) := by decide +kernel
theorem cd_180_18 : zt_code zq_T 180 18 = some (.getfield 9, 3, 0) := by decide +kernel
theorem cd_180_21 : zt_code zq_T 180 21 = some (.astore_n 1, 1, 0) := by decide +kernel
theorem cd_180_22 : zt_code zq_T 180 22 = some (.goto (-17), 3, 0) := by decide +kernel
theorem cd_180_25 : zt_code zq_T 180 25 = some (.aload_n 1, 1, 0) := by decide +kernel
theorem cd_180_26 : zt_code zq_T 180 26 = some (.areturn, 1, 0) := by decide +kernel
theorem cd_181_0 : zt_code zq_T 181 0 = some (.aload_n 0, 1, 0) := by decide +kernel
theorem cd_181_1 : zt_code zq_T 181 1 = some (.ifnonnull (7), 3, 0) := by decide +kernel
theorem cd_181_4 : zt_code zq_T 181 4 = some (.iconst (-1), 1, 0) := by decide +kernel
theorem cd_181_5 : zt_code zq_T 181 5 = some (.goto (7), 3, 0) := by decide +kernel
theorem cd_181_8 : zt_code zq_T 181 8 = some (.aload_n 0, 1, 0) := by decide +kernel
theorem cd_181_9 : zt_code zq_T 181 9 = some (.getfield 32, 3, 0) := by decide +kernel
theorem cd_181_12 : zt_code zq_T 181 12 = some (.ireturn, 1, 0) := by decide +kernel
theorem cd_182_0 : zt_code zq_T 182 0 = some (.aload_n 0, 1, 0) := by decide +kernel
theorem cd_182_1 : zt_code zq_T 182 1 = some (.invokespecial 3, 3, 0) := by decide +kernel
theorem cd_182_4 : zt_code zq_T 182 4 = some (.aload_n 0, 1, 0) := by decide +kernel
theorem cd_182_5 : zt_code zq_T 182 5 = some (.iconst (-1), 1, 0) := by decide +kernel
theorem cd_182_6 : zt_code zq_T 182 6 = some (.putfield 9, 3, 0) := by decide +kernel
theorem cd_182_9 : zt_code zq_T 182 9 = some (.aload_n 0, 1, 0) := by decide +kernel
theorem cd_182_10 : zt_code zq_T 182 10 = some (.bipush (24), 2, 0) := by decide +kernel
theorem cd_182_12 : zt_code zq_T 182 12 = some (.newarray .int, 2, 20) := by decide +kernel
theorem cd_182_14 : zt_code zq_T 182 14 = some (.putfield 15, 3, 0) := by decide +kernel
theorem cd_182_17 : zt_code zq_T 182 17 = some (.aload_n 0, 1, 0) := by decide +kernel
theorem cd_182_18 : zt_code zq_T 182 18 = some (.bipush (24), 2, 0) := by decide +kernel
theorem cd_182_20 : zt_code zq_T 182 20 = some (.newarray .int, 2, 20) := by decide +kernel
theorem cd_182_22 : zt_code zq_T 182 22 = some (.putfield 19, 3, 0) := by decide +kernel
theorem cd_182_25 : zt_code zq_T 182 25 = some (.aload_n 0, 1, 0) := by decide +kernel
theorem cd_182_26 : zt_code zq_T 182 26 = some (.bipush (24), 2, 0) := by decide +kernel
theorem cd_182_28 : zt_code zq_T 182 28 = some (.newarray .int, 2, 20) := by decide +kernel
theorem cd_182_30 : zt_code zq_T 182 30 = some (.putfield 22, 3, 0) := by decide +kernel
theorem cd_182_33 : zt_code zq_T 182 33 = some (.aload_n 0, 1, 0) := by decide +kernel
theorem cd_182_34 : zt_code zq_T 182 34 = some (.bipush (8), 2, 0) := by decide +kernel
theorem cd_182_36 : zt_code zq_T 182 36 = some (.newarray .int, 2, 20) := by decide +kernel
theorem cd_182_38 : zt_code zq_T 182 38 = some (.putfield 25, 3, 0) := by decide +kernel
theorem cd_182_41 : zt_code zq_T 182 41 = some (.aload_n 0, 1, 0) := by decide +kernel
theorem cd_182_42 : zt_code zq_T 182 42 = some (.iconst 4, 1, 0) := by decide +kernel
theorem cd_182_43 : zt_code zq_T 182 43 = some (.newarray .int, 2, 20) := by decide +kernel
theorem cd_182_45 : zt_code zq_T 182 45 = some (.putfield 28, 3, 0) := by decide +kernel
theorem cd_182_48 : zt_code zq_T 182 48 = some (.aload_n 0, 1, 0) := by decide +kernel
theorem cd_182_49 : zt_code zq_T 182 49 = some (.bipush (25), 2, 0) := by decide +kernel
theorem cd_182_51 : zt_code zq_T 182 51 = some (.newarray .int, 2, 20) := by decide +kernel
theorem cd_182_53 : zt_code zq_T 182 53 = some (.putfield 31, 3, 0) := by decide +kernel
theorem cd_182_56 : zt_code zq_T 182 56 = some (.return_, 1, 0) := by decide +kernel
theorem cd_183_0 : zt_code zq_T 183 0 = some (.aload_n 0, 1, 0) := by decide +kernel
theorem cd_183_1 : zt_code zq_T 183 1 = some (.iconst (-1), 1, 0) := by decide +kernel
theorem cd_183_2 : zt_code zq_T 183 2 = some (.putfield 9, 3, 0) := by decide +kernel
theorem cd_183_5 : zt_code zq_T 183 5 = some (.aload_n 0, 1, 0) := by decide +kernel
theorem cd_183_6 : zt_code zq_T 183 6 = some (.iconst 0, 1, 0) := by decide +kernel
theorem cd_183_7 : zt_code zq_T 183 7 = some (.putfield 34, 3, 0) := by decide +kernel
theorem cd_183_10 : zt_code zq_T 183 10 = some (.return_, 1, 0) := by decide +kernel
theorem cd_184_0 : zt_code zq_T 184 0 = some (.iconst 0, 1, 0) := by decide +kernel
theorem cd_184_1 : zt_code zq_T 184 1 = some (.istore_n 2, 1, 0) := by decide +kernel
theorem cd_184_2 : zt_code zq_T 184 2 = some (.iconst 0, 1, 0) := by decide +kernel
theorem cd_184_3 : zt_code zq_T 184 3 = some (.istore_n 3, 1, 0) := by decide +kernel
theorem cd_184_4 : zt_code zq_T 184 4 = some (.iload_n 3, 1, 0) := by decide +kernel
theorem cd_184_5 : zt_code zq_T 184 5 = some (.iload_n 1, 1, 0) := by decide +kernel
theorem cd_184_6 : zt_code zq_T 184 6 = some (.if_icmp .ge (61), 3, 0) := by decide +kernel
theorem cd_184_9 : zt_code zq_T 184 9 = some (.aload_n 0, 1, 0) := by decide +kernel
theorem cd_184_10 : zt_code zq_T 184 10 = some (.iload_n 3, 1, 0) := by decide +kernel
theorem cd_184_11 : zt_code zq_T 184 11 = some (.iaload, 1, 0) := by decide +kernel
theorem cd_184_12 : zt_code zq_T 184 12 = some (.bipush (97), 2, 0) := by decide +kernel
theorem cd_184_14 : zt_code zq_T 184 14 = some (.if_icmp .lt (15), 3, 0) := by decide +kernel
theorem cd_184_17 : zt_code zq_T 184 17 = some (.aload_n 0, 1, 0) := by decide +kernel
theorem cd_184_18 : zt_code zq_T 184 18 = some (.iload_n 3, 1, 0) := by decide +kernel
theorem cd_184_19 : zt_code zq_T 184 19 = some (.iaload, 1, 0) := by decide +kernel
theorem cd_184_20 : zt_code zq_T 184 20 = some (.bipush (122), 2, 0) := by decide +kernel
theorem cd_184_22 : zt_code zq_T 184 22 = some (.if_icmp .gt (7), 3, 0) := by decide +kernel
theorem cd_184_25 : zt_code zq_T 184 25 = some (.iconst 1, 1, 0) := by decide +kernel
theorem cd_184_26 : zt_code zq_T 184 26 = some (.goto (4), 3, 0) := by decide +kernel
theorem cd_184_29 : zt_code zq_T 184 29 = some (.iconst 0, 1, 0) := by decide +kernel
theorem cd_184_30 : zt_code zq_T 184 30 = some (.istore 4, 2, 0) := by decide +kernel
theorem cd_184_32 : zt_code zq_T 184 32 = some (.iload 4, 2, 0) := by decide +kernel
theorem cd_184_34 : zt_code zq_T 184 34 = some (.ifCond .eq (6), 3, 0) := by decide +kernel
theorem cd_184_37 : zt_code zq_T 184 37 = some (.iinc 2 (1), 3, 0) := by decide +kernel
theorem cd_184_40 : zt_code zq_T 184 40 = some (.iload 4, 2, 0) := by decide +kernel
theorem cd_184_42 : zt_code zq_T 184 42 = some (.ifCond .ne (11), 3, 0) := by decide +kernel
theorem cd_184_45 : zt_code zq_T 184 45 = some (.aload_n 0, 1, 0) := by decide +kernel
theorem cd_184_46 : zt_code zq_T 184 46 = some (.iload_n 3, 1, 0) := by decide +kernel
theorem cd_184_47 : zt_code zq_T 184 47 = some (.iaload, 1, 0) := by decide +kernel
theorem cd_184_48 : zt_code zq_T 184 48 = some (.bipush (32), 2, 0) := by decide +kernel
theorem cd_184_50 : zt_code zq_T 184 50 = some (.if_icmp .ne (9), 3, 0) := by decide +kernel
theorem cd_184_53 : zt_code zq_T 184 53 = some (.iload_n 2, 1, 0) := by decide +kernel
theorem cd_184_54 : zt_code zq_T 184 54 = some (.bipush (24), 2, 0) := by decide +kernel
theorem cd_184_56 : zt_code zq_T 184 56 = some (.if_icmp .le (5), 3, 0) := by decide +kernel
theorem cd_184_59 : zt_code zq_T 184 59 = some (.iload_n 3, 1, 0) := by decide +kernel
theorem cd_184_60 : zt_code zq_T 184 60 = some (.ireturn, 1, 0) := by decide +kernel
theorem cd_184_61 : zt_code zq_T 184 61 = some (.iinc 3 (1), 3, 0) := by decide +kernel
theorem cd_184_64 : zt_code zq_T 184 64 = some (.goto (-60), 3, 0) := by decide +kernel
theorem cd_184_67 : zt_code zq_T 184 67 = some (.iconst (-1), 1, 0) := by decide +kernel
theorem cd_184_68 : zt_code zq_T 184 68 = some (.ireturn, 1, 0) := by decide +kernel
theorem cd_185_0 : zt_code zq_T 185 0 = some (.aload_n 0, 1, 0) := by decide +kernel
theorem cd_185_1 : zt_code zq_T 185 1 = some (.iconst 0, 1, 0) := by decide +kernel
theorem cd_185_2 : zt_code zq_T 185 2 = some (.putfield 38, 3, 0) := by decide +kernel
theorem cd_185_5 : zt_code zq_T 185 5 = some (.iconst 0, 1, 0) := by decide +kernel
theorem cd_185_6 : zt_code zq_T 185 6 = some (.istore 5, 2, 0) := by decide +kernel
theorem cd_185_8 : zt_code zq_T 185 8 = some (.iload 5, 2, 0) := by decide +kernel
theorem cd_185_10 : zt_code zq_T 185 10 = some (.iload_n 2, 1, 0) := by decide +kernel
theorem cd_185_11 : zt_code zq_T 185 11 = some (.if_icmp .ge (53), 3, 0) := by decide +kernel
theorem cd_185_14 : zt_code zq_T 185 14 = some (.aload_n 0, 1, 0) := by decide +kernel
theorem cd_185_15 : zt_code zq_T 185 15 = some (.getfield 38, 3, 0) := by decide +kernel
theorem cd_185_18 : zt_code zq_T 185 18 = some (.bipush (24), 2, 0) := by decide +kernel
theorem cd_185_20 : zt_code zq_T 185 20 = some (.if_icmp .ge (44), 3, 0) := by decide +kernel
theorem cd_185_23 : zt_code zq_T 185 23 = some (.aload_n 1, 1, 0) := by decide +kernel
theorem cd_185_24 : zt_code zq_T 185 24 = some (.iload 5, 2, 0) := by decide +kernel
theorem cd_185_26 : zt_code zq_T 185 26 = some (.iaload, 1, 0) := by decide +kernel
theorem cd_185_27 : zt_code zq_T 185 27 = some (.bipush (32), 2, 0) := by decide +kernel
theorem cd_185_29 : zt_code zq_T 185 29 = some (.if_icmp .eq (29), 3, 0) := by decide +kernel
theorem cd_185_32 : zt_code zq_T 185 32 = some (.aload_n 0, 1, 0) := by decide +kernel
theorem cd_185_33 : zt_code zq_T 185 33 = some (.getfield 15, 3, 0) := by decide +kernel
theorem cd_185_36 : zt_code zq_T 185 36 = some (.aload_n 0, 1, 0) := by decide +kernel
theorem cd_185_37 : zt_code zq_T 185 37 = some (.getfield 38, 3, 0) := by decide +kernel
theorem cd_185_40 : zt_code zq_T 185 40 = some (.aload_n 1, 1, 0) := by decide +kernel
theorem cd_185_41 : zt_code zq_T 185 41 = some (.iload 5, 2, 0) := by decide +kernel
theorem cd_185_43 : zt_code zq_T 185 43 = some (.iaload, 1, 0) := by decide +kernel
theorem cd_185_44 : zt_code zq_T 185 44 = some (.bipush (97), 2, 0) := by decide +kernel
theorem cd_185_46 : zt_code zq_T 185 46 = some (.isub, 1, 0) := by decide +kernel
theorem cd_185_47 : zt_code zq_T 185 47 = some (.iastore, 1, 0) := by decide +kernel
theorem cd_185_48 : zt_code zq_T 185 48 = some (.aload_n 0, 1, 0) := by decide +kernel
theorem cd_185_49 : zt_code zq_T 185 49 = some (.dup, 1, 0) := by decide +kernel
theorem cd_185_50 : zt_code zq_T 185 50 = some (.getfield 38, 3, 0) := by decide +kernel
theorem cd_185_53 : zt_code zq_T 185 53 = some (.iconst 1, 1, 0) := by decide +kernel
theorem cd_185_54 : zt_code zq_T 185 54 = some (.iadd, 1, 0) := by decide +kernel
theorem cd_185_55 : zt_code zq_T 185 55 = some (.putfield 38, 3, 0) := by decide +kernel
theorem cd_185_58 : zt_code zq_T 185 58 = some (.iinc 5 (1), 3, 0) := by decide +kernel
theorem cd_185_61 : zt_code zq_T 185 61 = some (.goto (-53), 3, 0) := by decide +kernel
theorem cd_185_64 : zt_code zq_T 185 64 = some (.aload 4, 2, 0) := by decide +kernel
theorem cd_185_66 : zt_code zq_T 185 66 = some (.aload_n 3, 1, 0) := by decide +kernel
theorem cd_185_67 : zt_code zq_T 185 67 = some (.invokevirtual 41, 3, 0) := by decide +kernel
theorem cd_185_70 : zt_code zq_T 185 70 = some (.aload_n 0, 1, 0) := by decide +kernel
theorem cd_185_71 : zt_code zq_T 185 71 = some (.iconst 0, 1, 0) := by decide +kernel
theorem cd_185_72 : zt_code zq_T 185 72 = some (.putfield 47, 3, 0) := by decide +kernel
theorem cd_185_75 : zt_code zq_T 185 75 = some (.aload_n 0, 1, 0) := by decide +kernel
theorem cd_185_76 : zt_code zq_T 185 76 = some (.getfield 47, 3, 0) := by decide +kernel
theorem cd_185_79 : zt_code zq_T 185 79 = some (.aload_n 0, 1, 0) := by decide +kernel
theorem cd_185_80 : zt_code zq_T 185 80 = some (.getfield 38, 3, 0) := by decide +kernel
theorem cd_185_83 : zt_code zq_T 185 83 = some (.if_icmp .ge (61), 3, 0) := by decide +kernel
theorem cd_185_86 : zt_code zq_T 185 86 = some (.aload 4, 2, 0) := by decide +kernel
theorem cd_185_88 : zt_code zq_T 185 88 = some (.aload_n 0, 1, 0) := by decide +kernel
theorem cd_185_89 : zt_code zq_T 185 89 = some (.getfield 15, 3, 0) := by decide +kernel
theorem cd_185_92 : zt_code zq_T 185 92 = some (.aload_n 0, 1, 0) := by decide +kernel
theorem cd_185_93 : zt_code zq_T 185 93 = some (.getfield 47, 3, 0) := by decide +kernel
theorem cd_185_96 : zt_code zq_T 185 96 = some (.iaload, 1, 0) := by decide +kernel
theorem cd_185_97 : zt_code zq_T 185 97 = some (.invokevirtual 50, 3, 0) := by decide +kernel
theorem cd_185_100 : zt_code zq_T 185 100 = some (.ifCond .eq (44), 3, 0) := by decide +kernel
theorem cd_185_103 : zt_code zq_T 185 103 = some (.aload_n 0, 1, 0) := by decide +kernel
theorem cd_185_104 : zt_code zq_T 185 104 = some (.getfield 19, 3, 0) := by decide +kernel
theorem cd_185_107 : zt_code zq_T 185 107 = some (.aload_n 0, 1, 0) := by decide +kernel
theorem cd_185_108 : zt_code zq_T 185 108 = some (.getfield 47, 3, 0) := by decide +kernel
theorem cd_185_111 : zt_code zq_T 185 111 = some (.aload 4, 2, 0) := by decide +kernel
theorem cd_185_113 : zt_code zq_T 185 113 = some (.getfield 54, 3, 0) := by decide +kernel
theorem cd_185_116 : zt_code zq_T 185 116 = some (.iastore, 1, 0) := by decide +kernel
theorem cd_185_117 : zt_code zq_T 185 117 = some (.aload_n 0, 1, 0) := by decide +kernel
theorem cd_185_118 : zt_code zq_T 185 118 = some (.getfield 22, 3, 0) := by decide +kernel
theorem cd_185_121 : zt_code zq_T 185 121 = some (.aload_n 0, 1, 0) := by decide +kernel
theorem cd_185_122 : zt_code zq_T 185 122 = some (.getfield 47, 3, 0) := by decide +kernel
theorem cd_185_125 : zt_code zq_T 185 125 = some (.aload 4, 2, 0) := by decide +kernel
theorem cd_185_127 : zt_code zq_T 185 127 = some (.getfield 57, 3, 0) := by decide +kernel
theorem cd_185_130 : zt_code zq_T 185 130 = some (.iastore, 1, 0) := by decide +kernel
theorem cd_185_131 : zt_code zq_T 185 131 = some (.aload_n 0, 1, 0) := by decide +kernel
theorem cd_185_132 : zt_code zq_T 185 132 = some (.dup, 1, 0) := by decide +kernel
theorem cd_185_133 : zt_code zq_T 185 133 = some (.getfield 47, 3, 0) := by decide +kernel
theorem cd_185_136 : zt_code zq_T 185 136 = some (.iconst 1, 1, 0) := by decide +kernel
theorem cd_185_137 : zt_code zq_T 185 137 = some (.iadd, 1, 0) := by decide +kernel
theorem cd_185_138 : zt_code zq_T 185 138 = some (.putfield 47, 3, 0) := by decide +kernel
theorem cd_185_141 : zt_code zq_T 185 141 = some (.goto (-66), 3, 0) := by decide +kernel
theorem cd_185_144 : zt_code zq_T 185 144 = some (.aload_n 0, 1, 0) := by decide +kernel
theorem cd_185_145 : zt_code zq_T 185 145 = some (.aload 4, 2, 0) := by decide +kernel
theorem cd_185_147 : zt_code zq_T 185 147 = some (.invokevirtual 60, 3, 0) := by decide +kernel
theorem cd_185_150 : zt_code zq_T 185 150 = some (.putfield 64, 3, 0) := by decide +kernel
theorem cd_185_153 : zt_code zq_T 185 153 = some (.aload_n 0, 1, 0) := by decide +kernel
theorem cd_185_154 : zt_code zq_T 185 154 = some (.aload 4, 2, 0) := by decide +kernel
theorem cd_185_156 : zt_code zq_T 185 156 = some (.invokevirtual 67, 3, 0) := by decide +kernel
theorem cd_185_159 : zt_code zq_T 185 159 = some (.putfield 71, 3, 0) := by decide +kernel
theorem cd_185_162 : zt_code zq_T 185 162 = some (.aload_n 0, 1, 0) := by decide +kernel
theorem cd_185_163 : zt_code zq_T 185 163 = some (.aload_n 3, 1, 0) := by decide +kernel
theorem cd_185_164 : zt_code zq_T 185 164 = some (.getfield 74, 3, 0) := by decide +kernel
theorem cd_185_167 : zt_code zq_T 185 167 = some (.putfield 79, 3, 0) := by decide +kernel
theorem cd_185_170 : zt_code zq_T 185 170 = some (.iconst 0, 1, 0) := by decide +kernel
theorem cd_185_171 : zt_code zq_T 185 171 = some (.istore 5, 2, 0) := by decide +kernel
theorem cd_185_173 : zt_code zq_T 185 173 = some (.iload 5, 2, 0) := by decide +kernel
theorem cd_185_175 : zt_code zq_T 185 175 = some (.aload_n 0, 1, 0) := by decide +kernel
theorem cd_185_176 : zt_code zq_T 185 176 = some (.getfield 79, 3, 0) := by decide +kernel
theorem cd_185_179 : zt_code zq_T 185 179 = some (.if_icmp .ge (23), 3, 0) := by decide +kernel
theorem cd_185_182 : zt_code zq_T 185 182 = some (.aload_n 0, 1, 0) := by decide +kernel
theorem cd_185_183 : zt_code zq_T 185 183 = some (.getfield 25, 3, 0) := by decide +kernel
theorem cd_185_186 : zt_code zq_T 185 186 = some (.iload 5, 2, 0) := by decide +kernel
theorem cd_185_188 : zt_code zq_T 185 188 = some (.aload 4, 2, 0) := by decide +kernel
theorem cd_185_190 : zt_code zq_T 185 190 = some (.iload 5, 2, 0) := by decide +kernel
theorem cd_185_192 : zt_code zq_T 185 192 = some (.invokevirtual 80, 3, 0) := by decide +kernel
theorem cd_185_195 : zt_code zq_T 185 195 = some (.iastore, 1, 0) := by decide +kernel
theorem cd_185_196 : zt_code zq_T 185 196 = some (.iinc 5 (1), 3, 0) := by decide +kernel
theorem cd_185_199 : zt_code zq_T 185 199 = some (.goto (-26), 3, 0) := by decide +kernel
theorem cd_185_202 : zt_code zq_T 185 202 = some (.aload_n 0, 1, 0) := by decide +kernel
theorem cd_185_203 : zt_code zq_T 185 203 = some (.aload_n 3, 1, 0) := by decide +kernel
theorem cd_185_204 : zt_code zq_T 185 204 = some (.getfield 83, 3, 0) := by decide +kernel
theorem cd_185_207 : zt_code zq_T 185 207 = some (.putfield 86, 3, 0) := by decide +kernel
theorem cd_185_210 : zt_code zq_T 185 210 = some (.iconst 0, 1, 0) := by decide +kernel
theorem cd_185_211 : zt_code zq_T 185 211 = some (.istore 5, 2, 0) := by decide +kernel
theorem cd_185_213 : zt_code zq_T 185 213 = some (.iload 5, 2, 0) := by decide +kernel
theorem cd_185_215 : zt_code zq_T 185 215 = some (.aload_n 0, 1, 0) := by decide +kernel
theorem cd_185_216 : zt_code zq_T 185 216 = some (.getfield 86, 3, 0) := by decide +kernel
theorem cd_185_219 : zt_code zq_T 185 219 = some (.if_icmp .ge (23), 3, 0) := by decide +kernel
theorem cd_185_222 : zt_code zq_T 185 222 = some (.aload_n 0, 1, 0) := by decide +kernel
theorem cd_185_223 : zt_code zq_T 185 223 = some (.getfield 28, 3, 0) := by decide +kernel
theorem cd_185_226 : zt_code zq_T 185 226 = some (.iload 5, 2, 0) := by decide +kernel
theorem cd_185_228 : zt_code zq_T 185 228 = some (.aload 4, 2, 0) := by decide +kernel
theorem cd_185_230 : zt_code zq_T 185 230 = some (.iload 5, 2, 0) := by decide +kernel
theorem cd_185_232 : zt_code zq_T 185 232 = some (.invokevirtual 87, 3, 0) := by decide +kernel
theorem cd_185_235 : zt_code zq_T 185 235 = some (.iastore, 1, 0) := by decide +kernel
theorem cd_185_236 : zt_code zq_T 185 236 = some (.iinc 5 (1), 3, 0) := by decide +kernel
theorem cd_185_239 : zt_code zq_T 185 239 = some (.goto (-26), 3, 0) := by decide +kernel
theorem cd_185_242 : zt_code zq_T 185 242 = some (.aload_n 0, 1, 0) := by decide +kernel
theorem cd_185_243 : zt_code zq_T 185 243 = some (.iconst 0, 1, 0) := by decide +kernel
theorem cd_185_244 : zt_code zq_T 185 244 = some (.putfield 34, 3, 0) := by decide +kernel
theorem cd_185_247 : zt_code zq_T 185 247 = some (.return_, 1, 0) := by decide +kernel
theorem cd_186_0 : zt_code zq_T 186 0 = some (.aload_n 0, 1, 0) := by decide +kernel
theorem cd_186_1 : zt_code zq_T 186 1 = some (.getfield 47, 3, 0) := by decide +kernel
theorem cd_186_4 : zt_code zq_T 186 4 = some (.aload_n 0, 1, 0) := by decide +kernel
theorem cd_186_5 : zt_code zq_T 186 5 = some (.getfield 38, 3, 0) := by decide +kernel
theorem cd_186_8 : zt_code zq_T 186 8 = some (.if_icmp .ne (14), 3, 0) := by decide +kernel
theorem cd_186_11 : zt_code zq_T 186 11 = some (.aload_n 0, 1, 0) := by decide +kernel
theorem cd_186_12 : zt_code zq_T 186 12 = some (.getfield 71, 3, 0) := by decide +kernel
theorem cd_186_15 : zt_code zq_T 186 15 = some (.ifCond .eq (7), 3, 0) := by decide +kernel
theorem cd_186_18 : zt_code zq_T 186 18 = some (.iconst 1, 1, 0) := by decide +kernel
theorem cd_186_19 : zt_code zq_T 186 19 = some (.goto (4), 3, 0) := by decide +kernel
theorem cd_186_22 : zt_code zq_T 186 22 = some (.iconst 0, 1, 0) := by decide +kernel
theorem cd_186_23 : zt_code zq_T 186 23 = some (.ireturn, 1, 0) := by decide +kernel
theorem cd_187_0 : zt_code zq_T 187 0 = some (.aload_n 0, 1, 0) := by decide +kernel
theorem cd_187_1 : zt_code zq_T 187 1 = some (.iconst 1, 1, 0) := by decide +kernel
theorem cd_187_2 : zt_code zq_T 187 2 = some (.putfield 34, 3, 0) := by decide +kernel
theorem cd_187_5 : zt_code zq_T 187 5 = some (.iconst 0, 1, 0) := by decide +kernel
theorem cd_187_6 : zt_code zq_T 187 6 = some (.istore_n 3, 1, 0) := by decide +kernel
theorem cd_187_7 : zt_code zq_T 187 7 = some (.aload_n 2, 1, 0) := by decide +kernel
theorem cd_187_8 : zt_code zq_T 187 8 = some (.aload_n 1, 1, 0) := by decide +kernel
theorem cd_187_9 : zt_code zq_T 187 9 = some (.invokevirtual 41, 3, 0) := by decide +kernel
theorem cd_187_12 : zt_code zq_T 187 12 = some (.aload_n 0, 1, 0) := by decide +kernel
theorem cd_187_13 : zt_code zq_T 187 13 = some (.getfield 31, 3, 0) := by decide +kernel
theorem cd_187_16 : zt_code zq_T 187 16 = some (.iconst 0, 1, 0) := by decide +kernel
theorem cd_187_17 : zt_code zq_T 187 17 = some (.aload_n 2, 1, 0) := by decide +kernel
theorem cd_187_18 : zt_code zq_T 187 18 = some (.invokevirtual 90, 3, 0) := by decide +kernel
theorem cd_187_21 : zt_code zq_T 187 21 = some (.iastore, 1, 0) := by decide +kernel
theorem cd_187_22 : zt_code zq_T 187 22 = some (.iload_n 3, 1, 0) := by decide +kernel
theorem cd_187_23 : zt_code zq_T 187 23 = some (.aload_n 0, 1, 0) := by decide +kernel
theorem cd_187_24 : zt_code zq_T 187 24 = some (.getfield 38, 3, 0) := by decide +kernel
theorem cd_187_27 : zt_code zq_T 187 27 = some (.if_icmp .ge (32), 3, 0) := by decide +kernel
theorem cd_187_30 : zt_code zq_T 187 30 = some (.aload_n 2, 1, 0) := by decide +kernel
theorem cd_187_31 : zt_code zq_T 187 31 = some (.aload_n 0, 1, 0) := by decide +kernel
theorem cd_187_32 : zt_code zq_T 187 32 = some (.getfield 15, 3, 0) := by decide +kernel
theorem cd_187_35 : zt_code zq_T 187 35 = some (.iload_n 3, 1, 0) := by decide +kernel
theorem cd_187_36 : zt_code zq_T 187 36 = some (.iaload, 1, 0) := by decide +kernel
theorem cd_187_37 : zt_code zq_T 187 37 = some (.invokevirtual 50, 3, 0) := by decide +kernel
theorem cd_187_40 : zt_code zq_T 187 40 = some (.ifCond .eq (19), 3, 0) := by decide +kernel
theorem cd_187_43 : zt_code zq_T 187 43 = some (.iinc 3 (1), 3, 0) := by decide +kernel
theorem cd_187_46 : zt_code zq_T 187 46 = some (.aload_n 0, 1, 0) := by decide +kernel
theorem cd_187_47 : zt_code zq_T 187 47 = some (.getfield 31, 3, 0) := by decide +kernel
theorem cd_187_50 : zt_code zq_T 187 50 = some (.iload_n 3, 1, 0) := by decide +kernel
theorem cd_187_51 : zt_code zq_T 187 51 = some (.aload_n 2, 1, 0) := by decide +kernel
theorem cd_187_52 : zt_code zq_T 187 52 = some (.invokevirtual 90, 3, 0) := by decide +kernel
theorem cd_187_55 : zt_code zq_T 187 55 = some (.iastore, 1, 0) := by decide +kernel
theorem cd_187_56 : zt_code zq_T 187 56 = some (.goto (-34), 3, 0) := by decide +kernel
theorem cd_187_59 : zt_code zq_T 187 59 = some (.iload_n 3, 1, 0) := by decide +kernel
theorem cd_187_60 : zt_code zq_T 187 60 = some (.aload_n 0, 1, 0) := by decide +kernel
theorem cd_187_61 : zt_code zq_T 187 61 = some (.getfield 38, 3, 0) := by decide +kernel
theorem cd_187_64 : zt_code zq_T 187 64 = some (.if_icmp .ne (18), 3, 0) := by decide +kernel
theorem cd_187_67 : zt_code zq_T 187 67 = some (.aload_n 2, 1, 0) := by decide +kernel
theorem cd_187_68 : zt_code zq_T 187 68 = some (.invokevirtual 67, 3, 0) := by decide +kernel
theorem cd_187_71 : zt_code zq_T 187 71 = some (.ifCond .eq (11), 3, 0) := by decide +kernel
theorem cd_187_74 : zt_code zq_T 187 74 = some (.aload_n 0, 1, 0) := by decide +kernel
theorem cd_187_75 : zt_code zq_T 187 75 = some (.iconst 0, 1, 0) := by decide +kernel
theorem cd_187_76 : zt_code zq_T 187 76 = some (.iconst (-1), 1, 0) := by decide +kernel
theorem cd_187_77 : zt_code zq_T 187 77 = some (.iconst (-1), 1, 0) := by decide +kernel
theorem cd_187_78 : zt_code zq_T 187 78 = some (.invokevirtual 93, 3, 0) := by decide +kernel
theorem cd_187_81 : zt_code zq_T 187 81 = some (.return_, 1, 0) := by decide +kernel
theorem cd_187_82 : zt_code zq_T 187 82 = some (.iload_n 3, 1, 0) := by decide +kernel
theorem cd_187_83 : zt_code zq_T 187 83 = some (.aload_n 0, 1, 0) := by decide +kernel
theorem cd_187_84 : zt_code zq_T 187 84 = some (.getfield 38, 3, 0) := by decide +kernel
theorem cd_187_87 : zt_code zq_T 187 87 = some (.iconst 1, 1, 0) := by decide +kernel
theorem cd_187_88 : zt_code zq_T 187 88 = some (.isub, 1, 0) := by decide +kernel
theorem cd_187_89 : zt_code zq_T 187 89 = some (.invokestatic 97, 3, 0) := by decide +kernel
theorem cd_187_92 : zt_code zq_T 187 92 = some (.istore 4, 2, 0) := by decide +kernel
theorem cd_187_94 : zt_code zq_T 187 94 = some (.aload_n 0, 1, 0) := by decide +kernel
theorem cd_187_95 : zt_code zq_T 187 95 = some (.aload_n 1, 1, 0) := by decide +kernel
theorem cd_187_96 : zt_code zq_T 187 96 = some (.aload_n 2, 1, 0) := by decide +kernel
theorem cd_187_97 : zt_code zq_T 187 97 = some (.iload 4, 2, 0) := by decide +kernel
theorem cd_187_99 : zt_code zq_T 187 99 = some (.invokevirtual 103, 3, 0) := by decide +kernel
theorem cd_187_102 : zt_code zq_T 187 102 = some (.ifCond .ne (33), 3, 0) := by decide +kernel
theorem cd_187_105 : zt_code zq_T 187 105 = some (.aload_n 0, 1, 0) := by decide +kernel
theorem cd_187_106 : zt_code zq_T 187 106 = some (.aload_n 1, 1, 0) := by decide +kernel
theorem cd_187_107 : zt_code zq_T 187 107 = some (.aload_n 2, 1, 0) := by decide +kernel
theorem cd_187_108 : zt_code zq_T 187 108 = some (.iload_n 3, 1, 0) := by decide +kernel
theorem cd_187_109 : zt_code zq_T 187 109 = some (.iconst 2, 1, 0) := by decide +kernel
theorem cd_187_110 : zt_code zq_T 187 110 = some (.invokevirtual 107, 3, 0) := by decide +kernel
theorem cd_187_113 : zt_code zq_T 187 113 = some (.ifCond .ne (22), 3, 0) := by decide +kernel
theorem cd_187_116 : zt_code zq_T 187 116 = some (.aload_n 0, 1, 0) := by decide +kernel
theorem cd_187_117 : zt_code zq_T 187 117 = some (.aload_n 1, 1, 0) := by decide +kernel
theorem cd_187_118 : zt_code zq_T 187 118 = some (.aload_n 2, 1, 0) := by decide +kernel
theorem cd_187_119 : zt_code zq_T 187 119 = some (.iload 4, 2, 0) := by decide +kernel
theorem cd_187_121 : zt_code zq_T 187 121 = some (.iconst 3, 1, 0) := by decide +kernel
theorem cd_187_122 : zt_code zq_T 187 122 = some (.invokevirtual 107, 3, 0) := by decide +kernel
theorem cd_187_125 : zt_code zq_T 187 125 = some (.ifCond .ne (10), 3, 0) := by decide +kernel
theorem cd_187_128 : zt_code zq_T 187 128 = some (.aload_n 0, 1, 0) := by decide +kernel
theorem cd_187_129 : zt_code zq_T 187 129 = some (.iconst (-1), 1, 0) := by decide +kernel
theorem cd_187_130 : zt_code zq_T 187 130 = some (.iconst (-1), 1, 0) := by decide +kernel
theorem cd_187_131 : zt_code zq_T 187 131 = some (.iconst (-1), 1, 0) := by decide +kernel
theorem cd_187_132 : zt_code zq_T 187 132 = some (.invokevirtual 93, 3, 0) := by decide +kernel
theorem cd_187_135 : zt_code zq_T 187 135 = some (.return_, 1, 0) := by decide +kernel
theorem cd_188_0 : zt_code zq_T 188 0 = some (.aload_n 0, 1, 0) := by decide +kernel
theorem cd_188_1 : zt_code zq_T 188 1 = some (.iload_n 1, 1, 0) := by decide +kernel
theorem cd_188_2 : zt_code zq_T 188 2 = some (.putfield 111, 3, 0) := by decide +kernel
theorem cd_188_5 : zt_code zq_T 188 5 = some (.aload_n 0, 1, 0) := by decide +kernel
theorem cd_188_6 : zt_code zq_T 188 6 = some (.iload_n 2, 1, 0) := by decide +kernel
theorem cd_188_7 : zt_code zq_T 188 7 = some (.putfield 114, 3, 0) := by decide +kernel
theorem cd_188_10 : zt_code zq_T 188 10 = some (.aload_n 0, 1, 0) := by decide +kernel
theorem cd_188_11 : zt_code zq_T 188 11 = some (.iload_n 3, 1, 0) := by decide +kernel
theorem cd_188_12 : zt_code zq_T 188 12 = some (.putfield 117, 3, 0) := by decide +kernel
theorem cd_188_15 : zt_code zq_T 188 15 = some (.return_, 1, 0) := by decide +kernel
theorem cd_189_0 : zt_code zq_T 189 0 = some (.iconst 0, 1, 0) := by decide +kernel
theorem cd_189_1 : zt_code zq_T 189 1 = some (.istore 4, 2, 0) := by decide +kernel
theorem cd_189_3 : zt_code zq_T 189 3 = some (.iload 4, 2, 0) := by decide +kernel
theorem cd_189_5 : zt_code zq_T 189 5 = some (.iload_n 3, 1, 0) := by decide +kernel
theorem cd_189_6 : zt_code zq_T 189 6 = some (.if_icmp .gt (43), 3, 0) := by decide +kernel
theorem cd_189_9 : zt_code zq_T 189 9 = some (.aload_n 2, 1, 0) := by decide +kernel
theorem cd_189_10 : zt_code zq_T 189 10 = some (.aload_n 1, 1, 0) := by decide +kernel
theorem cd_189_11 : zt_code zq_T 189 11 = some (.aload_n 0, 1, 0) := by decide +kernel
theorem cd_189_12 : zt_code zq_T 189 12 = some (.getfield 31, 3, 0) := by decide +kernel
theorem cd_189_15 : zt_code zq_T 189 15 = some (.iload 4, 2, 0) := by decide +kernel
theorem cd_189_17 : zt_code zq_T 189 17 = some (.iaload, 1, 0) := by decide +kernel
theorem cd_189_18 : zt_code zq_T 189 18 = some (.invokevirtual 120, 3, 0) := by decide +kernel
theorem cd_189_21 : zt_code zq_T 189 21 = some (.aload_n 0, 1, 0) := by decide +kernel
theorem cd_189_22 : zt_code zq_T 189 22 = some (.aload_n 2, 1, 0) := by decide +kernel
theorem cd_189_23 : zt_code zq_T 189 23 = some (.iload 4, 2, 0) := by decide +kernel
theorem cd_189_25 : zt_code zq_T 189 25 = some (.iconst 1, 1, 0) := by decide +kernel
theorem cd_189_26 : zt_code zq_T 189 26 = some (.iadd, 1, 0) := by decide +kernel
theorem cd_189_27 : zt_code zq_T 189 27 = some (.invokevirtual 124, 3, 0) := by decide +kernel
theorem cd_189_30 : zt_code zq_T 189 30 = some (.ifCond .eq (13), 3, 0) := by decide +kernel
theorem cd_189_33 : zt_code zq_T 189 33 = some (.aload_n 0, 1, 0) := by decide +kernel
theorem cd_189_34 : zt_code zq_T 189 34 = some (.iconst 1, 1, 0) := by decide +kernel
theorem cd_189_35 : zt_code zq_T 189 35 = some (.iload 4, 2, 0) := by decide +kernel
theorem cd_189_37 : zt_code zq_T 189 37 = some (.iconst (-1), 1, 0) := by decide +kernel
theorem cd_189_38 : zt_code zq_T 189 38 = some (.invokevirtual 93, 3, 0) := by decide +kernel
theorem cd_189_41 : zt_code zq_T 189 41 = some (.iconst 1, 1, 0) := by decide +kernel
theorem cd_189_42 : zt_code zq_T 189 42 = some (.ireturn, 1, 0) := by decide +kernel
theorem cd_189_43 : zt_code zq_T 189 43 = some (.iinc 4 (1), 3, 0) := by decide +kernel
theorem cd_189_46 : zt_code zq_T 189 46 = some (.goto (-43), 3, 0) := by decide +kernel
theorem cd_189_49 : zt_code zq_T 189 49 = some (.iconst 0, 1, 0) := by decide +kernel
theorem cd_189_50 : zt_code zq_T 189 50 = some (.ireturn, 1, 0) := by decide +kernel
theorem cd_190_0 : zt_code zq_T 190 0 = some (.aload_n 1, 1, 0) := by decide +kernel
theorem cd_190_1 : zt_code zq_T 190 1 = some (.invokevirtual 128, 3, 0) := by decide +kernel
theorem cd_190_4 : zt_code zq_T 190 4 = some (.istore 5, 2, 0) := by decide +kernel
theorem cd_190_6 : zt_code zq_T 190 6 = some (.iconst 0, 1, 0) := by decide +kernel
theorem cd_190_7 : zt_code zq_T 190 7 = some (.istore 6, 2, 0) := by decide +kernel
theorem cd_190_9 : zt_code zq_T 190 9 = some (.iload 6, 2, 0) := by decide +kernel
theorem cd_190_11 : zt_code zq_T 190 11 = some (.iload_n 3, 1, 0) := by decide +kernel
theorem cd_190_12 : zt_code zq_T 190 12 = some (.if_icmp .gt (91), 3, 0) := by decide +kernel
theorem cd_190_15 : zt_code zq_T 190 15 = some (.iconst 0, 1, 0) := by decide +kernel
theorem cd_190_16 : zt_code zq_T 190 16 = some (.istore 7, 2, 0) := by decide +kernel
theorem cd_190_18 : zt_code zq_T 190 18 = some (.iload 7, 2, 0) := by decide +kernel
theorem cd_190_20 : zt_code zq_T 190 20 = some (.bipush (26), 2, 0) := by decide +kernel
theorem cd_190_22 : zt_code zq_T 190 22 = some (.if_icmp .ge (75), 3, 0) := by decide +kernel
theorem cd_190_25 : zt_code zq_T 190 25 = some (.iload 5, 2, 0) := by decide +kernel
theorem cd_190_27 : zt_code zq_T 190 27 = some (.iload 7, 2, 0) := by decide +kernel
theorem cd_190_29 : zt_code zq_T 190 29 = some (.ishr, 1, 0) := by decide +kernel
theorem cd_190_30 : zt_code zq_T 190 30 = some (.iconst 1, 1, 0) := by decide +kernel
theorem cd_190_31 : zt_code zq_T 190 31 = some (.iand, 1, 0) := by decide +kernel
theorem cd_190_32 : zt_code zq_T 190 32 = some (.ifCond .eq (59), 3, 0) := by decide +kernel
theorem cd_190_35 : zt_code zq_T 190 35 = some (.aload_n 2, 1, 0) := by decide +kernel
theorem cd_190_36 : zt_code zq_T 190 36 = some (.aload_n 1, 1, 0) := by decide +kernel
theorem cd_190_37 : zt_code zq_T 190 37 = some (.aload_n 0, 1, 0) := by decide +kernel
theorem cd_190_38 : zt_code zq_T 190 38 = some (.getfield 31, 3, 0) := by decide +kernel
theorem cd_190_41 : zt_code zq_T 190 41 = some (.iload 6, 2, 0) := by decide +kernel
theorem cd_190_43 : zt_code zq_T 190 43 = some (.iaload, 1, 0) := by decide +kernel
theorem cd_190_44 : zt_code zq_T 190 44 = some (.invokevirtual 120, 3, 0) := by decide +kernel
theorem cd_190_47 : zt_code zq_T 190 47 = some (.aload_n 2, 1, 0) := by decide +kernel
theorem cd_190_48 : zt_code zq_T 190 48 = some (.iload 7, 2, 0) := by decide +kernel
theorem cd_190_50 : zt_code zq_T 190 50 = some (.invokevirtual 50, 3, 0) := by decide +kernel
theorem cd_190_53 : zt_code zq_T 190 53 = some (.ifCond .eq (38), 3, 0) := by decide +kernel
theorem cd_190_56 : zt_code zq_T 190 56 = some (.aload_n 0, 1, 0) := by decide +kernel
theorem cd_190_57 : zt_code zq_T 190 57 = some (.aload_n 2, 1, 0) := by decide +kernel
theorem cd_190_58 : zt_code zq_T 190 58 = some (.iload 4, 2, 0) := by decide +kernel
theorem cd_190_60 : zt_code zq_T 190 60 = some (.iconst 2, 1, 0) := by decide +kernel
theorem cd_190_61 : zt_code zq_T 190 61 = some (.if_icmp .ne (8), 3, 0) := by decide +kernel
theorem cd_190_64 : zt_code zq_T 190 64 = some (.iload 6, 2, 0) := by decide +kernel
theorem cd_190_66 : zt_code zq_T 190 66 = some (.goto (7), 3, 0) := by decide +kernel
theorem cd_190_69 : zt_code zq_T 190 69 = some (.iload 6, 2, 0) := by decide +kernel
theorem cd_190_71 : zt_code zq_T 190 71 = some (.iconst 1, 1, 0) := by decide +kernel
theorem cd_190_72 : zt_code zq_T 190 72 = some (.iadd, 1, 0) := by decide +kernel
theorem cd_190_73 : zt_code zq_T 190 73 = some (.invokevirtual 124, 3, 0) := by decide +kernel
theorem cd_190_76 : zt_code zq_T 190 76 = some (.ifCond .eq (15), 3, 0) := by decide +kernel
theorem cd_190_79 : zt_code zq_T 190 79 = some (.aload_n 0, 1, 0) := by decide +kernel
theorem cd_190_80 : zt_code zq_T 190 80 = some (.iload 4, 2, 0) := by decide +kernel
theorem cd_190_82 : zt_code zq_T 190 82 = some (.iload 6, 2, 0) := by decide +kernel
theorem cd_190_84 : zt_code zq_T 190 84 = some (.iload 7, 2, 0) := by decide +kernel
theorem cd_190_86 : zt_code zq_T 190 86 = some (.invokevirtual 93, 3, 0) := by decide +kernel
theorem cd_190_89 : zt_code zq_T 190 89 = some (.iconst 1, 1, 0) := by decide +kernel
theorem cd_190_90 : zt_code zq_T 190 90 = some (.ireturn, 1, 0) := by decide +kernel
theorem cd_190_91 : zt_code zq_T 190 91 = some (.iinc 7 (1), 3, 0) := by decide +kernel
theorem cd_190_94 : zt_code zq_T 190 94 = some (.goto (-76), 3, 0) := by decide +kernel
theorem cd_190_97 : zt_code zq_T 190 97 = some (.iinc 6 (1), 3, 0) := by decide +kernel
theorem cd_190_100 : zt_code zq_T 190 100 = some (.goto (-91), 3, 0) := by decide +kernel
theorem cd_190_103 : zt_code zq_T 190 103 = some (.iconst 0, 1, 0) := by decide +kernel
theorem cd_190_104 : zt_code zq_T 190 104 = some (.ireturn, 1, 0) := by decide +kernel
theorem cd_191_0 : zt_code zq_T 191 0 = some (.iload_n 2, 1, 0) := by decide +kernel
theorem cd_191_1 : zt_code zq_T 191 1 = some (.istore_n 3, 1, 0) := by decide +kernel
theorem cd_191_2 : zt_code zq_T 191 2 = some (.iload_n 3, 1, 0) := by decide +kernel
theorem cd_191_3 : zt_code zq_T 191 3 = some (.aload_n 0, 1, 0) := by decide +kernel
theorem cd_191_4 : zt_code zq_T 191 4 = some (.getfield 38, 3, 0) := by decide +kernel
theorem cd_191_7 : zt_code zq_T 191 7 = some (.if_icmp .ge (24), 3, 0) := by decide +kernel
theorem cd_191_10 : zt_code zq_T 191 10 = some (.aload_n 1, 1, 0) := by decide +kernel
theorem cd_191_11 : zt_code zq_T 191 11 = some (.aload_n 0, 1, 0) := by decide +kernel
theorem cd_191_12 : zt_code zq_T 191 12 = some (.getfield 15, 3, 0) := by decide +kernel
theorem cd_191_15 : zt_code zq_T 191 15 = some (.iload_n 3, 1, 0) := by decide +kernel
theorem cd_191_16 : zt_code zq_T 191 16 = some (.iaload, 1, 0) := by decide +kernel
theorem cd_191_17 : zt_code zq_T 191 17 = some (.invokevirtual 50, 3, 0) := by decide +kernel
theorem cd_191_20 : zt_code zq_T 191 20 = some (.ifCond .ne (5), 3, 0) := by decide +kernel
theorem cd_191_23 : zt_code zq_T 191 23 = some (.iconst 0, 1, 0) := by decide +kernel
theorem cd_191_24 : zt_code zq_T 191 24 = some (.ireturn, 1, 0) := by decide +kernel
theorem cd_191_25 : zt_code zq_T 191 25 = some (.iinc 3 (1), 3, 0) := by decide +kernel
theorem cd_191_28 : zt_code zq_T 191 28 = some (.goto (-26), 3, 0) := by decide +kernel
theorem cd_191_31 : zt_code zq_T 191 31 = some (.aload_n 1, 1, 0) := by decide +kernel
theorem cd_191_32 : zt_code zq_T 191 32 = some (.invokevirtual 67, 3, 0) := by decide +kernel
theorem cd_191_35 : zt_code zq_T 191 35 = some (.ireturn, 1, 0) := by decide +kernel
theorem cd_192_0 : zt_code zq_T 192 0 = some (.aload_n 0, 1, 0) := by decide +kernel
theorem cd_192_1 : zt_code zq_T 192 1 = some (.invokespecial 3, 3, 0) := by decide +kernel
theorem cd_192_4 : zt_code zq_T 192 4 = some (.aload_n 0, 1, 0) := by decide +kernel
theorem cd_192_5 : zt_code zq_T 192 5 = some (.aconst_null, 1, 3) := by decide +kernel
theorem cd_192_6 : zt_code zq_T 192 6 = some (.putfield 9, 3, 0) := by decide +kernel
theorem cd_192_9 : zt_code zq_T 192 9 = some (.aload_n 0, 1, 0) := by decide +kernel
theorem cd_192_10 : zt_code zq_T 192 10 = some (.bipush (16), 2, 0) := by decide +kernel
theorem cd_192_12 : zt_code zq_T 192 12 = some (.newarray .int, 2, 20) := by decide +kernel
theorem cd_192_14 : zt_code zq_T 192 14 = some (.putfield 15, 3, 0) := by decide +kernel
theorem cd_192_17 : zt_code zq_T 192 17 = some (.aload_n 0, 1, 0) := by decide +kernel
theorem cd_192_18 : zt_code zq_T 192 18 = some (.bipush (16), 2, 0) := by decide +kernel
theorem cd_192_20 : zt_code zq_T 192 20 = some (.anewarray 19, 3, 0) := by decide +kernel
theorem cd_192_23 : zt_code zq_T 192 23 = some (.putfield 21, 3, 0) := by decide +kernel
theorem cd_192_26 : zt_code zq_T 192 26 = some (.aload_n 0, 1, 0) := by decide +kernel
theorem cd_192_27 : zt_code zq_T 192 27 = some (.bipush (16), 2, 0) := by decide +kernel
theorem cd_192_29 : zt_code zq_T 192 29 = some (.newarray .int, 2, 20) := by decide +kernel
theorem cd_192_31 : zt_code zq_T 192 31 = some (.putfield 25, 3, 0) := by decide +kernel
theorem cd_192_34 : zt_code zq_T 192 34 = some (.aload_n 0, 1, 0) := by decide +kernel
theorem cd_192_35 : zt_code zq_T 192 35 = some (.bipush (16), 2, 0) := by decide +kernel
theorem cd_192_37 : zt_code zq_T 192 37 = some (.newarray .int, 2, 20) := by decide +kernel
theorem cd_192_39 : zt_code zq_T 192 39 = some (.putfield 28, 3, 0) := by decide +kernel
theorem cd_192_42 : zt_code zq_T 192 42 = some (.aload_n 0, 1, 0) := by decide +kernel
theorem cd_192_43 : zt_code zq_T 192 43 = some (.bipush (8), 2, 0) := by decide +kernel
theorem cd_192_45 : zt_code zq_T 192 45 = some (.newarray .int, 2, 20) := by decide +kernel
theorem cd_192_47 : zt_code zq_T 192 47 = some (.putfield 31, 3, 0) := by decide +kernel
theorem cd_192_50 : zt_code zq_T 192 50 = some (.aload_n 0, 1, 0) := by decide +kernel
theorem cd_192_51 : zt_code zq_T 192 51 = some (.bipush (8), 2, 0) := by decide +kernel
theorem cd_192_53 : zt_code zq_T 192 53 = some (.newarray .int, 2, 20) := by decide +kernel
theorem cd_192_55 : zt_code zq_T 192 55 = some (.putfield 34, 3, 0) := by decide +kernel
theorem cd_192_58 : zt_code zq_T 192 58 = some (.aload_n 0, 1, 0) := by decide +kernel
theorem cd_192_59 : zt_code zq_T 192 59 = some (.bipush (8), 2, 0) := by decide +kernel
theorem cd_192_61 : zt_code zq_T 192 61 = some (.newarray .int, 2, 20) := by decide +kernel
theorem cd_192_63 : zt_code zq_T 192 63 = some (.putfield 37, 3, 0) := by decide +kernel
theorem cd_192_66 : zt_code zq_T 192 66 = some (.aload_n 0, 1, 0) := by decide +kernel
theorem cd_192_67 : zt_code zq_T 192 67 = some (.bipush (8), 2, 0) := by decide +kernel
theorem cd_192_69 : zt_code zq_T 192 69 = some (.anewarray 19, 3, 0) := by decide +kernel
theorem cd_192_72 : zt_code zq_T 192 72 = some (.putfield 40, 3, 0) := by decide +kernel
theorem cd_192_75 : zt_code zq_T 192 75 = some (.aload_n 0, 1, 0) := by decide +kernel
theorem cd_192_76 : zt_code zq_T 192 76 = some (.iconst 4, 1, 0) := by decide +kernel
theorem cd_192_77 : zt_code zq_T 192 77 = some (.anewarray 19, 3, 0) := by decide +kernel
theorem cd_192_80 : zt_code zq_T 192 80 = some (.putfield 43, 3, 0) := by decide +kernel
theorem cd_192_83 : zt_code zq_T 192 83 = some (.return_, 1, 0) := by decide +kernel
theorem cd_193_0 : zt_code zq_T 193 0 = some (.aload_n 0, 1, 0) := by decide +kernel
theorem cd_193_1 : zt_code zq_T 193 1 = some (.iload_n 1, 1, 0) := by decide +kernel
theorem cd_193_2 : zt_code zq_T 193 2 = some (.putfield 46, 3, 0) := by decide +kernel
theorem cd_193_5 : zt_code zq_T 193 5 = some (.aload_n 0, 1, 0) := by decide +kernel
theorem cd_193_6 : zt_code zq_T 193 6 = some (.aconst_null, 1, 3) := by decide +kernel
theorem cd_193_7 : zt_code zq_T 193 7 = some (.putfield 9, 3, 0) := by decide +kernel
theorem cd_193_10 : zt_code zq_T 193 10 = some (.aload_n 0, 1, 0) := by decide +kernel
theorem cd_193_11 : zt_code zq_T 193 11 = some (.iconst 0, 1, 0) := by decide +kernel
theorem cd_193_12 : zt_code zq_T 193 12 = some (.putfield 50, 3, 0) := by decide +kernel
theorem cd_193_15 : zt_code zq_T 193 15 = some (.aload_n 0, 1, 0) := by decide +kernel
theorem cd_193_16 : zt_code zq_T 193 16 = some (.iconst 0, 1, 0) := by decide +kernel
theorem cd_193_17 : zt_code zq_T 193 17 = some (.putfield 53, 3, 0) := by decide +kernel
theorem cd_193_20 : zt_code zq_T 193 20 = some (.aload_n 0, 1, 0) := by decide +kernel
theorem cd_193_21 : zt_code zq_T 193 21 = some (.iconst 0, 1, 0) := by decide +kernel
theorem cd_193_22 : zt_code zq_T 193 22 = some (.putfield 56, 3, 0) := by decide +kernel
theorem cd_193_25 : zt_code zq_T 193 25 = some (.return_, 1, 0) := by decide +kernel
theorem cd_194_0 : zt_code zq_T 194 0 = some (.iconst 0, 1, 0) := by decide +kernel
theorem cd_194_1 : zt_code zq_T 194 1 = some (.istore_n 2, 1, 0) := by decide +kernel
theorem cd_194_2 : zt_code zq_T 194 2 = some (.iconst 0, 1, 0) := by decide +kernel
theorem cd_194_3 : zt_code zq_T 194 3 = some (.istore_n 3, 1, 0) := by decide +kernel
theorem cd_194_4 : zt_code zq_T 194 4 = some (.iload_n 3, 1, 0) := by decide +kernel
theorem cd_194_5 : zt_code zq_T 194 5 = some (.aload_n 0, 1, 0) := by decide +kernel
theorem cd_194_6 : zt_code zq_T 194 6 = some (.getfield 50, 3, 0) := by decide +kernel
theorem cd_194_9 : zt_code zq_T 194 9 = some (.if_icmp .ge (28), 3, 0) := by decide +kernel
theorem cd_194_12 : zt_code zq_T 194 12 = some (.iload_n 1, 1, 0) := by decide +kernel
theorem cd_194_13 : zt_code zq_T 194 13 = some (.iload_n 3, 1, 0) := by decide +kernel
theorem cd_194_14 : zt_code zq_T 194 14 = some (.ishr, 1, 0) := by decide +kernel
theorem cd_194_15 : zt_code zq_T 194 15 = some (.iconst 1, 1, 0) := by decide +kernel
theorem cd_194_16 : zt_code zq_T 194 16 = some (.iand, 1, 0) := by decide +kernel
theorem cd_194_17 : zt_code zq_T 194 17 = some (.ifCond .eq (14), 3, 0) := by decide +kernel
theorem cd_194_20 : zt_code zq_T 194 20 = some (.iload_n 2, 1, 0) := by decide +kernel
theorem cd_194_21 : zt_code zq_T 194 21 = some (.iconst 1, 1, 0) := by decide +kernel
theorem cd_194_22 : zt_code zq_T 194 22 = some (.aload_n 0, 1, 0) := by decide +kernel
theorem cd_194_23 : zt_code zq_T 194 23 = some (.getfield 15, 3, 0) := by decide +kernel
theorem cd_194_26 : zt_code zq_T 194 26 = some (.iload_n 3, 1, 0) := by decide +kernel
theorem cd_194_27 : zt_code zq_T 194 27 = some (.iaload, 1, 0) := by decide +kernel
theorem cd_194_28 : zt_code zq_T 194 28 = some (.ishl, 1, 0) := by decide +kernel
theorem cd_194_29 : zt_code zq_T 194 29 = some (.ior, 1, 0) := by decide +kernel
theorem cd_194_30 : zt_code zq_T 194 30 = some (.istore_n 2, 1, 0) := by decide +kernel
theorem cd_194_31 : zt_code zq_T 194 31 = some (.iinc 3 (1), 3, 0) := by decide +kernel
theorem cd_194_34 : zt_code zq_T 194 34 = some (.goto (-30), 3, 0) := by decide +kernel
theorem cd_194_37 : zt_code zq_T 194 37 = some (.iload_n 2, 1, 0) := by decide +kernel
theorem cd_194_38 : zt_code zq_T 194 38 = some (.ireturn, 1, 0) := by decide +kernel
theorem cd_195_0 : zt_code zq_T 195 0 = some (.aload_n 0, 1, 0) := by decide +kernel
theorem cd_195_1 : zt_code zq_T 195 1 = some (.ldc 59, 2, 0) := by decide +kernel
theorem cd_195_3 : zt_code zq_T 195 3 = some (.invokevirtual 60, 3, 0) := by decide +kernel
theorem cd_195_6 : zt_code zq_T 195 6 = some (.ireturn, 1, 0) := by decide +kernel
theorem cd_196_0 : zt_code zq_T 196 0 = some (.iconst 0, 1, 0) := by decide +kernel
theorem cd_196_1 : zt_code zq_T 196 1 = some (.istore_n 2, 1, 0) := by decide +kernel
theorem cd_196_2 : zt_code zq_T 196 2 = some (.iconst 0, 1, 0) := by decide +kernel
theorem cd_196_3 : zt_code zq_T 196 3 = some (.istore_n 3, 1, 0) := by decide +kernel
theorem cd_196_4 : zt_code zq_T 196 4 = some (.iload_n 3, 1, 0) := by decide +kernel
theorem cd_196_5 : zt_code zq_T 196 5 = some (.aload_n 0, 1, 0) := by decide +kernel
theorem cd_196_6 : zt_code zq_T 196 6 = some (.getfield 50, 3, 0) := by decide +kernel
theorem cd_196_9 : zt_code zq_T 196 9 = some (.if_icmp .ge (25), 3, 0) := by decide +kernel
theorem cd_196_12 : zt_code zq_T 196 12 = some (.aload_n 0, 1, 0) := by decide +kernel
theorem cd_196_13 : zt_code zq_T 196 13 = some (.getfield 15, 3, 0) := by decide +kernel
theorem cd_196_16 : zt_code zq_T 196 16 = some (.iload_n 3, 1, 0) := by decide +kernel
theorem cd_196_17 : zt_code zq_T 196 17 = some (.iaload, 1, 0) := by decide +kernel
theorem cd_196_18 : zt_code zq_T 196 18 = some (.iload_n 1, 1, 0) := by decide +kernel
theorem cd_196_19 : zt_code zq_T 196 19 = some (.if_icmp .ne (9), 3, 0) := by decide +kernel
theorem cd_196_22 : zt_code zq_T 196 22 = some (.iload_n 2, 1, 0) := by decide +kernel
theorem cd_196_23 : zt_code zq_T 196 23 = some (.iconst 1, 1, 0) := by decide +kernel
theorem cd_196_24 : zt_code zq_T 196 24 = some (.iload_n 3, 1, 0) := by decide +kernel
theorem cd_196_25 : zt_code zq_T 196 25 = some (.ishl, 1, 0) := by decide +kernel
theorem cd_196_26 : zt_code zq_T 196 26 = some (.ior, 1, 0) := by decide +kernel
theorem cd_196_27 : zt_code zq_T 196 27 = some (.istore_n 2, 1, 0) := by decide +kernel
theorem cd_196_28 : zt_code zq_T 196 28 = some (.iinc 3 (1), 3, 0) := by decide +kernel
theorem cd_196_31 : zt_code zq_T 196 31 = some (.goto (-27), 3, 0) := by decide +kernel
theorem cd_196_34 : zt_code zq_T 196 34 = some (.iload_n 2, 1, 0) := by decide +kernel
theorem cd_196_35 : zt_code zq_T 196 35 = some (.ireturn, 1, 0) := by decide +kernel
theorem cd_197_0 : zt_code zq_T 197 0 = some (.iconst 0, 1, 0) := by decide +kernel
theorem cd_197_1 : zt_code zq_T 197 1 = some (.istore_n 2, 1, 0) := by decide +kernel
theorem cd_197_2 : zt_code zq_T 197 2 = some (.aload_n 0, 1, 0) := by decide +kernel
theorem cd_197_3 : zt_code zq_T 197 3 = some (.getfield 21, 3, 0) := by decide +kernel
theorem cd_197_6 : zt_code zq_T 197 6 = some (.iload_n 1, 1, 0) := by decide +kernel
theorem cd_197_7 : zt_code zq_T 197 7 = some (.aaload, 1, 0) := by decide +kernel
theorem cd_197_8 : zt_code zq_T 197 8 = some (.astore_n 3, 1, 0) := by decide +kernel
theorem cd_197_9 : zt_code zq_T 197 9 = some (.aload_n 3, 1, 0) := by decide +kernel
theorem cd_197_10 : zt_code zq_T 197 10 = some (.ifnull (28), 3, 0) := by decide +kernel
theorem cd_197_13 : zt_code zq_T 197 13 = some (.aload_n 3, 1, 0) := by decide +kernel
theorem cd_197_14 : zt_code zq_T 197 14 = some (.getfield 64, 3, 0) := by decide +kernel
theorem cd_197_17 : zt_code zq_T 197 17 = some (.iconst 5, 1, 0) := by decide +kernel
theorem cd_197_18 : zt_code zq_T 197 18 = some (.if_icmp .ne (12), 3, 0) := by decide +kernel
theorem cd_197_21 : zt_code zq_T 197 21 = some (.iload_n 2, 1, 0) := by decide +kernel
theorem cd_197_22 : zt_code zq_T 197 22 = some (.iconst 1, 1, 0) := by decide +kernel
theorem cd_197_23 : zt_code zq_T 197 23 = some (.aload_n 3, 1, 0) := by decide +kernel
theorem cd_197_24 : zt_code zq_T 197 24 = some (.getfield 67, 3, 0) := by decide +kernel
theorem cd_197_27 : zt_code zq_T 197 27 = some (.ishl, 1, 0) := by decide +kernel
theorem cd_197_28 : zt_code zq_T 197 28 = some (.ior, 1, 0) := by decide +kernel
theorem cd_197_29 : zt_code zq_T 197 29 = some (.istore_n 2, 1, 0) := by decide +kernel
theorem cd_197_30 : zt_code zq_T 197 30 = some (.aload_n 3, 1, 0) := by decide +kernel
theorem cd_197_31 : zt_code zq_T 197 31 = some (.getfield 70, 3, 0) := by decide +kernel
theorem cd_197_34 : zt_code zq_T 197 34 = some (.astore_n 3, 1, 0) := by decide +kernel
theorem cd_197_35 : zt_code zq_T 197 35 = some (.goto (-26), 3, 0) := by decide +kernel
theorem cd_197_38 : zt_code zq_T 197 38 = some (.iload_n 2, 1, 0) := by decide +kernel
theorem cd_197_39 : zt_code zq_T 197 39 = some (.ireturn, 1, 0) := by decide +kernel
theorem cd_198_0 : zt_code zq_T 198 0 = some (.aload_n 0, 1, 0) := by decide +kernel
theorem cd_198_1 : zt_code zq_T 198 1 = some (.invokespecial 3, 3, 0) := by decide +kernel
theorem cd_198_4 : zt_code zq_T 198 4 = some (.aload_n 0, 1, 0) := by decide +kernel
theorem cd_198_5 : zt_code zq_T 198 5 = some (.bipush (8), 2, 0) := by decide +kernel
theorem cd_198_7 : zt_code zq_T 198 7 = some (.anewarray 9, 3, 0) := by decide +kernel
theorem cd_198_10 : zt_code zq_T 198 10 = some (.putfield 11, 3, 0) := by decide +kernel
theorem cd_198_13 : zt_code zq_T 198 13 = some (.iconst 0, 1, 0) := by decide +kernel
theorem cd_198_14 : zt_code zq_T 198 14 = some (.istore_n 1, 1, 0) := by decide +kernel
theorem cd_198_15 : zt_code zq_T 198 15 = some (.iload_n 1, 1, 0) := by decide +kernel
theorem cd_198_16 : zt_code zq_T 198 16 = some (.bipush (8), 2, 0) := by decide +kernel
theorem cd_198_18 : zt_code zq_T 198 18 = some (.if_icmp .ge (22), 3, 0) := by decide +kernel
theorem cd_198_21 : zt_code zq_T 198 21 = some (.aload_n 0, 1, 0) := by decide +kernel
theorem cd_198_22 : zt_code zq_T 198 22 = some (.getfield 11, 3, 0) := by decide +kernel
theorem cd_198_25 : zt_code zq_T 198 25 = some (.iload_n 1, 1, 0) := by decide +kernel
theorem cd_198_26 : zt_code zq_T 198 26 = some (.new 9, 3, 0) := by decide +kernel
theorem cd_198_29 : zt_code zq_T 198 29 = some (.dup, 1, 0) := by decide +kernel
theorem cd_198_30 : zt_code zq_T 198 30 = some (.invokespecial 17, 3, 0) := by decide +kernel
theorem cd_198_33 : zt_code zq_T 198 33 = some (.aastore, 1, 0) := by decide +kernel
theorem cd_198_34 : zt_code zq_T 198 34 = some (.iinc 1 (1), 3, 0) := by decide +kernel
theorem cd_198_37 : zt_code zq_T 198 37 = some (.goto (-22), 3, 0) := by decide +kernel
theorem cd_198_40 : zt_code zq_T 198 40 = some (.aload_n 0, 1, 0) := by decide +kernel
theorem cd_198_41 : zt_code zq_T 198 41 = some (.iconst 0, 1, 0) := by decide +kernel
theorem cd_198_42 : zt_code zq_T 198 42 = some (.putfield 18, 3, 0) := by decide +kernel
theorem cd_198_45 : zt_code zq_T 198 45 = some (.aload_n 0, 1, 0) := by decide +kernel
theorem cd_198_46 : zt_code zq_T 198 46 = some (.sipush (400), 3, 0) := by decide +kernel
theorem cd_198_49 : zt_code zq_T 198 49 = some (.anewarray 22, 3, 0) := by decide +kernel
theorem cd_198_52 : zt_code zq_T 198 52 = some (.putfield 24, 3, 0) := by decide +kernel
theorem cd_198_55 : zt_code zq_T 198 55 = some (.aload_n 0, 1, 0) := by decide +kernel
theorem cd_198_56 : zt_code zq_T 198 56 = some (.iconst 0, 1, 0) := by decide +kernel
theorem cd_198_57 : zt_code zq_T 198 57 = some (.newarray .int, 2, 20) := by decide +kernel
theorem cd_198_59 : zt_code zq_T 198 59 = some (.putfield 28, 3, 0) := by decide +kernel
theorem cd_198_62 : zt_code zq_T 198 62 = some (.aload_n 0, 1, 0) := by decide +kernel
theorem cd_198_63 : zt_code zq_T 198 63 = some (.aload_n 0, 1, 0) := by decide +kernel
theorem cd_198_64 : zt_code zq_T 198 64 = some (.getfield 11, 3, 0) := by decide +kernel
theorem cd_198_67 : zt_code zq_T 198 67 = some (.iconst 0, 1, 0) := by decide +kernel
theorem cd_198_68 : zt_code zq_T 198 68 = some (.aaload, 1, 0) := by decide +kernel
theorem cd_198_69 : zt_code zq_T 198 69 = some (.putfield 32, 3, 0) := by decide +kernel
theorem cd_198_72 : zt_code zq_T 198 72 = some (.return_, 1, 0) := by decide +kernel
theorem cd_199_0 : zt_code zq_T 199 0 = some (.iconst 0, 1, 0) := by decide +kernel
theorem cd_199_1 : zt_code zq_T 199 1 = some (.istore_n 2, 1, 0) := by decide +kernel
theorem cd_199_2 : zt_code zq_T 199 2 = some (.iload_n 2, 1, 0) := by decide +kernel
theorem cd_199_3 : zt_code zq_T 199 3 = some (.aload_n 0, 1, 0) := by decide +kernel
theorem cd_199_4 : zt_code zq_T 199 4 = some (.getfield 18, 3, 0) := by decide +kernel
theorem cd_199_7 : zt_code zq_T 199 7 = some (.if_icmp .ge (24), 3, 0) := by decide +kernel
theorem cd_199_10 : zt_code zq_T 199 10 = some (.aload_n 0, 1, 0) := by decide +kernel
theorem cd_199_11 : zt_code zq_T 199 11 = some (.getfield 11, 3, 0) := by decide +kernel
theorem cd_199_14 : zt_code zq_T 199 14 = some (.iload_n 2, 1, 0) := by decide +kernel
theorem cd_199_15 : zt_code zq_T 199 15 = some (.aaload, 1, 0) := by decide +kernel
theorem cd_199_16 : zt_code zq_T 199 16 = some (.getfield 36, 3, 0) := by decide +kernel
theorem cd_199_19 : zt_code zq_T 199 19 = some (.iload_n 1, 1, 0) := by decide +kernel
theorem cd_199_20 : zt_code zq_T 199 20 = some (.if_icmp .ne (5), 3, 0) := by decide +kernel
theorem cd_199_23 : zt_code zq_T 199 23 = some (.iload_n 2, 1, 0) := by decide +kernel
theorem cd_199_24 : zt_code zq_T 199 24 = some (.ireturn, 1, 0) := by decide +kernel
theorem cd_199_25 : zt_code zq_T 199 25 = some (.iinc 2 (1), 3, 0) := by decide +kernel
theorem cd_199_28 : zt_code zq_T 199 28 = some (.goto (-26), 3, 0) := by decide +kernel
theorem cd_199_31 : zt_code zq_T 199 31 = some (.iconst (-1), 1, 0) := by decide +kernel
theorem cd_199_32 : zt_code zq_T 199 32 = some (.ireturn, 1, 0) := by decide +kernel
theorem cd_200_0 : zt_code zq_T 200 0 = some (.iconst 0, 1, 0) := by decide +kernel
theorem cd_200_1 : zt_code zq_T 200 1 = some (.istore_n 1, 1, 0) := by decide +kernel
theorem cd_200_2 : zt_code zq_T 200 2 = some (.iconst 0, 1, 0) := by decide +kernel
theorem cd_200_3 : zt_code zq_T 200 3 = some (.istore_n 2, 1, 0) := by decide +kernel
theorem cd_200_4 : zt_code zq_T 200 4 = some (.iload_n 2, 1, 0) := by decide +kernel
theorem cd_200_5 : zt_code zq_T 200 5 = some (.aload_n 0, 1, 0) := by decide +kernel
theorem cd_200_6 : zt_code zq_T 200 6 = some (.getfield 18, 3, 0) := by decide +kernel
theorem cd_200_9 : zt_code zq_T 200 9 = some (.if_icmp .ge (26), 3, 0) := by decide +kernel
theorem cd_200_12 : zt_code zq_T 200 12 = some (.iload_n 1, 1, 0) := by decide +kernel
theorem cd_200_13 : zt_code zq_T 200 13 = some (.aload_n 0, 1, 0) := by decide +kernel
theorem cd_200_14 : zt_code zq_T 200 14 = some (.getfield 11, 3, 0) := by decide +kernel
theorem cd_200_17 : zt_code zq_T 200 17 = some (.iload_n 2, 1, 0) := by decide +kernel
theorem cd_200_18 : zt_code zq_T 200 18 = some (.aaload, 1, 0) := by decide +kernel
theorem cd_200_19 : zt_code zq_T 200 19 = some (.getfield 39, 3, 0) := by decide +kernel
theorem cd_200_22 : zt_code zq_T 200 22 = some (.invokestatic 43, 3, 0) := by decide +kernel
theorem cd_200_25 : zt_code zq_T 200 25 = some (.iload_n 2, 1, 0) := by decide +kernel
theorem cd_200_26 : zt_code zq_T 200 26 = some (.ishl, 1, 0) := by decide +kernel
theorem cd_200_27 : zt_code zq_T 200 27 = some (.ior, 1, 0) := by decide +kernel
theorem cd_200_28 : zt_code zq_T 200 28 = some (.istore_n 1, 1, 0) := by decide +kernel
theorem cd_200_29 : zt_code zq_T 200 29 = some (.iinc 2 (1), 3, 0) := by decide +kernel
theorem cd_200_32 : zt_code zq_T 200 32 = some (.goto (-28), 3, 0) := by decide +kernel
theorem cd_200_35 : zt_code zq_T 200 35 = some (.iload_n 1, 1, 0) := by decide +kernel
theorem cd_200_36 : zt_code zq_T 200 36 = some (.ireturn, 1, 0) := by decide +kernel
theorem cd_201_0 : zt_code zq_T 201 0 = some (.iconst 0, 1, 0) := by decide +kernel
theorem cd_201_1 : zt_code zq_T 201 1 = some (.istore_n 1, 1, 0) := by decide +kernel
theorem cd_201_2 : zt_code zq_T 201 2 = some (.iconst 0, 1, 0) := by decide +kernel
theorem cd_201_3 : zt_code zq_T 201 3 = some (.istore_n 2, 1, 0) := by decide +kernel
theorem cd_201_4 : zt_code zq_T 201 4 = some (.iload_n 2, 1, 0) := by decide +kernel
theorem cd_201_5 : zt_code zq_T 201 5 = some (.aload_n 0, 1, 0) := by decide +kernel
theorem cd_201_6 : zt_code zq_T 201 6 = some (.getfield 18, 3, 0) := by decide +kernel
theorem cd_201_9 : zt_code zq_T 201 9 = some (.if_icmp .ge (26), 3, 0) := by decide +kernel
theorem cd_201_12 : zt_code zq_T 201 12 = some (.iload_n 1, 1, 0) := by decide +kernel
theorem cd_201_13 : zt_code zq_T 201 13 = some (.aload_n 0, 1, 0) := by decide +kernel
theorem cd_201_14 : zt_code zq_T 201 14 = some (.getfield 11, 3, 0) := by decide +kernel
theorem cd_201_17 : zt_code zq_T 201 17 = some (.iload_n 2, 1, 0) := by decide +kernel
theorem cd_201_18 : zt_code zq_T 201 18 = some (.aaload, 1, 0) := by decide +kernel
theorem cd_201_19 : zt_code zq_T 201 19 = some (.getfield 47, 3, 0) := by decide +kernel
theorem cd_201_22 : zt_code zq_T 201 22 = some (.invokestatic 43, 3, 0) := by decide +kernel
theorem cd_201_25 : zt_code zq_T 201 25 = some (.iload_n 2, 1, 0) := by decide +kernel
theorem cd_201_26 : zt_code zq_T 201 26 = some (.ishl, 1, 0) := by decide +kernel
theorem cd_201_27 : zt_code zq_T 201 27 = some (.ior, 1, 0) := by decide +kernel
theorem cd_201_28 : zt_code zq_T 201 28 = some (.istore_n 1, 1, 0) := by decide +kernel
theorem cd_201_29 : zt_code zq_T 201 29 = some (.iinc 2 (1), 3, 0) := by decide +kernel
theorem cd_201_32 : zt_code zq_T 201 32 = some (.goto (-28), 3, 0) := by decide +kernel
theorem cd_201_35 : zt_code zq_T 201 35 = some (.iload_n 1, 1, 0) := by decide +kernel
theorem cd_201_36 : zt_code zq_T 201 36 = some (.ireturn, 1, 0) := by decide +kernel
theorem cd_202_0 : zt_code zq_T 202 0 = some (.aload_n 0, 1, 0) := by decide +kernel
theorem cd_202_1 : zt_code zq_T 202 1 = some (.aload_n 1, 1, 0) := by decide +kernel
theorem cd_202_2 : zt_code zq_T 202 2 = some (.putfield 28, 3, 0) := by decide +kernel
theorem cd_202_5 : zt_code zq_T 202 5 = some (.aload_n 0, 1, 0) := by decide +kernel
theorem cd_202_6 : zt_code zq_T 202 6 = some (.iload_n 2, 1, 0) := by decide +kernel
theorem cd_202_7 : zt_code zq_T 202 7 = some (.putfield 50, 3, 0) := by decide +kernel
theorem cd_202_10 : zt_code zq_T 202 10 = some (.aload_n 0, 1, 0) := by decide +kernel
theorem cd_202_11 : zt_code zq_T 202 11 = some (.iconst 0, 1, 0) := by decide +kernel
theorem cd_202_12 : zt_code zq_T 202 12 = some (.putfield 53, 3, 0) := by decide +kernel
theorem cd_202_15 : zt_code zq_T 202 15 = some (.aload_n 0, 1, 0) := by decide +kernel
theorem cd_202_16 : zt_code zq_T 202 16 = some (.iconst (-1), 1, 0) := by decide +kernel
theorem cd_202_17 : zt_code zq_T 202 17 = some (.putfield 56, 3, 0) := by decide +kernel
theorem cd_202_20 : zt_code zq_T 202 20 = some (.aload_n 0, 1, 0) := by decide +kernel
theorem cd_202_21 : zt_code zq_T 202 21 = some (.iconst 0, 1, 0) := by decide +kernel
theorem cd_202_22 : zt_code zq_T 202 22 = some (.putfield 59, 3, 0) := by decide +kernel
theorem cd_202_25 : zt_code zq_T 202 25 = some (.aload_n 0, 1, 0) := by decide +kernel
theorem cd_202_26 : zt_code zq_T 202 26 = some (.iconst 0, 1, 0) := by decide +kernel
theorem cd_202_27 : zt_code zq_T 202 27 = some (.putfield 18, 3, 0) := by decide +kernel
theorem cd_202_30 : zt_code zq_T 202 30 = some (.iconst 0, 1, 0) := by decide +kernel
theorem cd_202_31 : zt_code zq_T 202 31 = some (.istore_n 3, 1, 0) := by decide +kernel
theorem cd_202_32 : zt_code zq_T 202 32 = some (.iload_n 3, 1, 0) := by decide +kernel
theorem cd_202_33 : zt_code zq_T 202 33 = some (.bipush (8), 2, 0) := by decide +kernel
theorem cd_202_35 : zt_code zq_T 202 35 = some (.if_icmp .ge (83), 3, 0) := by decide +kernel
theorem cd_202_38 : zt_code zq_T 202 38 = some (.aload_n 0, 1, 0) := by decide +kernel
theorem cd_202_39 : zt_code zq_T 202 39 = some (.aload_n 0, 1, 0) := by decide +kernel
theorem cd_202_40 : zt_code zq_T 202 40 = some (.getfield 11, 3, 0) := by decide +kernel
theorem cd_202_43 : zt_code zq_T 202 43 = some (.iload_n 3, 1, 0) := by decide +kernel
theorem cd_202_44 : zt_code zq_T 202 44 = some (.aaload, 1, 0) := by decide +kernel
theorem cd_202_45 : zt_code zq_T 202 45 = some (.putfield 32, 3, 0) := by decide +kernel
theorem cd_202_48 : zt_code zq_T 202 48 = some (.aload_n 0, 1, 0) := by decide +kernel
theorem cd_202_49 : zt_code zq_T 202 49 = some (.invokevirtual 62, 3, 0) := by decide +kernel
theorem cd_202_52 : zt_code zq_T 202 52 = some (.ifCond .ne (8), 3, 0) := by decide +kernel
theorem cd_202_55 : zt_code zq_T 202 55 = some (.aload_n 0, 1, 0) := by decide +kernel
theorem cd_202_56 : zt_code zq_T 202 56 = some (.getfield 56, 3, 0) := by decide +kernel
theorem cd_202_59 : zt_code zq_T 202 59 = some (.ireturn, 1, 0) := by decide +kernel
theorem cd_202_60 : zt_code zq_T 202 60 = some (.aload_n 0, 1, 0) := by decide +kernel
theorem cd_202_61 : zt_code zq_T 202 61 = some (.iload_n 3, 1, 0) := by decide +kernel
theorem cd_202_62 : zt_code zq_T 202 62 = some (.iconst 1, 1, 0) := by decide +kernel
theorem cd_202_63 : zt_code zq_T 202 63 = some (.iadd, 1, 0) := by decide +kernel
theorem cd_202_64 : zt_code zq_T 202 64 = some (.putfield 18, 3, 0) := by decide +kernel
theorem cd_202_67 : zt_code zq_T 202 67 = some (.aload_n 0, 1, 0) := by decide +kernel
theorem cd_202_68 : zt_code zq_T 202 68 = some (.invokevirtual 66, 3, 0) := by decide +kernel
theorem cd_202_71 : zt_code zq_T 202 71 = some (.istore 4, 2, 0) := by decide +kernel
theorem cd_202_73 : zt_code zq_T 202 73 = some (.iload 4, 2, 0) := by decide +kernel
theorem cd_202_75 : zt_code zq_T 202 75 = some (.iconst (-1), 1, 0) := by decide +kernel
theorem cd_202_76 : zt_code zq_T 202 76 = some (.if_icmp .ne (5), 3, 0) := by decide +kernel
theorem cd_202_79 : zt_code zq_T 202 79 = some (.iconst (-1), 1, 0) := by decide +kernel
theorem cd_202_80 : zt_code zq_T 202 80 = some (.ireturn, 1, 0) := by decide +kernel
theorem cd_202_81 : zt_code zq_T 202 81 = some (.iload 4, 2, 0) := by decide +kernel
theorem cd_202_83 : zt_code zq_T 202 83 = some (.bipush (59), 2, 0) := by decide +kernel
theorem cd_202_85 : zt_code zq_T 202 85 = some (.if_icmp .ne (12), 3, 0) := by decide +kernel
theorem cd_202_88 : zt_code zq_T 202 88 = some (.aload_n 0, 1, 0) := by decide +kernel
theorem cd_202_89 : zt_code zq_T 202 89 = some (.getfield 18, 3, 0) := by decide +kernel
theorem cd_202_92 : zt_code zq_T 202 92 = some (.bipush (8), 2, 0) := by decide +kernel
theorem cd_202_94 : zt_code zq_T 202 94 = some (.if_icmp .ne (8), 3, 0) := by decide +kernel
theorem cd_202_97 : zt_code zq_T 202 97 = some (.aload_n 0, 1, 0) := by decide +kernel
theorem cd_202_98 : zt_code zq_T 202 98 = some (.getfield 53, 3, 0) := by decide +kernel
theorem cd_202_101 : zt_code zq_T 202 101 = some (.ireturn, 1, 0) := by decide +kernel
theorem cd_202_102 : zt_code zq_T 202 102 = some (.aload_n 0, 1, 0) := by decide +kernel
theorem cd_202_103 : zt_code zq_T 202 103 = some (.dup, 1, 0) := by decide +kernel
theorem cd_202_104 : zt_code zq_T 202 104 = some (.getfield 53, 3, 0) := by decide +kernel
theorem cd_202_107 : zt_code zq_T 202 107 = some (.iconst 1, 1, 0) := by decide +kernel
theorem cd_202_108 : zt_code zq_T 202 108 = some (.iadd, 1, 0) := by decide +kernel
theorem cd_202_109 : zt_code zq_T 202 109 = some (.putfield 53, 3, 0) := by decide +kernel
theorem cd_202_112 : zt_code zq_T 202 112 = some (.iinc 3 (1), 3, 0) := by decide +kernel
theorem cd_202_115 : zt_code zq_T 202 115 = some (.goto (-83), 3, 0) := by decide +kernel
theorem cd_202_118 : zt_code zq_T 202 118 = some (.aload_n 0, 1, 0) := by decide +kernel
theorem cd_202_119 : zt_code zq_T 202 119 = some (.getfield 53, 3, 0) := by decide +kernel
theorem cd_202_122 : zt_code zq_T 202 122 = some (.ireturn, 1, 0) := by decide +kernel
theorem cd_203_0 : zt_code zq_T 203 0 = some (.aload_n 0, 1, 0) := by decide +kernel
theorem cd_203_1 : zt_code zq_T 203 1 = some (.getfield 53, 3, 0) := by decide +kernel
theorem cd_203_4 : zt_code zq_T 203 4 = some (.aload_n 0, 1, 0) := by decide +kernel
theorem cd_203_5 : zt_code zq_T 203 5 = some (.getfield 50, 3, 0) := by decide +kernel
theorem cd_203_8 : zt_code zq_T 203 8 = some (.if_icmp .ge (30), 3, 0) := by decide +kernel
theorem cd_203_11 : zt_code zq_T 203 11 = some (.aload_n 0, 1, 0) := by decide +kernel
theorem cd_203_12 : zt_code zq_T 203 12 = some (.getfield 28, 3, 0) := by decide +kernel
theorem cd_203_15 : zt_code zq_T 203 15 = some (.aload_n 0, 1, 0) := by decide +kernel
theorem cd_203_16 : zt_code zq_T 203 16 = some (.getfield 53, 3, 0) := by decide +kernel
theorem cd_203_19 : zt_code zq_T 203 19 = some (.iaload, 1, 0) := by decide +kernel
theorem cd_203_20 : zt_code zq_T 203 20 = some (.bipush (32), 2, 0) := by decide +kernel
theorem cd_203_22 : zt_code zq_T 203 22 = some (.if_icmp .ne (16), 3, 0) := by decide +kernel
theorem cd_203_25 : zt_code zq_T 203 25 = some (.aload_n 0, 1, 0) := by decide +kernel
theorem cd_203_26 : zt_code zq_T 203 26 = some (.dup, 1, 0) := by decide +kernel
theorem cd_203_27 : zt_code zq_T 203 27 = some (.getfield 53, 3, 0) := by decide +kernel
theorem cd_203_30 : zt_code zq_T 203 30 = some (.iconst 1, 1, 0) := by decide +kernel
theorem cd_203_31 : zt_code zq_T 203 31 = some (.iadd, 1, 0) := by decide +kernel
theorem cd_203_32 : zt_code zq_T 203 32 = some (.putfield 53, 3, 0) := by decide +kernel
theorem cd_203_35 : zt_code zq_T 203 35 = some (.goto (-35), 3, 0) := by decide +kernel
theorem cd_203_38 : zt_code zq_T 203 38 = some (.aload_n 0, 1, 0) := by decide +kernel
theorem cd_203_39 : zt_code zq_T 203 39 = some (.getfield 53, 3, 0) := by decide +kernel
theorem cd_203_42 : zt_code zq_T 203 42 = some (.aload_n 0, 1, 0) := by decide +kernel
theorem cd_203_43 : zt_code zq_T 203 43 = some (.getfield 50, 3, 0) := by decide +kernel
theorem cd_203_46 : zt_code zq_T 203 46 = some (.if_icmp .ge (15), 3, 0) := by decide +kernel
theorem cd_203_49 : zt_code zq_T 203 49 = some (.aload_n 0, 1, 0) := by decide +kernel
theorem cd_203_50 : zt_code zq_T 203 50 = some (.getfield 28, 3, 0) := by decide +kernel
theorem cd_203_53 : zt_code zq_T 203 53 = some (.aload_n 0, 1, 0) := by decide +kernel
theorem cd_203_54 : zt_code zq_T 203 54 = some (.getfield 53, 3, 0) := by decide +kernel
theorem cd_203_57 : zt_code zq_T 203 57 = some (.iaload, 1, 0) := by decide +kernel
theorem cd_203_58 : zt_code zq_T 203 58 = some (.goto (4), 3, 0) := by decide +kernel
theorem cd_203_61 : zt_code zq_T 203 61 = some (.iconst (-1), 1, 0) := by decide +kernel
theorem cd_203_62 : zt_code zq_T 203 62 = some (.ireturn, 1, 0) := by decide +kernel
theorem cd_204_0 : zt_code zq_T 204 0 = some (.aload_n 0, 1, 0) := by decide +kernel
theorem cd_204_1 : zt_code zq_T 204 1 = some (.aload_n 0, 1, 0) := by decide +kernel
theorem cd_204_2 : zt_code zq_T 204 2 = some (.getfield 53, 3, 0) := by decide +kernel
theorem cd_204_5 : zt_code zq_T 204 5 = some (.putfield 56, 3, 0) := by decide +kernel
theorem cd_204_8 : zt_code zq_T 204 8 = some (.iconst 0, 1, 0) := by decide +kernel
theorem cd_204_9 : zt_code zq_T 204 9 = some (.ireturn, 1, 0) := by decide +kernel
theorem cd_205_0 : zt_code zq_T 205 0 = some (.aload_n 0, 1, 0) := by decide +kernel
theorem cd_205_1 : zt_code zq_T 205 1 = some (.aload_n 0, 1, 0) := by decide +kernel
theorem cd_205_2 : zt_code zq_T 205 2 = some (.getfield 53, 3, 0) := by decide +kernel
theorem cd_205_5 : zt_code zq_T 205 5 = some (.putfield 56, 3, 0) := by decide +kernel
theorem cd_205_8 : zt_code zq_T 205 8 = some (.aconst_null, 1, 3) := by decide +kernel
theorem cd_205_9 : zt_code zq_T 205 9 = some (.areturn, 1, 0) := by decide +kernel
theorem cd_206_0 : zt_code zq_T 206 0 = some (.aload_n 0, 1, 0) := by decide +kernel
theorem cd_206_1 : zt_code zq_T 206 1 = some (.getfield 59, 3, 0) := by decide +kernel
theorem cd_206_4 : zt_code zq_T 206 4 = some (.sipush (400), 3, 0) := by decide +kernel
theorem cd_206_7 : zt_code zq_T 206 7 = some (.if_icmp .lt (8), 3, 0) := by decide +kernel
theorem cd_206_10 : zt_code zq_T 206 10 = some (.aload_n 0, 1, 0) := by decide +kernel
theorem cd_206_11 : zt_code zq_T 206 11 = some (.invokevirtual 70, 3, 0) := by decide +kernel
theorem cd_206_14 : zt_code zq_T 206 14 = some (.areturn, 1, 0) := by decide +kernel
theorem cd_206_15 : zt_code zq_T 206 15 = some (.aload_n 0, 1, 0) := by decide +kernel
theorem cd_206_16 : zt_code zq_T 206 16 = some (.getfield 24, 3, 0) := by decide +kernel
theorem cd_206_19 : zt_code zq_T 206 19 = some (.aload_n 0, 1, 0) := by decide +kernel
theorem cd_206_20 : zt_code zq_T 206 20 = some (.getfield 59, 3, 0) := by decide +kernel
theorem cd_206_23 : zt_code zq_T 206 23 = some (.aaload, 1, 0) := by decide +kernel
theorem cd_206_24 : zt_code zq_T 206 24 = some (.ifnonnull (19), 3, 0) := by decide +kernel
theorem cd_206_27 : zt_code zq_T 206 27 = some (.aload_n 0, 1, 0) := by decide +kernel
theorem cd_206_28 : zt_code zq_T 206 28 = some (.getfield 24, 3, 0) := by decide +kernel
theorem cd_206_31 : zt_code zq_T 206 31 = some (.aload_n 0, 1, 0) := by decide +kernel
theorem cd_206_32 : zt_code zq_T 206 32 = some (.getfield 59, 3, 0) := by decide +kernel
theorem cd_206_35 : zt_code zq_T 206 35 = some (.new 22, 3, 0) := by decide +kernel
theorem cd_206_38 : zt_code zq_T 206 38 = some (.dup, 1, 0) := by decide +kernel
theorem cd_206_39 : zt_code zq_T 206 39 = some (.invokespecial 74, 3, 0) := by decide +kernel
theorem cd_206_42 : zt_code zq_T 206 42 = some (.aastore, 1, 0) := by decide +kernel
theorem cd_206_43 : zt_code zq_T 206 43 = some (.aload_n 0, 1, 0) := by decide +kernel
theorem cd_206_44 : zt_code zq_T 206 44 = some (.getfield 24, 3, 0) := by decide +kernel
theorem cd_206_47 : zt_code zq_T 206 47 = some (.aload_n 0, 1, 0) := by decide +kernel
theorem cd_206_48 : zt_code zq_T 206 48 = some (.getfield 59, 3, 0) := by decide +kernel
theorem cd_206_51 : zt_code zq_T 206 51 = some (.aaload, 1, 0) := by decide +kernel
theorem cd_206_52 : zt_code zq_T 206 52 = some (.astore_n 3, 1, 0) := by decide +kernel
theorem cd_206_53 : zt_code zq_T 206 53 = some (.aload_n 0, 1, 0) := by decide +kernel
theorem cd_206_54 : zt_code zq_T 206 54 = some (.dup, 1, 0) := by decide +kernel
theorem cd_206_55 : zt_code zq_T 206 55 = some (.getfield 59, 3, 0) := by decide +kernel
theorem cd_206_58 : zt_code zq_T 206 58 = some (.iconst 1, 1, 0) := by decide +kernel
theorem cd_206_59 : zt_code zq_T 206 59 = some (.iadd, 1, 0) := by decide +kernel
theorem cd_206_60 : zt_code zq_T 206 60 = some (.putfield 59, 3, 0) := by decide +kernel
theorem cd_206_63 : zt_code zq_T 206 63 = some (.aload_n 3, 1, 0) := by decide +kernel
theorem cd_206_64 : zt_code zq_T 206 64 = some (.iload_n 1, 1, 0) := by decide +kernel
theorem cd_206_65 : zt_code zq_T 206 65 = some (.iload_n 2, 1, 0) := by decide +kernel
theorem cd_206_66 : zt_code zq_T 206 66 = some (.invokevirtual 75, 3, 0) := by decide +kernel
theorem cd_206_69 : zt_code zq_T 206 69 = some (.aload_n 3, 1, 0) := by decide +kernel
theorem cd_206_70 : zt_code zq_T 206 70 = some (.areturn, 1, 0) := by decide +kernel
theorem cd_207_0 : zt_code zq_T 207 0 = some (.iload_n 0, 1, 0) := by decide +kernel
theorem cd_207_1 : zt_code zq_T 207 1 = some (.bipush (97), 2, 0) := by decide +kernel
theorem cd_207_3 : zt_code zq_T 207 3 = some (.if_icmp .lt (13), 3, 0) := by decide +kernel
theorem cd_207_6 : zt_code zq_T 207 6 = some (.iload_n 0, 1, 0) := by decide +kernel
theorem cd_207_7 : zt_code zq_T 207 7 = some (.bipush (122), 2, 0) := by decide +kernel
theorem cd_207_9 : zt_code zq_T 207 9 = some (.if_icmp .gt (7), 3, 0) := by decide +kernel
theorem cd_207_12 : zt_code zq_T 207 12 = some (.iconst 1, 1, 0) := by decide +kernel
theorem cd_207_13 : zt_code zq_T 207 13 = some (.goto (4), 3, 0) := by decide +kernel
theorem cd_207_16 : zt_code zq_T 207 16 = some (.iconst 0, 1, 0) := by decide +kernel
theorem cd_207_17 : zt_code zq_T 207 17 = some (.ireturn, 1, 0) := by decide +kernel
theorem cd_208_0 : zt_code zq_T 208 0 = some (.iload_n 0, 1, 0) := by decide +kernel
theorem cd_208_1 : zt_code zq_T 208 1 = some (.bipush (48), 2, 0) := by decide +kernel
theorem cd_208_3 : zt_code zq_T 208 3 = some (.if_icmp .lt (13), 3, 0) := by decide +kernel
theorem cd_208_6 : zt_code zq_T 208 6 = some (.iload_n 0, 1, 0) := by decide +kernel
theorem cd_208_7 : zt_code zq_T 208 7 = some (.bipush (57), 2, 0) := by decide +kernel
theorem cd_208_9 : zt_code zq_T 208 9 = some (.if_icmp .gt (7), 3, 0) := by decide +kernel
theorem cd_208_12 : zt_code zq_T 208 12 = some (.iconst 1, 1, 0) := by decide +kernel
theorem cd_208_13 : zt_code zq_T 208 13 = some (.goto (4), 3, 0) := by decide +kernel
theorem cd_208_16 : zt_code zq_T 208 16 = some (.iconst 0, 1, 0) := by decide +kernel
theorem cd_208_17 : zt_code zq_T 208 17 = some (.ireturn, 1, 0) := by decide +kernel
theorem cd_209_0 : zt_code zq_T 209 0 = some (.aload_n 0, 1, 0) := by decide +kernel
theorem cd_209_1 : zt_code zq_T 209 1 = some (.invokevirtual 66, 3, 0) := by decide +kernel
theorem cd_209_4 : zt_code zq_T 209 4 = some (.istore_n 1, 1, 0) := by decide +kernel
theorem cd_209_5 : zt_code zq_T 209 5 = some (.iload_n 1, 1, 0) := by decide +kernel
theorem cd_209_6 : zt_code zq_T 209 6 = some (.invokestatic 79, 3, 0) := by decide +kernel
theorem cd_209_9 : zt_code zq_T 209 9 = some (.ifCond .eq (15), 3, 0) := by decide +kernel
theorem cd_209_12 : zt_code zq_T 209 12 = some (.aload_n 0, 1, 0) := by decide +kernel
theorem cd_209_13 : zt_code zq_T 209 13 = some (.iload_n 1, 1, 0) := by decide +kernel
theorem cd_209_14 : zt_code zq_T 209 14 = some (.bipush (97), 2, 0) := by decide +kernel
theorem cd_209_16 : zt_code zq_T 209 16 = some (.isub, 1, 0) := by decide +kernel
theorem cd_209_17 : zt_code zq_T 209 17 = some (.invokevirtual 83, 3, 0) := by decide +kernel
theorem cd_209_20 : zt_code zq_T 209 20 = some (.iconst (-1), 1, 0) := by decide +kernel
theorem cd_209_21 : zt_code zq_T 209 21 = some (.if_icmp .eq (8), 3, 0) := by decide +kernel
theorem cd_209_24 : zt_code zq_T 209 24 = some (.aload_n 0, 1, 0) := by decide +kernel
theorem cd_209_25 : zt_code zq_T 209 25 = some (.invokevirtual 87, 3, 0) := by decide +kernel
theorem cd_209_28 : zt_code zq_T 209 28 = some (.ireturn, 1, 0) := by decide +kernel
theorem cd_209_29 : zt_code zq_T 209 29 = some (.aload_n 0, 1, 0) := by decide +kernel
theorem cd_209_30 : zt_code zq_T 209 30 = some (.getfield 32, 3, 0) := by decide +kernel
theorem cd_209_33 : zt_code zq_T 209 33 = some (.iload_n 1, 1, 0) := by decide +kernel
theorem cd_209_34 : zt_code zq_T 209 34 = some (.bipush (97), 2, 0) := by decide +kernel
theorem cd_209_36 : zt_code zq_T 209 36 = some (.isub, 1, 0) := by decide +kernel
theorem cd_209_37 : zt_code zq_T 209 37 = some (.invokevirtual 90, 3, 0) := by decide +kernel
theorem cd_209_40 : zt_code zq_T 209 40 = some (.aload_n 0, 1, 0) := by decide +kernel
theorem cd_209_41 : zt_code zq_T 209 41 = some (.dup, 1, 0) := by decide +kernel
theorem cd_209_42 : zt_code zq_T 209 42 = some (.getfield 53, 3, 0) := by decide +kernel
theorem cd_209_45 : zt_code zq_T 209 45 = some (.iconst 1, 1, 0) := by decide +kernel
theorem cd_209_46 : zt_code zq_T 209 46 = some (.iadd, 1, 0) := by decide +kernel
theorem cd_209_47 : zt_code zq_T 209 47 = some (.putfield 53, 3, 0) := by decide +kernel
theorem cd_209_50 : zt_code zq_T 209 50 = some (.aload_n 0, 1, 0) := by decide +kernel
theorem cd_209_51 : zt_code zq_T 209 51 = some (.invokevirtual 66, 3, 0) := by decide +kernel
theorem cd_209_54 : zt_code zq_T 209 54 = some (.bipush (61), 2, 0) := by decide +kernel
theorem cd_209_56 : zt_code zq_T 209 56 = some (.if_icmp .eq (8), 3, 0) := by decide +kernel
theorem cd_209_59 : zt_code zq_T 209 59 = some (.aload_n 0, 1, 0) := by decide +kernel
theorem cd_209_60 : zt_code zq_T 209 60 = some (.invokevirtual 87, 3, 0) := by decide +kernel
theorem cd_209_63 : zt_code zq_T 209 63 = some (.ireturn, 1, 0) := by decide +kernel
theorem cd_209_64 : zt_code zq_T 209 64 = some (.aload_n 0, 1, 0) := by decide +kernel
theorem cd_209_65 : zt_code zq_T 209 65 = some (.dup, 1, 0) := by decide +kernel
theorem cd_209_66 : zt_code zq_T 209 66 = some (.getfield 53, 3, 0) := by decide +kernel
theorem cd_209_69 : zt_code zq_T 209 69 = some (.iconst 1, 1, 0) := by decide +kernel
theorem cd_209_70 : zt_code zq_T 209 70 = some (.iadd, 1, 0) := by decide +kernel
theorem cd_209_71 : zt_code zq_T 209 71 = some (.putfield 53, 3, 0) := by decide +kernel
theorem cd_209_74 : zt_code zq_T 209 74 = some (.aload_n 0, 1, 0) := by decide +kernel
theorem cd_209_75 : zt_code zq_T 209 75 = some (.getfield 32, 3, 0) := by decide +kernel
theorem cd_209_78 : zt_code zq_T 209 78 = some (.aload_n 0, 1, 0) := by decide +kernel
theorem cd_209_79 : zt_code zq_T 209 79 = some (.iconst 0, 1, 0) := by decide +kernel
theorem cd_209_80 : zt_code zq_T 209 80 = some (.invokevirtual 93, 3, 0) := by decide +kernel
theorem cd_209_83 : zt_code zq_T 209 83 = some (.putfield 97, 3, 0) := by decide +kernel
theorem cd_209_86 : zt_code zq_T 209 86 = some (.aload_n 0, 1, 0) := by decide +kernel
theorem cd_209_87 : zt_code zq_T 209 87 = some (.getfield 32, 3, 0) := by decide +kernel
theorem cd_209_90 : zt_code zq_T 209 90 = some (.getfield 97, 3, 0) := by decide +kernel
theorem cd_209_93 : zt_code zq_T 209 93 = some (.ifnull (7), 3, 0) := by decide +kernel
theorem cd_209_96 : zt_code zq_T 209 96 = some (.iconst 1, 1, 0) := by decide +kernel
theorem cd_209_97 : zt_code zq_T 209 97 = some (.goto (4), 3, 0) := by decide +kernel
theorem cd_209_100 : zt_code zq_T 209 100 = some (.iconst 0, 1, 0) := by decide +kernel
theorem cd_209_101 : zt_code zq_T 209 101 = some (.ireturn, 1, 0) := by decide +kernel
theorem cd_210_0 : zt_code zq_T 210 0 = some (.aload_n 0, 1, 0) := by decide +kernel
theorem cd_210_1 : zt_code zq_T 210 1 = some (.iconst 3, 1, 0) := by decide +kernel
theorem cd_210_2 : zt_code zq_T 210 2 = some (.bipush (124), 2, 0) := by decide +kernel
theorem cd_210_4 : zt_code zq_T 210 4 = some (.iload_n 1, 1, 0) := by decide +kernel
theorem cd_210_5 : zt_code zq_T 210 5 = some (.invokevirtual 101, 3, 0) := by decide +kernel
theorem cd_210_8 : zt_code zq_T 210 8 = some (.areturn, 1, 0) := by decide +kernel
theorem cd_211_0 : zt_code zq_T 211 0 = some (.aload_n 0, 1, 0) := by decide +kernel
theorem cd_211_1 : zt_code zq_T 211 1 = some (.iload_n 1, 1, 0) := by decide +kernel
theorem cd_211_2 : zt_code zq_T 211 2 = some (.iload_n 3, 1, 0) := by decide +kernel
theorem cd_211_3 : zt_code zq_T 211 3 = some (.invokevirtual 105, 3, 0) := by decide +kernel
theorem cd_211_6 : zt_code zq_T 211 6 = some (.astore 4, 2, 0) := by decide +kernel
theorem cd_211_8 : zt_code zq_T 211 8 = some (.aload 4, 2, 0) := by decide +kernel
theorem cd_211_10 : zt_code zq_T 211 10 = some (.ifnull (11), 3, 0) := by decide +kernel
theorem cd_211_13 : zt_code zq_T 211 13 = some (.aload_n 0, 1, 0) := by decide +kernel
theorem cd_211_14 : zt_code zq_T 211 14 = some (.invokevirtual 66, 3, 0) := by decide +kernel
theorem cd_211_17 : zt_code zq_T 211 17 = some (.iload_n 2, 1, 0) := by decide +kernel
theorem cd_211_18 : zt_code zq_T 211 18 = some (.if_icmp .eq (6), 3, 0) := by decide +kernel
theorem cd_211_21 : zt_code zq_T 211 21 = some (.aload 4, 2, 0) := by decide +kernel
theorem cd_211_23 : zt_code zq_T 211 23 = some (.areturn, 1, 0) := by decide +kernel
theorem cd_211_24 : zt_code zq_T 211 24 = some (.aload_n 0, 1, 0) := by decide +kernel
theorem cd_211_25 : zt_code zq_T 211 25 = some (.iload_n 1, 1, 0) := by decide +kernel
theorem cd_211_26 : zt_code zq_T 211 26 = some (.iconst (-1), 1, 0) := by decide +kernel
theorem cd_211_27 : zt_code zq_T 211 27 = some (.invokevirtual 109, 3, 0) := by decide +kernel
theorem cd_211_30 : zt_code zq_T 211 30 = some (.astore 5, 2, 0) := by decide +kernel
theorem cd_211_32 : zt_code zq_T 211 32 = some (.aload 5, 2, 0) := by decide +kernel
theorem cd_211_34 : zt_code zq_T 211 34 = some (.ifnonnull (5), 3, 0) := by decide +kernel
theorem cd_211_37 : zt_code zq_T 211 37 = some (.aconst_null, 1, 3) := by decide +kernel
theorem cd_211_38 : zt_code zq_T 211 38 = some (.areturn, 1, 0) := by decide +kernel
theorem cd_211_39 : zt_code zq_T 211 39 = some (.aload 5, 2, 0) := by decide +kernel
theorem cd_211_41 : zt_code zq_T 211 41 = some (.aload 4, 2, 0) := by decide +kernel
theorem cd_211_43 : zt_code zq_T 211 43 = some (.invokevirtual 112, 3, 0) := by decide +kernel
theorem cd_211_46 : zt_code zq_T 211 46 = some (.iconst 0, 1, 0) := by decide +kernel
theorem cd_211_47 : zt_code zq_T 211 47 = some (.istore 6, 2, 0) := by decide +kernel
theorem cd_211_49 : zt_code zq_T 211 49 = some (.iload 6, 2, 0) := by decide +kernel
theorem cd_211_51 : zt_code zq_T 211 51 = some (.sipush (400), 3, 0) := by decide +kernel
theorem cd_211_54 : zt_code zq_T 211 54 = some (.if_icmp .ge (49), 3, 0) := by decide +kernel
theorem cd_211_57 : zt_code zq_T 211 57 = some (.aload_n 0, 1, 0) := by decide +kernel
theorem cd_211_58 : zt_code zq_T 211 58 = some (.invokevirtual 66, 3, 0) := by decide +kernel
theorem cd_211_61 : zt_code zq_T 211 61 = some (.iload_n 2, 1, 0) := by decide +kernel
theorem cd_211_62 : zt_code zq_T 211 62 = some (.if_icmp .ne (41), 3, 0) := by decide +kernel
theorem cd_211_65 : zt_code zq_T 211 65 = some (.aload_n 0, 1, 0) := by decide +kernel
theorem cd_211_66 : zt_code zq_T 211 66 = some (.dup, 1, 0) := by decide +kernel
theorem cd_211_67 : zt_code zq_T 211 67 = some (.getfield 53, 3, 0) := by decide +kernel
theorem cd_211_70 : zt_code zq_T 211 70 = some (.iconst 1, 1, 0) := by decide +kernel
theorem cd_211_71 : zt_code zq_T 211 71 = some (.iadd, 1, 0) := by decide +kernel
theorem cd_211_72 : zt_code zq_T 211 72 = some (.putfield 53, 3, 0) := by decide +kernel
theorem cd_211_75 : zt_code zq_T 211 75 = some (.aload_n 0, 1, 0) := by decide +kernel
theorem cd_211_76 : zt_code zq_T 211 76 = some (.iload_n 1, 1, 0) := by decide +kernel
theorem cd_211_77 : zt_code zq_T 211 77 = some (.iload_n 3, 1, 0) := by decide +kernel
theorem cd_211_78 : zt_code zq_T 211 78 = some (.invokevirtual 105, 3, 0) := by decide +kernel
theorem cd_211_81 : zt_code zq_T 211 81 = some (.astore 7, 2, 0) := by decide +kernel
theorem cd_211_83 : zt_code zq_T 211 83 = some (.aload 7, 2, 0) := by decide +kernel
theorem cd_211_85 : zt_code zq_T 211 85 = some (.ifnonnull (5), 3, 0) := by decide +kernel
theorem cd_211_88 : zt_code zq_T 211 88 = some (.aconst_null, 1, 3) := by decide +kernel
theorem cd_211_89 : zt_code zq_T 211 89 = some (.areturn, 1, 0) := by decide +kernel
theorem cd_211_90 : zt_code zq_T 211 90 = some (.aload 5, 2, 0) := by decide +kernel
theorem cd_211_92 : zt_code zq_T 211 92 = some (.aload 7, 2, 0) := by decide +kernel
theorem cd_211_94 : zt_code zq_T 211 94 = some (.invokevirtual 112, 3, 0) := by decide +kernel
theorem cd_211_97 : zt_code zq_T 211 97 = some (.iinc 6 (1), 3, 0) := by decide +kernel
theorem cd_211_100 : zt_code zq_T 211 100 = some (.goto (-51), 3, 0) := by decide +kernel
theorem cd_211_103 : zt_code zq_T 211 103 = some (.aload 5, 2, 0) := by decide +kernel
theorem cd_211_105 : zt_code zq_T 211 105 = some (.areturn, 1, 0) := by decide +kernel
theorem cd_212_0 : zt_code zq_T 212 0 = some (.iload_n 1, 1, 0) := by decide +kernel
theorem cd_212_1 : zt_code zq_T 212 1 = some (.iconst 3, 1, 0) := by decide +kernel
theorem cd_212_2 : zt_code zq_T 212 2 = some (.if_icmp .ne (14), 3, 0) := by decide +kernel
theorem cd_212_5 : zt_code zq_T 212 5 = some (.aload_n 0, 1, 0) := by decide +kernel
theorem cd_212_6 : zt_code zq_T 212 6 = some (.iconst 2, 1, 0) := by decide +kernel
theorem cd_212_7 : zt_code zq_T 212 7 = some (.bipush (44), 2, 0) := by decide +kernel
theorem cd_212_9 : zt_code zq_T 212 9 = some (.iload_n 2, 1, 0) := by decide +kernel
theorem cd_212_10 : zt_code zq_T 212 10 = some (.invokevirtual 101, 3, 0) := by decide +kernel
theorem cd_212_13 : zt_code zq_T 212 13 = some (.goto (8), 3, 0) := by decide +kernel
theorem cd_212_16 : zt_code zq_T 212 16 = some (.aload_n 0, 1, 0) := by decide +kernel
theorem cd_212_17 : zt_code zq_T 212 17 = some (.iload_n 2, 1, 0) := by decide +kernel
theorem cd_212_18 : zt_code zq_T 212 18 = some (.invokevirtual 116, 3, 0) := by decide +kernel
theorem cd_212_21 : zt_code zq_T 212 21 = some (.areturn, 1, 0) := by decide +kernel
theorem cd_213_0 : zt_code zq_T 213 0 = some (.aload_n 0, 1, 0) := by decide +kernel
theorem cd_213_1 : zt_code zq_T 213 1 = some (.iload_n 1, 1, 0) := by decide +kernel
theorem cd_213_2 : zt_code zq_T 213 2 = some (.invokevirtual 119, 3, 0) := by decide +kernel
theorem cd_213_5 : zt_code zq_T 213 5 = some (.astore_n 2, 1, 0) := by decide +kernel
theorem cd_213_6 : zt_code zq_T 213 6 = some (.aload_n 2, 1, 0) := by decide +kernel
theorem cd_213_7 : zt_code zq_T 213 7 = some (.ifnonnull (5), 3, 0) := by decide +kernel
theorem cd_213_10 : zt_code zq_T 213 10 = some (.aconst_null, 1, 3) := by decide +kernel
theorem cd_213_11 : zt_code zq_T 213 11 = some (.areturn, 1, 0) := by decide +kernel
theorem cd_213_12 : zt_code zq_T 213 12 = some (.aload_n 0, 1, 0) := by decide +kernel
theorem cd_213_13 : zt_code zq_T 213 13 = some (.invokevirtual 66, 3, 0) := by decide +kernel
theorem cd_213_16 : zt_code zq_T 213 16 = some (.istore_n 3, 1, 0) := by decide +kernel
theorem cd_213_17 : zt_code zq_T 213 17 = some (.iload_n 3, 1, 0) := by decide +kernel
theorem cd_213_18 : zt_code zq_T 213 18 = some (.bipush (63), 2, 0) := by decide +kernel
theorem cd_213_20 : zt_code zq_T 213 20 = some (.if_icmp .eq (23), 3, 0) := by decide +kernel
theorem cd_213_23 : zt_code zq_T 213 23 = some (.iload_n 3, 1, 0) := by decide +kernel
theorem cd_213_24 : zt_code zq_T 213 24 = some (.bipush (42), 2, 0) := by decide +kernel
theorem cd_213_26 : zt_code zq_T 213 26 = some (.if_icmp .eq (17), 3, 0) := by decide +kernel
theorem cd_213_29 : zt_code zq_T 213 29 = some (.iload_n 3, 1, 0) := by decide +kernel
theorem cd_213_30 : zt_code zq_T 213 30 = some (.bipush (43), 2, 0) := by decide +kernel
theorem cd_213_32 : zt_code zq_T 213 32 = some (.if_icmp .eq (11), 3, 0) := by decide +kernel
theorem cd_213_35 : zt_code zq_T 213 35 = some (.iload_n 3, 1, 0) := by decide +kernel
theorem cd_213_36 : zt_code zq_T 213 36 = some (.bipush (123), 2, 0) := by decide +kernel
theorem cd_213_38 : zt_code zq_T 213 38 = some (.if_icmp .eq (5), 3, 0) := by decide +kernel
theorem cd_213_41 : zt_code zq_T 213 41 = some (.aload_n 2, 1, 0) := by decide +kernel
theorem cd_213_42 : zt_code zq_T 213 42 = some (.areturn, 1, 0) := by decide +kernel
theorem cd_213_43 : zt_code zq_T 213 43 = some (.aload_n 2, 1, 0) := by decide +kernel
theorem cd_213_44 : zt_code zq_T 213 44 = some (.getfield 122, 3, 0) := by decide +kernel
theorem cd_213_47 : zt_code zq_T 213 47 = some (.iconst 2, 1, 0) := by decide +kernel
theorem cd_213_48 : zt_code zq_T 213 48 = some (.if_icmp .ge (15), 3, 0) := by decide +kernel
theorem cd_213_51 : zt_code zq_T 213 51 = some (.aload_n 0, 1, 0) := by decide +kernel
theorem cd_213_52 : zt_code zq_T 213 52 = some (.getfield 32, 3, 0) := by decide +kernel
theorem cd_213_55 : zt_code zq_T 213 55 = some (.getfield 125, 3, 0) := by decide +kernel
theorem cd_213_58 : zt_code zq_T 213 58 = some (.bipush (8), 2, 0) := by decide +kernel
theorem cd_213_60 : zt_code zq_T 213 60 = some (.if_icmp .lt (8), 3, 0) := by decide +kernel
theorem cd_213_63 : zt_code zq_T 213 63 = some (.aload_n 0, 1, 0) := by decide +kernel
theorem cd_213_64 : zt_code zq_T 213 64 = some (.invokevirtual 70, 3, 0) := by decide +kernel
theorem cd_213_67 : zt_code zq_T 213 67 = some (.areturn, 1, 0) := by decide +kernel
theorem cd_213_68 : zt_code zq_T 213 68 = some (.aload_n 0, 1, 0) := by decide +kernel
theorem cd_213_69 : zt_code zq_T 213 69 = some (.iconst 4, 1, 0) := by decide +kernel
theorem cd_213_70 : zt_code zq_T 213 70 = some (.aload_n 0, 1, 0) := by decide +kernel
theorem cd_213_71 : zt_code zq_T 213 71 = some (.getfield 32, 3, 0) := by decide +kernel
theorem cd_213_74 : zt_code zq_T 213 74 = some (.getfield 125, 3, 0) := by decide +kernel
theorem cd_213_77 : zt_code zq_T 213 77 = some (.invokevirtual 109, 3, 0) := by decide +kernel
theorem cd_213_80 : zt_code zq_T 213 80 = some (.astore 4, 2, 0) := by decide +kernel
theorem cd_213_82 : zt_code zq_T 213 82 = some (.aload 4, 2, 0) := by decide +kernel
theorem cd_213_84 : zt_code zq_T 213 84 = some (.ifnonnull (5), 3, 0) := by decide +kernel
theorem cd_213_87 : zt_code zq_T 213 87 = some (.aconst_null, 1, 3) := by decide +kernel
theorem cd_213_88 : zt_code zq_T 213 88 = some (.areturn, 1, 0) := by decide +kernel
theorem cd_213_89 : zt_code zq_T 213 89 = some (.aload 4, 2, 0) := by decide +kernel
theorem cd_213_91 : zt_code zq_T 213 91 = some (.aload_n 2, 1, 0) := by decide +kernel
theorem cd_213_92 : zt_code zq_T 213 92 = some (.invokevirtual 112, 3, 0) := by decide +kernel
theorem cd_213_95 : zt_code zq_T 213 95 = some (.aload 4, 2, 0) := by decide +kernel
theorem cd_213_97 : zt_code zq_T 213 97 = some (.dup, 1, 0) := by decide +kernel
theorem cd_213_98 : zt_code zq_T 213 98 = some (.getfield 122, 3, 0) := by decide +kernel
theorem cd_213_101 : zt_code zq_T 213 101 = some (.iconst 1, 1, 0) := by decide +kernel
theorem cd_213_102 : zt_code zq_T 213 102 = some (.iadd, 1, 0) := by decide +kernel
theorem cd_213_103 : zt_code zq_T 213 103 = some (.putfield 122, 3, 0) := by decide +kernel
theorem cd_213_106 : zt_code zq_T 213 106 = some (.aload_n 0, 1, 0) := by decide +kernel
theorem cd_213_107 : zt_code zq_T 213 107 = some (.getfield 32, 3, 0) := by decide +kernel
theorem cd_213_110 : zt_code zq_T 213 110 = some (.getfield 128, 3, 0) := by decide +kernel
theorem cd_213_113 : zt_code zq_T 213 113 = some (.aload_n 0, 1, 0) := by decide +kernel
theorem cd_213_114 : zt_code zq_T 213 114 = some (.getfield 32, 3, 0) := by decide +kernel
theorem cd_213_117 : zt_code zq_T 213 117 = some (.getfield 125, 3, 0) := by decide +kernel
theorem cd_213_120 : zt_code zq_T 213 120 = some (.aload 4, 2, 0) := by decide +kernel
theorem cd_213_122 : zt_code zq_T 213 122 = some (.aastore, 1, 0) := by decide +kernel
theorem cd_213_123 : zt_code zq_T 213 123 = some (.aload_n 0, 1, 0) := by decide +kernel
theorem cd_213_124 : zt_code zq_T 213 124 = some (.getfield 32, 3, 0) := by decide +kernel
theorem cd_213_127 : zt_code zq_T 213 127 = some (.dup, 1, 0) := by decide +kernel
theorem cd_213_128 : zt_code zq_T 213 128 = some (.getfield 125, 3, 0) := by decide +kernel
theorem cd_213_131 : zt_code zq_T 213 131 = some (.iconst 1, 1, 0) := by decide +kernel
theorem cd_213_132 : zt_code zq_T 213 132 = some (.iadd, 1, 0) := by decide +kernel
theorem cd_213_133 : zt_code zq_T 213 133 = some (.putfield 125, 3, 0) := by decide +kernel
theorem cd_213_136 : zt_code zq_T 213 136 = some (.aload_n 0, 1, 0) := by decide +kernel
theorem cd_213_137 : zt_code zq_T 213 137 = some (.dup, 1, 0) := by decide +kernel
theorem cd_213_138 : zt_code zq_T 213 138 = some (.getfield 53, 3, 0) := by decide +kernel
theorem cd_213_141 : zt_code zq_T 213 141 = some (.iconst 1, 1, 0) := by decide +kernel
theorem cd_213_142 : zt_code zq_T 213 142 = some (.iadd, 1, 0) := by decide +kernel
theorem cd_213_143 : zt_code zq_T 213 143 = some (.putfield 53, 3, 0) := by decide +kernel
theorem cd_213_146 : zt_code zq_T 213 146 = some (.aload_n 0, 1, 0) := by decide +kernel
theorem cd_213_147 : zt_code zq_T 213 147 = some (.iload_n 3, 1, 0) := by decide +kernel
theorem cd_213_148 : zt_code zq_T 213 148 = some (.aload 4, 2, 0) := by decide +kernel
theorem cd_213_150 : zt_code zq_T 213 150 = some (.getfield 131, 3, 0) := by decide +kernel
theorem cd_213_153 : zt_code zq_T 213 153 = some (.invokevirtual 134, 3, 0) := by decide +kernel
theorem cd_213_156 : zt_code zq_T 213 156 = some (.ifCond .eq (8), 3, 0) := by decide +kernel
theorem cd_213_159 : zt_code zq_T 213 159 = some (.aload 4, 2, 0) := by decide +kernel
theorem cd_213_161 : zt_code zq_T 213 161 = some (.goto (4), 3, 0) := by decide +kernel
theorem cd_213_164 : zt_code zq_T 213 164 = some (.aconst_null, 1, 3) := by decide +kernel
theorem cd_213_165 : zt_code zq_T 213 165 = some (.areturn, 1, 0) := by decide +kernel
theorem cd_214_0 : zt_code zq_T 214 0 = some (.iload_n 1, 1, 0) := by decide +kernel
theorem cd_214_1 : zt_code zq_T 214 1 = some (.bipush (123), 2, 0) := by decide +kernel
theorem cd_214_3 : zt_code zq_T 214 3 = some (.if_icmp .ne (9), 3, 0) := by decide +kernel
theorem cd_214_6 : zt_code zq_T 214 6 = some (.aload_n 0, 1, 0) := by decide +kernel
theorem cd_214_7 : zt_code zq_T 214 7 = some (.iload_n 2, 1, 0) := by decide +kernel
theorem cd_214_8 : zt_code zq_T 214 8 = some (.invokevirtual 138, 3, 0) := by decide +kernel
theorem cd_214_11 : zt_code zq_T 214 11 = some (.ireturn, 1, 0) := by decide +kernel
theorem cd_214_12 : zt_code zq_T 214 12 = some (.aload_n 0, 1, 0) := by decide +kernel
theorem cd_214_13 : zt_code zq_T 214 13 = some (.getfield 32, 3, 0) := by decide +kernel
theorem cd_214_16 : zt_code zq_T 214 16 = some (.getfield 141, 3, 0) := by decide +kernel
theorem cd_214_19 : zt_code zq_T 214 19 = some (.iload_n 2, 1, 0) := by decide +kernel
theorem cd_214_20 : zt_code zq_T 214 20 = some (.iload_n 1, 1, 0) := by decide +kernel
theorem cd_214_21 : zt_code zq_T 214 21 = some (.bipush (43), 2, 0) := by decide +kernel
theorem cd_214_23 : zt_code zq_T 214 23 = some (.if_icmp .ne (7), 3, 0) := by decide +kernel
theorem cd_214_26 : zt_code zq_T 214 26 = some (.iconst 1, 1, 0) := by decide +kernel
theorem cd_214_27 : zt_code zq_T 214 27 = some (.goto (4), 3, 0) := by decide +kernel
theorem cd_214_30 : zt_code zq_T 214 30 = some (.iconst 0, 1, 0) := by decide +kernel
theorem cd_214_31 : zt_code zq_T 214 31 = some (.iastore, 1, 0) := by decide +kernel
theorem cd_214_32 : zt_code zq_T 214 32 = some (.aload_n 0, 1, 0) := by decide +kernel
theorem cd_214_33 : zt_code zq_T 214 33 = some (.getfield 32, 3, 0) := by decide +kernel
theorem cd_214_36 : zt_code zq_T 214 36 = some (.getfield 144, 3, 0) := by decide +kernel
theorem cd_214_39 : zt_code zq_T 214 39 = some (.iload_n 2, 1, 0) := by decide +kernel
theorem cd_214_40 : zt_code zq_T 214 40 = some (.iload_n 1, 1, 0) := by decide +kernel
theorem cd_214_41 : zt_code zq_T 214 41 = some (.bipush (63), 2, 0) := by decide +kernel
theorem cd_214_43 : zt_code zq_T 214 43 = some (.if_icmp .ne (7), 3, 0) := by decide +kernel
theorem cd_214_46 : zt_code zq_T 214 46 = some (.iconst 1, 1, 0) := by decide +kernel
theorem cd_214_47 : zt_code zq_T 214 47 = some (.goto (4), 3, 0) := by decide +kernel
theorem cd_214_50 : zt_code zq_T 214 50 = some (.iconst (-1), 1, 0) := by decide +kernel
theorem cd_214_51 : zt_code zq_T 214 51 = some (.iastore, 1, 0) := by decide +kernel
theorem cd_214_52 : zt_code zq_T 214 52 = some (.iconst 1, 1, 0) := by decide +kernel
theorem cd_214_53 : zt_code zq_T 214 53 = some (.ireturn, 1, 0) := by decide +kernel
theorem cd_215_0 : zt_code zq_T 215 0 = some (.aload_n 0, 1, 0) := by decide +kernel
theorem cd_215_1 : zt_code zq_T 215 1 = some (.iconst 0, 1, 0) := by decide +kernel
theorem cd_215_2 : zt_code zq_T 215 2 = some (.invokevirtual 147, 3, 0) := by decide +kernel
theorem cd_215_5 : zt_code zq_T 215 5 = some (.istore_n 2, 1, 0) := by decide +kernel
theorem cd_215_6 : zt_code zq_T 215 6 = some (.iload_n 2, 1, 0) := by decide +kernel
theorem cd_215_7 : zt_code zq_T 215 7 = some (.iconst (-1), 1, 0) := by decide +kernel
theorem cd_215_8 : zt_code zq_T 215 8 = some (.if_icmp .ne (5), 3, 0) := by decide +kernel
theorem cd_215_11 : zt_code zq_T 215 11 = some (.iconst 0, 1, 0) := by decide +kernel
theorem cd_215_12 : zt_code zq_T 215 12 = some (.ireturn, 1, 0) := by decide +kernel
theorem cd_215_13 : zt_code zq_T 215 13 = some (.iload_n 2, 1, 0) := by decide +kernel
theorem cd_215_14 : zt_code zq_T 215 14 = some (.istore_n 3, 1, 0) := by decide +kernel
theorem cd_215_15 : zt_code zq_T 215 15 = some (.aload_n 0, 1, 0) := by decide +kernel
theorem cd_215_16 : zt_code zq_T 215 16 = some (.invokevirtual 66, 3, 0) := by decide +kernel
theorem cd_215_19 : zt_code zq_T 215 19 = some (.bipush (44), 2, 0) := by decide +kernel
theorem cd_215_21 : zt_code zq_T 215 21 = some (.if_icmp .ne (7), 3, 0) := by decide +kernel
theorem cd_215_24 : zt_code zq_T 215 24 = some (.iconst 1, 1, 0) := by decide +kernel
theorem cd_215_25 : zt_code zq_T 215 25 = some (.goto (4), 3, 0) := by decide +kernel
theorem cd_215_28 : zt_code zq_T 215 28 = some (.iconst 0, 1, 0) := by decide +kernel
theorem cd_215_29 : zt_code zq_T 215 29 = some (.istore 4, 2, 0) := by decide +kernel
theorem cd_215_31 : zt_code zq_T 215 31 = some (.iload 4, 2, 0) := by decide +kernel
theorem cd_215_33 : zt_code zq_T 215 33 = some (.ifCond .eq (41), 3, 0) := by decide +kernel
theorem cd_215_36 : zt_code zq_T 215 36 = some (.aload_n 0, 1, 0) := by decide +kernel
theorem cd_215_37 : zt_code zq_T 215 37 = some (.dup, 1, 0) := by decide +kernel
theorem cd_215_38 : zt_code zq_T 215 38 = some (.getfield 53, 3, 0) := by decide +kernel
theorem cd_215_41 : zt_code zq_T 215 41 = some (.iconst 1, 1, 0) := by decide +kernel
theorem cd_215_42 : zt_code zq_T 215 42 = some (.iadd, 1, 0) := by decide +kernel
theorem cd_215_43 : zt_code zq_T 215 43 = some (.putfield 53, 3, 0) := by decide +kernel
theorem cd_215_46 : zt_code zq_T 215 46 = some (.iconst (-1), 1, 0) := by decide +kernel
theorem cd_215_47 : zt_code zq_T 215 47 = some (.istore_n 3, 1, 0) := by decide +kernel
theorem cd_215_48 : zt_code zq_T 215 48 = some (.aload_n 0, 1, 0) := by decide +kernel
theorem cd_215_49 : zt_code zq_T 215 49 = some (.invokevirtual 66, 3, 0) := by decide +kernel
theorem cd_215_52 : zt_code zq_T 215 52 = some (.bipush (125), 2, 0) := by decide +kernel
theorem cd_215_54 : zt_code zq_T 215 54 = some (.if_icmp .eq (20), 3, 0) := by decide +kernel
theorem cd_215_57 : zt_code zq_T 215 57 = some (.aload_n 0, 1, 0) := by decide +kernel
theorem cd_215_58 : zt_code zq_T 215 58 = some (.iload_n 2, 1, 0) := by decide +kernel
theorem cd_215_59 : zt_code zq_T 215 59 = some (.iconst 1, 1, 0) := by decide +kernel
theorem cd_215_60 : zt_code zq_T 215 60 = some (.invokestatic 150, 3, 0) := by decide +kernel
theorem cd_215_63 : zt_code zq_T 215 63 = some (.invokevirtual 147, 3, 0) := by decide +kernel
theorem cd_215_66 : zt_code zq_T 215 66 = some (.istore_n 3, 1, 0) := by decide +kernel
theorem cd_215_67 : zt_code zq_T 215 67 = some (.iload_n 3, 1, 0) := by decide +kernel
theorem cd_215_68 : zt_code zq_T 215 68 = some (.iconst (-1), 1, 0) := by decide +kernel
theorem cd_215_69 : zt_code zq_T 215 69 = some (.if_icmp .ne (5), 3, 0) := by decide +kernel
theorem cd_215_72 : zt_code zq_T 215 72 = some (.iconst 0, 1, 0) := by decide +kernel
theorem cd_215_73 : zt_code zq_T 215 73 = some (.ireturn, 1, 0) := by decide +kernel
theorem cd_215_74 : zt_code zq_T 215 74 = some (.aload_n 0, 1, 0) := by decide +kernel
theorem cd_215_75 : zt_code zq_T 215 75 = some (.invokevirtual 66, 3, 0) := by decide +kernel
theorem cd_215_78 : zt_code zq_T 215 78 = some (.bipush (125), 2, 0) := by decide +kernel
theorem cd_215_80 : zt_code zq_T 215 80 = some (.if_icmp .ne (13), 3, 0) := by decide +kernel
theorem cd_215_83 : zt_code zq_T 215 83 = some (.iload 4, 2, 0) := by decide +kernel
theorem cd_215_85 : zt_code zq_T 215 85 = some (.ifCond .ne (13), 3, 0) := by decide +kernel
theorem cd_215_88 : zt_code zq_T 215 88 = some (.iload_n 2, 1, 0) := by decide +kernel
theorem cd_215_89 : zt_code zq_T 215 89 = some (.iconst 1, 1, 0) := by decide +kernel
theorem cd_215_90 : zt_code zq_T 215 90 = some (.if_icmp .ge (8), 3, 0) := by decide +kernel
theorem cd_215_93 : zt_code zq_T 215 93 = some (.aload_n 0, 1, 0) := by decide +kernel
theorem cd_215_94 : zt_code zq_T 215 94 = some (.invokevirtual 87, 3, 0) := by decide +kernel
theorem cd_215_97 : zt_code zq_T 215 97 = some (.ireturn, 1, 0) := by decide +kernel
theorem cd_215_98 : zt_code zq_T 215 98 = some (.aload_n 0, 1, 0) := by decide +kernel
theorem cd_215_99 : zt_code zq_T 215 99 = some (.dup, 1, 0) := by decide +kernel
theorem cd_215_100 : zt_code zq_T 215 100 = some (.getfield 53, 3, 0) := by decide +kernel
theorem cd_215_103 : zt_code zq_T 215 103 = some (.iconst 1, 1, 0) := by decide +kernel
theorem cd_215_104 : zt_code zq_T 215 104 = some (.iadd, 1, 0) := by decide +kernel
theorem cd_215_105 : zt_code zq_T 215 105 = some (.putfield 53, 3, 0) := by decide +kernel
theorem cd_215_108 : zt_code zq_T 215 108 = some (.aload_n 0, 1, 0) := by decide +kernel
theorem cd_215_109 : zt_code zq_T 215 109 = some (.getfield 32, 3, 0) := by decide +kernel
theorem cd_215_112 : zt_code zq_T 215 112 = some (.getfield 141, 3, 0) := by decide +kernel
theorem cd_215_115 : zt_code zq_T 215 115 = some (.iload_n 1, 1, 0) := by decide +kernel
theorem cd_215_116 : zt_code zq_T 215 116 = some (.iload_n 2, 1, 0) := by decide +kernel
theorem cd_215_117 : zt_code zq_T 215 117 = some (.iastore, 1, 0) := by decide +kernel
theorem cd_215_118 : zt_code zq_T 215 118 = some (.aload_n 0, 1, 0) := by decide +kernel
theorem cd_215_119 : zt_code zq_T 215 119 = some (.getfield 32, 3, 0) := by decide +kernel
theorem cd_215_122 : zt_code zq_T 215 122 = some (.getfield 144, 3, 0) := by decide +kernel
theorem cd_215_125 : zt_code zq_T 215 125 = some (.iload_n 1, 1, 0) := by decide +kernel
theorem cd_215_126 : zt_code zq_T 215 126 = some (.iload_n 3, 1, 0) := by decide +kernel
theorem cd_215_127 : zt_code zq_T 215 127 = some (.iastore, 1, 0) := by decide +kernel
theorem cd_215_128 : zt_code zq_T 215 128 = some (.iconst 1, 1, 0) := by decide +kernel
theorem cd_215_129 : zt_code zq_T 215 129 = some (.ireturn, 1, 0) := by decide +kernel
theorem cd_216_0 : zt_code zq_T 216 0 = some (.aload_n 0, 1, 0) := by decide +kernel
theorem cd_216_1 : zt_code zq_T 216 1 = some (.invokevirtual 66, 3, 0) := by decide +kernel
theorem cd_216_4 : zt_code zq_T 216 4 = some (.istore_n 2, 1, 0) := by decide +kernel
theorem cd_216_5 : zt_code zq_T 216 5 = some (.iload_n 2, 1, 0) := by decide +kernel
theorem cd_216_6 : zt_code zq_T 216 6 = some (.invokestatic 156, 3, 0) := by decide +kernel
theorem cd_216_9 : zt_code zq_T 216 9 = some (.ifCond .eq (14), 3, 0) := by decide +kernel
theorem cd_216_12 : zt_code zq_T 216 12 = some (.iload_n 2, 1, 0) := by decide +kernel
theorem cd_216_13 : zt_code zq_T 216 13 = some (.bipush (48), 2, 0) := by decide +kernel
theorem cd_216_15 : zt_code zq_T 216 15 = some (.isub, 1, 0) := by decide +kernel
theorem cd_216_16 : zt_code zq_T 216 16 = some (.iload_n 1, 1, 0) := by decide +kernel
theorem cd_216_17 : zt_code zq_T 216 17 = some (.invokestatic 159, 3, 0) := by decide +kernel
theorem cd_216_20 : zt_code zq_T 216 20 = some (.ifCond .ne (13), 3, 0) := by decide +kernel
theorem cd_216_23 : zt_code zq_T 216 23 = some (.aload_n 0, 1, 0) := by decide +kernel
theorem cd_216_24 : zt_code zq_T 216 24 = some (.aload_n 0, 1, 0) := by decide +kernel
theorem cd_216_25 : zt_code zq_T 216 25 = some (.getfield 53, 3, 0) := by decide +kernel
theorem cd_216_28 : zt_code zq_T 216 28 = some (.putfield 56, 3, 0) := by decide +kernel
theorem cd_216_31 : zt_code zq_T 216 31 = some (.iconst (-1), 1, 0) := by decide +kernel
theorem cd_216_32 : zt_code zq_T 216 32 = some (.ireturn, 1, 0) := by decide +kernel
theorem cd_216_33 : zt_code zq_T 216 33 = some (.iload_n 2, 1, 0) := by decide +kernel
theorem cd_216_34 : zt_code zq_T 216 34 = some (.bipush (48), 2, 0) := by decide +kernel
theorem cd_216_36 : zt_code zq_T 216 36 = some (.isub, 1, 0) := by decide +kernel
theorem cd_216_37 : zt_code zq_T 216 37 = some (.istore_n 3, 1, 0) := by decide +kernel
theorem cd_216_38 : zt_code zq_T 216 38 = some (.aload_n 0, 1, 0) := by decide +kernel
theorem cd_216_39 : zt_code zq_T 216 39 = some (.dup, 1, 0) := by decide +kernel
theorem cd_216_40 : zt_code zq_T 216 40 = some (.getfield 53, 3, 0) := by decide +kernel
theorem cd_216_43 : zt_code zq_T 216 43 = some (.iconst 1, 1, 0) := by decide +kernel
theorem cd_216_44 : zt_code zq_T 216 44 = some (.iadd, 1, 0) := by decide +kernel
theorem cd_216_45 : zt_code zq_T 216 45 = some (.putfield 53, 3, 0) := by decide +kernel
theorem cd_216_48 : zt_code zq_T 216 48 = some (.aload_n 0, 1, 0) := by decide +kernel
theorem cd_216_49 : zt_code zq_T 216 49 = some (.getfield 53, 3, 0) := by decide +kernel
theorem cd_216_52 : zt_code zq_T 216 52 = some (.aload_n 0, 1, 0) := by decide +kernel
theorem cd_216_53 : zt_code zq_T 216 53 = some (.getfield 50, 3, 0) := by decide +kernel
theorem cd_216_56 : zt_code zq_T 216 56 = some (.if_icmp .ge (22), 3, 0) := by decide +kernel
theorem cd_216_59 : zt_code zq_T 216 59 = some (.aload_n 0, 1, 0) := by decide +kernel
theorem cd_216_60 : zt_code zq_T 216 60 = some (.getfield 28, 3, 0) := by decide +kernel
theorem cd_216_63 : zt_code zq_T 216 63 = some (.aload_n 0, 1, 0) := by decide +kernel
theorem cd_216_64 : zt_code zq_T 216 64 = some (.getfield 53, 3, 0) := by decide +kernel
theorem cd_216_67 : zt_code zq_T 216 67 = some (.iaload, 1, 0) := by decide +kernel
theorem cd_216_68 : zt_code zq_T 216 68 = some (.invokestatic 156, 3, 0) := by decide +kernel
theorem cd_216_71 : zt_code zq_T 216 71 = some (.ifCond .eq (7), 3, 0) := by decide +kernel
theorem cd_216_74 : zt_code zq_T 216 74 = some (.iconst 1, 1, 0) := by decide +kernel
theorem cd_216_75 : zt_code zq_T 216 75 = some (.goto (4), 3, 0) := by decide +kernel
theorem cd_216_78 : zt_code zq_T 216 78 = some (.iconst 0, 1, 0) := by decide +kernel
theorem cd_216_79 : zt_code zq_T 216 79 = some (.istore 4, 2, 0) := by decide +kernel
theorem cd_216_81 : zt_code zq_T 216 81 = some (.iload 4, 2, 0) := by decide +kernel
theorem cd_216_83 : zt_code zq_T 216 83 = some (.ifCond .eq (21), 3, 0) := by decide +kernel
theorem cd_216_86 : zt_code zq_T 216 86 = some (.iload_n 3, 1, 0) := by decide +kernel
theorem cd_216_87 : zt_code zq_T 216 87 = some (.bipush (10), 2, 0) := by decide +kernel
theorem cd_216_89 : zt_code zq_T 216 89 = some (.imul, 1, 0) := by decide +kernel
theorem cd_216_90 : zt_code zq_T 216 90 = some (.aload_n 0, 1, 0) := by decide +kernel
theorem cd_216_91 : zt_code zq_T 216 91 = some (.getfield 28, 3, 0) := by decide +kernel
theorem cd_216_94 : zt_code zq_T 216 94 = some (.aload_n 0, 1, 0) := by decide +kernel
theorem cd_216_95 : zt_code zq_T 216 95 = some (.getfield 53, 3, 0) := by decide +kernel
theorem cd_216_98 : zt_code zq_T 216 98 = some (.iaload, 1, 0) := by decide +kernel
theorem cd_216_99 : zt_code zq_T 216 99 = some (.iadd, 1, 0) := by decide +kernel
theorem cd_216_100 : zt_code zq_T 216 100 = some (.bipush (48), 2, 0) := by decide +kernel
theorem cd_216_102 : zt_code zq_T 216 102 = some (.isub, 1, 0) := by decide +kernel
theorem cd_216_103 : zt_code zq_T 216 103 = some (.istore_n 3, 1, 0) := by decide +kernel
theorem cd_216_104 : zt_code zq_T 216 104 = some (.iload_n 3, 1, 0) := by decide +kernel
theorem cd_216_105 : zt_code zq_T 216 105 = some (.bipush (12), 2, 0) := by decide +kernel
theorem cd_216_107 : zt_code zq_T 216 107 = some (.if_icmp .gt (8), 3, 0) := by decide +kernel
theorem cd_216_110 : zt_code zq_T 216 110 = some (.iload_n 3, 1, 0) := by decide +kernel
theorem cd_216_111 : zt_code zq_T 216 111 = some (.iload_n 1, 1, 0) := by decide +kernel
theorem cd_216_112 : zt_code zq_T 216 112 = some (.if_icmp .ge (13), 3, 0) := by decide +kernel
theorem cd_216_115 : zt_code zq_T 216 115 = some (.aload_n 0, 1, 0) := by decide +kernel
theorem cd_216_116 : zt_code zq_T 216 116 = some (.aload_n 0, 1, 0) := by decide +kernel
theorem cd_216_117 : zt_code zq_T 216 117 = some (.getfield 53, 3, 0) := by decide +kernel
theorem cd_216_120 : zt_code zq_T 216 120 = some (.putfield 56, 3, 0) := by decide +kernel
theorem cd_216_123 : zt_code zq_T 216 123 = some (.iconst (-1), 1, 0) := by decide +kernel
theorem cd_216_124 : zt_code zq_T 216 124 = some (.ireturn, 1, 0) := by decide +kernel
theorem cd_216_125 : zt_code zq_T 216 125 = some (.iload 4, 2, 0) := by decide +kernel
theorem cd_216_127 : zt_code zq_T 216 127 = some (.ifCond .eq (13), 3, 0) := by decide +kernel
theorem cd_216_130 : zt_code zq_T 216 130 = some (.aload_n 0, 1, 0) := by decide +kernel
theorem cd_216_131 : zt_code zq_T 216 131 = some (.dup, 1, 0) := by decide +kernel
theorem cd_216_132 : zt_code zq_T 216 132 = some (.getfield 53, 3, 0) := by decide +kernel
theorem cd_216_135 : zt_code zq_T 216 135 = some (.iconst 1, 1, 0) := by decide +kernel
theorem cd_216_136 : zt_code zq_T 216 136 = some (.iadd, 1, 0) := by decide +kernel
theorem cd_216_137 : zt_code zq_T 216 137 = some (.putfield 53, 3, 0) := by decide +kernel
theorem cd_216_140 : zt_code zq_T 216 140 = some (.iload_n 3, 1, 0) := by decide +kernel
theorem cd_216_141 : zt_code zq_T 216 141 = some (.ireturn, 1, 0) := by decide +kernel
theorem cd_217_0 : zt_code zq_T 217 0 = some (.iload_n 0, 1, 0) := by decide +kernel
theorem cd_217_1 : zt_code zq_T 217 1 = some (.iload_n 1, 1, 0) := by decide +kernel
theorem cd_217_2 : zt_code zq_T 217 2 = some (.if_icmp .ge (18), 3, 0) := by decide +kernel
theorem cd_217_5 : zt_code zq_T 217 5 = some (.iload_n 0, 1, 0) := by decide +kernel
theorem cd_217_6 : zt_code zq_T 217 6 = some (.ifCond .ne (9), 3, 0) := by decide +kernel
theorem cd_217_9 : zt_code zq_T 217 9 = some (.iload_n 1, 1, 0) := by decide +kernel
theorem cd_217_10 : zt_code zq_T 217 10 = some (.bipush (9), 2, 0) := by decide +kernel
theorem cd_217_12 : zt_code zq_T 217 12 = some (.if_icmp .le (8), 3, 0) := by decide +kernel
theorem cd_217_15 : zt_code zq_T 217 15 = some (.iload_n 0, 1, 0) := by decide +kernel
theorem cd_217_16 : zt_code zq_T 217 16 = some (.iconst 1, 1, 0) := by decide +kernel
theorem cd_217_17 : zt_code zq_T 217 17 = some (.if_icmp .ne (7), 3, 0) := by decide +kernel
theorem cd_217_20 : zt_code zq_T 217 20 = some (.iconst 1, 1, 0) := by decide +kernel
theorem cd_217_21 : zt_code zq_T 217 21 = some (.goto (4), 3, 0) := by decide +kernel
theorem cd_217_24 : zt_code zq_T 217 24 = some (.iconst 0, 1, 0) := by decide +kernel
theorem cd_217_25 : zt_code zq_T 217 25 = some (.ireturn, 1, 0) := by decide +kernel
theorem cd_218_0 : zt_code zq_T 218 0 = some (.aload_n 0, 1, 0) := by decide +kernel
theorem cd_218_1 : zt_code zq_T 218 1 = some (.invokevirtual 66, 3, 0) := by decide +kernel
theorem cd_218_4 : zt_code zq_T 218 4 = some (.istore_n 2, 1, 0) := by decide +kernel
theorem cd_218_5 : zt_code zq_T 218 5 = some (.iload_n 2, 1, 0) := by decide +kernel
theorem cd_218_6 : zt_code zq_T 218 6 = some (.invokestatic 79, 3, 0) := by decide +kernel
theorem cd_218_9 : zt_code zq_T 218 9 = some (.ifCond .eq (12), 3, 0) := by decide +kernel
theorem cd_218_12 : zt_code zq_T 218 12 = some (.aload_n 0, 1, 0) := by decide +kernel
theorem cd_218_13 : zt_code zq_T 218 13 = some (.iload_n 2, 1, 0) := by decide +kernel
theorem cd_218_14 : zt_code zq_T 218 14 = some (.bipush (97), 2, 0) := by decide +kernel
theorem cd_218_16 : zt_code zq_T 218 16 = some (.isub, 1, 0) := by decide +kernel
theorem cd_218_17 : zt_code zq_T 218 17 = some (.invokevirtual 162, 3, 0) := by decide +kernel
theorem cd_218_20 : zt_code zq_T 218 20 = some (.areturn, 1, 0) := by decide +kernel
theorem cd_218_21 : zt_code zq_T 218 21 = some (.iload_n 2, 1, 0) := by decide +kernel
theorem cd_218_22 : zt_code zq_T 218 22 = some (.bipush (48), 2, 0) := by decide +kernel
theorem cd_218_24 : zt_code zq_T 218 24 = some (.if_icmp .ne (20), 3, 0) := by decide +kernel
theorem cd_218_27 : zt_code zq_T 218 27 = some (.aload_n 0, 1, 0) := by decide +kernel
theorem cd_218_28 : zt_code zq_T 218 28 = some (.dup, 1, 0) := by decide +kernel
theorem cd_218_29 : zt_code zq_T 218 29 = some (.getfield 53, 3, 0) := by decide +kernel
theorem cd_218_32 : zt_code zq_T 218 32 = some (.iconst 1, 1, 0) := by decide +kernel
theorem cd_218_33 : zt_code zq_T 218 33 = some (.iadd, 1, 0) := by decide +kernel
theorem cd_218_34 : zt_code zq_T 218 34 = some (.putfield 53, 3, 0) := by decide +kernel
theorem cd_218_37 : zt_code zq_T 218 37 = some (.aload_n 0, 1, 0) := by decide +kernel
theorem cd_218_38 : zt_code zq_T 218 38 = some (.iconst 1, 1, 0) := by decide +kernel
theorem cd_218_39 : zt_code zq_T 218 39 = some (.iconst (-1), 1, 0) := by decide +kernel
theorem cd_218_40 : zt_code zq_T 218 40 = some (.invokevirtual 109, 3, 0) := by decide +kernel
theorem cd_218_43 : zt_code zq_T 218 43 = some (.areturn, 1, 0) := by decide +kernel
theorem cd_218_44 : zt_code zq_T 218 44 = some (.iload_n 1, 1, 0) := by decide +kernel
theorem cd_218_45 : zt_code zq_T 218 45 = some (.bipush (8), 2, 0) := by decide +kernel
theorem cd_218_47 : zt_code zq_T 218 47 = some (.if_icmp .ge (15), 3, 0) := by decide +kernel
theorem cd_218_50 : zt_code zq_T 218 50 = some (.iload_n 2, 1, 0) := by decide +kernel
theorem cd_218_51 : zt_code zq_T 218 51 = some (.bipush (40), 2, 0) := by decide +kernel
theorem cd_218_53 : zt_code zq_T 218 53 = some (.if_icmp .eq (14), 3, 0) := by decide +kernel
theorem cd_218_56 : zt_code zq_T 218 56 = some (.iload_n 2, 1, 0) := by decide +kernel
theorem cd_218_57 : zt_code zq_T 218 57 = some (.bipush (91), 2, 0) := by decide +kernel
theorem cd_218_59 : zt_code zq_T 218 59 = some (.if_icmp .eq (8), 3, 0) := by decide +kernel
theorem cd_218_62 : zt_code zq_T 218 62 = some (.aload_n 0, 1, 0) := by decide +kernel
theorem cd_218_63 : zt_code zq_T 218 63 = some (.invokevirtual 70, 3, 0) := by decide +kernel
theorem cd_218_66 : zt_code zq_T 218 66 = some (.areturn, 1, 0) := by decide +kernel
theorem cd_218_67 : zt_code zq_T 218 67 = some (.iload_n 2, 1, 0) := by decide +kernel
theorem cd_218_68 : zt_code zq_T 218 68 = some (.bipush (40), 2, 0) := by decide +kernel
theorem cd_218_70 : zt_code zq_T 218 70 = some (.if_icmp .ne (11), 3, 0) := by decide +kernel
theorem cd_218_73 : zt_code zq_T 218 73 = some (.aload_n 0, 1, 0) := by decide +kernel
theorem cd_218_74 : zt_code zq_T 218 74 = some (.iload_n 1, 1, 0) := by decide +kernel
theorem cd_218_75 : zt_code zq_T 218 75 = some (.invokevirtual 165, 3, 0) := by decide +kernel
theorem cd_218_78 : zt_code zq_T 218 78 = some (.goto (8), 3, 0) := by decide +kernel
theorem cd_218_81 : zt_code zq_T 218 81 = some (.aload_n 0, 1, 0) := by decide +kernel
theorem cd_218_82 : zt_code zq_T 218 82 = some (.iload_n 1, 1, 0) := by decide +kernel
theorem cd_218_83 : zt_code zq_T 218 83 = some (.invokevirtual 168, 3, 0) := by decide +kernel
theorem cd_218_86 : zt_code zq_T 218 86 = some (.areturn, 1, 0) := by decide +kernel
theorem cd_219_0 : zt_code zq_T 219 0 = some (.aload_n 0, 1, 0) := by decide +kernel
theorem cd_219_1 : zt_code zq_T 219 1 = some (.getfield 32, 3, 0) := by decide +kernel
