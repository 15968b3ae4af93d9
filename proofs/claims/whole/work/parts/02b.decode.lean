theorem dX0_init_0 : decode cX0_init 0 = .ok (.aload_n 0, 1) := by decide +kernel
theorem dX0_init_1 : decode cX0_init 1 = .ok (.iload_n 1, 1) := by decide +kernel
theorem dX0_init_2 : decode cX0_init 2 = .ok (.invokespecial 1, 3) := by decide +kernel
theorem dX0_init_5 : decode cX0_init 5 = .ok (.return_, 1) := by decide +kernel
theorem dX0_leastAir_0 : decode cX0_leastAir 0 = .ok (.iconst 0, 1) := by decide +kernel
theorem dX0_leastAir_1 : decode cX0_leastAir 1 = .ok (.ireturn, 1) := by decide +kernel
theorem dX0_mostAir_0 : decode cX0_mostAir 0 = .ok (.iconst 3, 1) := by decide +kernel
theorem dX0_mostAir_1 : decode cX0_mostAir 1 = .ok (.iload_n 1, 1) := by decide +kernel
theorem dX0_mostAir_2 : decode cX0_mostAir 2 = .ok (.iadd, 1) := by decide +kernel
theorem dX0_mostAir_3 : decode cX0_mostAir 3 = .ok (.ireturn, 1) := by decide +kernel
theorem dX0_pulls_0 : decode cX0_pulls 0 = .ok (.aload 4, 2) := by decide +kernel
theorem dX0_pulls_2 : decode cX0_pulls 2 = .ok (.bipush 20, 2) := by decide +kernel
theorem dX0_pulls_4 : decode cX0_pulls 4 = .ok (.invokevirtual 7, 3) := by decide +kernel
theorem dX0_pulls_7 : decode cX0_pulls 7 = .ok (.aload_n 0, 1) := by decide +kernel
theorem dX0_pulls_8 : decode cX0_pulls 8 = .ok (.iload_n 1, 1) := by decide +kernel
theorem dX0_pulls_9 : decode cX0_pulls 9 = .ok (.iload_n 2, 1) := by decide +kernel
theorem dX0_pulls_10 : decode cX0_pulls 10 = .ok (.iload_n 3, 1) := by decide +kernel
theorem dX0_pulls_11 : decode cX0_pulls 11 = .ok (.aload 4, 2) := by decide +kernel
theorem dX0_pulls_13 : decode cX0_pulls 13 = .ok (.invokespecial 12, 3) := by decide +kernel
theorem dX0_pulls_16 : decode cX0_pulls 16 = .ok (.aload_n 0, 1) := by decide +kernel
theorem dX0_pulls_17 : decode cX0_pulls 17 = .ok (.iload_n 1, 1) := by decide +kernel
theorem dX0_pulls_18 : decode cX0_pulls 18 = .ok (.iload_n 2, 1) := by decide +kernel
theorem dX0_pulls_19 : decode cX0_pulls 19 = .ok (.iconst 1, 1) := by decide +kernel
theorem dX0_pulls_20 : decode cX0_pulls 20 = .ok (.aload 4, 2) := by decide +kernel
theorem dX0_pulls_22 : decode cX0_pulls 22 = .ok (.invokevirtual 16, 3) := by decide +kernel
theorem dX0_pulls_25 : decode cX0_pulls 25 = .ok (.isub, 1) := by decide +kernel
theorem dX0_pulls_26 : decode cX0_pulls 26 = .ok (.ireturn, 1) := by decide +kernel
theorem dX1_init_0 : decode cX1_init 0 = .ok (.aload_n 0, 1) := by decide +kernel
theorem dX1_init_1 : decode cX1_init 1 = .ok (.iload_n 1, 1) := by decide +kernel
theorem dX1_init_2 : decode cX1_init 2 = .ok (.invokespecial 1, 3) := by decide +kernel
theorem dX1_init_5 : decode cX1_init 5 = .ok (.return_, 1) := by decide +kernel
theorem dX1_leastAir_0 : decode cX1_leastAir 0 = .ok (.iconst 4, 1) := by decide +kernel
theorem dX1_leastAir_1 : decode cX1_leastAir 1 = .ok (.ireturn, 1) := by decide +kernel
theorem dX1_mostAir_0 : decode cX1_mostAir 0 = .ok (.aload_n 0, 1) := by decide +kernel
theorem dX1_mostAir_1 : decode cX1_mostAir 1 = .ok (.iload_n 1, 1) := by decide +kernel
theorem dX1_mostAir_2 : decode cX1_mostAir 2 = .ok (.invokespecial 7, 3) := by decide +kernel
theorem dX1_mostAir_5 : decode cX1_mostAir 5 = .ok (.iconst 1, 1) := by decide +kernel
theorem dX1_mostAir_6 : decode cX1_mostAir 6 = .ok (.iadd, 1) := by decide +kernel
theorem dX1_mostAir_7 : decode cX1_mostAir 7 = .ok (.ireturn, 1) := by decide +kernel
theorem dX1_pulls_0 : decode cX1_pulls 0 = .ok (.aload 4, 2) := by decide +kernel
theorem dX1_pulls_2 : decode cX1_pulls 2 = .ok (.bipush 50, 2) := by decide +kernel
theorem dX1_pulls_4 : decode cX1_pulls 4 = .ok (.invokevirtual 11, 3) := by decide +kernel
theorem dX1_pulls_7 : decode cX1_pulls 7 = .ok (.aload_n 0, 1) := by decide +kernel
theorem dX1_pulls_8 : decode cX1_pulls 8 = .ok (.iload_n 1, 1) := by decide +kernel
theorem dX1_pulls_9 : decode cX1_pulls 9 = .ok (.iload_n 2, 1) := by decide +kernel
theorem dX1_pulls_10 : decode cX1_pulls 10 = .ok (.iload_n 3, 1) := by decide +kernel
theorem dX1_pulls_11 : decode cX1_pulls 11 = .ok (.iconst 1, 1) := by decide +kernel
theorem dX1_pulls_12 : decode cX1_pulls 12 = .ok (.iadd, 1) := by decide +kernel
theorem dX1_pulls_13 : decode cX1_pulls 13 = .ok (.aload 4, 2) := by decide +kernel
theorem dX1_pulls_15 : decode cX1_pulls 15 = .ok (.invokespecial 16, 3) := by decide +kernel
theorem dX1_pulls_18 : decode cX1_pulls 18 = .ok (.ireturn, 1) := by decide +kernel
theorem dX2_init_0 : decode cX2_init 0 = .ok (.aload_n 0, 1) := by decide +kernel
theorem dX2_init_1 : decode cX2_init 1 = .ok (.invokespecial 3, 3) := by decide +kernel
theorem dX2_init_4 : decode cX2_init 4 = .ok (.aload_n 0, 1) := by decide +kernel
theorem dX2_init_5 : decode cX2_init 5 = .ok (.iconst 0, 1) := by decide +kernel
theorem dX2_init_6 : decode cX2_init 6 = .ok (.putfield 9, 3) := by decide +kernel
theorem dX2_init_9 : decode cX2_init 9 = .ok (.aload_n 0, 1) := by decide +kernel
theorem dX2_init_10 : decode cX2_init 10 = .ok (.iconst 0, 1) := by decide +kernel
theorem dX2_init_11 : decode cX2_init 11 = .ok (.putfield 15, 3) := by decide +kernel
theorem dX2_init_14 : decode cX2_init 14 = .ok (.aload_n 0, 1) := by decide +kernel
theorem dX2_init_15 : decode cX2_init 15 = .ok (.iconst 0, 1) := by decide +kernel
theorem dX2_init_16 : decode cX2_init 16 = .ok (.putfield 18, 3) := by decide +kernel
theorem dX2_init_19 : decode cX2_init 19 = .ok (.aload_n 0, 1) := by decide +kernel
theorem dX2_init_20 : decode cX2_init 20 = .ok (.bipush 8, 2) := by decide +kernel
theorem dX2_init_22 : decode cX2_init 22 = .ok (.newarray .int, 2) := by decide +kernel
theorem dX2_init_24 : decode cX2_init 24 = .ok (.putfield 21, 3) := by decide +kernel
theorem dX2_init_27 : decode cX2_init 27 = .ok (.aload_n 0, 1) := by decide +kernel
theorem dX2_init_28 : decode cX2_init 28 = .ok (.bipush 8, 2) := by decide +kernel
theorem dX2_init_30 : decode cX2_init 30 = .ok (.newarray .int, 2) := by decide +kernel
theorem dX2_init_32 : decode cX2_init 32 = .ok (.putfield 25, 3) := by decide +kernel
theorem dX2_init_35 : decode cX2_init 35 = .ok (.aload_n 0, 1) := by decide +kernel
theorem dX2_init_36 : decode cX2_init 36 = .ok (.bipush 8, 2) := by decide +kernel
theorem dX2_init_38 : decode cX2_init 38 = .ok (.newarray .int, 2) := by decide +kernel
theorem dX2_init_40 : decode cX2_init 40 = .ok (.putfield 28, 3) := by decide +kernel
theorem dX2_init_43 : decode cX2_init 43 = .ok (.aload_n 0, 1) := by decide +kernel
theorem dX2_init_44 : decode cX2_init 44 = .ok (.bipush 8, 2) := by decide +kernel
theorem dX2_init_46 : decode cX2_init 46 = .ok (.newarray .int, 2) := by decide +kernel
theorem dX2_init_48 : decode cX2_init 48 = .ok (.putfield 31, 3) := by decide +kernel
theorem dX2_init_51 : decode cX2_init 51 = .ok (.aload_n 0, 1) := by decide +kernel
theorem dX2_init_52 : decode cX2_init 52 = .ok (.bipush 6, 2) := by decide +kernel
theorem dX2_init_54 : decode cX2_init 54 = .ok (.anewarray 34, 3) := by decide +kernel
theorem dX2_init_57 : decode cX2_init 57 = .ok (.putfield 36, 3) := by decide +kernel
theorem dX2_init_60 : decode cX2_init 60 = .ok (.aload_n 0, 1) := by decide +kernel
theorem dX2_init_61 : decode cX2_init 61 = .ok (.bipush 6, 2) := by decide +kernel
theorem dX2_init_63 : decode cX2_init 63 = .ok (.newarray .int, 2) := by decide +kernel
theorem dX2_init_65 : decode cX2_init 65 = .ok (.putfield 40, 3) := by decide +kernel
theorem dX2_init_68 : decode cX2_init 68 = .ok (.aload_n 0, 1) := by decide +kernel
theorem dX2_init_69 : decode cX2_init 69 = .ok (.bipush 6, 2) := by decide +kernel
theorem dX2_init_71 : decode cX2_init 71 = .ok (.newarray .int, 2) := by decide +kernel
theorem dX2_init_73 : decode cX2_init 73 = .ok (.putfield 43, 3) := by decide +kernel
theorem dX2_init_76 : decode cX2_init 76 = .ok (.aload_n 0, 1) := by decide +kernel
theorem dX2_init_77 : decode cX2_init 77 = .ok (.iconst 0, 1) := by decide +kernel
theorem dX2_init_78 : decode cX2_init 78 = .ok (.putfield 46, 3) := by decide +kernel
theorem dX2_init_81 : decode cX2_init 81 = .ok (.aload_n 0, 1) := by decide +kernel
theorem dX2_init_82 : decode cX2_init 82 = .ok (.iconst 0, 1) := by decide +kernel
theorem dX2_init_83 : decode cX2_init 83 = .ok (.putfield 49, 3) := by decide +kernel
theorem dX2_init_86 : decode cX2_init 86 = .ok (.aload_n 0, 1) := by decide +kernel
theorem dX2_init_87 : decode cX2_init 87 = .ok (.iconst 0, 1) := by decide +kernel
theorem dX2_init_88 : decode cX2_init 88 = .ok (.putfield 52, 3) := by decide +kernel
theorem dX2_init_91 : decode cX2_init 91 = .ok (.aload_n 0, 1) := by decide +kernel
theorem dX2_init_92 : decode cX2_init 92 = .ok (.iconst 0, 1) := by decide +kernel
theorem dX2_init_93 : decode cX2_init 93 = .ok (.putfield 55, 3) := by decide +kernel
theorem dX2_init_96 : decode cX2_init 96 = .ok (.aload_n 0, 1) := by decide +kernel
theorem dX2_init_97 : decode cX2_init 97 = .ok (.iconst 0, 1) := by decide +kernel
theorem dX2_init_98 : decode cX2_init 98 = .ok (.putfield 58, 3) := by decide +kernel
theorem dX2_init_101 : decode cX2_init 101 = .ok (.aload_n 0, 1) := by decide +kernel
theorem dX2_init_102 : decode cX2_init 102 = .ok (.iconst 1, 1) := by decide +kernel
theorem dX2_init_103 : decode cX2_init 103 = .ok (.putfield 61, 3) := by decide +kernel
theorem dX2_init_106 : decode cX2_init 106 = .ok (.aload_n 0, 1) := by decide +kernel
theorem dX2_init_107 : decode cX2_init 107 = .ok (.new 64, 3) := by decide +kernel
theorem dX2_init_110 : decode cX2_init 110 = .ok (.dup, 1) := by decide +kernel
theorem dX2_init_111 : decode cX2_init 111 = .ok (.bipush 50, 2) := by decide +kernel
theorem dX2_init_113 : decode cX2_init 113 = .ok (.invokespecial 66, 3) := by decide +kernel
theorem dX2_init_116 : decode cX2_init 116 = .ok (.putfield 69, 3) := by decide +kernel
theorem dX2_init_119 : decode cX2_init 119 = .ok (.aload_n 0, 1) := by decide +kernel
theorem dX2_init_120 : decode cX2_init 120 = .ok (.new 64, 3) := by decide +kernel
theorem dX2_init_123 : decode cX2_init 123 = .ok (.dup, 1) := by decide +kernel
theorem dX2_init_124 : decode cX2_init 124 = .ok (.bipush 20, 2) := by decide +kernel
theorem dX2_init_126 : decode cX2_init 126 = .ok (.invokespecial 66, 3) := by decide +kernel
theorem dX2_init_129 : decode cX2_init 129 = .ok (.putfield 73, 3) := by decide +kernel
theorem dX2_init_132 : decode cX2_init 132 = .ok (.aload_n 0, 1) := by decide +kernel
theorem dX2_init_133 : decode cX2_init 133 = .ok (.iconst 2, 1) := by decide +kernel
theorem dX2_init_134 : decode cX2_init 134 = .ok (.anewarray 76, 3) := by decide +kernel
theorem dX2_init_137 : decode cX2_init 137 = .ok (.putfield 78, 3) := by decide +kernel
theorem dX2_init_140 : decode cX2_init 140 = .ok (.iconst 0, 1) := by decide +kernel
theorem dX2_init_141 : decode cX2_init 141 = .ok (.istore_n 2, 1) := by decide +kernel
theorem dX2_init_142 : decode cX2_init 142 = .ok (.iload_n 2, 1) := by decide +kernel
theorem dX2_init_143 : decode cX2_init 143 = .ok (.bipush 6, 2) := by decide +kernel
theorem dX2_init_145 : decode cX2_init 145 = .ok (.if_icmp .ge 16, 3) := by decide +kernel
theorem dX2_init_148 : decode cX2_init 148 = .ok (.aload_n 0, 1) := by decide +kernel
theorem dX2_init_149 : decode cX2_init 149 = .ok (.getfield 36, 3) := by decide +kernel
theorem dX2_init_152 : decode cX2_init 152 = .ok (.iload_n 2, 1) := by decide +kernel
theorem dX2_init_153 : decode cX2_init 153 = .ok (.aload_n 1, 1) := by decide +kernel
theorem dX2_init_154 : decode cX2_init 154 = .ok (.aastore, 1) := by decide +kernel
theorem dX2_init_155 : decode cX2_init 155 = .ok (.iinc 2 1, 3) := by decide +kernel
theorem dX2_init_158 : decode cX2_init 158 = .ok (.goto (-16), 3) := by decide +kernel
theorem dX2_init_161 : decode cX2_init 161 = .ok (.return_, 1) := by decide +kernel
theorem dX2_copyFrom_0 : decode cX2_copyFrom 0 = .ok (.aload_n 0, 1) := by decide +kernel
theorem dX2_copyFrom_1 : decode cX2_copyFrom 1 = .ok (.aload_n 1, 1) := by decide +kernel
theorem dX2_copyFrom_2 : decode cX2_copyFrom 2 = .ok (.getfield 9, 3) := by decide +kernel
theorem dX2_copyFrom_5 : decode cX2_copyFrom 5 = .ok (.putfield 9, 3) := by decide +kernel
theorem dX2_copyFrom_8 : decode cX2_copyFrom 8 = .ok (.aload_n 0, 1) := by decide +kernel
theorem dX2_copyFrom_9 : decode cX2_copyFrom 9 = .ok (.aload_n 1, 1) := by decide +kernel
theorem dX2_copyFrom_10 : decode cX2_copyFrom 10 = .ok (.getfield 15, 3) := by decide +kernel
theorem dX2_copyFrom_13 : decode cX2_copyFrom 13 = .ok (.putfield 15, 3) := by decide +kernel
theorem dX2_copyFrom_16 : decode cX2_copyFrom 16 = .ok (.aload_n 0, 1) := by decide +kernel
theorem dX2_copyFrom_17 : decode cX2_copyFrom 17 = .ok (.aload_n 1, 1) := by decide +kernel
theorem dX2_copyFrom_18 : decode cX2_copyFrom 18 = .ok (.getfield 18, 3) := by decide +kernel
theorem dX2_copyFrom_21 : decode cX2_copyFrom 21 = .ok (.putfield 18, 3) := by decide +kernel
theorem dX2_copyFrom_24 : decode cX2_copyFrom 24 = .ok (.aload_n 1, 1) := by decide +kernel
theorem dX2_copyFrom_25 : decode cX2_copyFrom 25 = .ok (.getfield 21, 3) := by decide +kernel
theorem dX2_copyFrom_28 : decode cX2_copyFrom 28 = .ok (.iconst 0, 1) := by decide +kernel
theorem dX2_copyFrom_29 : decode cX2_copyFrom 29 = .ok (.aload_n 0, 1) := by decide +kernel
theorem dX2_copyFrom_30 : decode cX2_copyFrom 30 = .ok (.getfield 21, 3) := by decide +kernel
theorem dX2_copyFrom_33 : decode cX2_copyFrom 33 = .ok (.iconst 0, 1) := by decide +kernel
theorem dX2_copyFrom_34 : decode cX2_copyFrom 34 = .ok (.bipush 8, 2) := by decide +kernel
theorem dX2_copyFrom_36 : decode cX2_copyFrom 36 = .ok (.invokestatic 82, 3) := by decide +kernel
theorem dX2_copyFrom_39 : decode cX2_copyFrom 39 = .ok (.aload_n 1, 1) := by decide +kernel
theorem dX2_copyFrom_40 : decode cX2_copyFrom 40 = .ok (.getfield 25, 3) := by decide +kernel
theorem dX2_copyFrom_43 : decode cX2_copyFrom 43 = .ok (.iconst 0, 1) := by decide +kernel
theorem dX2_copyFrom_44 : decode cX2_copyFrom 44 = .ok (.aload_n 0, 1) := by decide +kernel
theorem dX2_copyFrom_45 : decode cX2_copyFrom 45 = .ok (.getfield 25, 3) := by decide +kernel
theorem dX2_copyFrom_48 : decode cX2_copyFrom 48 = .ok (.iconst 0, 1) := by decide +kernel
theorem dX2_copyFrom_49 : decode cX2_copyFrom 49 = .ok (.bipush 8, 2) := by decide +kernel
theorem dX2_copyFrom_51 : decode cX2_copyFrom 51 = .ok (.invokestatic 82, 3) := by decide +kernel
theorem dX2_copyFrom_54 : decode cX2_copyFrom 54 = .ok (.aload_n 1, 1) := by decide +kernel
theorem dX2_copyFrom_55 : decode cX2_copyFrom 55 = .ok (.getfield 28, 3) := by decide +kernel
theorem dX2_copyFrom_58 : decode cX2_copyFrom 58 = .ok (.iconst 0, 1) := by decide +kernel
theorem dX2_copyFrom_59 : decode cX2_copyFrom 59 = .ok (.aload_n 0, 1) := by decide +kernel
theorem dX2_copyFrom_60 : decode cX2_copyFrom 60 = .ok (.getfield 28, 3) := by decide +kernel
theorem dX2_copyFrom_63 : decode cX2_copyFrom 63 = .ok (.iconst 0, 1) := by decide +kernel
theorem dX2_copyFrom_64 : decode cX2_copyFrom 64 = .ok (.bipush 8, 2) := by decide +kernel
theorem dX2_copyFrom_66 : decode cX2_copyFrom 66 = .ok (.invokestatic 82, 3) := by decide +kernel
theorem dX2_copyFrom_69 : decode cX2_copyFrom 69 = .ok (.aload_n 1, 1) := by decide +kernel
theorem dX2_copyFrom_70 : decode cX2_copyFrom 70 = .ok (.getfield 31, 3) := by decide +kernel
theorem dX2_copyFrom_73 : decode cX2_copyFrom 73 = .ok (.iconst 0, 1) := by decide +kernel
theorem dX2_copyFrom_74 : decode cX2_copyFrom 74 = .ok (.aload_n 0, 1) := by decide +kernel
theorem dX2_copyFrom_75 : decode cX2_copyFrom 75 = .ok (.getfield 31, 3) := by decide +kernel
theorem dX2_copyFrom_78 : decode cX2_copyFrom 78 = .ok (.iconst 0, 1) := by decide +kernel
theorem dX2_copyFrom_79 : decode cX2_copyFrom 79 = .ok (.bipush 8, 2) := by decide +kernel
theorem dX2_copyFrom_81 : decode cX2_copyFrom 81 = .ok (.invokestatic 82, 3) := by decide +kernel
theorem dX2_copyFrom_84 : decode cX2_copyFrom 84 = .ok (.aload_n 1, 1) := by decide +kernel
theorem dX2_copyFrom_85 : decode cX2_copyFrom 85 = .ok (.getfield 40, 3) := by decide +kernel
theorem dX2_copyFrom_88 : decode cX2_copyFrom 88 = .ok (.iconst 0, 1) := by decide +kernel
theorem dX2_copyFrom_89 : decode cX2_copyFrom 89 = .ok (.aload_n 0, 1) := by decide +kernel
theorem dX2_copyFrom_90 : decode cX2_copyFrom 90 = .ok (.getfield 40, 3) := by decide +kernel
theorem dX2_copyFrom_93 : decode cX2_copyFrom 93 = .ok (.iconst 0, 1) := by decide +kernel
theorem dX2_copyFrom_94 : decode cX2_copyFrom 94 = .ok (.bipush 6, 2) := by decide +kernel
theorem dX2_copyFrom_96 : decode cX2_copyFrom 96 = .ok (.invokestatic 82, 3) := by decide +kernel
theorem dX2_copyFrom_99 : decode cX2_copyFrom 99 = .ok (.aload_n 1, 1) := by decide +kernel
theorem dX2_copyFrom_100 : decode cX2_copyFrom 100 = .ok (.getfield 43, 3) := by decide +kernel
theorem dX2_copyFrom_103 : decode cX2_copyFrom 103 = .ok (.iconst 0, 1) := by decide +kernel
theorem dX2_copyFrom_104 : decode cX2_copyFrom 104 = .ok (.aload_n 0, 1) := by decide +kernel
theorem dX2_copyFrom_105 : decode cX2_copyFrom 105 = .ok (.getfield 43, 3) := by decide +kernel
theorem dX2_copyFrom_108 : decode cX2_copyFrom 108 = .ok (.iconst 0, 1) := by decide +kernel
theorem dX2_copyFrom_109 : decode cX2_copyFrom 109 = .ok (.bipush 6, 2) := by decide +kernel
theorem dX2_copyFrom_111 : decode cX2_copyFrom 111 = .ok (.invokestatic 82, 3) := by decide +kernel
theorem dX2_copyFrom_114 : decode cX2_copyFrom 114 = .ok (.iconst 0, 1) := by decide +kernel
theorem dX2_copyFrom_115 : decode cX2_copyFrom 115 = .ok (.istore_n 2, 1) := by decide +kernel
theorem dX2_copyFrom_116 : decode cX2_copyFrom 116 = .ok (.iload_n 2, 1) := by decide +kernel
theorem dX2_copyFrom_117 : decode cX2_copyFrom 117 = .ok (.bipush 6, 2) := by decide +kernel
theorem dX2_copyFrom_119 : decode cX2_copyFrom 119 = .ok (.if_icmp .ge 21, 3) := by decide +kernel
theorem dX2_copyFrom_122 : decode cX2_copyFrom 122 = .ok (.aload_n 0, 1) := by decide +kernel
theorem dX2_copyFrom_123 : decode cX2_copyFrom 123 = .ok (.getfield 36, 3) := by decide +kernel
theorem dX2_copyFrom_126 : decode cX2_copyFrom 126 = .ok (.iload_n 2, 1) := by decide +kernel
theorem dX2_copyFrom_127 : decode cX2_copyFrom 127 = .ok (.aload_n 1, 1) := by decide +kernel
theorem dX2_copyFrom_128 : decode cX2_copyFrom 128 = .ok (.getfield 36, 3) := by decide +kernel
theorem dX2_copyFrom_131 : decode cX2_copyFrom 131 = .ok (.iload_n 2, 1) := by decide +kernel
theorem dX2_copyFrom_132 : decode cX2_copyFrom 132 = .ok (.aaload, 1) := by decide +kernel
theorem dX2_copyFrom_133 : decode cX2_copyFrom 133 = .ok (.aastore, 1) := by decide +kernel
theorem dX2_copyFrom_134 : decode cX2_copyFrom 134 = .ok (.iinc 2 1, 3) := by decide +kernel
theorem dX2_copyFrom_137 : decode cX2_copyFrom 137 = .ok (.goto (-21), 3) := by decide +kernel
theorem dX2_copyFrom_140 : decode cX2_copyFrom 140 = .ok (.aload_n 0, 1) := by decide +kernel
theorem dX2_copyFrom_141 : decode cX2_copyFrom 141 = .ok (.aload_n 1, 1) := by decide +kernel
theorem dX2_copyFrom_142 : decode cX2_copyFrom 142 = .ok (.getfield 46, 3) := by decide +kernel
theorem dX2_copyFrom_145 : decode cX2_copyFrom 145 = .ok (.putfield 46, 3) := by decide +kernel
theorem dX2_copyFrom_148 : decode cX2_copyFrom 148 = .ok (.aload_n 0, 1) := by decide +kernel
theorem dX2_copyFrom_149 : decode cX2_copyFrom 149 = .ok (.aload_n 1, 1) := by decide +kernel
theorem dX2_copyFrom_150 : decode cX2_copyFrom 150 = .ok (.getfield 49, 3) := by decide +kernel
theorem dX2_copyFrom_153 : decode cX2_copyFrom 153 = .ok (.putfield 49, 3) := by decide +kernel
theorem dX2_copyFrom_156 : decode cX2_copyFrom 156 = .ok (.aload_n 0, 1) := by decide +kernel
theorem dX2_copyFrom_157 : decode cX2_copyFrom 157 = .ok (.aload_n 1, 1) := by decide +kernel
theorem dX2_copyFrom_158 : decode cX2_copyFrom 158 = .ok (.getfield 52, 3) := by decide +kernel
theorem dX2_copyFrom_161 : decode cX2_copyFrom 161 = .ok (.putfield 52, 3) := by decide +kernel
theorem dX2_copyFrom_164 : decode cX2_copyFrom 164 = .ok (.aload_n 0, 1) := by decide +kernel
theorem dX2_copyFrom_165 : decode cX2_copyFrom 165 = .ok (.aload_n 1, 1) := by decide +kernel
theorem dX2_copyFrom_166 : decode cX2_copyFrom 166 = .ok (.getfield 55, 3) := by decide +kernel
theorem dX2_copyFrom_169 : decode cX2_copyFrom 169 = .ok (.putfield 55, 3) := by decide +kernel
theorem dX2_copyFrom_172 : decode cX2_copyFrom 172 = .ok (.aload_n 0, 1) := by decide +kernel
theorem dX2_copyFrom_173 : decode cX2_copyFrom 173 = .ok (.aload_n 1, 1) := by decide +kernel
theorem dX2_copyFrom_174 : decode cX2_copyFrom 174 = .ok (.getfield 58, 3) := by decide +kernel
theorem dX2_copyFrom_177 : decode cX2_copyFrom 177 = .ok (.putfield 58, 3) := by decide +kernel
theorem dX2_copyFrom_180 : decode cX2_copyFrom 180 = .ok (.aload_n 0, 1) := by decide +kernel
theorem dX2_copyFrom_181 : decode cX2_copyFrom 181 = .ok (.aload_n 1, 1) := by decide +kernel
theorem dX2_copyFrom_182 : decode cX2_copyFrom 182 = .ok (.getfield 61, 3) := by decide +kernel
theorem dX2_copyFrom_185 : decode cX2_copyFrom 185 = .ok (.putfield 61, 3) := by decide +kernel
theorem dX2_copyFrom_188 : decode cX2_copyFrom 188 = .ok (.aload_n 0, 1) := by decide +kernel
theorem dX2_copyFrom_189 : decode cX2_copyFrom 189 = .ok (.getfield 69, 3) := by decide +kernel
theorem dX2_copyFrom_192 : decode cX2_copyFrom 192 = .ok (.aload_n 1, 1) := by decide +kernel
theorem dX2_copyFrom_193 : decode cX2_copyFrom 193 = .ok (.getfield 69, 3) := by decide +kernel
theorem dX2_copyFrom_196 : decode cX2_copyFrom 196 = .ok (.invokevirtual 88, 3) := by decide +kernel
theorem dX2_copyFrom_199 : decode cX2_copyFrom 199 = .ok (.aload_n 0, 1) := by decide +kernel
theorem dX2_copyFrom_200 : decode cX2_copyFrom 200 = .ok (.getfield 73, 3) := by decide +kernel
theorem dX2_copyFrom_203 : decode cX2_copyFrom 203 = .ok (.aload_n 1, 1) := by decide +kernel
theorem dX2_copyFrom_204 : decode cX2_copyFrom 204 = .ok (.getfield 73, 3) := by decide +kernel
theorem dX2_copyFrom_207 : decode cX2_copyFrom 207 = .ok (.invokevirtual 88, 3) := by decide +kernel
theorem dX2_copyFrom_210 : decode cX2_copyFrom 210 = .ok (.aload_n 0, 1) := by decide +kernel
theorem dX2_copyFrom_211 : decode cX2_copyFrom 211 = .ok (.getfield 78, 3) := by decide +kernel
theorem dX2_copyFrom_214 : decode cX2_copyFrom 214 = .ok (.iconst 0, 1) := by decide +kernel
theorem dX2_copyFrom_215 : decode cX2_copyFrom 215 = .ok (.aload_n 1, 1) := by decide +kernel
theorem dX2_copyFrom_216 : decode cX2_copyFrom 216 = .ok (.getfield 78, 3) := by decide +kernel
theorem dX2_copyFrom_219 : decode cX2_copyFrom 219 = .ok (.iconst 0, 1) := by decide +kernel
theorem dX2_copyFrom_220 : decode cX2_copyFrom 220 = .ok (.aaload, 1) := by decide +kernel
theorem dX2_copyFrom_221 : decode cX2_copyFrom 221 = .ok (.aastore, 1) := by decide +kernel
theorem dX2_copyFrom_222 : decode cX2_copyFrom 222 = .ok (.aload_n 0, 1) := by decide +kernel
theorem dX2_copyFrom_223 : decode cX2_copyFrom 223 = .ok (.getfield 78, 3) := by decide +kernel
theorem dX2_copyFrom_226 : decode cX2_copyFrom 226 = .ok (.iconst 1, 1) := by decide +kernel
theorem dX2_copyFrom_227 : decode cX2_copyFrom 227 = .ok (.aload_n 1, 1) := by decide +kernel
theorem dX2_copyFrom_228 : decode cX2_copyFrom 228 = .ok (.getfield 78, 3) := by decide +kernel
theorem dX2_copyFrom_231 : decode cX2_copyFrom 231 = .ok (.iconst 1, 1) := by decide +kernel
theorem dX2_copyFrom_232 : decode cX2_copyFrom 232 = .ok (.aaload, 1) := by decide +kernel
theorem dX2_copyFrom_233 : decode cX2_copyFrom 233 = .ok (.aastore, 1) := by decide +kernel
theorem dX2_copyFrom_234 : decode cX2_copyFrom 234 = .ok (.return_, 1) := by decide +kernel
theorem dX2_addWindow_0 : decode cX2_addWindow 0 = .ok (.aload_n 0, 1) := by decide +kernel
theorem dX2_addWindow_1 : decode cX2_addWindow 1 = .ok (.getfield 9, 3) := by decide +kernel
theorem dX2_addWindow_4 : decode cX2_addWindow 4 = .ok (.istore_n 3, 1) := by decide +kernel
theorem dX2_addWindow_5 : decode cX2_addWindow 5 = .ok (.aload_n 0, 1) := by decide +kernel
theorem dX2_addWindow_6 : decode cX2_addWindow 6 = .ok (.getfield 21, 3) := by decide +kernel
theorem dX2_addWindow_9 : decode cX2_addWindow 9 = .ok (.iload_n 3, 1) := by decide +kernel
theorem dX2_addWindow_10 : decode cX2_addWindow 10 = .ok (.iload_n 1, 1) := by decide +kernel
theorem dX2_addWindow_11 : decode cX2_addWindow 11 = .ok (.iastore, 1) := by decide +kernel
theorem dX2_addWindow_12 : decode cX2_addWindow 12 = .ok (.aload_n 0, 1) := by decide +kernel
theorem dX2_addWindow_13 : decode cX2_addWindow 13 = .ok (.getfield 25, 3) := by decide +kernel
theorem dX2_addWindow_16 : decode cX2_addWindow 16 = .ok (.iload_n 3, 1) := by decide +kernel
theorem dX2_addWindow_17 : decode cX2_addWindow 17 = .ok (.iload_n 2, 1) := by decide +kernel
theorem dX2_addWindow_18 : decode cX2_addWindow 18 = .ok (.iastore, 1) := by decide +kernel
theorem dX2_addWindow_19 : decode cX2_addWindow 19 = .ok (.aload_n 0, 1) := by decide +kernel
theorem dX2_addWindow_20 : decode cX2_addWindow 20 = .ok (.getfield 28, 3) := by decide +kernel
theorem dX2_addWindow_23 : decode cX2_addWindow 23 = .ok (.iload_n 3, 1) := by decide +kernel
theorem dX2_addWindow_24 : decode cX2_addWindow 24 = .ok (.iconst (-1), 1) := by decide +kernel
theorem dX2_addWindow_25 : decode cX2_addWindow 25 = .ok (.iastore, 1) := by decide +kernel
theorem dX2_addWindow_26 : decode cX2_addWindow 26 = .ok (.aload_n 0, 1) := by decide +kernel
theorem dX2_addWindow_27 : decode cX2_addWindow 27 = .ok (.getfield 31, 3) := by decide +kernel
theorem dX2_addWindow_30 : decode cX2_addWindow 30 = .ok (.iload_n 3, 1) := by decide +kernel
theorem dX2_addWindow_31 : decode cX2_addWindow 31 = .ok (.iconst 0, 1) := by decide +kernel
theorem dX2_addWindow_32 : decode cX2_addWindow 32 = .ok (.iastore, 1) := by decide +kernel
theorem dX2_addWindow_33 : decode cX2_addWindow 33 = .ok (.aload_n 0, 1) := by decide +kernel
theorem dX2_addWindow_34 : decode cX2_addWindow 34 = .ok (.dup, 1) := by decide +kernel
theorem dX2_addWindow_35 : decode cX2_addWindow 35 = .ok (.getfield 9, 3) := by decide +kernel
theorem dX2_addWindow_38 : decode cX2_addWindow 38 = .ok (.iconst 1, 1) := by decide +kernel
theorem dX2_addWindow_39 : decode cX2_addWindow 39 = .ok (.iadd, 1) := by decide +kernel
theorem dX2_addWindow_40 : decode cX2_addWindow 40 = .ok (.putfield 9, 3) := by decide +kernel
theorem dX2_addWindow_43 : decode cX2_addWindow 43 = .ok (.iload_n 3, 1) := by decide +kernel
theorem dX2_addWindow_44 : decode cX2_addWindow 44 = .ok (.ireturn, 1) := by decide +kernel
theorem dX2_addCord_0 : decode cX2_addCord 0 = .ok (.aload_n 0, 1) := by decide +kernel
theorem dX2_addCord_1 : decode cX2_addCord 1 = .ok (.getfield 15, 3) := by decide +kernel
theorem dX2_addCord_4 : decode cX2_addCord 4 = .ok (.istore_n 2, 1) := by decide +kernel
theorem dX2_addCord_5 : decode cX2_addCord 5 = .ok (.iconst 0, 1) := by decide +kernel
theorem dX2_addCord_6 : decode cX2_addCord 6 = .ok (.istore_n 3, 1) := by decide +kernel
theorem dX2_addCord_7 : decode cX2_addCord 7 = .ok (.iload_n 3, 1) := by decide +kernel
theorem dX2_addCord_8 : decode cX2_addCord 8 = .ok (.aload_n 0, 1) := by decide +kernel
theorem dX2_addCord_9 : decode cX2_addCord 9 = .ok (.getfield 9, 3) := by decide +kernel
theorem dX2_addCord_12 : decode cX2_addCord 12 = .ok (.if_icmp .ge 24, 3) := by decide +kernel
theorem dX2_addCord_15 : decode cX2_addCord 15 = .ok (.iload_n 1, 1) := by decide +kernel
theorem dX2_addCord_16 : decode cX2_addCord 16 = .ok (.iload_n 3, 1) := by decide +kernel
theorem dX2_addCord_17 : decode cX2_addCord 17 = .ok (.ishr, 1) := by decide +kernel
theorem dX2_addCord_18 : decode cX2_addCord 18 = .ok (.iconst 1, 1) := by decide +kernel
theorem dX2_addCord_19 : decode cX2_addCord 19 = .ok (.iand, 1) := by decide +kernel
theorem dX2_addCord_20 : decode cX2_addCord 20 = .ok (.ifCond .eq 10, 3) := by decide +kernel
theorem dX2_addCord_23 : decode cX2_addCord 23 = .ok (.aload_n 0, 1) := by decide +kernel
theorem dX2_addCord_24 : decode cX2_addCord 24 = .ok (.getfield 28, 3) := by decide +kernel
theorem dX2_addCord_27 : decode cX2_addCord 27 = .ok (.iload_n 3, 1) := by decide +kernel
theorem dX2_addCord_28 : decode cX2_addCord 28 = .ok (.iload_n 2, 1) := by decide +kernel
theorem dX2_addCord_29 : decode cX2_addCord 29 = .ok (.iastore, 1) := by decide +kernel
theorem dX2_addCord_30 : decode cX2_addCord 30 = .ok (.iinc 3 1, 3) := by decide +kernel
theorem dX2_addCord_33 : decode cX2_addCord 33 = .ok (.goto (-26), 3) := by decide +kernel
theorem dX2_addCord_36 : decode cX2_addCord 36 = .ok (.aload_n 0, 1) := by decide +kernel
theorem dX2_addCord_37 : decode cX2_addCord 37 = .ok (.dup, 1) := by decide +kernel
theorem dX2_addCord_38 : decode cX2_addCord 38 = .ok (.getfield 15, 3) := by decide +kernel
theorem dX2_addCord_41 : decode cX2_addCord 41 = .ok (.iconst 1, 1) := by decide +kernel
theorem dX2_addCord_42 : decode cX2_addCord 42 = .ok (.iadd, 1) := by decide +kernel
theorem dX2_addCord_43 : decode cX2_addCord 43 = .ok (.putfield 15, 3) := by decide +kernel
theorem dX2_addCord_46 : decode cX2_addCord 46 = .ok (.iload_n 2, 1) := by decide +kernel
theorem dX2_addCord_47 : decode cX2_addCord 47 = .ok (.ireturn, 1) := by decide +kernel
theorem dX2_takeOffCord_0 : decode cX2_takeOffCord 0 = .ok (.aload_n 0, 1) := by decide +kernel
theorem dX2_takeOffCord_1 : decode cX2_takeOffCord 1 = .ok (.dup, 1) := by decide +kernel
theorem dX2_takeOffCord_2 : decode cX2_takeOffCord 2 = .ok (.getfield 15, 3) := by decide +kernel
theorem dX2_takeOffCord_5 : decode cX2_takeOffCord 5 = .ok (.iconst 1, 1) := by decide +kernel
theorem dX2_takeOffCord_6 : decode cX2_takeOffCord 6 = .ok (.isub, 1) := by decide +kernel
theorem dX2_takeOffCord_7 : decode cX2_takeOffCord 7 = .ok (.putfield 15, 3) := by decide +kernel
theorem dX2_takeOffCord_10 : decode cX2_takeOffCord 10 = .ok (.iconst 0, 1) := by decide +kernel
theorem dX2_takeOffCord_11 : decode cX2_takeOffCord 11 = .ok (.istore_n 1, 1) := by decide +kernel
theorem dX2_takeOffCord_12 : decode cX2_takeOffCord 12 = .ok (.iload_n 1, 1) := by decide +kernel
theorem dX2_takeOffCord_13 : decode cX2_takeOffCord 13 = .ok (.aload_n 0, 1) := by decide +kernel
theorem dX2_takeOffCord_14 : decode cX2_takeOffCord 14 = .ok (.getfield 9, 3) := by decide +kernel
theorem dX2_takeOffCord_17 : decode cX2_takeOffCord 17 = .ok (.if_icmp .ge 29, 3) := by decide +kernel
theorem dX2_takeOffCord_20 : decode cX2_takeOffCord 20 = .ok (.aload_n 0, 1) := by decide +kernel
theorem dX2_takeOffCord_21 : decode cX2_takeOffCord 21 = .ok (.getfield 28, 3) := by decide +kernel
theorem dX2_takeOffCord_24 : decode cX2_takeOffCord 24 = .ok (.iload_n 1, 1) := by decide +kernel
theorem dX2_takeOffCord_25 : decode cX2_takeOffCord 25 = .ok (.iaload, 1) := by decide +kernel
theorem dX2_takeOffCord_26 : decode cX2_takeOffCord 26 = .ok (.aload_n 0, 1) := by decide +kernel
theorem dX2_takeOffCord_27 : decode cX2_takeOffCord 27 = .ok (.getfield 15, 3) := by decide +kernel
theorem dX2_takeOffCord_30 : decode cX2_takeOffCord 30 = .ok (.if_icmp .ne 10, 3) := by decide +kernel
theorem dX2_takeOffCord_33 : decode cX2_takeOffCord 33 = .ok (.aload_n 0, 1) := by decide +kernel
theorem dX2_takeOffCord_34 : decode cX2_takeOffCord 34 = .ok (.getfield 28, 3) := by decide +kernel
theorem dX2_takeOffCord_37 : decode cX2_takeOffCord 37 = .ok (.iload_n 1, 1) := by decide +kernel
theorem dX2_takeOffCord_38 : decode cX2_takeOffCord 38 = .ok (.iconst (-1), 1) := by decide +kernel
theorem dX2_takeOffCord_39 : decode cX2_takeOffCord 39 = .ok (.iastore, 1) := by decide +kernel
theorem dX2_takeOffCord_40 : decode cX2_takeOffCord 40 = .ok (.iinc 1 1, 3) := by decide +kernel
theorem dX2_takeOffCord_43 : decode cX2_takeOffCord 43 = .ok (.goto (-31), 3) := by decide +kernel
theorem dX2_takeOffCord_46 : decode cX2_takeOffCord 46 = .ok (.aload_n 0, 1) := by decide +kernel
theorem dX2_takeOffCord_47 : decode cX2_takeOffCord 47 = .ok (.getfield 15, 3) := by decide +kernel
theorem dX2_takeOffCord_50 : decode cX2_takeOffCord 50 = .ok (.ireturn, 1) := by decide +kernel
theorem dX2_settle_0 : decode cX2_settle 0 = .ok (.aload_n 0, 1) := by decide +kernel
theorem dX2_settle_1 : decode cX2_settle 1 = .ok (.getfield 36, 3) := by decide +kernel
theorem dX2_settle_4 : decode cX2_settle 4 = .ok (.iload_n 1, 1) := by decide +kernel
theorem dX2_settle_5 : decode cX2_settle 5 = .ok (.aload_n 2, 1) := by decide +kernel
theorem dX2_settle_6 : decode cX2_settle 6 = .ok (.aastore, 1) := by decide +kernel
theorem dX2_settle_7 : decode cX2_settle 7 = .ok (.aload_n 0, 1) := by decide +kernel
theorem dX2_settle_8 : decode cX2_settle 8 = .ok (.getfield 40, 3) := by decide +kernel
theorem dX2_settle_11 : decode cX2_settle 11 = .ok (.iload_n 1, 1) := by decide +kernel
theorem dX2_settle_12 : decode cX2_settle 12 = .ok (.iload_n 3, 1) := by decide +kernel
theorem dX2_settle_13 : decode cX2_settle 13 = .ok (.iastore, 1) := by decide +kernel
theorem dX2_settle_14 : decode cX2_settle 14 = .ok (.return_, 1) := by decide +kernel
theorem dX2_setOf_0 : decode cX2_setOf 0 = .ok (.iconst 0, 1) := by decide +kernel
theorem dX2_setOf_1 : decode cX2_setOf 1 = .ok (.istore_n 2, 1) := by decide +kernel
theorem dX2_setOf_2 : decode cX2_setOf 2 = .ok (.iconst 0, 1) := by decide +kernel
theorem dX2_setOf_3 : decode cX2_setOf 3 = .ok (.istore_n 3, 1) := by decide +kernel
theorem dX2_setOf_4 : decode cX2_setOf 4 = .ok (.iload_n 3, 1) := by decide +kernel
theorem dX2_setOf_5 : decode cX2_setOf 5 = .ok (.aload_n 0, 1) := by decide +kernel
theorem dX2_setOf_6 : decode cX2_setOf 6 = .ok (.getfield 9, 3) := by decide +kernel
theorem dX2_setOf_9 : decode cX2_setOf 9 = .ok (.if_icmp .ge 25, 3) := by decide +kernel
theorem dX2_setOf_12 : decode cX2_setOf 12 = .ok (.aload_n 0, 1) := by decide +kernel
theorem dX2_setOf_13 : decode cX2_setOf 13 = .ok (.getfield 28, 3) := by decide +kernel
theorem dX2_setOf_16 : decode cX2_setOf 16 = .ok (.iload_n 3, 1) := by decide +kernel
theorem dX2_setOf_17 : decode cX2_setOf 17 = .ok (.iaload, 1) := by decide +kernel
theorem dX2_setOf_18 : decode cX2_setOf 18 = .ok (.iload_n 1, 1) := by decide +kernel
theorem dX2_setOf_19 : decode cX2_setOf 19 = .ok (.if_icmp .ne 9, 3) := by decide +kernel
theorem dX2_setOf_22 : decode cX2_setOf 22 = .ok (.iload_n 2, 1) := by decide +kernel
theorem dX2_setOf_23 : decode cX2_setOf 23 = .ok (.iconst 1, 1) := by decide +kernel
theorem dX2_setOf_24 : decode cX2_setOf 24 = .ok (.iload_n 3, 1) := by decide +kernel
theorem dX2_setOf_25 : decode cX2_setOf 25 = .ok (.ishl, 1) := by decide +kernel
theorem dX2_setOf_26 : decode cX2_setOf 26 = .ok (.ior, 1) := by decide +kernel
theorem dX2_setOf_27 : decode cX2_setOf 27 = .ok (.istore_n 2, 1) := by decide +kernel
theorem dX2_setOf_28 : decode cX2_setOf 28 = .ok (.iinc 3 1, 3) := by decide +kernel
theorem dX2_setOf_31 : decode cX2_setOf 31 = .ok (.goto (-27), 3) := by decide +kernel
theorem dX2_setOf_34 : decode cX2_setOf 34 = .ok (.iload_n 2, 1) := by decide +kernel
theorem dX2_setOf_35 : decode cX2_setOf 35 = .ok (.ireturn, 1) := by decide +kernel
theorem dX2_hanging_0 : decode cX2_hanging 0 = .ok (.iconst 0, 1) := by decide +kernel
theorem dX2_hanging_1 : decode cX2_hanging 1 = .ok (.istore_n 1, 1) := by decide +kernel
theorem dX2_hanging_2 : decode cX2_hanging 2 = .ok (.iconst 0, 1) := by decide +kernel
theorem dX2_hanging_3 : decode cX2_hanging 3 = .ok (.istore_n 2, 1) := by decide +kernel
theorem dX2_hanging_4 : decode cX2_hanging 4 = .ok (.iload_n 2, 1) := by decide +kernel
theorem dX2_hanging_5 : decode cX2_hanging 5 = .ok (.aload_n 0, 1) := by decide +kernel
theorem dX2_hanging_6 : decode cX2_hanging 6 = .ok (.getfield 9, 3) := by decide +kernel
theorem dX2_hanging_9 : decode cX2_hanging 9 = .ok (.if_icmp .ge 24, 3) := by decide +kernel
theorem dX2_hanging_12 : decode cX2_hanging 12 = .ok (.aload_n 0, 1) := by decide +kernel
theorem dX2_hanging_13 : decode cX2_hanging 13 = .ok (.getfield 28, 3) := by decide +kernel
theorem dX2_hanging_16 : decode cX2_hanging 16 = .ok (.iload_n 2, 1) := by decide +kernel
theorem dX2_hanging_17 : decode cX2_hanging 17 = .ok (.iaload, 1) := by decide +kernel
theorem dX2_hanging_18 : decode cX2_hanging 18 = .ok (.ifCond .lt 9, 3) := by decide +kernel
theorem dX2_hanging_21 : decode cX2_hanging 21 = .ok (.iload_n 1, 1) := by decide +kernel
theorem dX2_hanging_22 : decode cX2_hanging 22 = .ok (.iconst 1, 1) := by decide +kernel
theorem dX2_hanging_23 : decode cX2_hanging 23 = .ok (.iload_n 2, 1) := by decide +kernel
theorem dX2_hanging_24 : decode cX2_hanging 24 = .ok (.ishl, 1) := by decide +kernel
theorem dX2_hanging_25 : decode cX2_hanging 25 = .ok (.ior, 1) := by decide +kernel
theorem dX2_hanging_26 : decode cX2_hanging 26 = .ok (.istore_n 1, 1) := by decide +kernel
theorem dX2_hanging_27 : decode cX2_hanging 27 = .ok (.iinc 2 1, 3) := by decide +kernel
theorem dX2_hanging_30 : decode cX2_hanging 30 = .ok (.goto (-26), 3) := by decide +kernel
theorem dX2_hanging_33 : decode cX2_hanging 33 = .ok (.iload_n 1, 1) := by decide +kernel
theorem dX2_hanging_34 : decode cX2_hanging 34 = .ok (.ireturn, 1) := by decide +kernel
theorem dX2_swollenSet_0 : decode cX2_swollenSet 0 = .ok (.iconst 0, 1) := by decide +kernel
theorem dX2_swollenSet_1 : decode cX2_swollenSet 1 = .ok (.istore_n 1, 1) := by decide +kernel
theorem dX2_swollenSet_2 : decode cX2_swollenSet 2 = .ok (.iconst 0, 1) := by decide +kernel
theorem dX2_swollenSet_3 : decode cX2_swollenSet 3 = .ok (.istore_n 2, 1) := by decide +kernel
theorem dX2_swollenSet_4 : decode cX2_swollenSet 4 = .ok (.iload_n 2, 1) := by decide +kernel
theorem dX2_swollenSet_5 : decode cX2_swollenSet 5 = .ok (.aload_n 0, 1) := by decide +kernel
theorem dX2_swollenSet_6 : decode cX2_swollenSet 6 = .ok (.getfield 9, 3) := by decide +kernel
theorem dX2_swollenSet_9 : decode cX2_swollenSet 9 = .ok (.if_icmp .ge 24, 3) := by decide +kernel
theorem dX2_swollenSet_12 : decode cX2_swollenSet 12 = .ok (.aload_n 0, 1) := by decide +kernel
theorem dX2_swollenSet_13 : decode cX2_swollenSet 13 = .ok (.getfield 31, 3) := by decide +kernel
theorem dX2_swollenSet_16 : decode cX2_swollenSet 16 = .ok (.iload_n 2, 1) := by decide +kernel
theorem dX2_swollenSet_17 : decode cX2_swollenSet 17 = .ok (.iaload, 1) := by decide +kernel
theorem dX2_swollenSet_18 : decode cX2_swollenSet 18 = .ok (.ifCond .eq 9, 3) := by decide +kernel
theorem dX2_swollenSet_21 : decode cX2_swollenSet 21 = .ok (.iload_n 1, 1) := by decide +kernel
theorem dX2_swollenSet_22 : decode cX2_swollenSet 22 = .ok (.iconst 1, 1) := by decide +kernel
theorem dX2_swollenSet_23 : decode cX2_swollenSet 23 = .ok (.iload_n 2, 1) := by decide +kernel
theorem dX2_swollenSet_24 : decode cX2_swollenSet 24 = .ok (.ishl, 1) := by decide +kernel
theorem dX2_swollenSet_25 : decode cX2_swollenSet 25 = .ok (.ior, 1) := by decide +kernel
theorem dX2_swollenSet_26 : decode cX2_swollenSet 26 = .ok (.istore_n 1, 1) := by decide +kernel
theorem dX2_swollenSet_27 : decode cX2_swollenSet 27 = .ok (.iinc 2 1, 3) := by decide +kernel
theorem dX2_swollenSet_30 : decode cX2_swollenSet 30 = .ok (.goto (-26), 3) := by decide +kernel
theorem dX2_swollenSet_33 : decode cX2_swollenSet 33 = .ok (.iload_n 1, 1) := by decide +kernel
theorem dX2_swollenSet_34 : decode cX2_swollenSet 34 = .ok (.ireturn, 1) := by decide +kernel
theorem dX2_openOf_0 : decode cX2_openOf 0 = .ok (.iconst 0, 1) := by decide +kernel
theorem dX2_openOf_1 : decode cX2_openOf 1 = .ok (.istore_n 2, 1) := by decide +kernel
theorem dX2_openOf_2 : decode cX2_openOf 2 = .ok (.iconst 0, 1) := by decide +kernel
theorem dX2_openOf_3 : decode cX2_openOf 3 = .ok (.istore_n 3, 1) := by decide +kernel
theorem dX2_openOf_4 : decode cX2_openOf 4 = .ok (.iload_n 3, 1) := by decide +kernel
theorem dX2_openOf_5 : decode cX2_openOf 5 = .ok (.aload_n 0, 1) := by decide +kernel
theorem dX2_openOf_6 : decode cX2_openOf 6 = .ok (.getfield 9, 3) := by decide +kernel
theorem dX2_openOf_9 : decode cX2_openOf 9 = .ok (.if_icmp .ge 26, 3) := by decide +kernel
theorem dX2_openOf_12 : decode cX2_openOf 12 = .ok (.iload_n 1, 1) := by decide +kernel
theorem dX2_openOf_13 : decode cX2_openOf 13 = .ok (.iload_n 3, 1) := by decide +kernel
theorem dX2_openOf_14 : decode cX2_openOf 14 = .ok (.ishr, 1) := by decide +kernel
theorem dX2_openOf_15 : decode cX2_openOf 15 = .ok (.iconst 1, 1) := by decide +kernel
theorem dX2_openOf_16 : decode cX2_openOf 16 = .ok (.iand, 1) := by decide +kernel
theorem dX2_openOf_17 : decode cX2_openOf 17 = .ok (.ifCond .eq 12, 3) := by decide +kernel
theorem dX2_openOf_20 : decode cX2_openOf 20 = .ok (.iload_n 2, 1) := by decide +kernel
theorem dX2_openOf_21 : decode cX2_openOf 21 = .ok (.aload_n 0, 1) := by decide +kernel
theorem dX2_openOf_22 : decode cX2_openOf 22 = .ok (.getfield 25, 3) := by decide +kernel
theorem dX2_openOf_25 : decode cX2_openOf 25 = .ok (.iload_n 3, 1) := by decide +kernel
theorem dX2_openOf_26 : decode cX2_openOf 26 = .ok (.iaload, 1) := by decide +kernel
theorem dX2_openOf_27 : decode cX2_openOf 27 = .ok (.iadd, 1) := by decide +kernel
theorem dX2_openOf_28 : decode cX2_openOf 28 = .ok (.istore_n 2, 1) := by decide +kernel
theorem dX2_openOf_29 : decode cX2_openOf 29 = .ok (.iinc 3 1, 3) := by decide +kernel
theorem dX2_openOf_32 : decode cX2_openOf 32 = .ok (.goto (-28), 3) := by decide +kernel
theorem dX2_openOf_35 : decode cX2_openOf 35 = .ok (.iload_n 2, 1) := by decide +kernel
theorem dX2_openOf_36 : decode cX2_openOf 36 = .ok (.ireturn, 1) := by decide +kernel
theorem dX2_firstUnlike_0 : decode cX2_firstUnlike 0 = .ok (.aload_n 1, 1) := by decide +kernel
theorem dX2_firstUnlike_1 : decode cX2_firstUnlike 1 = .ok (.getfield 92, 3) := by decide +kernel
theorem dX2_firstUnlike_4 : decode cX2_firstUnlike 4 = .ok (.aload_n 0, 1) := by decide +kernel
theorem dX2_firstUnlike_5 : decode cX2_firstUnlike 5 = .ok (.getfield 9, 3) := by decide +kernel
theorem dX2_firstUnlike_8 : decode cX2_firstUnlike 8 = .ok (.invokestatic 95, 3) := by decide +kernel
theorem dX2_firstUnlike_11 : decode cX2_firstUnlike 11 = .ok (.istore_n 2, 1) := by decide +kernel
theorem dX2_firstUnlike_12 : decode cX2_firstUnlike 12 = .ok (.iconst 0, 1) := by decide +kernel
theorem dX2_firstUnlike_13 : decode cX2_firstUnlike 13 = .ok (.istore_n 3, 1) := by decide +kernel
theorem dX2_firstUnlike_14 : decode cX2_firstUnlike 14 = .ok (.iload_n 3, 1) := by decide +kernel
theorem dX2_firstUnlike_15 : decode cX2_firstUnlike 15 = .ok (.iload_n 2, 1) := by decide +kernel
theorem dX2_firstUnlike_16 : decode cX2_firstUnlike 16 = .ok (.if_icmp .ge 26, 3) := by decide +kernel
theorem dX2_firstUnlike_19 : decode cX2_firstUnlike 19 = .ok (.aload_n 1, 1) := by decide +kernel
theorem dX2_firstUnlike_20 : decode cX2_firstUnlike 20 = .ok (.getfield 101, 3) := by decide +kernel
theorem dX2_firstUnlike_23 : decode cX2_firstUnlike 23 = .ok (.iload_n 3, 1) := by decide +kernel
theorem dX2_firstUnlike_24 : decode cX2_firstUnlike 24 = .ok (.iaload, 1) := by decide +kernel
theorem dX2_firstUnlike_25 : decode cX2_firstUnlike 25 = .ok (.aload_n 0, 1) := by decide +kernel
theorem dX2_firstUnlike_26 : decode cX2_firstUnlike 26 = .ok (.getfield 25, 3) := by decide +kernel
theorem dX2_firstUnlike_29 : decode cX2_firstUnlike 29 = .ok (.iload_n 3, 1) := by decide +kernel
theorem dX2_firstUnlike_30 : decode cX2_firstUnlike 30 = .ok (.iaload, 1) := by decide +kernel
theorem dX2_firstUnlike_31 : decode cX2_firstUnlike 31 = .ok (.if_icmp .eq 5, 3) := by decide +kernel
theorem dX2_firstUnlike_34 : decode cX2_firstUnlike 34 = .ok (.iload_n 3, 1) := by decide +kernel
theorem dX2_firstUnlike_35 : decode cX2_firstUnlike 35 = .ok (.ireturn, 1) := by decide +kernel
theorem dX2_firstUnlike_36 : decode cX2_firstUnlike 36 = .ok (.iinc 3 1, 3) := by decide +kernel
theorem dX2_firstUnlike_39 : decode cX2_firstUnlike 39 = .ok (.goto (-25), 3) := by decide +kernel
theorem dX2_firstUnlike_42 : decode cX2_firstUnlike 42 = .ok (.aload_n 1, 1) := by decide +kernel
theorem dX2_firstUnlike_43 : decode cX2_firstUnlike 43 = .ok (.getfield 92, 3) := by decide +kernel
theorem dX2_firstUnlike_46 : decode cX2_firstUnlike 46 = .ok (.aload_n 0, 1) := by decide +kernel
theorem dX2_firstUnlike_47 : decode cX2_firstUnlike 47 = .ok (.getfield 9, 3) := by decide +kernel
theorem dX2_firstUnlike_50 : decode cX2_firstUnlike 50 = .ok (.if_icmp .ne 7, 3) := by decide +kernel
theorem dX2_firstUnlike_53 : decode cX2_firstUnlike 53 = .ok (.iconst (-1), 1) := by decide +kernel
theorem dX2_firstUnlike_54 : decode cX2_firstUnlike 54 = .ok (.goto 4, 3) := by decide +kernel
theorem dX2_firstUnlike_57 : decode cX2_firstUnlike 57 = .ok (.iload_n 2, 1) := by decide +kernel
theorem dX2_firstUnlike_58 : decode cX2_firstUnlike 58 = .ok (.ireturn, 1) := by decide +kernel
theorem dX2_isLocked_0 : decode cX2_isLocked 0 = .ok (.aload_n 0, 1) := by decide +kernel
theorem dX2_isLocked_1 : decode cX2_isLocked 1 = .ok (.getfield 46, 3) := by decide +kernel
theorem dX2_isLocked_4 : decode cX2_isLocked 4 = .ok (.aload_n 0, 1) := by decide +kernel
theorem dX2_isLocked_5 : decode cX2_isLocked 5 = .ok (.getfield 55, 3) := by decide +kernel
theorem dX2_isLocked_8 : decode cX2_isLocked 8 = .ok (.if_icmp .lt 18, 3) := by decide +kernel
theorem dX2_isLocked_11 : decode cX2_isLocked 11 = .ok (.aload_n 0, 1) := by decide +kernel
theorem dX2_isLocked_12 : decode cX2_isLocked 12 = .ok (.getfield 46, 3) := by decide +kernel
theorem dX2_isLocked_15 : decode cX2_isLocked 15 = .ok (.aload_n 0, 1) := by decide +kernel
theorem dX2_isLocked_16 : decode cX2_isLocked 16 = .ok (.getfield 58, 3) := by decide +kernel
theorem dX2_isLocked_19 : decode cX2_isLocked 19 = .ok (.if_icmp .ge 7, 3) := by decide +kernel
theorem dX2_isLocked_22 : decode cX2_isLocked 22 = .ok (.iconst 1, 1) := by decide +kernel
theorem dX2_isLocked_23 : decode cX2_isLocked 23 = .ok (.goto 4, 3) := by decide +kernel
theorem dX2_isLocked_26 : decode cX2_isLocked 26 = .ok (.iconst 0, 1) := by decide +kernel
theorem dX2_isLocked_27 : decode cX2_isLocked 27 = .ok (.ireturn, 1) := by decide +kernel
theorem dX2_canPull_0 : decode cX2_canPull 0 = .ok (.iload_n 1, 1) := by decide +kernel
theorem dX2_canPull_1 : decode cX2_canPull 1 = .ok (.iload_n 2, 1) := by decide +kernel
theorem dX2_canPull_2 : decode cX2_canPull 2 = .ok (.if_icmp .eq 69, 3) := by decide +kernel
theorem dX2_canPull_5 : decode cX2_canPull 5 = .ok (.aload_n 0, 1) := by decide +kernel
theorem dX2_canPull_6 : decode cX2_canPull 6 = .ok (.getfield 28, 3) := by decide +kernel
theorem dX2_canPull_9 : decode cX2_canPull 9 = .ok (.iload_n 1, 1) := by decide +kernel
theorem dX2_canPull_10 : decode cX2_canPull 10 = .ok (.iaload, 1) := by decide +kernel
theorem dX2_canPull_11 : decode cX2_canPull 11 = .ok (.ifCond .lt 60, 3) := by decide +kernel
theorem dX2_canPull_14 : decode cX2_canPull 14 = .ok (.aload_n 0, 1) := by decide +kernel
theorem dX2_canPull_15 : decode cX2_canPull 15 = .ok (.getfield 28, 3) := by decide +kernel
theorem dX2_canPull_18 : decode cX2_canPull 18 = .ok (.iload_n 1, 1) := by decide +kernel
theorem dX2_canPull_19 : decode cX2_canPull 19 = .ok (.iaload, 1) := by decide +kernel
theorem dX2_canPull_20 : decode cX2_canPull 20 = .ok (.aload_n 0, 1) := by decide +kernel
theorem dX2_canPull_21 : decode cX2_canPull 21 = .ok (.getfield 28, 3) := by decide +kernel
theorem dX2_canPull_24 : decode cX2_canPull 24 = .ok (.iload_n 2, 1) := by decide +kernel
theorem dX2_canPull_25 : decode cX2_canPull 25 = .ok (.iaload, 1) := by decide +kernel
theorem dX2_canPull_26 : decode cX2_canPull 26 = .ok (.if_icmp .ne 45, 3) := by decide +kernel
theorem dX2_canPull_29 : decode cX2_canPull 29 = .ok (.aload_n 0, 1) := by decide +kernel
theorem dX2_canPull_30 : decode cX2_canPull 30 = .ok (.getfield 31, 3) := by decide +kernel
theorem dX2_canPull_33 : decode cX2_canPull 33 = .ok (.iload_n 1, 1) := by decide +kernel
theorem dX2_canPull_34 : decode cX2_canPull 34 = .ok (.iaload, 1) := by decide +kernel
theorem dX2_canPull_35 : decode cX2_canPull 35 = .ok (.ifCond .ne 36, 3) := by decide +kernel
theorem dX2_canPull_38 : decode cX2_canPull 38 = .ok (.aload_n 0, 1) := by decide +kernel
theorem dX2_canPull_39 : decode cX2_canPull 39 = .ok (.getfield 31, 3) := by decide +kernel
theorem dX2_canPull_42 : decode cX2_canPull 42 = .ok (.iload_n 2, 1) := by decide +kernel
theorem dX2_canPull_43 : decode cX2_canPull 43 = .ok (.iaload, 1) := by decide +kernel
theorem dX2_canPull_44 : decode cX2_canPull 44 = .ok (.ifCond .ne 27, 3) := by decide +kernel
theorem dX2_canPull_47 : decode cX2_canPull 47 = .ok (.aload_n 0, 1) := by decide +kernel
theorem dX2_canPull_48 : decode cX2_canPull 48 = .ok (.getfield 25, 3) := by decide +kernel
theorem dX2_canPull_51 : decode cX2_canPull 51 = .ok (.iload_n 1, 1) := by decide +kernel
theorem dX2_canPull_52 : decode cX2_canPull 52 = .ok (.iaload, 1) := by decide +kernel
theorem dX2_canPull_53 : decode cX2_canPull 53 = .ok (.bipush 9, 2) := by decide +kernel
theorem dX2_canPull_55 : decode cX2_canPull 55 = .ok (.if_icmp .ge 16, 3) := by decide +kernel
theorem dX2_canPull_58 : decode cX2_canPull 58 = .ok (.aload_n 0, 1) := by decide +kernel
theorem dX2_canPull_59 : decode cX2_canPull 59 = .ok (.getfield 25, 3) := by decide +kernel
theorem dX2_canPull_62 : decode cX2_canPull 62 = .ok (.iload_n 2, 1) := by decide +kernel
theorem dX2_canPull_63 : decode cX2_canPull 63 = .ok (.iaload, 1) := by decide +kernel
theorem dX2_canPull_64 : decode cX2_canPull 64 = .ok (.ifCond .le 7, 3) := by decide +kernel
theorem dX2_canPull_67 : decode cX2_canPull 67 = .ok (.iconst 1, 1) := by decide +kernel
theorem dX2_canPull_68 : decode cX2_canPull 68 = .ok (.goto 4, 3) := by decide +kernel
theorem dX2_canPull_71 : decode cX2_canPull 71 = .ok (.iconst 0, 1) := by decide +kernel
theorem dX2_canPull_72 : decode cX2_canPull 72 = .ok (.ireturn, 1) := by decide +kernel
theorem dX2_pullBy_0 : decode cX2_pullBy 0 = .ok (.aload_n 0, 1) := by decide +kernel
theorem dX2_pullBy_1 : decode cX2_pullBy 1 = .ok (.getfield 25, 3) := by decide +kernel
theorem dX2_pullBy_4 : decode cX2_pullBy 4 = .ok (.iload_n 1, 1) := by decide +kernel
theorem dX2_pullBy_5 : decode cX2_pullBy 5 = .ok (.dup2, 1) := by decide +kernel
theorem dX2_pullBy_6 : decode cX2_pullBy 6 = .ok (.iaload, 1) := by decide +kernel
theorem dX2_pullBy_7 : decode cX2_pullBy 7 = .ok (.iconst 1, 1) := by decide +kernel
theorem dX2_pullBy_8 : decode cX2_pullBy 8 = .ok (.iadd, 1) := by decide +kernel
theorem dX2_pullBy_9 : decode cX2_pullBy 9 = .ok (.iastore, 1) := by decide +kernel
theorem dX2_pullBy_10 : decode cX2_pullBy 10 = .ok (.aload_n 0, 1) := by decide +kernel
theorem dX2_pullBy_11 : decode cX2_pullBy 11 = .ok (.getfield 25, 3) := by decide +kernel
theorem dX2_pullBy_14 : decode cX2_pullBy 14 = .ok (.iload_n 2, 1) := by decide +kernel
theorem dX2_pullBy_15 : decode cX2_pullBy 15 = .ok (.dup2, 1) := by decide +kernel
theorem dX2_pullBy_16 : decode cX2_pullBy 16 = .ok (.iaload, 1) := by decide +kernel
theorem dX2_pullBy_17 : decode cX2_pullBy 17 = .ok (.iconst 1, 1) := by decide +kernel
theorem dX2_pullBy_18 : decode cX2_pullBy 18 = .ok (.isub, 1) := by decide +kernel
theorem dX2_pullBy_19 : decode cX2_pullBy 19 = .ok (.iastore, 1) := by decide +kernel
theorem dX2_pullBy_20 : decode cX2_pullBy 20 = .ok (.return_, 1) := by decide +kernel
theorem dX2_hangOtherwise_0 : decode cX2_hangOtherwise 0 = .ok (.aload_n 0, 1) := by decide +kernel
theorem dX2_hangOtherwise_1 : decode cX2_hangOtherwise 1 = .ok (.getfield 28, 3) := by decide +kernel
theorem dX2_hangOtherwise_4 : decode cX2_hangOtherwise 4 = .ok (.iload_n 1, 1) := by decide +kernel
theorem dX2_hangOtherwise_5 : decode cX2_hangOtherwise 5 = .ok (.iaload, 1) := by decide +kernel
theorem dX2_hangOtherwise_6 : decode cX2_hangOtherwise 6 = .ok (.istore_n 3, 1) := by decide +kernel
theorem dX2_hangOtherwise_7 : decode cX2_hangOtherwise 7 = .ok (.aload_n 0, 1) := by decide +kernel
theorem dX2_hangOtherwise_8 : decode cX2_hangOtherwise 8 = .ok (.getfield 28, 3) := by decide +kernel
theorem dX2_hangOtherwise_11 : decode cX2_hangOtherwise 11 = .ok (.iload_n 1, 1) := by decide +kernel
theorem dX2_hangOtherwise_12 : decode cX2_hangOtherwise 12 = .ok (.aload_n 0, 1) := by decide +kernel
theorem dX2_hangOtherwise_13 : decode cX2_hangOtherwise 13 = .ok (.getfield 28, 3) := by decide +kernel
theorem dX2_hangOtherwise_16 : decode cX2_hangOtherwise 16 = .ok (.iload_n 2, 1) := by decide +kernel
theorem dX2_hangOtherwise_17 : decode cX2_hangOtherwise 17 = .ok (.iaload, 1) := by decide +kernel
theorem dX2_hangOtherwise_18 : decode cX2_hangOtherwise 18 = .ok (.iastore, 1) := by decide +kernel
theorem dX2_hangOtherwise_19 : decode cX2_hangOtherwise 19 = .ok (.aload_n 0, 1) := by decide +kernel
theorem dX2_hangOtherwise_20 : decode cX2_hangOtherwise 20 = .ok (.getfield 28, 3) := by decide +kernel
theorem dX2_hangOtherwise_23 : decode cX2_hangOtherwise 23 = .ok (.iload_n 2, 1) := by decide +kernel
theorem dX2_hangOtherwise_24 : decode cX2_hangOtherwise 24 = .ok (.iload_n 3, 1) := by decide +kernel
theorem dX2_hangOtherwise_25 : decode cX2_hangOtherwise 25 = .ok (.iastore, 1) := by decide +kernel
theorem dX2_hangOtherwise_26 : decode cX2_hangOtherwise 26 = .ok (.return_, 1) := by decide +kernel
theorem dX2_openIn_0 : decode cX2_openIn 0 = .ok (.iconst 0, 1) := by decide +kernel
theorem dX2_openIn_1 : decode cX2_openIn 1 = .ok (.istore_n 2, 1) := by decide +kernel
theorem dX2_openIn_2 : decode cX2_openIn 2 = .ok (.iconst 0, 1) := by decide +kernel
theorem dX2_openIn_3 : decode cX2_openIn 3 = .ok (.istore_n 3, 1) := by decide +kernel
theorem dX2_openIn_4 : decode cX2_openIn 4 = .ok (.iload_n 3, 1) := by decide +kernel
theorem dX2_openIn_5 : decode cX2_openIn 5 = .ok (.aload_n 0, 1) := by decide +kernel
theorem dX2_openIn_6 : decode cX2_openIn 6 = .ok (.getfield 9, 3) := by decide +kernel
theorem dX2_openIn_9 : decode cX2_openIn 9 = .ok (.if_icmp .ge 28, 3) := by decide +kernel
theorem dX2_openIn_12 : decode cX2_openIn 12 = .ok (.aload_n 0, 1) := by decide +kernel
theorem dX2_openIn_13 : decode cX2_openIn 13 = .ok (.getfield 21, 3) := by decide +kernel
theorem dX2_openIn_16 : decode cX2_openIn 16 = .ok (.iload_n 3, 1) := by decide +kernel
theorem dX2_openIn_17 : decode cX2_openIn 17 = .ok (.iaload, 1) := by decide +kernel
theorem dX2_openIn_18 : decode cX2_openIn 18 = .ok (.iload_n 1, 1) := by decide +kernel
theorem dX2_openIn_19 : decode cX2_openIn 19 = .ok (.if_icmp .ne 12, 3) := by decide +kernel
theorem dX2_openIn_22 : decode cX2_openIn 22 = .ok (.iload_n 2, 1) := by decide +kernel
theorem dX2_openIn_23 : decode cX2_openIn 23 = .ok (.aload_n 0, 1) := by decide +kernel
theorem dX2_openIn_24 : decode cX2_openIn 24 = .ok (.getfield 25, 3) := by decide +kernel
theorem dX2_openIn_27 : decode cX2_openIn 27 = .ok (.iload_n 3, 1) := by decide +kernel
theorem dX2_openIn_28 : decode cX2_openIn 28 = .ok (.iaload, 1) := by decide +kernel
theorem dX2_openIn_29 : decode cX2_openIn 29 = .ok (.iadd, 1) := by decide +kernel
theorem dX2_openIn_30 : decode cX2_openIn 30 = .ok (.istore_n 2, 1) := by decide +kernel
theorem dX2_openIn_31 : decode cX2_openIn 31 = .ok (.iinc 3 1, 3) := by decide +kernel
theorem dX2_openIn_34 : decode cX2_openIn 34 = .ok (.goto (-30), 3) := by decide +kernel
theorem dX2_openIn_37 : decode cX2_openIn 37 = .ok (.iload_n 2, 1) := by decide +kernel
theorem dX2_openIn_38 : decode cX2_openIn 38 = .ok (.ireturn, 1) := by decide +kernel
theorem dX2_openBeside_0 : decode cX2_openBeside 0 = .ok (.aload_n 0, 1) := by decide +kernel
theorem dX2_openBeside_1 : decode cX2_openBeside 1 = .ok (.iload_n 1, 1) := by decide +kernel
theorem dX2_openBeside_2 : decode cX2_openBeside 2 = .ok (.iconst 1, 1) := by decide +kernel
theorem dX2_openBeside_3 : decode cX2_openBeside 3 = .ok (.isub, 1) := by decide +kernel
theorem dX2_openBeside_4 : decode cX2_openBeside 4 = .ok (.invokevirtual 104, 3) := by decide +kernel
theorem dX2_openBeside_7 : decode cX2_openBeside 7 = .ok (.aload_n 0, 1) := by decide +kernel
theorem dX2_openBeside_8 : decode cX2_openBeside 8 = .ok (.iload_n 1, 1) := by decide +kernel
theorem dX2_openBeside_9 : decode cX2_openBeside 9 = .ok (.iconst 1, 1) := by decide +kernel
theorem dX2_openBeside_10 : decode cX2_openBeside 10 = .ok (.iadd, 1) := by decide +kernel
theorem dX2_openBeside_11 : decode cX2_openBeside 11 = .ok (.invokevirtual 104, 3) := by decide +kernel
theorem dX2_openBeside_14 : decode cX2_openBeside 14 = .ok (.iadd, 1) := by decide +kernel
theorem dX2_openBeside_15 : decode cX2_openBeside 15 = .ok (.ireturn, 1) := by decide +kernel
theorem dX2_airOf_0 : decode cX2_airOf 0 = .ok (.aload_n 0, 1) := by decide +kernel
theorem dX2_airOf_1 : decode cX2_airOf 1 = .ok (.aload_n 0, 1) := by decide +kernel
theorem dX2_airOf_2 : decode cX2_airOf 2 = .ok (.iload_n 1, 1) := by decide +kernel
theorem dX2_airOf_3 : decode cX2_airOf 3 = .ok (.invokevirtual 104, 3) := by decide +kernel
theorem dX2_airOf_6 : decode cX2_airOf 6 = .ok (.aload_n 0, 1) := by decide +kernel
theorem dX2_airOf_7 : decode cX2_airOf 7 = .ok (.iload_n 1, 1) := by decide +kernel
theorem dX2_airOf_8 : decode cX2_airOf 8 = .ok (.invokevirtual 108, 3) := by decide +kernel
theorem dX2_airOf_11 : decode cX2_airOf 11 = .ok (.invokevirtual 111, 3) := by decide +kernel
theorem dX2_airOf_14 : decode cX2_airOf 14 = .ok (.ireturn, 1) := by decide +kernel
theorem dX2_airBy_0 : decode cX2_airBy 0 = .ok (.aload_n 0, 1) := by decide +kernel
theorem dX2_airBy_1 : decode cX2_airBy 1 = .ok (.getfield 78, 3) := by decide +kernel
theorem dX2_airBy_4 : decode cX2_airBy 4 = .ok (.iconst 0, 1) := by decide +kernel
theorem dX2_airBy_5 : decode cX2_airBy 5 = .ok (.aaload, 1) := by decide +kernel
theorem dX2_airBy_6 : decode cX2_airBy 6 = .ok (.astore_n 3, 1) := by decide +kernel
theorem dX2_airBy_7 : decode cX2_airBy 7 = .ok (.aload_n 3, 1) := by decide +kernel
theorem dX2_airBy_8 : decode cX2_airBy 8 = .ok (.ifnonnull 14, 3) := by decide +kernel
theorem dX2_airBy_11 : decode cX2_airBy 11 = .ok (.iconst 2, 1) := by decide +kernel
theorem dX2_airBy_12 : decode cX2_airBy 12 = .ok (.iload_n 1, 1) := by decide +kernel
theorem dX2_airBy_13 : decode cX2_airBy 13 = .ok (.imul, 1) := by decide +kernel
theorem dX2_airBy_14 : decode cX2_airBy 14 = .ok (.iload_n 2, 1) := by decide +kernel
theorem dX2_airBy_15 : decode cX2_airBy 15 = .ok (.iconst 2, 1) := by decide +kernel
theorem dX2_airBy_16 : decode cX2_airBy 16 = .ok (.idiv, 1) := by decide +kernel
theorem dX2_airBy_17 : decode cX2_airBy 17 = .ok (.iadd, 1) := by decide +kernel
theorem dX2_airBy_18 : decode cX2_airBy 18 = .ok (.invokestatic 114, 3) := by decide +kernel
theorem dX2_airBy_21 : decode cX2_airBy 21 = .ok (.ireturn, 1) := by decide +kernel
theorem dX2_airBy_22 : decode cX2_airBy 22 = .ok (.iload_n 1, 1) := by decide +kernel
theorem dX2_airBy_23 : decode cX2_airBy 23 = .ok (.iload_n 2, 1) := by decide +kernel
theorem dX2_airBy_24 : decode cX2_airBy 24 = .ok (.invokestatic 117, 3) := by decide +kernel
theorem dX2_airBy_27 : decode cX2_airBy 27 = .ok (.istore 4, 2) := by decide +kernel
theorem dX2_airBy_29 : decode cX2_airBy 29 = .ok (.iload 4, 2) := by decide +kernel
theorem dX2_airBy_31 : decode cX2_airBy 31 = .ok (.ifCond .lt 13, 3) := by decide +kernel
theorem dX2_airBy_34 : decode cX2_airBy 34 = .ok (.iload 4, 2) := by decide +kernel
theorem dX2_airBy_36 : decode cX2_airBy 36 = .ok (.aload_n 3, 1) := by decide +kernel
theorem dX2_airBy_37 : decode cX2_airBy 37 = .ok (.getfield 120, 3) := by decide +kernel
theorem dX2_airBy_40 : decode cX2_airBy 40 = .ok (.arraylength, 1) := by decide +kernel
theorem dX2_airBy_41 : decode cX2_airBy 41 = .ok (.if_icmp .lt 17, 3) := by decide +kernel
theorem dX2_airBy_44 : decode cX2_airBy 44 = .ok (.aload_n 3, 1) := by decide +kernel
theorem dX2_airBy_45 : decode cX2_airBy 45 = .ok (.iload_n 1, 1) := by decide +kernel
theorem dX2_airBy_46 : decode cX2_airBy 46 = .ok (.iload_n 2, 1) := by decide +kernel
theorem dX2_airBy_47 : decode cX2_airBy 47 = .ok (.aload_n 0, 1) := by decide +kernel
theorem dX2_airBy_48 : decode cX2_airBy 48 = .ok (.getfield 46, 3) := by decide +kernel
theorem dX2_airBy_51 : decode cX2_airBy 51 = .ok (.invokevirtual 123, 3) := by decide +kernel
theorem dX2_airBy_54 : decode cX2_airBy 54 = .ok (.invokestatic 114, 3) := by decide +kernel
theorem dX2_airBy_57 : decode cX2_airBy 57 = .ok (.ireturn, 1) := by decide +kernel
theorem dX2_airBy_58 : decode cX2_airBy 58 = .ok (.aload_n 3, 1) := by decide +kernel
theorem dX2_airBy_59 : decode cX2_airBy 59 = .ok (.getfield 127, 3) := by decide +kernel
theorem dX2_airBy_62 : decode cX2_airBy 62 = .ok (.bipush 24, 2) := by decide +kernel
theorem dX2_airBy_64 : decode cX2_airBy 64 = .ok (.imul, 1) := by decide +kernel
theorem dX2_airBy_65 : decode cX2_airBy 65 = .ok (.aload_n 0, 1) := by decide +kernel
theorem dX2_airBy_66 : decode cX2_airBy 66 = .ok (.getfield 46, 3) := by decide +kernel
theorem dX2_airBy_69 : decode cX2_airBy 69 = .ok (.iadd, 1) := by decide +kernel
theorem dX2_airBy_70 : decode cX2_airBy 70 = .ok (.istore 5, 2) := by decide +kernel
theorem dX2_airBy_72 : decode cX2_airBy 72 = .ok (.aload_n 3, 1) := by decide +kernel
theorem dX2_airBy_73 : decode cX2_airBy 73 = .ok (.getfield 120, 3) := by decide +kernel
theorem dX2_airBy_76 : decode cX2_airBy 76 = .ok (.iload 4, 2) := by decide +kernel
theorem dX2_airBy_78 : decode cX2_airBy 78 = .ok (.iaload, 1) := by decide +kernel
theorem dX2_airBy_79 : decode cX2_airBy 79 = .ok (.bipush 7, 2) := by decide +kernel
theorem dX2_airBy_81 : decode cX2_airBy 81 = .ok (.ishr, 1) := by decide +kernel
theorem dX2_airBy_82 : decode cX2_airBy 82 = .ok (.iload 5, 2) := by decide +kernel
theorem dX2_airBy_84 : decode cX2_airBy 84 = .ok (.if_icmp .eq 29, 3) := by decide +kernel
theorem dX2_airBy_87 : decode cX2_airBy 87 = .ok (.aload_n 3, 1) := by decide +kernel
theorem dX2_airBy_88 : decode cX2_airBy 88 = .ok (.getfield 120, 3) := by decide +kernel
theorem dX2_airBy_91 : decode cX2_airBy 91 = .ok (.iload 4, 2) := by decide +kernel
theorem dX2_airBy_93 : decode cX2_airBy 93 = .ok (.iload 5, 2) := by decide +kernel
theorem dX2_airBy_95 : decode cX2_airBy 95 = .ok (.bipush 7, 2) := by decide +kernel
theorem dX2_airBy_97 : decode cX2_airBy 97 = .ok (.ishl, 1) := by decide +kernel
theorem dX2_airBy_98 : decode cX2_airBy 98 = .ok (.aload_n 3, 1) := by decide +kernel
theorem dX2_airBy_99 : decode cX2_airBy 99 = .ok (.iload_n 1, 1) := by decide +kernel
theorem dX2_airBy_100 : decode cX2_airBy 100 = .ok (.iload_n 2, 1) := by decide +kernel
theorem dX2_airBy_101 : decode cX2_airBy 101 = .ok (.aload_n 0, 1) := by decide +kernel
theorem dX2_airBy_102 : decode cX2_airBy 102 = .ok (.getfield 46, 3) := by decide +kernel
theorem dX2_airBy_105 : decode cX2_airBy 105 = .ok (.invokevirtual 123, 3) := by decide +kernel
theorem dX2_airBy_108 : decode cX2_airBy 108 = .ok (.invokestatic 114, 3) := by decide +kernel
theorem dX2_airBy_111 : decode cX2_airBy 111 = .ok (.ior, 1) := by decide +kernel
theorem dX2_airBy_112 : decode cX2_airBy 112 = .ok (.iastore, 1) := by decide +kernel
theorem dX2_airBy_113 : decode cX2_airBy 113 = .ok (.aload_n 3, 1) := by decide +kernel
theorem dX2_airBy_114 : decode cX2_airBy 114 = .ok (.getfield 120, 3) := by decide +kernel
theorem dX2_airBy_117 : decode cX2_airBy 117 = .ok (.iload 4, 2) := by decide +kernel
theorem dX2_airBy_119 : decode cX2_airBy 119 = .ok (.iaload, 1) := by decide +kernel
theorem dX2_airBy_120 : decode cX2_airBy 120 = .ok (.bipush 127, 2) := by decide +kernel
theorem dX2_airBy_122 : decode cX2_airBy 122 = .ok (.iand, 1) := by decide +kernel
theorem dX2_airBy_123 : decode cX2_airBy 123 = .ok (.ireturn, 1) := by decide +kernel
theorem dX2_heldAir_0 : decode cX2_heldAir 0 = .ok (.iconst 0, 1) := by decide +kernel
theorem dX2_heldAir_1 : decode cX2_heldAir 1 = .ok (.bipush 99, 2) := by decide +kernel
theorem dX2_heldAir_3 : decode cX2_heldAir 3 = .ok (.iload_n 0, 1) := by decide +kernel
theorem dX2_heldAir_4 : decode cX2_heldAir 4 = .ok (.invokestatic 95, 3) := by decide +kernel
theorem dX2_heldAir_7 : decode cX2_heldAir 7 = .ok (.invokestatic 130, 3) := by decide +kernel
theorem dX2_heldAir_10 : decode cX2_heldAir 10 = .ok (.ireturn, 1) := by decide +kernel
theorem dX2_memoPlace_0 : decode cX2_memoPlace 0 = .ok (.iload_n 0, 1) := by decide +kernel
theorem dX2_memoPlace_1 : decode cX2_memoPlace 1 = .ok (.ifCond .lt 15, 3) := by decide +kernel
theorem dX2_memoPlace_4 : decode cX2_memoPlace 4 = .ok (.iload_n 1, 1) := by decide +kernel
theorem dX2_memoPlace_5 : decode cX2_memoPlace 5 = .ok (.ifCond .lt 11, 3) := by decide +kernel
theorem dX2_memoPlace_8 : decode cX2_memoPlace 8 = .ok (.iload_n 0, 1) := by decide +kernel
theorem dX2_memoPlace_9 : decode cX2_memoPlace 9 = .ok (.iload_n 1, 1) := by decide +kernel
theorem dX2_memoPlace_10 : decode cX2_memoPlace 10 = .ok (.iadd, 1) := by decide +kernel
theorem dX2_memoPlace_11 : decode cX2_memoPlace 11 = .ok (.bipush 72, 2) := by decide +kernel
theorem dX2_memoPlace_13 : decode cX2_memoPlace 13 = .ok (.if_icmp .le 5, 3) := by decide +kernel
theorem dX2_memoPlace_16 : decode cX2_memoPlace 16 = .ok (.iconst (-1), 1) := by decide +kernel
theorem dX2_memoPlace_17 : decode cX2_memoPlace 17 = .ok (.ireturn, 1) := by decide +kernel
theorem dX2_memoPlace_18 : decode cX2_memoPlace 18 = .ok (.iload_n 0, 1) := by decide +kernel
theorem dX2_memoPlace_19 : decode cX2_memoPlace 19 = .ok (.iload_n 1, 1) := by decide +kernel
theorem dX2_memoPlace_20 : decode cX2_memoPlace 20 = .ok (.iadd, 1) := by decide +kernel
theorem dX2_memoPlace_21 : decode cX2_memoPlace 21 = .ok (.iload_n 0, 1) := by decide +kernel
theorem dX2_memoPlace_22 : decode cX2_memoPlace 22 = .ok (.iload_n 1, 1) := by decide +kernel
theorem dX2_memoPlace_23 : decode cX2_memoPlace 23 = .ok (.iadd, 1) := by decide +kernel
theorem dX2_memoPlace_24 : decode cX2_memoPlace 24 = .ok (.iconst 1, 1) := by decide +kernel
theorem dX2_memoPlace_25 : decode cX2_memoPlace 25 = .ok (.iadd, 1) := by decide +kernel
theorem dX2_memoPlace_26 : decode cX2_memoPlace 26 = .ok (.imul, 1) := by decide +kernel
theorem dX2_memoPlace_27 : decode cX2_memoPlace 27 = .ok (.iconst 2, 1) := by decide +kernel
theorem dX2_memoPlace_28 : decode cX2_memoPlace 28 = .ok (.idiv, 1) := by decide +kernel
theorem dX2_memoPlace_29 : decode cX2_memoPlace 29 = .ok (.iload_n 1, 1) := by decide +kernel
theorem dX2_memoPlace_30 : decode cX2_memoPlace 30 = .ok (.iadd, 1) := by decide +kernel
theorem dX2_memoPlace_31 : decode cX2_memoPlace 31 = .ok (.ireturn, 1) := by decide +kernel
theorem dX2_lawBy_0 : decode cX2_lawBy 0 = .ok (.aload_n 0, 1) := by decide +kernel
theorem dX2_lawBy_1 : decode cX2_lawBy 1 = .ok (.getfield 78, 3) := by decide +kernel
theorem dX2_lawBy_4 : decode cX2_lawBy 4 = .ok (.iload_n 1, 1) := by decide +kernel
theorem dX2_lawBy_5 : decode cX2_lawBy 5 = .ok (.aaload, 1) := by decide +kernel
theorem dX2_lawBy_6 : decode cX2_lawBy 6 = .ok (.astore 5, 2) := by decide +kernel
theorem dX2_lawBy_8 : decode cX2_lawBy 8 = .ok (.iload_n 1, 1) := by decide +kernel
theorem dX2_lawBy_9 : decode cX2_lawBy 9 = .ok (.ifCond .ne 31, 3) := by decide +kernel
theorem dX2_lawBy_12 : decode cX2_lawBy 12 = .ok (.aload 5, 2) := by decide +kernel
theorem dX2_lawBy_14 : decode cX2_lawBy 14 = .ok (.ifnonnull 13, 3) := by decide +kernel
theorem dX2_lawBy_17 : decode cX2_lawBy 17 = .ok (.iconst 2, 1) := by decide +kernel
theorem dX2_lawBy_18 : decode cX2_lawBy 18 = .ok (.iload_n 2, 1) := by decide +kernel
theorem dX2_lawBy_19 : decode cX2_lawBy 19 = .ok (.imul, 1) := by decide +kernel
theorem dX2_lawBy_20 : decode cX2_lawBy 20 = .ok (.iload_n 3, 1) := by decide +kernel
theorem dX2_lawBy_21 : decode cX2_lawBy 21 = .ok (.iconst 2, 1) := by decide +kernel
theorem dX2_lawBy_22 : decode cX2_lawBy 22 = .ok (.idiv, 1) := by decide +kernel
theorem dX2_lawBy_23 : decode cX2_lawBy 23 = .ok (.iadd, 1) := by decide +kernel
theorem dX2_lawBy_24 : decode cX2_lawBy 24 = .ok (.goto 12, 3) := by decide +kernel
theorem dX2_lawBy_27 : decode cX2_lawBy 27 = .ok (.aload 5, 2) := by decide +kernel
theorem dX2_lawBy_29 : decode cX2_lawBy 29 = .ok (.iload_n 2, 1) := by decide +kernel
theorem dX2_lawBy_30 : decode cX2_lawBy 30 = .ok (.iload_n 3, 1) := by decide +kernel
theorem dX2_lawBy_31 : decode cX2_lawBy 31 = .ok (.iload 4, 2) := by decide +kernel
theorem dX2_lawBy_33 : decode cX2_lawBy 33 = .ok (.invokevirtual 123, 3) := by decide +kernel
theorem dX2_lawBy_36 : decode cX2_lawBy 36 = .ok (.invokestatic 114, 3) := by decide +kernel
theorem dX2_lawBy_39 : decode cX2_lawBy 39 = .ok (.ireturn, 1) := by decide +kernel
theorem dX2_lawBy_40 : decode cX2_lawBy 40 = .ok (.aload 5, 2) := by decide +kernel
theorem dX2_lawBy_42 : decode cX2_lawBy 42 = .ok (.ifnonnull 7, 3) := by decide +kernel
theorem dX2_lawBy_45 : decode cX2_lawBy 45 = .ok (.iload_n 2, 1) := by decide +kernel
theorem dX2_lawBy_46 : decode cX2_lawBy 46 = .ok (.goto 12, 3) := by decide +kernel
theorem dX2_lawBy_49 : decode cX2_lawBy 49 = .ok (.aload 5, 2) := by decide +kernel
theorem dX2_lawBy_51 : decode cX2_lawBy 51 = .ok (.iload_n 2, 1) := by decide +kernel
theorem dX2_lawBy_52 : decode cX2_lawBy 52 = .ok (.iload_n 3, 1) := by decide +kernel
theorem dX2_lawBy_53 : decode cX2_lawBy 53 = .ok (.iload 4, 2) := by decide +kernel
theorem dX2_lawBy_55 : decode cX2_lawBy 55 = .ok (.invokevirtual 123, 3) := by decide +kernel
theorem dX2_lawBy_58 : decode cX2_lawBy 58 = .ok (.istore 6, 2) := by decide +kernel
theorem dX2_lawBy_60 : decode cX2_lawBy 60 = .ok (.bipush (-99), 2) := by decide +kernel
theorem dX2_lawBy_62 : decode cX2_lawBy 62 = .ok (.bipush 99, 2) := by decide +kernel
theorem dX2_lawBy_64 : decode cX2_lawBy 64 = .ok (.iload 6, 2) := by decide +kernel
theorem dX2_lawBy_66 : decode cX2_lawBy 66 = .ok (.invokestatic 95, 3) := by decide +kernel
theorem dX2_lawBy_69 : decode cX2_lawBy 69 = .ok (.invokestatic 130, 3) := by decide +kernel
theorem dX2_lawBy_72 : decode cX2_lawBy 72 = .ok (.ireturn, 1) := by decide +kernel
theorem dX2_isContentBy_0 : decode cX2_isContentBy 0 = .ok (.aload_n 0, 1) := by decide +kernel
theorem dX2_isContentBy_1 : decode cX2_isContentBy 1 = .ok (.getfield 36, 3) := by decide +kernel
theorem dX2_isContentBy_4 : decode cX2_isContentBy 4 = .ok (.iload_n 1, 1) := by decide +kernel
theorem dX2_isContentBy_5 : decode cX2_isContentBy 5 = .ok (.aaload, 1) := by decide +kernel
theorem dX2_isContentBy_6 : decode cX2_isContentBy 6 = .ok (.astore_n 3, 1) := by decide +kernel
theorem dX2_isContentBy_7 : decode cX2_isContentBy 7 = .ok (.iload_n 2, 1) := by decide +kernel
theorem dX2_isContentBy_8 : decode cX2_isContentBy 8 = .ok (.aload_n 3, 1) := by decide +kernel
theorem dX2_isContentBy_9 : decode cX2_isContentBy 9 = .ok (.aload_n 0, 1) := by decide +kernel
theorem dX2_isContentBy_10 : decode cX2_isContentBy 10 = .ok (.getfield 40, 3) := by decide +kernel
theorem dX2_isContentBy_13 : decode cX2_isContentBy 13 = .ok (.iload_n 1, 1) := by decide +kernel
theorem dX2_isContentBy_14 : decode cX2_isContentBy 14 = .ok (.iaload, 1) := by decide +kernel
theorem dX2_isContentBy_15 : decode cX2_isContentBy 15 = .ok (.invokevirtual 133, 3) := by decide +kernel
theorem dX2_isContentBy_18 : decode cX2_isContentBy 18 = .ok (.if_icmp .lt 21, 3) := by decide +kernel
theorem dX2_isContentBy_21 : decode cX2_isContentBy 21 = .ok (.iload_n 2, 1) := by decide +kernel
theorem dX2_isContentBy_22 : decode cX2_isContentBy 22 = .ok (.aload_n 3, 1) := by decide +kernel
theorem dX2_isContentBy_23 : decode cX2_isContentBy 23 = .ok (.aload_n 0, 1) := by decide +kernel
theorem dX2_isContentBy_24 : decode cX2_isContentBy 24 = .ok (.getfield 40, 3) := by decide +kernel
theorem dX2_isContentBy_27 : decode cX2_isContentBy 27 = .ok (.iload_n 1, 1) := by decide +kernel
theorem dX2_isContentBy_28 : decode cX2_isContentBy 28 = .ok (.iaload, 1) := by decide +kernel
theorem dX2_isContentBy_29 : decode cX2_isContentBy 29 = .ok (.invokevirtual 136, 3) := by decide +kernel
theorem dX2_isContentBy_32 : decode cX2_isContentBy 32 = .ok (.if_icmp .gt 7, 3) := by decide +kernel
theorem dX2_isContentBy_35 : decode cX2_isContentBy 35 = .ok (.iconst 1, 1) := by decide +kernel
theorem dX2_isContentBy_36 : decode cX2_isContentBy 36 = .ok (.goto 4, 3) := by decide +kernel
theorem dX2_isContentBy_39 : decode cX2_isContentBy 39 = .ok (.iconst 0, 1) := by decide +kernel
theorem dX2_isContentBy_40 : decode cX2_isContentBy 40 = .ok (.istore 4, 2) := by decide +kernel
theorem dX2_isContentBy_42 : decode cX2_isContentBy 42 = .ok (.aload_n 3, 1) := by decide +kernel
theorem dX2_isContentBy_43 : decode cX2_isContentBy 43 = .ok (.iload 4, 2) := by decide +kernel
theorem dX2_isContentBy_45 : decode cX2_isContentBy 45 = .ok (.aload_n 0, 1) := by decide +kernel
theorem dX2_isContentBy_46 : decode cX2_isContentBy 46 = .ok (.getfield 46, 3) := by decide +kernel
theorem dX2_isContentBy_49 : decode cX2_isContentBy 49 = .ok (.invokevirtual 139, 3) := by decide +kernel
theorem dX2_isContentBy_52 : decode cX2_isContentBy 52 = .ok (.ireturn, 1) := by decide +kernel
theorem dX2_isContent_0 : decode cX2_isContent 0 = .ok (.aload_n 0, 1) := by decide +kernel
theorem dX2_isContent_1 : decode cX2_isContent 1 = .ok (.aload_n 0, 1) := by decide +kernel
theorem dX2_isContent_2 : decode cX2_isContent 2 = .ok (.aload_n 0, 1) := by decide +kernel
theorem dX2_isContent_3 : decode cX2_isContent 3 = .ok (.getfield 43, 3) := by decide +kernel
theorem dX2_isContent_6 : decode cX2_isContent 6 = .ok (.iload_n 1, 1) := by decide +kernel
theorem dX2_isContent_7 : decode cX2_isContent 7 = .ok (.iaload, 1) := by decide +kernel
theorem dX2_isContent_8 : decode cX2_isContent 8 = .ok (.invokevirtual 104, 3) := by decide +kernel
theorem dX2_isContent_11 : decode cX2_isContent 11 = .ok (.aload_n 0, 1) := by decide +kernel
theorem dX2_isContent_12 : decode cX2_isContent 12 = .ok (.aload_n 0, 1) := by decide +kernel
theorem dX2_isContent_13 : decode cX2_isContent 13 = .ok (.getfield 43, 3) := by decide +kernel
theorem dX2_isContent_16 : decode cX2_isContent 16 = .ok (.iload_n 1, 1) := by decide +kernel
theorem dX2_isContent_17 : decode cX2_isContent 17 = .ok (.iaload, 1) := by decide +kernel
theorem dX2_isContent_18 : decode cX2_isContent 18 = .ok (.invokevirtual 108, 3) := by decide +kernel
theorem dX2_isContent_21 : decode cX2_isContent 21 = .ok (.invokevirtual 111, 3) := by decide +kernel
theorem dX2_isContent_24 : decode cX2_isContent 24 = .ok (.istore_n 2, 1) := by decide +kernel
theorem dX2_isContent_25 : decode cX2_isContent 25 = .ok (.aload_n 0, 1) := by decide +kernel
theorem dX2_isContent_26 : decode cX2_isContent 26 = .ok (.iload_n 1, 1) := by decide +kernel
theorem dX2_isContent_27 : decode cX2_isContent 27 = .ok (.iload_n 2, 1) := by decide +kernel
theorem dX2_isContent_28 : decode cX2_isContent 28 = .ok (.invokevirtual 143, 3) := by decide +kernel
theorem dX2_isContent_31 : decode cX2_isContent 31 = .ok (.ireturn, 1) := by decide +kernel
theorem dX2_contentSet_0 : decode cX2_contentSet 0 = .ok (.iconst 0, 1) := by decide +kernel
theorem dX2_contentSet_1 : decode cX2_contentSet 1 = .ok (.istore_n 1, 1) := by decide +kernel
theorem dX2_contentSet_2 : decode cX2_contentSet 2 = .ok (.iconst 0, 1) := by decide +kernel
theorem dX2_contentSet_3 : decode cX2_contentSet 3 = .ok (.istore_n 2, 1) := by decide +kernel
theorem dX2_contentSet_4 : decode cX2_contentSet 4 = .ok (.iload_n 2, 1) := by decide +kernel
theorem dX2_contentSet_5 : decode cX2_contentSet 5 = .ok (.aload_n 0, 1) := by decide +kernel
theorem dX2_contentSet_6 : decode cX2_contentSet 6 = .ok (.getfield 18, 3) := by decide +kernel
theorem dX2_contentSet_9 : decode cX2_contentSet 9 = .ok (.if_icmp .ge 23, 3) := by decide +kernel
theorem dX2_contentSet_12 : decode cX2_contentSet 12 = .ok (.aload_n 0, 1) := by decide +kernel
theorem dX2_contentSet_13 : decode cX2_contentSet 13 = .ok (.iload_n 2, 1) := by decide +kernel
theorem dX2_contentSet_14 : decode cX2_contentSet 14 = .ok (.invokevirtual 147, 3) := by decide +kernel
theorem dX2_contentSet_17 : decode cX2_contentSet 17 = .ok (.ifCond .eq 9, 3) := by decide +kernel
theorem dX2_contentSet_20 : decode cX2_contentSet 20 = .ok (.iload_n 1, 1) := by decide +kernel
theorem dX2_contentSet_21 : decode cX2_contentSet 21 = .ok (.iconst 1, 1) := by decide +kernel
theorem dX2_contentSet_22 : decode cX2_contentSet 22 = .ok (.iload_n 2, 1) := by decide +kernel
theorem dX2_contentSet_23 : decode cX2_contentSet 23 = .ok (.ishl, 1) := by decide +kernel
theorem dX2_contentSet_24 : decode cX2_contentSet 24 = .ok (.ior, 1) := by decide +kernel
theorem dX2_contentSet_25 : decode cX2_contentSet 25 = .ok (.istore_n 1, 1) := by decide +kernel
theorem dX2_contentSet_26 : decode cX2_contentSet 26 = .ok (.iinc 2 1, 3) := by decide +kernel
theorem dX2_contentSet_29 : decode cX2_contentSet 29 = .ok (.goto (-25), 3) := by decide +kernel
theorem dX2_contentSet_32 : decode cX2_contentSet 32 = .ok (.iload_n 1, 1) := by decide +kernel
theorem dX2_contentSet_33 : decode cX2_contentSet 33 = .ok (.ireturn, 1) := by decide +kernel
theorem dX2_farFromWanted_0 : decode cX2_farFromWanted 0 = .ok (.aload_n 0, 1) := by decide +kernel
theorem dX2_farFromWanted_1 : decode cX2_farFromWanted 1 = .ok (.getfield 36, 3) := by decide +kernel
theorem dX2_farFromWanted_4 : decode cX2_farFromWanted 4 = .ok (.iload_n 1, 1) := by decide +kernel
theorem dX2_farFromWanted_5 : decode cX2_farFromWanted 5 = .ok (.aaload, 1) := by decide +kernel
theorem dX2_farFromWanted_6 : decode cX2_farFromWanted 6 = .ok (.aload_n 0, 1) := by decide +kernel
theorem dX2_farFromWanted_7 : decode cX2_farFromWanted 7 = .ok (.getfield 40, 3) := by decide +kernel
theorem dX2_farFromWanted_10 : decode cX2_farFromWanted 10 = .ok (.iload_n 1, 1) := by decide +kernel
theorem dX2_farFromWanted_11 : decode cX2_farFromWanted 11 = .ok (.iaload, 1) := by decide +kernel
theorem dX2_farFromWanted_12 : decode cX2_farFromWanted 12 = .ok (.invokevirtual 133, 3) := by decide +kernel
theorem dX2_farFromWanted_15 : decode cX2_farFromWanted 15 = .ok (.iload_n 2, 1) := by decide +kernel
theorem dX2_farFromWanted_16 : decode cX2_farFromWanted 16 = .ok (.isub, 1) := by decide +kernel
theorem dX2_farFromWanted_17 : decode cX2_farFromWanted 17 = .ok (.istore_n 3, 1) := by decide +kernel
theorem dX2_farFromWanted_18 : decode cX2_farFromWanted 18 = .ok (.iload_n 2, 1) := by decide +kernel
theorem dX2_farFromWanted_19 : decode cX2_farFromWanted 19 = .ok (.aload_n 0, 1) := by decide +kernel
theorem dX2_farFromWanted_20 : decode cX2_farFromWanted 20 = .ok (.getfield 36, 3) := by decide +kernel
theorem dX2_farFromWanted_23 : decode cX2_farFromWanted 23 = .ok (.iload_n 1, 1) := by decide +kernel
theorem dX2_farFromWanted_24 : decode cX2_farFromWanted 24 = .ok (.aaload, 1) := by decide +kernel
theorem dX2_farFromWanted_25 : decode cX2_farFromWanted 25 = .ok (.aload_n 0, 1) := by decide +kernel
theorem dX2_farFromWanted_26 : decode cX2_farFromWanted 26 = .ok (.getfield 40, 3) := by decide +kernel
theorem dX2_farFromWanted_29 : decode cX2_farFromWanted 29 = .ok (.iload_n 1, 1) := by decide +kernel
theorem dX2_farFromWanted_30 : decode cX2_farFromWanted 30 = .ok (.iaload, 1) := by decide +kernel
theorem dX2_farFromWanted_31 : decode cX2_farFromWanted 31 = .ok (.invokevirtual 136, 3) := by decide +kernel
theorem dX2_farFromWanted_34 : decode cX2_farFromWanted 34 = .ok (.isub, 1) := by decide +kernel
theorem dX2_farFromWanted_35 : decode cX2_farFromWanted 35 = .ok (.istore 4, 2) := by decide +kernel
theorem dX2_farFromWanted_37 : decode cX2_farFromWanted 37 = .ok (.iconst 0, 1) := by decide +kernel
theorem dX2_farFromWanted_38 : decode cX2_farFromWanted 38 = .ok (.iload_n 3, 1) := by decide +kernel
theorem dX2_farFromWanted_39 : decode cX2_farFromWanted 39 = .ok (.iload 4, 2) := by decide +kernel
theorem dX2_farFromWanted_41 : decode cX2_farFromWanted 41 = .ok (.invokestatic 130, 3) := by decide +kernel
theorem dX2_farFromWanted_44 : decode cX2_farFromWanted 44 = .ok (.invokestatic 130, 3) := by decide +kernel
theorem dX2_farFromWanted_47 : decode cX2_farFromWanted 47 = .ok (.ireturn, 1) := by decide +kernel
theorem dX2_turnOf_0 : decode cX2_turnOf 0 = .ok (.aload_n 0, 1) := by decide +kernel
theorem dX2_turnOf_1 : decode cX2_turnOf 1 = .ok (.invokevirtual 151, 3) := by decide +kernel
theorem dX2_turnOf_4 : decode cX2_turnOf 4 = .ok (.ifCond .ne 11, 3) := by decide +kernel
theorem dX2_turnOf_7 : decode cX2_turnOf 7 = .ok (.aload_n 0, 1) := by decide +kernel
theorem dX2_turnOf_8 : decode cX2_turnOf 8 = .ok (.iload_n 1, 1) := by decide +kernel
theorem dX2_turnOf_9 : decode cX2_turnOf 9 = .ok (.invokevirtual 147, 3) := by decide +kernel
theorem dX2_turnOf_12 : decode cX2_turnOf 12 = .ok (.ifCond .eq 5, 3) := by decide +kernel
theorem dX2_turnOf_15 : decode cX2_turnOf 15 = .ok (.iconst 0, 1) := by decide +kernel
theorem dX2_turnOf_16 : decode cX2_turnOf 16 = .ok (.ireturn, 1) := by decide +kernel
theorem dX2_turnOf_17 : decode cX2_turnOf 17 = .ok (.aload_n 0, 1) := by decide +kernel
theorem dX2_turnOf_18 : decode cX2_turnOf 18 = .ok (.getfield 36, 3) := by decide +kernel
theorem dX2_turnOf_21 : decode cX2_turnOf 21 = .ok (.iload_n 1, 1) := by decide +kernel
theorem dX2_turnOf_22 : decode cX2_turnOf 22 = .ok (.aaload, 1) := by decide +kernel
theorem dX2_turnOf_23 : decode cX2_turnOf 23 = .ok (.invokevirtual 155, 3) := by decide +kernel
theorem dX2_turnOf_26 : decode cX2_turnOf 26 = .ok (.istore_n 2, 1) := by decide +kernel
theorem dX2_turnOf_27 : decode cX2_turnOf 27 = .ok (.iconst 0, 1) := by decide +kernel
theorem dX2_turnOf_28 : decode cX2_turnOf 28 = .ok (.istore_n 3, 1) := by decide +kernel
theorem dX2_turnOf_29 : decode cX2_turnOf 29 = .ok (.iload_n 3, 1) := by decide +kernel
theorem dX2_turnOf_30 : decode cX2_turnOf 30 = .ok (.iload_n 2, 1) := by decide +kernel
theorem dX2_turnOf_31 : decode cX2_turnOf 31 = .ok (.if_icmp .ge 47, 3) := by decide +kernel
theorem dX2_turnOf_34 : decode cX2_turnOf 34 = .ok (.aload_n 0, 1) := by decide +kernel
theorem dX2_turnOf_35 : decode cX2_turnOf 35 = .ok (.iload_n 1, 1) := by decide +kernel
theorem dX2_turnOf_36 : decode cX2_turnOf 36 = .ok (.invokevirtual 159, 3) := by decide +kernel
theorem dX2_turnOf_39 : decode cX2_turnOf 39 = .ok (.istore 4, 2) := by decide +kernel
theorem dX2_turnOf_41 : decode cX2_turnOf 41 = .ok (.iload 4, 2) := by decide +kernel
theorem dX2_turnOf_43 : decode cX2_turnOf 43 = .ok (.ifCond .ge 5, 3) := by decide +kernel
theorem dX2_turnOf_46 : decode cX2_turnOf 46 = .ok (.iload_n 3, 1) := by decide +kernel
theorem dX2_turnOf_47 : decode cX2_turnOf 47 = .ok (.ireturn, 1) := by decide +kernel
theorem dX2_turnOf_48 : decode cX2_turnOf 48 = .ok (.aload_n 0, 1) := by decide +kernel
theorem dX2_turnOf_49 : decode cX2_turnOf 49 = .ok (.iload 4, 2) := by decide +kernel
theorem dX2_turnOf_51 : decode cX2_turnOf 51 = .ok (.bipush 8, 2) := by decide +kernel
theorem dX2_turnOf_53 : decode cX2_turnOf 53 = .ok (.idiv, 1) := by decide +kernel
theorem dX2_turnOf_54 : decode cX2_turnOf 54 = .ok (.iload 4, 2) := by decide +kernel
theorem dX2_turnOf_56 : decode cX2_turnOf 56 = .ok (.bipush 8, 2) := by decide +kernel
theorem dX2_turnOf_58 : decode cX2_turnOf 58 = .ok (.irem, 1) := by decide +kernel
theorem dX2_turnOf_59 : decode cX2_turnOf 59 = .ok (.invokevirtual 162, 3) := by decide +kernel
theorem dX2_turnOf_62 : decode cX2_turnOf 62 = .ok (.iinc 3 1, 3) := by decide +kernel
theorem dX2_turnOf_65 : decode cX2_turnOf 65 = .ok (.aload_n 0, 1) := by decide +kernel
theorem dX2_turnOf_66 : decode cX2_turnOf 66 = .ok (.iload_n 1, 1) := by decide +kernel
theorem dX2_turnOf_67 : decode cX2_turnOf 67 = .ok (.invokevirtual 147, 3) := by decide +kernel
theorem dX2_turnOf_70 : decode cX2_turnOf 70 = .ok (.ifCond .eq 5, 3) := by decide +kernel
theorem dX2_turnOf_73 : decode cX2_turnOf 73 = .ok (.iload_n 3, 1) := by decide +kernel
theorem dX2_turnOf_74 : decode cX2_turnOf 74 = .ok (.ireturn, 1) := by decide +kernel
theorem dX2_turnOf_75 : decode cX2_turnOf 75 = .ok (.goto (-46), 3) := by decide +kernel
theorem dX2_turnOf_78 : decode cX2_turnOf 78 = .ok (.iload_n 3, 1) := by decide +kernel
theorem dX2_turnOf_79 : decode cX2_turnOf 79 = .ok (.ireturn, 1) := by decide +kernel
theorem dX2_pairToPull_0 : decode cX2_pairToPull 0 = .ok (.aload_n 0, 1) := by decide +kernel
theorem dX2_pairToPull_1 : decode cX2_pairToPull 1 = .ok (.aload_n 0, 1) := by decide +kernel
theorem dX2_pairToPull_2 : decode cX2_pairToPull 2 = .ok (.getfield 43, 3) := by decide +kernel
theorem dX2_pairToPull_5 : decode cX2_pairToPull 5 = .ok (.iload_n 1, 1) := by decide +kernel
theorem dX2_pairToPull_6 : decode cX2_pairToPull 6 = .ok (.iaload, 1) := by decide +kernel
theorem dX2_pairToPull_7 : decode cX2_pairToPull 7 = .ok (.invokevirtual 104, 3) := by decide +kernel
theorem dX2_pairToPull_10 : decode cX2_pairToPull 10 = .ok (.istore_n 2, 1) := by decide +kernel
theorem dX2_pairToPull_11 : decode cX2_pairToPull 11 = .ok (.aload_n 0, 1) := by decide +kernel
theorem dX2_pairToPull_12 : decode cX2_pairToPull 12 = .ok (.aload_n 0, 1) := by decide +kernel
theorem dX2_pairToPull_13 : decode cX2_pairToPull 13 = .ok (.getfield 43, 3) := by decide +kernel
theorem dX2_pairToPull_16 : decode cX2_pairToPull 16 = .ok (.iload_n 1, 1) := by decide +kernel
theorem dX2_pairToPull_17 : decode cX2_pairToPull 17 = .ok (.iaload, 1) := by decide +kernel
theorem dX2_pairToPull_18 : decode cX2_pairToPull 18 = .ok (.invokevirtual 108, 3) := by decide +kernel
theorem dX2_pairToPull_21 : decode cX2_pairToPull 21 = .ok (.istore_n 3, 1) := by decide +kernel
theorem dX2_pairToPull_22 : decode cX2_pairToPull 22 = .ok (.aload_n 0, 1) := by decide +kernel
theorem dX2_pairToPull_23 : decode cX2_pairToPull 23 = .ok (.iload_n 1, 1) := by decide +kernel
theorem dX2_pairToPull_24 : decode cX2_pairToPull 24 = .ok (.aload_n 0, 1) := by decide +kernel
theorem dX2_pairToPull_25 : decode cX2_pairToPull 25 = .ok (.iload_n 2, 1) := by decide +kernel
theorem dX2_pairToPull_26 : decode cX2_pairToPull 26 = .ok (.iload_n 3, 1) := by decide +kernel
theorem dX2_pairToPull_27 : decode cX2_pairToPull 27 = .ok (.invokevirtual 111, 3) := by decide +kernel
theorem dX2_pairToPull_30 : decode cX2_pairToPull 30 = .ok (.invokevirtual 166, 3) := by decide +kernel
theorem dX2_pairToPull_33 : decode cX2_pairToPull 33 = .ok (.istore 4, 2) := by decide +kernel
theorem dX2_pairToPull_35 : decode cX2_pairToPull 35 = .ok (.iconst (-1), 1) := by decide +kernel
theorem dX2_pairToPull_36 : decode cX2_pairToPull 36 = .ok (.istore 5, 2) := by decide +kernel
theorem dX2_pairToPull_38 : decode cX2_pairToPull 38 = .ok (.iconst 0, 1) := by decide +kernel
theorem dX2_pairToPull_39 : decode cX2_pairToPull 39 = .ok (.istore 6, 2) := by decide +kernel
theorem dX2_pairToPull_41 : decode cX2_pairToPull 41 = .ok (.iload 6, 2) := by decide +kernel
theorem dX2_pairToPull_43 : decode cX2_pairToPull 43 = .ok (.aload_n 0, 1) := by decide +kernel
theorem dX2_pairToPull_44 : decode cX2_pairToPull 44 = .ok (.getfield 9, 3) := by decide +kernel
theorem dX2_pairToPull_47 : decode cX2_pairToPull 47 = .ok (.if_icmp .ge 209, 3) := by decide +kernel
theorem dX2_pairToPull_50 : decode cX2_pairToPull 50 = .ok (.aload_n 0, 1) := by decide +kernel
theorem dX2_pairToPull_51 : decode cX2_pairToPull 51 = .ok (.getfield 21, 3) := by decide +kernel
theorem dX2_pairToPull_54 : decode cX2_pairToPull 54 = .ok (.iload 6, 2) := by decide +kernel
theorem dX2_pairToPull_56 : decode cX2_pairToPull 56 = .ok (.iaload, 1) := by decide +kernel
theorem dX2_pairToPull_57 : decode cX2_pairToPull 57 = .ok (.aload_n 0, 1) := by decide +kernel
theorem dX2_pairToPull_58 : decode cX2_pairToPull 58 = .ok (.getfield 43, 3) := by decide +kernel
theorem dX2_pairToPull_61 : decode cX2_pairToPull 61 = .ok (.iload_n 1, 1) := by decide +kernel
theorem dX2_pairToPull_62 : decode cX2_pairToPull 62 = .ok (.iaload, 1) := by decide +kernel
theorem dX2_pairToPull_63 : decode cX2_pairToPull 63 = .ok (.isub, 1) := by decide +kernel
theorem dX2_pairToPull_64 : decode cX2_pairToPull 64 = .ok (.invokestatic 169, 3) := by decide +kernel
theorem dX2_pairToPull_67 : decode cX2_pairToPull 67 = .ok (.istore 7, 2) := by decide +kernel
theorem dX2_pairToPull_69 : decode cX2_pairToPull 69 = .ok (.iconst 0, 1) := by decide +kernel
theorem dX2_pairToPull_70 : decode cX2_pairToPull 70 = .ok (.istore 8, 2) := by decide +kernel
theorem dX2_pairToPull_72 : decode cX2_pairToPull 72 = .ok (.iload 8, 2) := by decide +kernel
theorem dX2_pairToPull_74 : decode cX2_pairToPull 74 = .ok (.aload_n 0, 1) := by decide +kernel
theorem dX2_pairToPull_75 : decode cX2_pairToPull 75 = .ok (.getfield 9, 3) := by decide +kernel
theorem dX2_pairToPull_78 : decode cX2_pairToPull 78 = .ok (.if_icmp .ge 172, 3) := by decide +kernel
theorem dX2_pairToPull_81 : decode cX2_pairToPull 81 = .ok (.aload_n 0, 1) := by decide +kernel
theorem dX2_pairToPull_82 : decode cX2_pairToPull 82 = .ok (.getfield 21, 3) := by decide +kernel
theorem dX2_pairToPull_85 : decode cX2_pairToPull 85 = .ok (.iload 8, 2) := by decide +kernel
theorem dX2_pairToPull_87 : decode cX2_pairToPull 87 = .ok (.iaload, 1) := by decide +kernel
theorem dX2_pairToPull_88 : decode cX2_pairToPull 88 = .ok (.aload_n 0, 1) := by decide +kernel
theorem dX2_pairToPull_89 : decode cX2_pairToPull 89 = .ok (.getfield 43, 3) := by decide +kernel
theorem dX2_pairToPull_92 : decode cX2_pairToPull 92 = .ok (.iload_n 1, 1) := by decide +kernel
theorem dX2_pairToPull_93 : decode cX2_pairToPull 93 = .ok (.iaload, 1) := by decide +kernel
theorem dX2_pairToPull_94 : decode cX2_pairToPull 94 = .ok (.isub, 1) := by decide +kernel
theorem dX2_pairToPull_95 : decode cX2_pairToPull 95 = .ok (.invokestatic 169, 3) := by decide +kernel
theorem dX2_pairToPull_98 : decode cX2_pairToPull 98 = .ok (.istore 9, 2) := by decide +kernel
theorem dX2_pairToPull_100 : decode cX2_pairToPull 100 = .ok (.iload 7, 2) := by decide +kernel
theorem dX2_pairToPull_102 : decode cX2_pairToPull 102 = .ok (.ifCond .eq 8, 3) := by decide +kernel
theorem dX2_pairToPull_105 : decode cX2_pairToPull 105 = .ok (.iload 9, 2) := by decide +kernel
theorem dX2_pairToPull_107 : decode cX2_pairToPull 107 = .ok (.ifCond .ne 137, 3) := by decide +kernel
theorem dX2_pairToPull_110 : decode cX2_pairToPull 110 = .ok (.aload_n 0, 1) := by decide +kernel
theorem dX2_pairToPull_111 : decode cX2_pairToPull 111 = .ok (.iload 6, 2) := by decide +kernel
theorem dX2_pairToPull_113 : decode cX2_pairToPull 113 = .ok (.iload 8, 2) := by decide +kernel
theorem dX2_pairToPull_115 : decode cX2_pairToPull 115 = .ok (.invokevirtual 172, 3) := by decide +kernel
theorem dX2_pairToPull_118 : decode cX2_pairToPull 118 = .ok (.ifCond .ne 6, 3) := by decide +kernel
theorem dX2_pairToPull_121 : decode cX2_pairToPull 121 = .ok (.goto 123, 3) := by decide +kernel
theorem dX2_pairToPull_124 : decode cX2_pairToPull 124 = .ok (.iload 7, 2) := by decide +kernel
theorem dX2_pairToPull_126 : decode cX2_pairToPull 126 = .ok (.ifCond .ne 7, 3) := by decide +kernel
theorem dX2_pairToPull_129 : decode cX2_pairToPull 129 = .ok (.iconst 1, 1) := by decide +kernel
theorem dX2_pairToPull_130 : decode cX2_pairToPull 130 = .ok (.goto 4, 3) := by decide +kernel
theorem dX2_pairToPull_133 : decode cX2_pairToPull 133 = .ok (.iconst 0, 1) := by decide +kernel
theorem dX2_pairToPull_134 : decode cX2_pairToPull 134 = .ok (.invokestatic 175, 3) := by decide +kernel
theorem dX2_pairToPull_137 : decode cX2_pairToPull 137 = .ok (.iload 9, 2) := by decide +kernel
theorem dX2_pairToPull_139 : decode cX2_pairToPull 139 = .ok (.ifCond .ne 7, 3) := by decide +kernel
theorem dX2_pairToPull_142 : decode cX2_pairToPull 142 = .ok (.iconst 1, 1) := by decide +kernel
theorem dX2_pairToPull_143 : decode cX2_pairToPull 143 = .ok (.goto 4, 3) := by decide +kernel
theorem dX2_pairToPull_146 : decode cX2_pairToPull 146 = .ok (.iconst 0, 1) := by decide +kernel
theorem dX2_pairToPull_147 : decode cX2_pairToPull 147 = .ok (.invokestatic 175, 3) := by decide +kernel
theorem dX2_pairToPull_150 : decode cX2_pairToPull 150 = .ok (.isub, 1) := by decide +kernel
theorem dX2_pairToPull_151 : decode cX2_pairToPull 151 = .ok (.istore 10, 2) := by decide +kernel
theorem dX2_pairToPull_153 : decode cX2_pairToPull 153 = .ok (.iload 7, 2) := by decide +kernel
theorem dX2_pairToPull_155 : decode cX2_pairToPull 155 = .ok (.iconst 1, 1) := by decide +kernel
theorem dX2_pairToPull_156 : decode cX2_pairToPull 156 = .ok (.if_icmp .ne 7, 3) := by decide +kernel
theorem dX2_pairToPull_159 : decode cX2_pairToPull 159 = .ok (.iconst 1, 1) := by decide +kernel
theorem dX2_pairToPull_160 : decode cX2_pairToPull 160 = .ok (.goto 4, 3) := by decide +kernel
theorem dX2_pairToPull_163 : decode cX2_pairToPull 163 = .ok (.iconst 0, 1) := by decide +kernel
theorem dX2_pairToPull_164 : decode cX2_pairToPull 164 = .ok (.invokestatic 175, 3) := by decide +kernel
theorem dX2_pairToPull_167 : decode cX2_pairToPull 167 = .ok (.iload 9, 2) := by decide +kernel
theorem dX2_pairToPull_169 : decode cX2_pairToPull 169 = .ok (.iconst 1, 1) := by decide +kernel
theorem dX2_pairToPull_170 : decode cX2_pairToPull 170 = .ok (.if_icmp .ne 7, 3) := by decide +kernel
theorem dX2_pairToPull_173 : decode cX2_pairToPull 173 = .ok (.iconst 1, 1) := by decide +kernel
theorem dX2_pairToPull_174 : decode cX2_pairToPull 174 = .ok (.goto 4, 3) := by decide +kernel
theorem dX2_pairToPull_177 : decode cX2_pairToPull 177 = .ok (.iconst 0, 1) := by decide +kernel
theorem dX2_pairToPull_178 : decode cX2_pairToPull 178 = .ok (.invokestatic 175, 3) := by decide +kernel
theorem dX2_pairToPull_181 : decode cX2_pairToPull 181 = .ok (.isub, 1) := by decide +kernel
theorem dX2_pairToPull_182 : decode cX2_pairToPull 182 = .ok (.istore 11, 2) := by decide +kernel
theorem dX2_pairToPull_184 : decode cX2_pairToPull 184 = .ok (.aload_n 0, 1) := by decide +kernel
theorem dX2_pairToPull_185 : decode cX2_pairToPull 185 = .ok (.iload_n 2, 1) := by decide +kernel
theorem dX2_pairToPull_186 : decode cX2_pairToPull 186 = .ok (.iload 10, 2) := by decide +kernel
theorem dX2_pairToPull_188 : decode cX2_pairToPull 188 = .ok (.iadd, 1) := by decide +kernel
theorem dX2_pairToPull_189 : decode cX2_pairToPull 189 = .ok (.iload_n 3, 1) := by decide +kernel
theorem dX2_pairToPull_190 : decode cX2_pairToPull 190 = .ok (.iload 11, 2) := by decide +kernel
theorem dX2_pairToPull_192 : decode cX2_pairToPull 192 = .ok (.iadd, 1) := by decide +kernel
theorem dX2_pairToPull_193 : decode cX2_pairToPull 193 = .ok (.invokevirtual 111, 3) := by decide +kernel
theorem dX2_pairToPull_196 : decode cX2_pairToPull 196 = .ok (.istore 12, 2) := by decide +kernel
theorem dX2_pairToPull_198 : decode cX2_pairToPull 198 = .ok (.aload_n 0, 1) := by decide +kernel
theorem dX2_pairToPull_199 : decode cX2_pairToPull 199 = .ok (.iload_n 1, 1) := by decide +kernel
theorem dX2_pairToPull_200 : decode cX2_pairToPull 200 = .ok (.iload 12, 2) := by decide +kernel
theorem dX2_pairToPull_202 : decode cX2_pairToPull 202 = .ok (.invokevirtual 143, 3) := by decide +kernel
theorem dX2_pairToPull_205 : decode cX2_pairToPull 205 = .ok (.ifCond .eq 12, 3) := by decide +kernel
theorem dX2_pairToPull_208 : decode cX2_pairToPull 208 = .ok (.iload 6, 2) := by decide +kernel
theorem dX2_pairToPull_210 : decode cX2_pairToPull 210 = .ok (.bipush 8, 2) := by decide +kernel
theorem dX2_pairToPull_212 : decode cX2_pairToPull 212 = .ok (.imul, 1) := by decide +kernel
theorem dX2_pairToPull_213 : decode cX2_pairToPull 213 = .ok (.iload 8, 2) := by decide +kernel
theorem dX2_pairToPull_215 : decode cX2_pairToPull 215 = .ok (.iadd, 1) := by decide +kernel
theorem dX2_pairToPull_216 : decode cX2_pairToPull 216 = .ok (.ireturn, 1) := by decide +kernel
theorem dX2_pairToPull_217 : decode cX2_pairToPull 217 = .ok (.iload 5, 2) := by decide +kernel
theorem dX2_pairToPull_219 : decode cX2_pairToPull 219 = .ok (.ifCond .ge 25, 3) := by decide +kernel
theorem dX2_pairToPull_222 : decode cX2_pairToPull 222 = .ok (.aload_n 0, 1) := by decide +kernel
theorem dX2_pairToPull_223 : decode cX2_pairToPull 223 = .ok (.iload_n 1, 1) := by decide +kernel
theorem dX2_pairToPull_224 : decode cX2_pairToPull 224 = .ok (.iload 12, 2) := by decide +kernel
theorem dX2_pairToPull_226 : decode cX2_pairToPull 226 = .ok (.invokevirtual 166, 3) := by decide +kernel
theorem dX2_pairToPull_229 : decode cX2_pairToPull 229 = .ok (.iload 4, 2) := by decide +kernel
theorem dX2_pairToPull_231 : decode cX2_pairToPull 231 = .ok (.if_icmp .ge 13, 3) := by decide +kernel
theorem dX2_pairToPull_234 : decode cX2_pairToPull 234 = .ok (.iload 6, 2) := by decide +kernel
theorem dX2_pairToPull_236 : decode cX2_pairToPull 236 = .ok (.bipush 8, 2) := by decide +kernel
theorem dX2_pairToPull_238 : decode cX2_pairToPull 238 = .ok (.imul, 1) := by decide +kernel
theorem dX2_pairToPull_239 : decode cX2_pairToPull 239 = .ok (.iload 8, 2) := by decide +kernel
theorem dX2_pairToPull_241 : decode cX2_pairToPull 241 = .ok (.iadd, 1) := by decide +kernel
theorem dX2_pairToPull_242 : decode cX2_pairToPull 242 = .ok (.istore 5, 2) := by decide +kernel
theorem dX2_pairToPull_244 : decode cX2_pairToPull 244 = .ok (.iinc 8 1, 3) := by decide +kernel
theorem dX2_pairToPull_247 : decode cX2_pairToPull 247 = .ok (.goto (-175), 3) := by decide +kernel
theorem dX2_pairToPull_250 : decode cX2_pairToPull 250 = .ok (.iinc 6 1, 3) := by decide +kernel
theorem dX2_pairToPull_253 : decode cX2_pairToPull 253 = .ok (.goto (-212), 3) := by decide +kernel
theorem dX2_pairToPull_256 : decode cX2_pairToPull 256 = .ok (.iload 5, 2) := by decide +kernel
theorem dX2_pairToPull_258 : decode cX2_pairToPull 258 = .ok (.ireturn, 1) := by decide +kernel
theorem dX2_ofOne_0 : decode cX2_ofOne 0 = .ok (.iload_n 0, 1) := by decide +kernel
theorem dX2_ofOne_1 : decode cX2_ofOne 1 = .ok (.ifCond .eq 7, 3) := by decide +kernel
theorem dX2_ofOne_4 : decode cX2_ofOne 4 = .ok (.iconst 1, 1) := by decide +kernel
theorem dX2_ofOne_5 : decode cX2_ofOne 5 = .ok (.goto 4, 3) := by decide +kernel
theorem dX2_ofOne_8 : decode cX2_ofOne 8 = .ok (.iconst 0, 1) := by decide +kernel
theorem dX2_ofOne_9 : decode cX2_ofOne 9 = .ok (.ireturn, 1) := by decide +kernel
theorem dX2_turnOfAll_0 : decode cX2_turnOfAll 0 = .ok (.iconst 0, 1) := by decide +kernel
theorem dX2_turnOfAll_1 : decode cX2_turnOfAll 1 = .ok (.istore_n 1, 1) := by decide +kernel
theorem dX2_turnOfAll_2 : decode cX2_turnOfAll 2 = .ok (.iconst 0, 1) := by decide +kernel
theorem dX2_turnOfAll_3 : decode cX2_turnOfAll 3 = .ok (.istore_n 2, 1) := by decide +kernel
theorem dX2_turnOfAll_4 : decode cX2_turnOfAll 4 = .ok (.iload_n 2, 1) := by decide +kernel
theorem dX2_turnOfAll_5 : decode cX2_turnOfAll 5 = .ok (.aload_n 0, 1) := by decide +kernel
theorem dX2_turnOfAll_6 : decode cX2_turnOfAll 6 = .ok (.getfield 18, 3) := by decide +kernel
theorem dX2_turnOfAll_9 : decode cX2_turnOfAll 9 = .ok (.if_icmp .ge 17, 3) := by decide +kernel
theorem dX2_turnOfAll_12 : decode cX2_turnOfAll 12 = .ok (.iload_n 1, 1) := by decide +kernel
theorem dX2_turnOfAll_13 : decode cX2_turnOfAll 13 = .ok (.aload_n 0, 1) := by decide +kernel
theorem dX2_turnOfAll_14 : decode cX2_turnOfAll 14 = .ok (.iload_n 2, 1) := by decide +kernel
theorem dX2_turnOfAll_15 : decode cX2_turnOfAll 15 = .ok (.invokevirtual 179, 3) := by decide +kernel
theorem dX2_turnOfAll_18 : decode cX2_turnOfAll 18 = .ok (.iadd, 1) := by decide +kernel
theorem dX2_turnOfAll_19 : decode cX2_turnOfAll 19 = .ok (.istore_n 1, 1) := by decide +kernel
theorem dX2_turnOfAll_20 : decode cX2_turnOfAll 20 = .ok (.iinc 2 1, 3) := by decide +kernel
theorem dX2_turnOfAll_23 : decode cX2_turnOfAll 23 = .ok (.goto (-19), 3) := by decide +kernel
theorem dX2_turnOfAll_26 : decode cX2_turnOfAll 26 = .ok (.iload_n 1, 1) := by decide +kernel
theorem dX2_turnOfAll_27 : decode cX2_turnOfAll 27 = .ok (.ireturn, 1) := by decide +kernel
theorem dX2_passHour_0 : decode cX2_passHour 0 = .ok (.aload_n 0, 1) := by decide +kernel
theorem dX2_passHour_1 : decode cX2_passHour 1 = .ok (.invokevirtual 182, 3) := by decide +kernel
theorem dX2_passHour_4 : decode cX2_passHour 4 = .ok (.istore_n 1, 1) := by decide +kernel
theorem dX2_passHour_5 : decode cX2_passHour 5 = .ok (.aload_n 0, 1) := by decide +kernel
theorem dX2_passHour_6 : decode cX2_passHour 6 = .ok (.iconst 1, 1) := by decide +kernel
theorem dX2_passHour_7 : decode cX2_passHour 7 = .ok (.aload_n 0, 1) := by decide +kernel
theorem dX2_passHour_8 : decode cX2_passHour 8 = .ok (.invokevirtual 185, 3) := by decide +kernel
theorem dX2_passHour_11 : decode cX2_passHour 11 = .ok (.invokestatic 188, 3) := by decide +kernel
theorem dX2_passHour_14 : decode cX2_passHour 14 = .ok (.aload_n 0, 1) := by decide +kernel
theorem dX2_passHour_15 : decode cX2_passHour 15 = .ok (.getfield 46, 3) := by decide +kernel
theorem dX2_passHour_18 : decode cX2_passHour 18 = .ok (.iload_n 1, 1) := by decide +kernel
theorem dX2_passHour_19 : decode cX2_passHour 19 = .ok (.invokevirtual 193, 3) := by decide +kernel
theorem dX2_passHour_22 : decode cX2_passHour 22 = .ok (.istore_n 2, 1) := by decide +kernel
theorem dX2_passHour_23 : decode cX2_passHour 23 = .ok (.aload_n 0, 1) := by decide +kernel
theorem dX2_passHour_24 : decode cX2_passHour 24 = .ok (.iconst 0, 1) := by decide +kernel
theorem dX2_passHour_25 : decode cX2_passHour 25 = .ok (.ldc 197, 2) := by decide +kernel
theorem dX2_passHour_27 : decode cX2_passHour 27 = .ok (.aload_n 0, 1) := by decide +kernel
theorem dX2_passHour_28 : decode cX2_passHour 28 = .ok (.getfield 52, 3) := by decide +kernel
theorem dX2_passHour_31 : decode cX2_passHour 31 = .ok (.iload_n 2, 1) := by decide +kernel
theorem dX2_passHour_32 : decode cX2_passHour 32 = .ok (.iadd, 1) := by decide +kernel
theorem dX2_passHour_33 : decode cX2_passHour 33 = .ok (.invokestatic 95, 3) := by decide +kernel
theorem dX2_passHour_36 : decode cX2_passHour 36 = .ok (.invokestatic 130, 3) := by decide +kernel
theorem dX2_passHour_39 : decode cX2_passHour 39 = .ok (.putfield 52, 3) := by decide +kernel
theorem dX2_passHour_42 : decode cX2_passHour 42 = .ok (.aload_n 0, 1) := by decide +kernel
theorem dX2_passHour_43 : decode cX2_passHour 43 = .ok (.dup, 1) := by decide +kernel
theorem dX2_passHour_44 : decode cX2_passHour 44 = .ok (.getfield 46, 3) := by decide +kernel
theorem dX2_passHour_47 : decode cX2_passHour 47 = .ok (.iconst 1, 1) := by decide +kernel
theorem dX2_passHour_48 : decode cX2_passHour 48 = .ok (.iadd, 1) := by decide +kernel
theorem dX2_passHour_49 : decode cX2_passHour 49 = .ok (.putfield 46, 3) := by decide +kernel
theorem dX2_passHour_52 : decode cX2_passHour 52 = .ok (.aload_n 0, 1) := by decide +kernel
theorem dX2_passHour_53 : decode cX2_passHour 53 = .ok (.getfield 46, 3) := by decide +kernel
theorem dX2_passHour_56 : decode cX2_passHour 56 = .ok (.bipush 24, 2) := by decide +kernel
theorem dX2_passHour_58 : decode cX2_passHour 58 = .ok (.if_icmp .lt 24, 3) := by decide +kernel
theorem dX2_passHour_61 : decode cX2_passHour 61 = .ok (.aload_n 0, 1) := by decide +kernel
theorem dX2_passHour_62 : decode cX2_passHour 62 = .ok (.iconst 0, 1) := by decide +kernel
theorem dX2_passHour_63 : decode cX2_passHour 63 = .ok (.putfield 46, 3) := by decide +kernel
theorem dX2_passHour_66 : decode cX2_passHour 66 = .ok (.aload_n 0, 1) := by decide +kernel
theorem dX2_passHour_67 : decode cX2_passHour 67 = .ok (.sipush 999, 3) := by decide +kernel
theorem dX2_passHour_70 : decode cX2_passHour 70 = .ok (.aload_n 0, 1) := by decide +kernel
theorem dX2_passHour_71 : decode cX2_passHour 71 = .ok (.getfield 49, 3) := by decide +kernel
theorem dX2_passHour_74 : decode cX2_passHour 74 = .ok (.iconst 1, 1) := by decide +kernel
theorem dX2_passHour_75 : decode cX2_passHour 75 = .ok (.iadd, 1) := by decide +kernel
theorem dX2_passHour_76 : decode cX2_passHour 76 = .ok (.invokestatic 95, 3) := by decide +kernel
theorem dX2_passHour_79 : decode cX2_passHour 79 = .ok (.putfield 49, 3) := by decide +kernel
theorem dX2_passHour_82 : decode cX2_passHour 82 = .ok (.return_, 1) := by decide +kernel
theorem dX2_draw_0 : decode cX2_draw 0 = .ok (.aload_n 0, 1) := by decide +kernel
theorem dX2_draw_1 : decode cX2_draw 1 = .ok (.aload_n 0, 1) := by decide +kernel
theorem dX2_draw_2 : decode cX2_draw 2 = .ok (.getfield 61, 3) := by decide +kernel
theorem dX2_draw_5 : decode cX2_draw 5 = .ok (.ldc 198, 2) := by decide +kernel
theorem dX2_draw_7 : decode cX2_draw 7 = .ok (.imul, 1) := by decide +kernel
theorem dX2_draw_8 : decode cX2_draw 8 = .ok (.sipush 12345, 3) := by decide +kernel
theorem dX2_draw_11 : decode cX2_draw 11 = .ok (.iadd, 1) := by decide +kernel
theorem dX2_draw_12 : decode cX2_draw 12 = .ok (.putfield 61, 3) := by decide +kernel
theorem dX2_draw_15 : decode cX2_draw 15 = .ok (.aload_n 0, 1) := by decide +kernel
theorem dX2_draw_16 : decode cX2_draw 16 = .ok (.getfield 61, 3) := by decide +kernel
theorem dX2_draw_19 : decode cX2_draw 19 = .ok (.bipush 8, 2) := by decide +kernel
theorem dX2_draw_21 : decode cX2_draw 21 = .ok (.iushr, 1) := by decide +kernel
theorem dX2_draw_22 : decode cX2_draw 22 = .ok (.ireturn, 1) := by decide +kernel
theorem dX2_pullByDraws_0 : decode cX2_pullByDraws 0 = .ok (.aload_n 0, 1) := by decide +kernel
theorem dX2_pullByDraws_1 : decode cX2_pullByDraws 1 = .ok (.invokevirtual 199, 3) := by decide +kernel
theorem dX2_pullByDraws_4 : decode cX2_pullByDraws 4 = .ok (.bipush 8, 2) := by decide +kernel
theorem dX2_pullByDraws_6 : decode cX2_pullByDraws 6 = .ok (.irem, 1) := by decide +kernel
theorem dX2_pullByDraws_7 : decode cX2_pullByDraws 7 = .ok (.istore_n 1, 1) := by decide +kernel
theorem dX2_pullByDraws_8 : decode cX2_pullByDraws 8 = .ok (.aload_n 0, 1) := by decide +kernel
theorem dX2_pullByDraws_9 : decode cX2_pullByDraws 9 = .ok (.invokevirtual 199, 3) := by decide +kernel
theorem dX2_pullByDraws_12 : decode cX2_pullByDraws 12 = .ok (.bipush 8, 2) := by decide +kernel
theorem dX2_pullByDraws_14 : decode cX2_pullByDraws 14 = .ok (.irem, 1) := by decide +kernel
theorem dX2_pullByDraws_15 : decode cX2_pullByDraws 15 = .ok (.istore_n 2, 1) := by decide +kernel
theorem dX2_pullByDraws_16 : decode cX2_pullByDraws 16 = .ok (.iload_n 1, 1) := by decide +kernel
theorem dX2_pullByDraws_17 : decode cX2_pullByDraws 17 = .ok (.aload_n 0, 1) := by decide +kernel
theorem dX2_pullByDraws_18 : decode cX2_pullByDraws 18 = .ok (.getfield 9, 3) := by decide +kernel
theorem dX2_pullByDraws_21 : decode cX2_pullByDraws 21 = .ok (.if_icmp .ge 26, 3) := by decide +kernel
theorem dX2_pullByDraws_24 : decode cX2_pullByDraws 24 = .ok (.iload_n 2, 1) := by decide +kernel
theorem dX2_pullByDraws_25 : decode cX2_pullByDraws 25 = .ok (.aload_n 0, 1) := by decide +kernel
theorem dX2_pullByDraws_26 : decode cX2_pullByDraws 26 = .ok (.getfield 9, 3) := by decide +kernel
theorem dX2_pullByDraws_29 : decode cX2_pullByDraws 29 = .ok (.if_icmp .ge 18, 3) := by decide +kernel
theorem dX2_pullByDraws_32 : decode cX2_pullByDraws 32 = .ok (.aload_n 0, 1) := by decide +kernel
theorem dX2_pullByDraws_33 : decode cX2_pullByDraws 33 = .ok (.iload_n 1, 1) := by decide +kernel
theorem dX2_pullByDraws_34 : decode cX2_pullByDraws 34 = .ok (.iload_n 2, 1) := by decide +kernel
theorem dX2_pullByDraws_35 : decode cX2_pullByDraws 35 = .ok (.invokevirtual 172, 3) := by decide +kernel
theorem dX2_pullByDraws_38 : decode cX2_pullByDraws 38 = .ok (.ifCond .eq 9, 3) := by decide +kernel
theorem dX2_pullByDraws_41 : decode cX2_pullByDraws 41 = .ok (.aload_n 0, 1) := by decide +kernel
theorem dX2_pullByDraws_42 : decode cX2_pullByDraws 42 = .ok (.iload_n 1, 1) := by decide +kernel
theorem dX2_pullByDraws_43 : decode cX2_pullByDraws 43 = .ok (.iload_n 2, 1) := by decide +kernel
theorem dX2_pullByDraws_44 : decode cX2_pullByDraws 44 = .ok (.invokevirtual 162, 3) := by decide +kernel
theorem dX2_pullByDraws_47 : decode cX2_pullByDraws 47 = .ok (.return_, 1) := by decide +kernel
theorem dX3_init_0 : decode cX3_init 0 = .ok (.aload_n 0, 1) := by decide +kernel
theorem dX3_init_1 : decode cX3_init 1 = .ok (.invokespecial 1, 3) := by decide +kernel
theorem dX3_init_4 : decode cX3_init 4 = .ok (.aload_n 0, 1) := by decide +kernel
theorem dX3_init_5 : decode cX3_init 5 = .ok (.iload_n 1, 1) := by decide +kernel
theorem dX3_init_6 : decode cX3_init 6 = .ok (.putfield 7, 3) := by decide +kernel
theorem dX3_init_9 : decode cX3_init 9 = .ok (.return_, 1) := by decide +kernel
theorem dX3_leastAir_0 : decode cX3_leastAir 0 = .ok (.iconst 2, 1) := by decide +kernel
theorem dX3_leastAir_1 : decode cX3_leastAir 1 = .ok (.ireturn, 1) := by decide +kernel
theorem dX3_mostAir_0 : decode cX3_mostAir 0 = .ok (.bipush 9, 2) := by decide +kernel
theorem dX3_mostAir_2 : decode cX3_mostAir 2 = .ok (.iload_n 1, 1) := by decide +kernel
theorem dX3_mostAir_3 : decode cX3_mostAir 3 = .ok (.iadd, 1) := by decide +kernel
theorem dX3_mostAir_4 : decode cX3_mostAir 4 = .ok (.ireturn, 1) := by decide +kernel
theorem dX3_strength_0 : decode cX3_strength 0 = .ok (.iconst 1, 1) := by decide +kernel
theorem dX3_strength_1 : decode cX3_strength 1 = .ok (.ireturn, 1) := by decide +kernel
theorem dX3_pleased_0 : decode cX3_pleased 0 = .ok (.iload_n 1, 1) := by decide +kernel
theorem dX3_pleased_1 : decode cX3_pleased 1 = .ok (.ireturn, 1) := by decide +kernel
theorem dX3_wakes_0 : decode cX3_wakes 0 = .ok (.aload 4, 2) := by decide +kernel
theorem dX3_wakes_2 : decode cX3_wakes 2 = .ok (.bipush 10, 2) := by decide +kernel
theorem dX3_wakes_4 : decode cX3_wakes 4 = .ok (.invokevirtual 13, 3) := by decide +kernel
theorem dX3_wakes_7 : decode cX3_wakes 7 = .ok (.iload_n 3, 1) := by decide +kernel
theorem dX3_wakes_8 : decode cX3_wakes 8 = .ok (.iload_n 1, 1) := by decide +kernel
theorem dX3_wakes_9 : decode cX3_wakes 9 = .ok (.iadd, 1) := by decide +kernel
theorem dX3_wakes_10 : decode cX3_wakes 10 = .ok (.ireturn, 1) := by decide +kernel
theorem dX3_pulls_0 : decode cX3_pulls 0 = .ok (.aload 4, 2) := by decide +kernel
theorem dX3_pulls_2 : decode cX3_pulls 2 = .ok (.bipush 11, 2) := by decide +kernel
theorem dX3_pulls_4 : decode cX3_pulls 4 = .ok (.invokevirtual 13, 3) := by decide +kernel
theorem dX3_pulls_7 : decode cX3_pulls 7 = .ok (.aload_n 0, 1) := by decide +kernel
theorem dX3_pulls_8 : decode cX3_pulls 8 = .ok (.iload_n 1, 1) := by decide +kernel
theorem dX3_pulls_9 : decode cX3_pulls 9 = .ok (.iload_n 2, 1) := by decide +kernel
theorem dX3_pulls_10 : decode cX3_pulls 10 = .ok (.iload_n 3, 1) := by decide +kernel
theorem dX3_pulls_11 : decode cX3_pulls 11 = .ok (.aload 4, 2) := by decide +kernel
theorem dX3_pulls_13 : decode cX3_pulls 13 = .ok (.invokevirtual 19, 3) := by decide +kernel
theorem dX3_pulls_16 : decode cX3_pulls 16 = .ok (.iconst 2, 1) := by decide +kernel
theorem dX3_pulls_17 : decode cX3_pulls 17 = .ok (.imul, 1) := by decide +kernel
theorem dX3_pulls_18 : decode cX3_pulls 18 = .ok (.ireturn, 1) := by decide +kernel
theorem dX3_shuts_0 : decode cX3_shuts 0 = .ok (.aload 4, 2) := by decide +kernel
theorem dX3_shuts_2 : decode cX3_shuts 2 = .ok (.bipush 12, 2) := by decide +kernel
theorem dX3_shuts_4 : decode cX3_shuts 4 = .ok (.invokevirtual 13, 3) := by decide +kernel
theorem dX3_shuts_7 : decode cX3_shuts 7 = .ok (.iload_n 3, 1) := by decide +kernel
theorem dX3_shuts_8 : decode cX3_shuts 8 = .ok (.iload_n 2, 1) := by decide +kernel
theorem dX3_shuts_9 : decode cX3_shuts 9 = .ok (.isub, 1) := by decide +kernel
theorem dX3_shuts_10 : decode cX3_shuts 10 = .ok (.ireturn, 1) := by decide +kernel
theorem dX3_tells_0 : decode cX3_tells 0 = .ok (.aload 4, 2) := by decide +kernel
theorem dX3_tells_2 : decode cX3_tells 2 = .ok (.bipush 13, 2) := by decide +kernel
theorem dX3_tells_4 : decode cX3_tells 4 = .ok (.invokevirtual 13, 3) := by decide +kernel
theorem dX3_tells_7 : decode cX3_tells 7 = .ok (.aload_n 0, 1) := by decide +kernel
theorem dX3_tells_8 : decode cX3_tells 8 = .ok (.iload_n 1, 1) := by decide +kernel
theorem dX3_tells_9 : decode cX3_tells 9 = .ok (.iload_n 2, 1) := by decide +kernel
theorem dX3_tells_10 : decode cX3_tells 10 = .ok (.iload_n 3, 1) := by decide +kernel
theorem dX3_tells_11 : decode cX3_tells 11 = .ok (.aload 4, 2) := by decide +kernel
theorem dX3_tells_13 : decode cX3_tells 13 = .ok (.invokevirtual 23, 3) := by decide +kernel
theorem dX3_tells_16 : decode cX3_tells 16 = .ok (.aload_n 0, 1) := by decide +kernel
theorem dX3_tells_17 : decode cX3_tells 17 = .ok (.iload_n 1, 1) := by decide +kernel
theorem dX3_tells_18 : decode cX3_tells 18 = .ok (.iload_n 2, 1) := by decide +kernel
theorem dX3_tells_19 : decode cX3_tells 19 = .ok (.iload_n 3, 1) := by decide +kernel
theorem dX3_tells_20 : decode cX3_tells 20 = .ok (.aload 4, 2) := by decide +kernel
theorem dX3_tells_22 : decode cX3_tells 22 = .ok (.invokevirtual 26, 3) := by decide +kernel
theorem dX3_tells_25 : decode cX3_tells 25 = .ok (.ixor, 1) := by decide +kernel
theorem dX3_tells_26 : decode cX3_tells 26 = .ok (.ireturn, 1) := by decide +kernel
theorem dX4_init_0 : decode cX4_init 0 = .ok (.aload_n 0, 1) := by decide +kernel
theorem dX4_init_1 : decode cX4_init 1 = .ok (.invokespecial 1, 3) := by decide +kernel
theorem dX4_init_4 : decode cX4_init 4 = .ok (.aload_n 0, 1) := by decide +kernel
theorem dX4_init_5 : decode cX4_init 5 = .ok (.iconst 0, 1) := by decide +kernel
theorem dX4_init_6 : decode cX4_init 6 = .ok (.putfield 7, 3) := by decide +kernel
theorem dX4_init_9 : decode cX4_init 9 = .ok (.aload_n 0, 1) := by decide +kernel
theorem dX4_init_10 : decode cX4_init 10 = .ok (.iconst 0, 1) := by decide +kernel
theorem dX4_init_11 : decode cX4_init 11 = .ok (.putfield 13, 3) := by decide +kernel
theorem dX4_init_14 : decode cX4_init 14 = .ok (.aload_n 0, 1) := by decide +kernel
theorem dX4_init_15 : decode cX4_init 15 = .ok (.iload_n 1, 1) := by decide +kernel
theorem dX4_init_16 : decode cX4_init 16 = .ok (.newarray .int, 2) := by decide +kernel
theorem dX4_init_18 : decode cX4_init 18 = .ok (.putfield 16, 3) := by decide +kernel
theorem dX4_init_21 : decode cX4_init 21 = .ok (.return_, 1) := by decide +kernel
theorem dX4_add_0 : decode cX4_add 0 = .ok (.aload_n 0, 1) := by decide +kernel
theorem dX4_add_1 : decode cX4_add 1 = .ok (.getfield 7, 3) := by decide +kernel
theorem dX4_add_4 : decode cX4_add 4 = .ok (.aload_n 0, 1) := by decide +kernel
theorem dX4_add_5 : decode cX4_add 5 = .ok (.getfield 16, 3) := by decide +kernel
theorem dX4_add_8 : decode cX4_add 8 = .ok (.arraylength, 1) := by decide +kernel
theorem dX4_add_9 : decode cX4_add 9 = .ok (.if_icmp .ge 23, 3) := by decide +kernel
theorem dX4_add_12 : decode cX4_add 12 = .ok (.aload_n 0, 1) := by decide +kernel
theorem dX4_add_13 : decode cX4_add 13 = .ok (.getfield 16, 3) := by decide +kernel
theorem dX4_add_16 : decode cX4_add 16 = .ok (.aload_n 0, 1) := by decide +kernel
theorem dX4_add_17 : decode cX4_add 17 = .ok (.getfield 7, 3) := by decide +kernel
theorem dX4_add_20 : decode cX4_add 20 = .ok (.iload_n 1, 1) := by decide +kernel
theorem dX4_add_21 : decode cX4_add 21 = .ok (.iastore, 1) := by decide +kernel
theorem dX4_add_22 : decode cX4_add 22 = .ok (.aload_n 0, 1) := by decide +kernel
theorem dX4_add_23 : decode cX4_add 23 = .ok (.dup, 1) := by decide +kernel
theorem dX4_add_24 : decode cX4_add 24 = .ok (.getfield 7, 3) := by decide +kernel
theorem dX4_add_27 : decode cX4_add 27 = .ok (.iconst 1, 1) := by decide +kernel
theorem dX4_add_28 : decode cX4_add 28 = .ok (.iadd, 1) := by decide +kernel
theorem dX4_add_29 : decode cX4_add 29 = .ok (.putfield 7, 3) := by decide +kernel
theorem dX4_add_32 : decode cX4_add 32 = .ok (.return_, 1) := by decide +kernel
theorem dX4_start_0 : decode cX4_start 0 = .ok (.aload_n 0, 1) := by decide +kernel
theorem dX4_start_1 : decode cX4_start 1 = .ok (.getfield 16, 3) := by decide +kernel
theorem dX4_start_4 : decode cX4_start 4 = .ok (.iconst 0, 1) := by decide +kernel
theorem dX4_start_5 : decode cX4_start 5 = .ok (.invokestatic 20, 3) := by decide +kernel
theorem dX4_start_8 : decode cX4_start 8 = .ok (.aload_n 0, 1) := by decide +kernel
theorem dX4_start_9 : decode cX4_start 9 = .ok (.iload_n 1, 1) := by decide +kernel
theorem dX4_start_10 : decode cX4_start 10 = .ok (.putfield 13, 3) := by decide +kernel
theorem dX4_start_13 : decode cX4_start 13 = .ok (.aload_n 0, 1) := by decide +kernel
theorem dX4_start_14 : decode cX4_start 14 = .ok (.iload_n 2, 1) := by decide +kernel
theorem dX4_start_15 : decode cX4_start 15 = .ok (.putfield 7, 3) := by decide +kernel
theorem dX4_start_18 : decode cX4_start 18 = .ok (.return_, 1) := by decide +kernel
theorem dX4_holds_0 : decode cX4_holds 0 = .ok (.iload_n 1, 1) := by decide +kernel
theorem dX4_holds_1 : decode cX4_holds 1 = .ok (.ifCond .lt 29, 3) := by decide +kernel
theorem dX4_holds_4 : decode cX4_holds 4 = .ok (.iload_n 2, 1) := by decide +kernel
theorem dX4_holds_5 : decode cX4_holds 5 = .ok (.ifCond .lt 25, 3) := by decide +kernel
theorem dX4_holds_8 : decode cX4_holds 8 = .ok (.iload_n 2, 1) := by decide +kernel
theorem dX4_holds_9 : decode cX4_holds 9 = .ok (.aload_n 0, 1) := by decide +kernel
theorem dX4_holds_10 : decode cX4_holds 10 = .ok (.getfield 7, 3) := by decide +kernel
theorem dX4_holds_13 : decode cX4_holds 13 = .ok (.if_icmp .gt 17, 3) := by decide +kernel
theorem dX4_holds_16 : decode cX4_holds 16 = .ok (.iload_n 1, 1) := by decide +kernel
theorem dX4_holds_17 : decode cX4_holds 17 = .ok (.aload_n 0, 1) := by decide +kernel
theorem dX4_holds_18 : decode cX4_holds 18 = .ok (.getfield 7, 3) := by decide +kernel
theorem dX4_holds_21 : decode cX4_holds 21 = .ok (.iload_n 2, 1) := by decide +kernel
theorem dX4_holds_22 : decode cX4_holds 22 = .ok (.isub, 1) := by decide +kernel
theorem dX4_holds_23 : decode cX4_holds 23 = .ok (.if_icmp .gt 7, 3) := by decide +kernel
theorem dX4_holds_26 : decode cX4_holds 26 = .ok (.iconst 1, 1) := by decide +kernel
theorem dX4_holds_27 : decode cX4_holds 27 = .ok (.goto 4, 3) := by decide +kernel
theorem dX4_holds_30 : decode cX4_holds 30 = .ok (.iconst 0, 1) := by decide +kernel
theorem dX4_holds_31 : decode cX4_holds 31 = .ok (.ireturn, 1) := by decide +kernel
theorem dX4_copyFrom_0 : decode cX4_copyFrom 0 = .ok (.aload_n 1, 1) := by decide +kernel
theorem dX4_copyFrom_1 : decode cX4_copyFrom 1 = .ok (.getfield 16, 3) := by decide +kernel
theorem dX4_copyFrom_4 : decode cX4_copyFrom 4 = .ok (.iconst 0, 1) := by decide +kernel
theorem dX4_copyFrom_5 : decode cX4_copyFrom 5 = .ok (.aload_n 0, 1) := by decide +kernel
theorem dX4_copyFrom_6 : decode cX4_copyFrom 6 = .ok (.getfield 16, 3) := by decide +kernel
theorem dX4_copyFrom_9 : decode cX4_copyFrom 9 = .ok (.iconst 0, 1) := by decide +kernel
theorem dX4_copyFrom_10 : decode cX4_copyFrom 10 = .ok (.aload_n 0, 1) := by decide +kernel
theorem dX4_copyFrom_11 : decode cX4_copyFrom 11 = .ok (.getfield 16, 3) := by decide +kernel
theorem dX4_copyFrom_14 : decode cX4_copyFrom 14 = .ok (.arraylength, 1) := by decide +kernel
theorem dX4_copyFrom_15 : decode cX4_copyFrom 15 = .ok (.aload_n 1, 1) := by decide +kernel
theorem dX4_copyFrom_16 : decode cX4_copyFrom 16 = .ok (.getfield 16, 3) := by decide +kernel
theorem dX4_copyFrom_19 : decode cX4_copyFrom 19 = .ok (.arraylength, 1) := by decide +kernel
theorem dX4_copyFrom_20 : decode cX4_copyFrom 20 = .ok (.invokestatic 26, 3) := by decide +kernel
theorem dX4_copyFrom_23 : decode cX4_copyFrom 23 = .ok (.invokestatic 32, 3) := by decide +kernel
theorem dX4_copyFrom_26 : decode cX4_copyFrom 26 = .ok (.aload_n 0, 1) := by decide +kernel
theorem dX4_copyFrom_27 : decode cX4_copyFrom 27 = .ok (.aload_n 1, 1) := by decide +kernel
theorem dX4_copyFrom_28 : decode cX4_copyFrom 28 = .ok (.getfield 7, 3) := by decide +kernel
theorem dX4_copyFrom_31 : decode cX4_copyFrom 31 = .ok (.putfield 7, 3) := by decide +kernel
theorem dX4_copyFrom_34 : decode cX4_copyFrom 34 = .ok (.return_, 1) := by decide +kernel
theorem dX5_init_0 : decode cX5_init 0 = .ok (.aload_n 0, 1) := by decide +kernel
theorem dX5_init_1 : decode cX5_init 1 = .ok (.invokespecial 3, 3) := by decide +kernel
theorem dX5_init_4 : decode cX5_init 4 = .ok (.aload_n 0, 1) := by decide +kernel
theorem dX5_init_5 : decode cX5_init 5 = .ok (.bipush 8, 2) := by decide +kernel
theorem dX5_init_7 : decode cX5_init 7 = .ok (.newarray .int, 2) := by decide +kernel
theorem dX5_init_9 : decode cX5_init 9 = .ok (.putfield 9, 3) := by decide +kernel
theorem dX5_init_12 : decode cX5_init 12 = .ok (.aload_n 0, 1) := by decide +kernel
theorem dX5_init_13 : decode cX5_init 13 = .ok (.bipush 11, 2) := by decide +kernel
theorem dX5_init_15 : decode cX5_init 15 = .ok (.newarray .int, 2) := by decide +kernel
theorem dX5_init_17 : decode cX5_init 17 = .ok (.putfield 15, 3) := by decide +kernel
theorem dX5_init_20 : decode cX5_init 20 = .ok (.aload_n 0, 1) := by decide +kernel
theorem dX5_init_21 : decode cX5_init 21 = .ok (.iconst 4, 1) := by decide +kernel
theorem dX5_init_22 : decode cX5_init 22 = .ok (.newarray .int, 2) := by decide +kernel
theorem dX5_init_24 : decode cX5_init 24 = .ok (.putfield 18, 3) := by decide +kernel
theorem dX5_init_27 : decode cX5_init 27 = .ok (.aload_n 0, 1) := by decide +kernel
theorem dX5_init_28 : decode cX5_init 28 = .ok (.iconst 4, 1) := by decide +kernel
theorem dX5_init_29 : decode cX5_init 29 = .ok (.newarray .int, 2) := by decide +kernel
theorem dX5_init_31 : decode cX5_init 31 = .ok (.putfield 21, 3) := by decide +kernel
theorem dX5_init_34 : decode cX5_init 34 = .ok (.aload_n 0, 1) := by decide +kernel
theorem dX5_init_35 : decode cX5_init 35 = .ok (.iconst 4, 1) := by decide +kernel
theorem dX5_init_36 : decode cX5_init 36 = .ok (.newarray .int, 2) := by decide +kernel
theorem dX5_init_38 : decode cX5_init 38 = .ok (.putfield 24, 3) := by decide +kernel
theorem dX5_init_41 : decode cX5_init 41 = .ok (.aload_n 0, 1) := by decide +kernel
theorem dX5_init_42 : decode cX5_init 42 = .ok (.bipush 9, 2) := by decide +kernel
theorem dX5_init_44 : decode cX5_init 44 = .ok (.newarray .int, 2) := by decide +kernel
theorem dX5_init_46 : decode cX5_init 46 = .ok (.putfield 27, 3) := by decide +kernel
theorem dX5_init_49 : decode cX5_init 49 = .ok (.aload_n 0, 1) := by decide +kernel
theorem dX5_init_50 : decode cX5_init 50 = .ok (.bipush 8, 2) := by decide +kernel
theorem dX5_init_52 : decode cX5_init 52 = .ok (.newarray .int, 2) := by decide +kernel
theorem dX5_init_54 : decode cX5_init 54 = .ok (.putfield 30, 3) := by decide +kernel
theorem dX5_init_57 : decode cX5_init 57 = .ok (.aload_n 0, 1) := by decide +kernel
theorem dX5_init_58 : decode cX5_init 58 = .ok (.iconst 0, 1) := by decide +kernel
theorem dX5_init_59 : decode cX5_init 59 = .ok (.putfield 33, 3) := by decide +kernel
theorem dX5_init_62 : decode cX5_init 62 = .ok (.aload_n 0, 1) := by decide +kernel
theorem dX5_init_63 : decode cX5_init 63 = .ok (.iconst 0, 1) := by decide +kernel
theorem dX5_init_64 : decode cX5_init 64 = .ok (.putfield 37, 3) := by decide +kernel
theorem dX5_init_67 : decode cX5_init 67 = .ok (.aload_n 0, 1) := by decide +kernel
theorem dX5_init_68 : decode cX5_init 68 = .ok (.aload_n 1, 1) := by decide +kernel
theorem dX5_init_69 : decode cX5_init 69 = .ok (.putfield 40, 3) := by decide +kernel
theorem dX5_init_72 : decode cX5_init 72 = .ok (.return_, 1) := by decide +kernel
theorem dX5_find_0 : decode cX5_find 0 = .ok (.aload_n 0, 1) := by decide +kernel
theorem dX5_find_1 : decode cX5_find 1 = .ok (.invokevirtual 44, 3) := by decide +kernel
theorem dX5_find_4 : decode cX5_find 4 = .ok (.aload_n 0, 1) := by decide +kernel
theorem dX5_find_5 : decode cX5_find 5 = .ok (.invokevirtual 47, 3) := by decide +kernel
theorem dX5_find_8 : decode cX5_find 8 = .ok (.aload_n 0, 1) := by decide +kernel
theorem dX5_find_9 : decode cX5_find 9 = .ok (.getfield 40, 3) := by decide +kernel
theorem dX5_find_12 : decode cX5_find 12 = .ok (.invokevirtual 50, 3) := by decide +kernel
theorem dX5_find_15 : decode cX5_find 15 = .ok (.invokestatic 56, 3) := by decide +kernel
theorem dX5_find_18 : decode cX5_find 18 = .ok (.istore_n 2, 1) := by decide +kernel
theorem dX5_find_19 : decode cX5_find 19 = .ok (.aload_n 0, 1) := by decide +kernel
theorem dX5_find_20 : decode cX5_find 20 = .ok (.iload_n 1, 1) := by decide +kernel
theorem dX5_find_21 : decode cX5_find 21 = .ok (.iload_n 2, 1) := by decide +kernel
theorem dX5_find_22 : decode cX5_find 22 = .ok (.invokestatic 62, 3) := by decide +kernel
theorem dX5_find_25 : decode cX5_find 25 = .ok (.putfield 33, 3) := by decide +kernel
theorem dX5_find_28 : decode cX5_find 28 = .ok (.aload_n 0, 1) := by decide +kernel
theorem dX5_find_29 : decode cX5_find 29 = .ok (.iload_n 2, 1) := by decide +kernel
theorem dX5_find_30 : decode cX5_find 30 = .ok (.iload_n 1, 1) := by decide +kernel
theorem dX5_find_31 : decode cX5_find 31 = .ok (.if_icmp .lt 7, 3) := by decide +kernel
theorem dX5_find_34 : decode cX5_find 34 = .ok (.iconst 0, 1) := by decide +kernel
theorem dX5_find_35 : decode cX5_find 35 = .ok (.goto 5, 3) := by decide +kernel
theorem dX5_find_38 : decode cX5_find 38 = .ok (.ldc 68, 2) := by decide +kernel
theorem dX5_find_40 : decode cX5_find 40 = .ok (.putfield 37, 3) := by decide +kernel
theorem dX5_find_43 : decode cX5_find 43 = .ok (.aload_n 0, 1) := by decide +kernel
theorem dX5_find_44 : decode cX5_find 44 = .ok (.getfield 40, 3) := by decide +kernel
theorem dX5_find_47 : decode cX5_find 47 = .ok (.getfield 69, 3) := by decide +kernel
theorem dX5_find_50 : decode cX5_find 50 = .ok (.iconst 0, 1) := by decide +kernel
theorem dX5_find_51 : decode cX5_find 51 = .ok (.aload_n 0, 1) := by decide +kernel
theorem dX5_find_52 : decode cX5_find 52 = .ok (.getfield 30, 3) := by decide +kernel
theorem dX5_find_55 : decode cX5_find 55 = .ok (.iconst 0, 1) := by decide +kernel
theorem dX5_find_56 : decode cX5_find 56 = .ok (.bipush 8, 2) := by decide +kernel
theorem dX5_find_58 : decode cX5_find 58 = .ok (.invokestatic 72, 3) := by decide +kernel
theorem dX5_find_61 : decode cX5_find 61 = .ok (.aload_n 0, 1) := by decide +kernel
theorem dX5_find_62 : decode cX5_find 62 = .ok (.iconst 0, 1) := by decide +kernel
theorem dX5_find_63 : decode cX5_find 63 = .ok (.iconst 0, 1) := by decide +kernel
theorem dX5_find_64 : decode cX5_find 64 = .ok (.iconst 0, 1) := by decide +kernel
theorem dX5_find_65 : decode cX5_find 65 = .ok (.aload_n 0, 1) := by decide +kernel
theorem dX5_find_66 : decode cX5_find 66 = .ok (.getfield 40, 3) := by decide +kernel
theorem dX5_find_69 : decode cX5_find 69 = .ok (.getfield 78, 3) := by decide +kernel
theorem dX5_find_72 : decode cX5_find 72 = .ok (.invokevirtual 81, 3) := by decide +kernel
theorem dX5_find_75 : decode cX5_find 75 = .ok (.return_, 1) := by decide +kernel
theorem dX5_prepareCords_0 : decode cX5_prepareCords 0 = .ok (.aload_n 0, 1) := by decide +kernel
theorem dX5_prepareCords_1 : decode cX5_prepareCords 1 = .ok (.getfield 15, 3) := by decide +kernel
theorem dX5_prepareCords_4 : decode cX5_prepareCords 4 = .ok (.iconst 0, 1) := by decide +kernel
theorem dX5_prepareCords_5 : decode cX5_prepareCords 5 = .ok (.invokestatic 85, 3) := by decide +kernel
theorem dX5_prepareCords_8 : decode cX5_prepareCords 8 = .ok (.aload_n 0, 1) := by decide +kernel
theorem dX5_prepareCords_9 : decode cX5_prepareCords 9 = .ok (.getfield 18, 3) := by decide +kernel
theorem dX5_prepareCords_12 : decode cX5_prepareCords 12 = .ok (.iconst 0, 1) := by decide +kernel
theorem dX5_prepareCords_13 : decode cX5_prepareCords 13 = .ok (.invokestatic 85, 3) := by decide +kernel
theorem dX5_prepareCords_16 : decode cX5_prepareCords 16 = .ok (.aload_n 0, 1) := by decide +kernel
theorem dX5_prepareCords_17 : decode cX5_prepareCords 17 = .ok (.getfield 21, 3) := by decide +kernel
theorem dX5_prepareCords_20 : decode cX5_prepareCords 20 = .ok (.iconst 0, 1) := by decide +kernel
theorem dX5_prepareCords_21 : decode cX5_prepareCords 21 = .ok (.invokestatic 85, 3) := by decide +kernel
theorem dX5_prepareCords_24 : decode cX5_prepareCords 24 = .ok (.iconst 0, 1) := by decide +kernel
theorem dX5_prepareCords_25 : decode cX5_prepareCords 25 = .ok (.istore_n 1, 1) := by decide +kernel
theorem dX5_prepareCords_26 : decode cX5_prepareCords 26 = .ok (.iload_n 1, 1) := by decide +kernel
theorem dX5_prepareCords_27 : decode cX5_prepareCords 27 = .ok (.aload_n 0, 1) := by decide +kernel
theorem dX5_prepareCords_28 : decode cX5_prepareCords 28 = .ok (.getfield 40, 3) := by decide +kernel
theorem dX5_prepareCords_31 : decode cX5_prepareCords 31 = .ok (.getfield 91, 3) := by decide +kernel
theorem dX5_prepareCords_34 : decode cX5_prepareCords 34 = .ok (.if_icmp .ge 85, 3) := by decide +kernel
theorem dX5_prepareCords_37 : decode cX5_prepareCords 37 = .ok (.aload_n 0, 1) := by decide +kernel
theorem dX5_prepareCords_38 : decode cX5_prepareCords 38 = .ok (.iload_n 1, 1) := by decide +kernel
theorem dX5_prepareCords_39 : decode cX5_prepareCords 39 = .ok (.invokevirtual 94, 3) := by decide +kernel
theorem dX5_prepareCords_42 : decode cX5_prepareCords 42 = .ok (.istore_n 2, 1) := by decide +kernel
theorem dX5_prepareCords_43 : decode cX5_prepareCords 43 = .ok (.iload_n 2, 1) := by decide +kernel
theorem dX5_prepareCords_44 : decode cX5_prepareCords 44 = .ok (.ifCond .lt 41, 3) := by decide +kernel
theorem dX5_prepareCords_47 : decode cX5_prepareCords 47 = .ok (.aload_n 0, 1) := by decide +kernel
theorem dX5_prepareCords_48 : decode cX5_prepareCords 48 = .ok (.getfield 18, 3) := by decide +kernel
theorem dX5_prepareCords_51 : decode cX5_prepareCords 51 = .ok (.iload_n 2, 1) := by decide +kernel
theorem dX5_prepareCords_52 : decode cX5_prepareCords 52 = .ok (.dup2, 1) := by decide +kernel
theorem dX5_prepareCords_53 : decode cX5_prepareCords 53 = .ok (.iaload, 1) := by decide +kernel
theorem dX5_prepareCords_54 : decode cX5_prepareCords 54 = .ok (.aload_n 0, 1) := by decide +kernel
theorem dX5_prepareCords_55 : decode cX5_prepareCords 55 = .ok (.getfield 40, 3) := by decide +kernel
theorem dX5_prepareCords_58 : decode cX5_prepareCords 58 = .ok (.getfield 69, 3) := by decide +kernel
theorem dX5_prepareCords_61 : decode cX5_prepareCords 61 = .ok (.iload_n 1, 1) := by decide +kernel
theorem dX5_prepareCords_62 : decode cX5_prepareCords 62 = .ok (.iaload, 1) := by decide +kernel
theorem dX5_prepareCords_63 : decode cX5_prepareCords 63 = .ok (.iadd, 1) := by decide +kernel
theorem dX5_prepareCords_64 : decode cX5_prepareCords 64 = .ok (.iastore, 1) := by decide +kernel
theorem dX5_prepareCords_65 : decode cX5_prepareCords 65 = .ok (.aload_n 0, 1) := by decide +kernel
theorem dX5_prepareCords_66 : decode cX5_prepareCords 66 = .ok (.getfield 21, 3) := by decide +kernel
theorem dX5_prepareCords_69 : decode cX5_prepareCords 69 = .ok (.iload_n 2, 1) := by decide +kernel
theorem dX5_prepareCords_70 : decode cX5_prepareCords 70 = .ok (.dup2, 1) := by decide +kernel
theorem dX5_prepareCords_71 : decode cX5_prepareCords 71 = .ok (.iaload, 1) := by decide +kernel
theorem dX5_prepareCords_72 : decode cX5_prepareCords 72 = .ok (.iconst 1, 1) := by decide +kernel
theorem dX5_prepareCords_73 : decode cX5_prepareCords 73 = .ok (.iadd, 1) := by decide +kernel
theorem dX5_prepareCords_74 : decode cX5_prepareCords 74 = .ok (.iastore, 1) := by decide +kernel
theorem dX5_prepareCords_75 : decode cX5_prepareCords 75 = .ok (.aload_n 0, 1) := by decide +kernel
theorem dX5_prepareCords_76 : decode cX5_prepareCords 76 = .ok (.getfield 24, 3) := by decide +kernel
theorem dX5_prepareCords_79 : decode cX5_prepareCords 79 = .ok (.iload_n 2, 1) := by decide +kernel
theorem dX5_prepareCords_80 : decode cX5_prepareCords 80 = .ok (.iload_n 1, 1) := by decide +kernel
theorem dX5_prepareCords_81 : decode cX5_prepareCords 81 = .ok (.iastore, 1) := by decide +kernel
theorem dX5_prepareCords_82 : decode cX5_prepareCords 82 = .ok (.goto 31, 3) := by decide +kernel
theorem dX5_prepareCords_85 : decode cX5_prepareCords 85 = .ok (.aload_n 0, 1) := by decide +kernel
theorem dX5_prepareCords_86 : decode cX5_prepareCords 86 = .ok (.getfield 15, 3) := by decide +kernel
theorem dX5_prepareCords_89 : decode cX5_prepareCords 89 = .ok (.aload_n 0, 1) := by decide +kernel
theorem dX5_prepareCords_90 : decode cX5_prepareCords 90 = .ok (.getfield 40, 3) := by decide +kernel
theorem dX5_prepareCords_93 : decode cX5_prepareCords 93 = .ok (.getfield 97, 3) := by decide +kernel
theorem dX5_prepareCords_96 : decode cX5_prepareCords 96 = .ok (.iload_n 1, 1) := by decide +kernel
theorem dX5_prepareCords_97 : decode cX5_prepareCords 97 = .ok (.iaload, 1) := by decide +kernel
theorem dX5_prepareCords_98 : decode cX5_prepareCords 98 = .ok (.iconst 1, 1) := by decide +kernel
theorem dX5_prepareCords_99 : decode cX5_prepareCords 99 = .ok (.iadd, 1) := by decide +kernel
theorem dX5_prepareCords_100 : decode cX5_prepareCords 100 = .ok (.dup2, 1) := by decide +kernel
theorem dX5_prepareCords_101 : decode cX5_prepareCords 101 = .ok (.iaload, 1) := by decide +kernel
theorem dX5_prepareCords_102 : decode cX5_prepareCords 102 = .ok (.aload_n 0, 1) := by decide +kernel
theorem dX5_prepareCords_103 : decode cX5_prepareCords 103 = .ok (.getfield 40, 3) := by decide +kernel
theorem dX5_prepareCords_106 : decode cX5_prepareCords 106 = .ok (.getfield 69, 3) := by decide +kernel
theorem dX5_prepareCords_109 : decode cX5_prepareCords 109 = .ok (.iload_n 1, 1) := by decide +kernel
theorem dX5_prepareCords_110 : decode cX5_prepareCords 110 = .ok (.iaload, 1) := by decide +kernel
theorem dX5_prepareCords_111 : decode cX5_prepareCords 111 = .ok (.iadd, 1) := by decide +kernel
theorem dX5_prepareCords_112 : decode cX5_prepareCords 112 = .ok (.iastore, 1) := by decide +kernel
theorem dX5_prepareCords_113 : decode cX5_prepareCords 113 = .ok (.iinc 1 1, 3) := by decide +kernel
theorem dX5_prepareCords_116 : decode cX5_prepareCords 116 = .ok (.goto (-90), 3) := by decide +kernel
theorem dX5_prepareCords_119 : decode cX5_prepareCords 119 = .ok (.iconst 0, 1) := by decide +kernel
theorem dX5_prepareCords_120 : decode cX5_prepareCords 120 = .ok (.istore_n 1, 1) := by decide +kernel
theorem dX5_prepareCords_121 : decode cX5_prepareCords 121 = .ok (.iload_n 1, 1) := by decide +kernel
theorem dX5_prepareCords_122 : decode cX5_prepareCords 122 = .ok (.aload_n 0, 1) := by decide +kernel
theorem dX5_prepareCords_123 : decode cX5_prepareCords 123 = .ok (.getfield 40, 3) := by decide +kernel
theorem dX5_prepareCords_126 : decode cX5_prepareCords 126 = .ok (.getfield 100, 3) := by decide +kernel
theorem dX5_prepareCords_129 : decode cX5_prepareCords 129 = .ok (.if_icmp .ge 48, 3) := by decide +kernel
theorem dX5_prepareCords_132 : decode cX5_prepareCords 132 = .ok (.aload_n 0, 1) := by decide +kernel
theorem dX5_prepareCords_133 : decode cX5_prepareCords 133 = .ok (.getfield 21, 3) := by decide +kernel
theorem dX5_prepareCords_136 : decode cX5_prepareCords 136 = .ok (.iload_n 1, 1) := by decide +kernel
theorem dX5_prepareCords_137 : decode cX5_prepareCords 137 = .ok (.iaload, 1) := by decide +kernel
theorem dX5_prepareCords_138 : decode cX5_prepareCords 138 = .ok (.ifCond .le 33, 3) := by decide +kernel
theorem dX5_prepareCords_141 : decode cX5_prepareCords 141 = .ok (.aload_n 0, 1) := by decide +kernel
theorem dX5_prepareCords_142 : decode cX5_prepareCords 142 = .ok (.getfield 15, 3) := by decide +kernel
theorem dX5_prepareCords_145 : decode cX5_prepareCords 145 = .ok (.aload_n 0, 1) := by decide +kernel
theorem dX5_prepareCords_146 : decode cX5_prepareCords 146 = .ok (.getfield 40, 3) := by decide +kernel
theorem dX5_prepareCords_149 : decode cX5_prepareCords 149 = .ok (.getfield 97, 3) := by decide +kernel
theorem dX5_prepareCords_152 : decode cX5_prepareCords 152 = .ok (.aload_n 0, 1) := by decide +kernel
theorem dX5_prepareCords_153 : decode cX5_prepareCords 153 = .ok (.getfield 24, 3) := by decide +kernel
theorem dX5_prepareCords_156 : decode cX5_prepareCords 156 = .ok (.iload_n 1, 1) := by decide +kernel
theorem dX5_prepareCords_157 : decode cX5_prepareCords 157 = .ok (.iaload, 1) := by decide +kernel
theorem dX5_prepareCords_158 : decode cX5_prepareCords 158 = .ok (.iaload, 1) := by decide +kernel
theorem dX5_prepareCords_159 : decode cX5_prepareCords 159 = .ok (.iconst 1, 1) := by decide +kernel
theorem dX5_prepareCords_160 : decode cX5_prepareCords 160 = .ok (.iadd, 1) := by decide +kernel
theorem dX5_prepareCords_161 : decode cX5_prepareCords 161 = .ok (.dup2, 1) := by decide +kernel
theorem dX5_prepareCords_162 : decode cX5_prepareCords 162 = .ok (.iaload, 1) := by decide +kernel
theorem dX5_prepareCords_163 : decode cX5_prepareCords 163 = .ok (.aload_n 0, 1) := by decide +kernel
theorem dX5_prepareCords_164 : decode cX5_prepareCords 164 = .ok (.getfield 18, 3) := by decide +kernel
theorem dX5_prepareCords_167 : decode cX5_prepareCords 167 = .ok (.iload_n 1, 1) := by decide +kernel
theorem dX5_prepareCords_168 : decode cX5_prepareCords 168 = .ok (.iaload, 1) := by decide +kernel
theorem dX5_prepareCords_169 : decode cX5_prepareCords 169 = .ok (.iadd, 1) := by decide +kernel
theorem dX5_prepareCords_170 : decode cX5_prepareCords 170 = .ok (.iastore, 1) := by decide +kernel
theorem dX5_prepareCords_171 : decode cX5_prepareCords 171 = .ok (.iinc 1 1, 3) := by decide +kernel
theorem dX5_prepareCords_174 : decode cX5_prepareCords 174 = .ok (.goto (-53), 3) := by decide +kernel
theorem dX5_prepareCords_177 : decode cX5_prepareCords 177 = .ok (.return_, 1) := by decide +kernel
theorem dX5_prepareLodgers_0 : decode cX5_prepareLodgers 0 = .ok (.aload_n 0, 1) := by decide +kernel
theorem dX5_prepareLodgers_1 : decode cX5_prepareLodgers 1 = .ok (.getfield 27, 3) := by decide +kernel
theorem dX5_prepareLodgers_4 : decode cX5_prepareLodgers 4 = .ok (.iconst 0, 1) := by decide +kernel
theorem dX5_prepareLodgers_5 : decode cX5_prepareLodgers 5 = .ok (.invokestatic 85, 3) := by decide +kernel
theorem dX5_prepareLodgers_8 : decode cX5_prepareLodgers 8 = .ok (.iconst 0, 1) := by decide +kernel
theorem dX5_prepareLodgers_9 : decode cX5_prepareLodgers 9 = .ok (.istore_n 1, 1) := by decide +kernel
theorem dX5_prepareLodgers_10 : decode cX5_prepareLodgers 10 = .ok (.iload_n 1, 1) := by decide +kernel
theorem dX5_prepareLodgers_11 : decode cX5_prepareLodgers 11 = .ok (.aload_n 0, 1) := by decide +kernel
theorem dX5_prepareLodgers_12 : decode cX5_prepareLodgers 12 = .ok (.getfield 40, 3) := by decide +kernel
theorem dX5_prepareLodgers_15 : decode cX5_prepareLodgers 15 = .ok (.getfield 78, 3) := by decide +kernel
theorem dX5_prepareLodgers_18 : decode cX5_prepareLodgers 18 = .ok (.if_icmp .ge 79, 3) := by decide +kernel
theorem dX5_prepareLodgers_21 : decode cX5_prepareLodgers 21 = .ok (.iconst 0, 1) := by decide +kernel
theorem dX5_prepareLodgers_22 : decode cX5_prepareLodgers 22 = .ok (.istore_n 2, 1) := by decide +kernel
theorem dX5_prepareLodgers_23 : decode cX5_prepareLodgers 23 = .ok (.iconst 0, 1) := by decide +kernel
theorem dX5_prepareLodgers_24 : decode cX5_prepareLodgers 24 = .ok (.istore_n 3, 1) := by decide +kernel
theorem dX5_prepareLodgers_25 : decode cX5_prepareLodgers 25 = .ok (.iload_n 3, 1) := by decide +kernel
theorem dX5_prepareLodgers_26 : decode cX5_prepareLodgers 26 = .ok (.aload_n 0, 1) := by decide +kernel
theorem dX5_prepareLodgers_27 : decode cX5_prepareLodgers 27 = .ok (.getfield 40, 3) := by decide +kernel
theorem dX5_prepareLodgers_30 : decode cX5_prepareLodgers 30 = .ok (.getfield 91, 3) := by decide +kernel
theorem dX5_prepareLodgers_33 : decode cX5_prepareLodgers 33 = .ok (.if_icmp .ge 46, 3) := by decide +kernel
theorem dX5_prepareLodgers_36 : decode cX5_prepareLodgers 36 = .ok (.aload_n 0, 1) := by decide +kernel
theorem dX5_prepareLodgers_37 : decode cX5_prepareLodgers 37 = .ok (.iload_n 3, 1) := by decide +kernel
theorem dX5_prepareLodgers_38 : decode cX5_prepareLodgers 38 = .ok (.invokevirtual 94, 3) := by decide +kernel
theorem dX5_prepareLodgers_41 : decode cX5_prepareLodgers 41 = .ok (.istore 4, 2) := by decide +kernel
theorem dX5_prepareLodgers_43 : decode cX5_prepareLodgers 43 = .ok (.iload 4, 2) := by decide +kernel
theorem dX5_prepareLodgers_45 : decode cX5_prepareLodgers 45 = .ok (.ifCond .lt 28, 3) := by decide +kernel
theorem dX5_prepareLodgers_48 : decode cX5_prepareLodgers 48 = .ok (.aload_n 0, 1) := by decide +kernel
theorem dX5_prepareLodgers_49 : decode cX5_prepareLodgers 49 = .ok (.iload_n 1, 1) := by decide +kernel
theorem dX5_prepareLodgers_50 : decode cX5_prepareLodgers 50 = .ok (.iload_n 3, 1) := by decide +kernel
theorem dX5_prepareLodgers_51 : decode cX5_prepareLodgers 51 = .ok (.invokevirtual 103, 3) := by decide +kernel
theorem dX5_prepareLodgers_54 : decode cX5_prepareLodgers 54 = .ok (.aload_n 0, 1) := by decide +kernel
theorem dX5_prepareLodgers_55 : decode cX5_prepareLodgers 55 = .ok (.iload_n 1, 1) := by decide +kernel
theorem dX5_prepareLodgers_56 : decode cX5_prepareLodgers 56 = .ok (.aload_n 0, 1) := by decide +kernel
theorem dX5_prepareLodgers_57 : decode cX5_prepareLodgers 57 = .ok (.getfield 24, 3) := by decide +kernel
theorem dX5_prepareLodgers_60 : decode cX5_prepareLodgers 60 = .ok (.iload 4, 2) := by decide +kernel
theorem dX5_prepareLodgers_62 : decode cX5_prepareLodgers 62 = .ok (.iaload, 1) := by decide +kernel
theorem dX5_prepareLodgers_63 : decode cX5_prepareLodgers 63 = .ok (.invokevirtual 103, 3) := by decide +kernel
theorem dX5_prepareLodgers_66 : decode cX5_prepareLodgers 66 = .ok (.if_icmp .eq 7, 3) := by decide +kernel
theorem dX5_prepareLodgers_69 : decode cX5_prepareLodgers 69 = .ok (.iload_n 3, 1) := by decide +kernel
theorem dX5_prepareLodgers_70 : decode cX5_prepareLodgers 70 = .ok (.iconst 1, 1) := by decide +kernel
theorem dX5_prepareLodgers_71 : decode cX5_prepareLodgers 71 = .ok (.iadd, 1) := by decide +kernel
theorem dX5_prepareLodgers_72 : decode cX5_prepareLodgers 72 = .ok (.istore_n 2, 1) := by decide +kernel
theorem dX5_prepareLodgers_73 : decode cX5_prepareLodgers 73 = .ok (.iinc 3 1, 3) := by decide +kernel
theorem dX5_prepareLodgers_76 : decode cX5_prepareLodgers 76 = .ok (.goto (-51), 3) := by decide +kernel
theorem dX5_prepareLodgers_79 : decode cX5_prepareLodgers 79 = .ok (.aload_n 0, 1) := by decide +kernel
theorem dX5_prepareLodgers_80 : decode cX5_prepareLodgers 80 = .ok (.getfield 27, 3) := by decide +kernel
theorem dX5_prepareLodgers_83 : decode cX5_prepareLodgers 83 = .ok (.iload_n 2, 1) := by decide +kernel
theorem dX5_prepareLodgers_84 : decode cX5_prepareLodgers 84 = .ok (.dup2, 1) := by decide +kernel
theorem dX5_prepareLodgers_85 : decode cX5_prepareLodgers 85 = .ok (.iaload, 1) := by decide +kernel
theorem dX5_prepareLodgers_86 : decode cX5_prepareLodgers 86 = .ok (.iconst 1, 1) := by decide +kernel
theorem dX5_prepareLodgers_87 : decode cX5_prepareLodgers 87 = .ok (.iload_n 1, 1) := by decide +kernel
theorem dX5_prepareLodgers_88 : decode cX5_prepareLodgers 88 = .ok (.ishl, 1) := by decide +kernel
theorem dX5_prepareLodgers_89 : decode cX5_prepareLodgers 89 = .ok (.ior, 1) := by decide +kernel
theorem dX5_prepareLodgers_90 : decode cX5_prepareLodgers 90 = .ok (.iastore, 1) := by decide +kernel
theorem dX5_prepareLodgers_91 : decode cX5_prepareLodgers 91 = .ok (.iinc 1 1, 3) := by decide +kernel
theorem dX5_prepareLodgers_94 : decode cX5_prepareLodgers 94 = .ok (.goto (-84), 3) := by decide +kernel
theorem dX5_prepareLodgers_97 : decode cX5_prepareLodgers 97 = .ok (.return_, 1) := by decide +kernel
theorem dX5_placeFor_0 : decode cX5_placeFor 0 = .ok (.iconst 2, 1) := by decide +kernel
theorem dX5_placeFor_1 : decode cX5_placeFor 1 = .ok (.aload_n 0, 1) := by decide +kernel
theorem dX5_placeFor_2 : decode cX5_placeFor 2 = .ok (.getfield 40, 3) := by decide +kernel
theorem dX5_placeFor_5 : decode cX5_placeFor 5 = .ok (.getfield 97, 3) := by decide +kernel
theorem dX5_placeFor_8 : decode cX5_placeFor 8 = .ok (.iload_n 2, 1) := by decide +kernel
theorem dX5_placeFor_9 : decode cX5_placeFor 9 = .ok (.iaload, 1) := by decide +kernel
theorem dX5_placeFor_10 : decode cX5_placeFor 10 = .ok (.aload_n 0, 1) := by decide +kernel
theorem dX5_placeFor_11 : decode cX5_placeFor 11 = .ok (.getfield 40, 3) := by decide +kernel
theorem dX5_placeFor_14 : decode cX5_placeFor 14 = .ok (.getfield 106, 3) := by decide +kernel
theorem dX5_placeFor_17 : decode cX5_placeFor 17 = .ok (.iload_n 1, 1) := by decide +kernel
theorem dX5_placeFor_18 : decode cX5_placeFor 18 = .ok (.iaload, 1) := by decide +kernel
theorem dX5_placeFor_19 : decode cX5_placeFor 19 = .ok (.isub, 1) := by decide +kernel
theorem dX5_placeFor_20 : decode cX5_placeFor 20 = .ok (.invokestatic 109, 3) := by decide +kernel
theorem dX5_placeFor_23 : decode cX5_placeFor 23 = .ok (.invokestatic 112, 3) := by decide +kernel
theorem dX5_placeFor_26 : decode cX5_placeFor 26 = .ok (.ireturn, 1) := by decide +kernel
theorem dX5_looseOn_0 : decode cX5_looseOn 0 = .ok (.aload_n 0, 1) := by decide +kernel
theorem dX5_looseOn_1 : decode cX5_looseOn 1 = .ok (.getfield 40, 3) := by decide +kernel
theorem dX5_looseOn_4 : decode cX5_looseOn 4 = .ok (.getfield 115, 3) := by decide +kernel
theorem dX5_looseOn_7 : decode cX5_looseOn 7 = .ok (.iload_n 1, 1) := by decide +kernel
theorem dX5_looseOn_8 : decode cX5_looseOn 8 = .ok (.iaload, 1) := by decide +kernel
theorem dX5_looseOn_9 : decode cX5_looseOn 9 = .ok (.ifCond .eq 7, 3) := by decide +kernel
theorem dX5_looseOn_12 : decode cX5_looseOn 12 = .ok (.iconst (-1), 1) := by decide +kernel
theorem dX5_looseOn_13 : decode cX5_looseOn 13 = .ok (.goto 12, 3) := by decide +kernel
theorem dX5_looseOn_16 : decode cX5_looseOn 16 = .ok (.aload_n 0, 1) := by decide +kernel
theorem dX5_looseOn_17 : decode cX5_looseOn 17 = .ok (.getfield 40, 3) := by decide +kernel
theorem dX5_looseOn_20 : decode cX5_looseOn 20 = .ok (.getfield 118, 3) := by decide +kernel
theorem dX5_looseOn_23 : decode cX5_looseOn 23 = .ok (.iload_n 1, 1) := by decide +kernel
theorem dX5_looseOn_24 : decode cX5_looseOn 24 = .ok (.iaload, 1) := by decide +kernel
theorem dX5_looseOn_25 : decode cX5_looseOn 25 = .ok (.ireturn, 1) := by decide +kernel
theorem dX5_place_0 : decode cX5_place 0 = .ok (.iload_n 3, 1) := by decide +kernel
theorem dX5_place_1 : decode cX5_place 1 = .ok (.aload_n 0, 1) := by decide +kernel
theorem dX5_place_2 : decode cX5_place 2 = .ok (.aload_n 0, 1) := by decide +kernel
theorem dX5_place_3 : decode cX5_place 3 = .ok (.getfield 27, 3) := by decide +kernel
theorem dX5_place_6 : decode cX5_place 6 = .ok (.iload_n 1, 1) := by decide +kernel
theorem dX5_place_7 : decode cX5_place 7 = .ok (.iaload, 1) := by decide +kernel
theorem dX5_place_8 : decode cX5_place 8 = .ok (.invokevirtual 121, 3) := by decide +kernel
theorem dX5_place_11 : decode cX5_place 11 = .ok (.iadd, 1) := by decide +kernel
theorem dX5_place_12 : decode cX5_place 12 = .ok (.istore 5, 2) := by decide +kernel
theorem dX5_place_14 : decode cX5_place 14 = .ok (.iload 4, 2) := by decide +kernel
theorem dX5_place_16 : decode cX5_place 16 = .ok (.aload_n 0, 1) := by decide +kernel
theorem dX5_place_17 : decode cX5_place 17 = .ok (.getfield 27, 3) := by decide +kernel
theorem dX5_place_20 : decode cX5_place 20 = .ok (.iload_n 1, 1) := by decide +kernel
theorem dX5_place_21 : decode cX5_place 21 = .ok (.iaload, 1) := by decide +kernel
theorem dX5_place_22 : decode cX5_place 22 = .ok (.invokestatic 56, 3) := by decide +kernel
theorem dX5_place_25 : decode cX5_place 25 = .ok (.isub, 1) := by decide +kernel
theorem dX5_place_26 : decode cX5_place 26 = .ok (.istore 6, 2) := by decide +kernel
theorem dX5_place_28 : decode cX5_place 28 = .ok (.iload 5, 2) := by decide +kernel
theorem dX5_place_30 : decode cX5_place 30 = .ok (.iload 6, 2) := by decide +kernel
theorem dX5_place_32 : decode cX5_place 32 = .ok (.iadd, 1) := by decide +kernel
theorem dX5_place_33 : decode cX5_place 33 = .ok (.istore 7, 2) := by decide +kernel
theorem dX5_place_35 : decode cX5_place 35 = .ok (.iload 7, 2) := by decide +kernel
theorem dX5_place_37 : decode cX5_place 37 = .ok (.aload_n 0, 1) := by decide +kernel
theorem dX5_place_38 : decode cX5_place 38 = .ok (.getfield 33, 3) := by decide +kernel
theorem dX5_place_41 : decode cX5_place 41 = .ok (.if_icmp .lt 20, 3) := by decide +kernel
theorem dX5_place_44 : decode cX5_place 44 = .ok (.iload 7, 2) := by decide +kernel
theorem dX5_place_46 : decode cX5_place 46 = .ok (.aload_n 0, 1) := by decide +kernel
theorem dX5_place_47 : decode cX5_place 47 = .ok (.getfield 33, 3) := by decide +kernel
theorem dX5_place_50 : decode cX5_place 50 = .ok (.if_icmp .ne 12, 3) := by decide +kernel
theorem dX5_place_53 : decode cX5_place 53 = .ok (.iload_n 2, 1) := by decide +kernel
theorem dX5_place_54 : decode cX5_place 54 = .ok (.aload_n 0, 1) := by decide +kernel
theorem dX5_place_55 : decode cX5_place 55 = .ok (.getfield 37, 3) := by decide +kernel
theorem dX5_place_58 : decode cX5_place 58 = .ok (.if_icmp .lt 4, 3) := by decide +kernel
theorem dX5_place_61 : decode cX5_place 61 = .ok (.return_, 1) := by decide +kernel
theorem dX5_place_62 : decode cX5_place 62 = .ok (.iload_n 1, 1) := by decide +kernel
theorem dX5_place_63 : decode cX5_place 63 = .ok (.aload_n 0, 1) := by decide +kernel
theorem dX5_place_64 : decode cX5_place 64 = .ok (.getfield 40, 3) := by decide +kernel
theorem dX5_place_67 : decode cX5_place 67 = .ok (.getfield 91, 3) := by decide +kernel
theorem dX5_place_70 : decode cX5_place 70 = .ok (.if_icmp .lt 30, 3) := by decide +kernel
theorem dX5_place_73 : decode cX5_place 73 = .ok (.aload_n 0, 1) := by decide +kernel
theorem dX5_place_74 : decode cX5_place 74 = .ok (.iload 5, 2) := by decide +kernel
theorem dX5_place_76 : decode cX5_place 76 = .ok (.putfield 33, 3) := by decide +kernel
theorem dX5_place_79 : decode cX5_place 79 = .ok (.aload_n 0, 1) := by decide +kernel
theorem dX5_place_80 : decode cX5_place 80 = .ok (.iload_n 2, 1) := by decide +kernel
theorem dX5_place_81 : decode cX5_place 81 = .ok (.putfield 37, 3) := by decide +kernel
theorem dX5_place_84 : decode cX5_place 84 = .ok (.aload_n 0, 1) := by decide +kernel
theorem dX5_place_85 : decode cX5_place 85 = .ok (.getfield 9, 3) := by decide +kernel
theorem dX5_place_88 : decode cX5_place 88 = .ok (.iconst 0, 1) := by decide +kernel
theorem dX5_place_89 : decode cX5_place 89 = .ok (.aload_n 0, 1) := by decide +kernel
theorem dX5_place_90 : decode cX5_place 90 = .ok (.getfield 30, 3) := by decide +kernel
theorem dX5_place_93 : decode cX5_place 93 = .ok (.iconst 0, 1) := by decide +kernel
theorem dX5_place_94 : decode cX5_place 94 = .ok (.bipush 8, 2) := by decide +kernel
theorem dX5_place_96 : decode cX5_place 96 = .ok (.invokestatic 72, 3) := by decide +kernel
theorem dX5_place_99 : decode cX5_place 99 = .ok (.return_, 1) := by decide +kernel
theorem dX5_place_100 : decode cX5_place 100 = .ok (.aload_n 0, 1) := by decide +kernel
theorem dX5_place_101 : decode cX5_place 101 = .ok (.getfield 40, 3) := by decide +kernel
theorem dX5_place_104 : decode cX5_place 104 = .ok (.getfield 69, 3) := by decide +kernel
theorem dX5_place_107 : decode cX5_place 107 = .ok (.iload_n 1, 1) := by decide +kernel
theorem dX5_place_108 : decode cX5_place 108 = .ok (.iaload, 1) := by decide +kernel
theorem dX5_place_109 : decode cX5_place 109 = .ok (.istore 8, 2) := by decide +kernel
theorem dX5_place_111 : decode cX5_place 111 = .ok (.aload_n 0, 1) := by decide +kernel
theorem dX5_place_112 : decode cX5_place 112 = .ok (.iload_n 1, 1) := by decide +kernel
theorem dX5_place_113 : decode cX5_place 113 = .ok (.invokevirtual 94, 3) := by decide +kernel
theorem dX5_place_116 : decode cX5_place 116 = .ok (.istore 9, 2) := by decide +kernel
theorem dX5_place_118 : decode cX5_place 118 = .ok (.iload 9, 2) := by decide +kernel
theorem dX5_place_120 : decode cX5_place 120 = .ok (.ifCond .ge 24, 3) := by decide +kernel
theorem dX5_place_123 : decode cX5_place 123 = .ok (.aload_n 0, 1) := by decide +kernel
theorem dX5_place_124 : decode cX5_place 124 = .ok (.getfield 9, 3) := by decide +kernel
theorem dX5_place_127 : decode cX5_place 127 = .ok (.iload_n 1, 1) := by decide +kernel
theorem dX5_place_128 : decode cX5_place 128 = .ok (.iload 8, 2) := by decide +kernel
theorem dX5_place_130 : decode cX5_place 130 = .ok (.iastore, 1) := by decide +kernel
theorem dX5_place_131 : decode cX5_place 131 = .ok (.aload_n 0, 1) := by decide +kernel
theorem dX5_place_132 : decode cX5_place 132 = .ok (.iload_n 1, 1) := by decide +kernel
theorem dX5_place_133 : decode cX5_place 133 = .ok (.iconst 1, 1) := by decide +kernel
theorem dX5_place_134 : decode cX5_place 134 = .ok (.iadd, 1) := by decide +kernel
theorem dX5_place_135 : decode cX5_place 135 = .ok (.iload_n 2, 1) := by decide +kernel
theorem dX5_place_136 : decode cX5_place 136 = .ok (.iload 5, 2) := by decide +kernel
theorem dX5_place_138 : decode cX5_place 138 = .ok (.iload 6, 2) := by decide +kernel
theorem dX5_place_140 : decode cX5_place 140 = .ok (.invokevirtual 81, 3) := by decide +kernel
theorem dX5_place_143 : decode cX5_place 143 = .ok (.return_, 1) := by decide +kernel
theorem dX5_place_144 : decode cX5_place 144 = .ok (.iconst 0, 1) := by decide +kernel
theorem dX5_place_145 : decode cX5_place 145 = .ok (.aload_n 0, 1) := by decide +kernel
theorem dX5_place_146 : decode cX5_place 146 = .ok (.getfield 18, 3) := by decide +kernel
theorem dX5_place_149 : decode cX5_place 149 = .ok (.iload 9, 2) := by decide +kernel
theorem dX5_place_151 : decode cX5_place 151 = .ok (.iaload, 1) := by decide +kernel
theorem dX5_place_152 : decode cX5_place 152 = .ok (.bipush 9, 2) := by decide +kernel
theorem dX5_place_154 : decode cX5_place 154 = .ok (.aload_n 0, 1) := by decide +kernel
theorem dX5_place_155 : decode cX5_place 155 = .ok (.getfield 21, 3) := by decide +kernel
theorem dX5_place_158 : decode cX5_place 158 = .ok (.iload 9, 2) := by decide +kernel
theorem dX5_place_160 : decode cX5_place 160 = .ok (.iaload, 1) := by decide +kernel
theorem dX5_place_161 : decode cX5_place 161 = .ok (.iconst 1, 1) := by decide +kernel
theorem dX5_place_162 : decode cX5_place 162 = .ok (.isub, 1) := by decide +kernel
theorem dX5_place_163 : decode cX5_place 163 = .ok (.imul, 1) := by decide +kernel
theorem dX5_place_164 : decode cX5_place 164 = .ok (.isub, 1) := by decide +kernel
theorem dX5_place_165 : decode cX5_place 165 = .ok (.invokestatic 62, 3) := by decide +kernel
theorem dX5_place_168 : decode cX5_place 168 = .ok (.istore 10, 2) := by decide +kernel
theorem dX5_place_170 : decode cX5_place 170 = .ok (.bipush 9, 2) := by decide +kernel
theorem dX5_place_172 : decode cX5_place 172 = .ok (.aload_n 0, 1) := by decide +kernel
theorem dX5_place_173 : decode cX5_place 173 = .ok (.getfield 18, 3) := by decide +kernel
theorem dX5_place_176 : decode cX5_place 176 = .ok (.iload 9, 2) := by decide +kernel
theorem dX5_place_178 : decode cX5_place 178 = .ok (.iaload, 1) := by decide +kernel
theorem dX5_place_179 : decode cX5_place 179 = .ok (.invokestatic 112, 3) := by decide +kernel
theorem dX5_place_182 : decode cX5_place 182 = .ok (.istore 11, 2) := by decide +kernel
theorem dX5_place_184 : decode cX5_place 184 = .ok (.iload 10, 2) := by decide +kernel
theorem dX5_place_186 : decode cX5_place 186 = .ok (.istore 12, 2) := by decide +kernel
theorem dX5_place_188 : decode cX5_place 188 = .ok (.iload 12, 2) := by decide +kernel
theorem dX5_place_190 : decode cX5_place 190 = .ok (.iload 11, 2) := by decide +kernel
theorem dX5_place_192 : decode cX5_place 192 = .ok (.if_icmp .gt 60, 3) := by decide +kernel
theorem dX5_place_195 : decode cX5_place 195 = .ok (.aload_n 0, 1) := by decide +kernel
theorem dX5_place_196 : decode cX5_place 196 = .ok (.getfield 9, 3) := by decide +kernel
theorem dX5_place_199 : decode cX5_place 199 = .ok (.iload_n 1, 1) := by decide +kernel
theorem dX5_place_200 : decode cX5_place 200 = .ok (.iload 12, 2) := by decide +kernel
theorem dX5_place_202 : decode cX5_place 202 = .ok (.iastore, 1) := by decide +kernel
theorem dX5_place_203 : decode cX5_place 203 = .ok (.aload_n 0, 1) := by decide +kernel
theorem dX5_place_204 : decode cX5_place 204 = .ok (.iload_n 1, 1) := by decide +kernel
theorem dX5_place_205 : decode cX5_place 205 = .ok (.iload 9, 2) := by decide +kernel
theorem dX5_place_207 : decode cX5_place 207 = .ok (.iload 12, 2) := by decide +kernel
theorem dX5_place_209 : decode cX5_place 209 = .ok (.iconst 1, 1) := by decide +kernel
theorem dX5_place_210 : decode cX5_place 210 = .ok (.invokevirtual 124, 3) := by decide +kernel
theorem dX5_place_213 : decode cX5_place 213 = .ok (.aload_n 0, 1) := by decide +kernel
theorem dX5_place_214 : decode cX5_place 214 = .ok (.iload_n 1, 1) := by decide +kernel
theorem dX5_place_215 : decode cX5_place 215 = .ok (.iconst 1, 1) := by decide +kernel
theorem dX5_place_216 : decode cX5_place 216 = .ok (.iadd, 1) := by decide +kernel
theorem dX5_place_217 : decode cX5_place 217 = .ok (.iload_n 2, 1) := by decide +kernel
theorem dX5_place_218 : decode cX5_place 218 = .ok (.iconst 0, 1) := by decide +kernel
theorem dX5_place_219 : decode cX5_place 219 = .ok (.iload 12, 2) := by decide +kernel
theorem dX5_place_221 : decode cX5_place 221 = .ok (.iload 8, 2) := by decide +kernel
theorem dX5_place_223 : decode cX5_place 223 = .ok (.isub, 1) := by decide +kernel
theorem dX5_place_224 : decode cX5_place 224 = .ok (.invokestatic 62, 3) := by decide +kernel
theorem dX5_place_227 : decode cX5_place 227 = .ok (.iadd, 1) := by decide +kernel
theorem dX5_place_228 : decode cX5_place 228 = .ok (.iload 5, 2) := by decide +kernel
theorem dX5_place_230 : decode cX5_place 230 = .ok (.iload 6, 2) := by decide +kernel
theorem dX5_place_232 : decode cX5_place 232 = .ok (.invokevirtual 81, 3) := by decide +kernel
theorem dX5_place_235 : decode cX5_place 235 = .ok (.aload_n 0, 1) := by decide +kernel
theorem dX5_place_236 : decode cX5_place 236 = .ok (.iload_n 1, 1) := by decide +kernel
theorem dX5_place_237 : decode cX5_place 237 = .ok (.iload 9, 2) := by decide +kernel
theorem dX5_place_239 : decode cX5_place 239 = .ok (.iload 12, 2) := by decide +kernel
theorem dX5_place_241 : decode cX5_place 241 = .ok (.ineg, 1) := by decide +kernel
theorem dX5_place_242 : decode cX5_place 242 = .ok (.iconst (-1), 1) := by decide +kernel
theorem dX5_place_243 : decode cX5_place 243 = .ok (.invokevirtual 124, 3) := by decide +kernel
theorem dX5_place_246 : decode cX5_place 246 = .ok (.iinc 12 1, 3) := by decide +kernel
theorem dX5_place_249 : decode cX5_place 249 = .ok (.goto (-61), 3) := by decide +kernel
theorem dX5_place_252 : decode cX5_place 252 = .ok (.return_, 1) := by decide +kernel
theorem dX5_fill_0 : decode cX5_fill 0 = .ok (.aload_n 0, 1) := by decide +kernel
theorem dX5_fill_1 : decode cX5_fill 1 = .ok (.getfield 15, 3) := by decide +kernel
theorem dX5_fill_4 : decode cX5_fill 4 = .ok (.aload_n 0, 1) := by decide +kernel
theorem dX5_fill_5 : decode cX5_fill 5 = .ok (.getfield 40, 3) := by decide +kernel
theorem dX5_fill_8 : decode cX5_fill 8 = .ok (.getfield 97, 3) := by decide +kernel
theorem dX5_fill_11 : decode cX5_fill 11 = .ok (.iload_n 1, 1) := by decide +kernel
theorem dX5_fill_12 : decode cX5_fill 12 = .ok (.iaload, 1) := by decide +kernel
theorem dX5_fill_13 : decode cX5_fill 13 = .ok (.iconst 1, 1) := by decide +kernel
theorem dX5_fill_14 : decode cX5_fill 14 = .ok (.iadd, 1) := by decide +kernel
theorem dX5_fill_15 : decode cX5_fill 15 = .ok (.dup2, 1) := by decide +kernel
theorem dX5_fill_16 : decode cX5_fill 16 = .ok (.iaload, 1) := by decide +kernel
theorem dX5_fill_17 : decode cX5_fill 17 = .ok (.iload_n 3, 1) := by decide +kernel
theorem dX5_fill_18 : decode cX5_fill 18 = .ok (.iadd, 1) := by decide +kernel
theorem dX5_fill_19 : decode cX5_fill 19 = .ok (.iastore, 1) := by decide +kernel
theorem dX5_fill_20 : decode cX5_fill 20 = .ok (.aload_n 0, 1) := by decide +kernel
theorem dX5_fill_21 : decode cX5_fill 21 = .ok (.getfield 15, 3) := by decide +kernel
theorem dX5_fill_24 : decode cX5_fill 24 = .ok (.aload_n 0, 1) := by decide +kernel
theorem dX5_fill_25 : decode cX5_fill 25 = .ok (.getfield 40, 3) := by decide +kernel
theorem dX5_fill_28 : decode cX5_fill 28 = .ok (.getfield 97, 3) := by decide +kernel
theorem dX5_fill_31 : decode cX5_fill 31 = .ok (.aload_n 0, 1) := by decide +kernel
theorem dX5_fill_32 : decode cX5_fill 32 = .ok (.getfield 24, 3) := by decide +kernel
theorem dX5_fill_35 : decode cX5_fill 35 = .ok (.iload_n 2, 1) := by decide +kernel
theorem dX5_fill_36 : decode cX5_fill 36 = .ok (.iaload, 1) := by decide +kernel
theorem dX5_fill_37 : decode cX5_fill 37 = .ok (.iaload, 1) := by decide +kernel
theorem dX5_fill_38 : decode cX5_fill 38 = .ok (.iconst 1, 1) := by decide +kernel
theorem dX5_fill_39 : decode cX5_fill 39 = .ok (.iadd, 1) := by decide +kernel
theorem dX5_fill_40 : decode cX5_fill 40 = .ok (.dup2, 1) := by decide +kernel
theorem dX5_fill_41 : decode cX5_fill 41 = .ok (.iaload, 1) := by decide +kernel
theorem dX5_fill_42 : decode cX5_fill 42 = .ok (.iload_n 3, 1) := by decide +kernel
theorem dX5_fill_43 : decode cX5_fill 43 = .ok (.isub, 1) := by decide +kernel
theorem dX5_fill_44 : decode cX5_fill 44 = .ok (.iastore, 1) := by decide +kernel
theorem dX5_fill_45 : decode cX5_fill 45 = .ok (.aload_n 0, 1) := by decide +kernel
theorem dX5_fill_46 : decode cX5_fill 46 = .ok (.getfield 18, 3) := by decide +kernel
theorem dX5_fill_49 : decode cX5_fill 49 = .ok (.iload_n 2, 1) := by decide +kernel
theorem dX5_fill_50 : decode cX5_fill 50 = .ok (.dup2, 1) := by decide +kernel
theorem dX5_fill_51 : decode cX5_fill 51 = .ok (.iaload, 1) := by decide +kernel
theorem dX5_fill_52 : decode cX5_fill 52 = .ok (.iload_n 3, 1) := by decide +kernel
theorem dX5_fill_53 : decode cX5_fill 53 = .ok (.isub, 1) := by decide +kernel
theorem dX5_fill_54 : decode cX5_fill 54 = .ok (.iastore, 1) := by decide +kernel
theorem dX5_fill_55 : decode cX5_fill 55 = .ok (.aload_n 0, 1) := by decide +kernel
theorem dX5_fill_56 : decode cX5_fill 56 = .ok (.getfield 21, 3) := by decide +kernel
theorem dX5_fill_59 : decode cX5_fill 59 = .ok (.iload_n 2, 1) := by decide +kernel
theorem dX5_fill_60 : decode cX5_fill 60 = .ok (.dup2, 1) := by decide +kernel
theorem dX5_fill_61 : decode cX5_fill 61 = .ok (.iaload, 1) := by decide +kernel
theorem dX5_fill_62 : decode cX5_fill 62 = .ok (.iload 4, 2) := by decide +kernel
theorem dX5_fill_64 : decode cX5_fill 64 = .ok (.isub, 1) := by decide +kernel
theorem dX5_fill_65 : decode cX5_fill 65 = .ok (.iastore, 1) := by decide +kernel
theorem dX5_fill_66 : decode cX5_fill 66 = .ok (.return_, 1) := by decide +kernel
theorem dX5_contentOf_0 : decode cX5_contentOf 0 = .ok (.iconst 0, 1) := by decide +kernel
theorem dX5_contentOf_1 : decode cX5_contentOf 1 = .ok (.istore_n 2, 1) := by decide +kernel
theorem dX5_contentOf_2 : decode cX5_contentOf 2 = .ok (.iconst 0, 1) := by decide +kernel
theorem dX5_contentOf_3 : decode cX5_contentOf 3 = .ok (.istore_n 3, 1) := by decide +kernel
theorem dX5_contentOf_4 : decode cX5_contentOf 4 = .ok (.iload_n 3, 1) := by decide +kernel
theorem dX5_contentOf_5 : decode cX5_contentOf 5 = .ok (.aload_n 0, 1) := by decide +kernel
theorem dX5_contentOf_6 : decode cX5_contentOf 6 = .ok (.getfield 40, 3) := by decide +kernel
theorem dX5_contentOf_9 : decode cX5_contentOf 9 = .ok (.getfield 78, 3) := by decide +kernel
theorem dX5_contentOf_12 : decode cX5_contentOf 12 = .ok (.if_icmp .ge 92, 3) := by decide +kernel
theorem dX5_contentOf_15 : decode cX5_contentOf 15 = .ok (.iload_n 1, 1) := by decide +kernel
theorem dX5_contentOf_16 : decode cX5_contentOf 16 = .ok (.iload_n 3, 1) := by decide +kernel
theorem dX5_contentOf_17 : decode cX5_contentOf 17 = .ok (.ishr, 1) := by decide +kernel
theorem dX5_contentOf_18 : decode cX5_contentOf 18 = .ok (.ifCond .eq 86, 3) := by decide +kernel
theorem dX5_contentOf_21 : decode cX5_contentOf 21 = .ok (.iload_n 1, 1) := by decide +kernel
theorem dX5_contentOf_22 : decode cX5_contentOf 22 = .ok (.iload_n 3, 1) := by decide +kernel
theorem dX5_contentOf_23 : decode cX5_contentOf 23 = .ok (.ishr, 1) := by decide +kernel
theorem dX5_contentOf_24 : decode cX5_contentOf 24 = .ok (.iconst 1, 1) := by decide +kernel
theorem dX5_contentOf_25 : decode cX5_contentOf 25 = .ok (.iand, 1) := by decide +kernel
theorem dX5_contentOf_26 : decode cX5_contentOf 26 = .ok (.ifCond .eq 72, 3) := by decide +kernel
theorem dX5_contentOf_29 : decode cX5_contentOf 29 = .ok (.aload_n 0, 1) := by decide +kernel
theorem dX5_contentOf_30 : decode cX5_contentOf 30 = .ok (.getfield 40, 3) := by decide +kernel
theorem dX5_contentOf_33 : decode cX5_contentOf 33 = .ok (.getfield 106, 3) := by decide +kernel
theorem dX5_contentOf_36 : decode cX5_contentOf 36 = .ok (.iload_n 3, 1) := by decide +kernel
theorem dX5_contentOf_37 : decode cX5_contentOf 37 = .ok (.iaload, 1) := by decide +kernel
theorem dX5_contentOf_38 : decode cX5_contentOf 38 = .ok (.iconst 1, 1) := by decide +kernel
theorem dX5_contentOf_39 : decode cX5_contentOf 39 = .ok (.iadd, 1) := by decide +kernel
theorem dX5_contentOf_40 : decode cX5_contentOf 40 = .ok (.istore 4, 2) := by decide +kernel
theorem dX5_contentOf_42 : decode cX5_contentOf 42 = .ok (.aload_n 0, 1) := by decide +kernel
theorem dX5_contentOf_43 : decode cX5_contentOf 43 = .ok (.getfield 40, 3) := by decide +kernel
theorem dX5_contentOf_46 : decode cX5_contentOf 46 = .ok (.aload_n 0, 1) := by decide +kernel
theorem dX5_contentOf_47 : decode cX5_contentOf 47 = .ok (.getfield 15, 3) := by decide +kernel
theorem dX5_contentOf_50 : decode cX5_contentOf 50 = .ok (.iload 4, 2) := by decide +kernel
theorem dX5_contentOf_52 : decode cX5_contentOf 52 = .ok (.iaload, 1) := by decide +kernel
theorem dX5_contentOf_53 : decode cX5_contentOf 53 = .ok (.aload_n 0, 1) := by decide +kernel
theorem dX5_contentOf_54 : decode cX5_contentOf 54 = .ok (.getfield 15, 3) := by decide +kernel
theorem dX5_contentOf_57 : decode cX5_contentOf 57 = .ok (.iload 4, 2) := by decide +kernel
theorem dX5_contentOf_59 : decode cX5_contentOf 59 = .ok (.iconst 1, 1) := by decide +kernel
theorem dX5_contentOf_60 : decode cX5_contentOf 60 = .ok (.isub, 1) := by decide +kernel
theorem dX5_contentOf_61 : decode cX5_contentOf 61 = .ok (.iaload, 1) := by decide +kernel
theorem dX5_contentOf_62 : decode cX5_contentOf 62 = .ok (.aload_n 0, 1) := by decide +kernel
theorem dX5_contentOf_63 : decode cX5_contentOf 63 = .ok (.getfield 15, 3) := by decide +kernel
theorem dX5_contentOf_66 : decode cX5_contentOf 66 = .ok (.iload 4, 2) := by decide +kernel
theorem dX5_contentOf_68 : decode cX5_contentOf 68 = .ok (.iconst 1, 1) := by decide +kernel
theorem dX5_contentOf_69 : decode cX5_contentOf 69 = .ok (.iadd, 1) := by decide +kernel
theorem dX5_contentOf_70 : decode cX5_contentOf 70 = .ok (.iaload, 1) := by decide +kernel
theorem dX5_contentOf_71 : decode cX5_contentOf 71 = .ok (.iadd, 1) := by decide +kernel
theorem dX5_contentOf_72 : decode cX5_contentOf 72 = .ok (.invokevirtual 126, 3) := by decide +kernel
theorem dX5_contentOf_75 : decode cX5_contentOf 75 = .ok (.istore 5, 2) := by decide +kernel
theorem dX5_contentOf_77 : decode cX5_contentOf 77 = .ok (.iload_n 2, 1) := by decide +kernel
theorem dX5_contentOf_78 : decode cX5_contentOf 78 = .ok (.aload_n 0, 1) := by decide +kernel
theorem dX5_contentOf_79 : decode cX5_contentOf 79 = .ok (.getfield 40, 3) := by decide +kernel
theorem dX5_contentOf_82 : decode cX5_contentOf 82 = .ok (.iload_n 3, 1) := by decide +kernel
theorem dX5_contentOf_83 : decode cX5_contentOf 83 = .ok (.iload 5, 2) := by decide +kernel
theorem dX5_contentOf_85 : decode cX5_contentOf 85 = .ok (.invokevirtual 129, 3) := by decide +kernel
theorem dX5_contentOf_88 : decode cX5_contentOf 88 = .ok (.ifCond .eq 7, 3) := by decide +kernel
theorem dX5_contentOf_91 : decode cX5_contentOf 91 = .ok (.iconst 1, 1) := by decide +kernel
theorem dX5_contentOf_92 : decode cX5_contentOf 92 = .ok (.goto 4, 3) := by decide +kernel
theorem dX5_contentOf_95 : decode cX5_contentOf 95 = .ok (.iconst 0, 1) := by decide +kernel
theorem dX5_contentOf_96 : decode cX5_contentOf 96 = .ok (.iadd, 1) := by decide +kernel
theorem dX5_contentOf_97 : decode cX5_contentOf 97 = .ok (.istore_n 2, 1) := by decide +kernel
theorem dX5_contentOf_98 : decode cX5_contentOf 98 = .ok (.iinc 3 1, 3) := by decide +kernel
theorem dX5_contentOf_101 : decode cX5_contentOf 101 = .ok (.goto (-97), 3) := by decide +kernel
theorem dX5_contentOf_104 : decode cX5_contentOf 104 = .ok (.iload_n 2, 1) := by decide +kernel
theorem dX5_contentOf_105 : decode cX5_contentOf 105 = .ok (.ireturn, 1) := by decide +kernel
theorem dX6_init_0 : decode cX6_init 0 = .ok (.aload_n 0, 1) := by decide +kernel
theorem dX6_init_1 : decode cX6_init 1 = .ok (.iload_n 1, 1) := by decide +kernel
theorem dX6_init_2 : decode cX6_init 2 = .ok (.invokespecial 1, 3) := by decide +kernel
theorem dX6_init_5 : decode cX6_init 5 = .ok (.return_, 1) := by decide +kernel
theorem dX6_pleased_0 : decode cX6_pleased 0 = .ok (.iload_n 1, 1) := by decide +kernel
theorem dX6_pleased_1 : decode cX6_pleased 1 = .ok (.ifCond .ne 15, 3) := by decide +kernel
theorem dX6_pleased_4 : decode cX6_pleased 4 = .ok (.iload_n 2, 1) := by decide +kernel
theorem dX6_pleased_5 : decode cX6_pleased 5 = .ok (.bipush 6, 2) := by decide +kernel
theorem dX6_pleased_7 : decode cX6_pleased 7 = .ok (.if_icmp .lt 9, 3) := by decide +kernel
theorem dX6_pleased_10 : decode cX6_pleased 10 = .ok (.iload_n 2, 1) := by decide +kernel
theorem dX6_pleased_11 : decode cX6_pleased 11 = .ok (.bipush 20, 2) := by decide +kernel
theorem dX6_pleased_13 : decode cX6_pleased 13 = .ok (.if_icmp .lt 7, 3) := by decide +kernel
theorem dX6_pleased_16 : decode cX6_pleased 16 = .ok (.iconst 1, 1) := by decide +kernel
theorem dX6_pleased_17 : decode cX6_pleased 17 = .ok (.goto 4, 3) := by decide +kernel
theorem dX6_pleased_20 : decode cX6_pleased 20 = .ok (.iconst 0, 1) := by decide +kernel
theorem dX6_pleased_21 : decode cX6_pleased 21 = .ok (.ireturn, 1) := by decide +kernel
theorem dX6_shuts_0 : decode cX6_shuts 0 = .ok (.aload 4, 2) := by decide +kernel
theorem dX6_shuts_2 : decode cX6_shuts 2 = .ok (.bipush 40, 2) := by decide +kernel
theorem dX6_shuts_4 : decode cX6_shuts 4 = .ok (.invokevirtual 7, 3) := by decide +kernel
theorem dX6_shuts_7 : decode cX6_shuts 7 = .ok (.aload_n 0, 1) := by decide +kernel
theorem dX6_shuts_8 : decode cX6_shuts 8 = .ok (.iload_n 1, 1) := by decide +kernel
theorem dX6_shuts_9 : decode cX6_shuts 9 = .ok (.iload_n 2, 1) := by decide +kernel
theorem dX6_shuts_10 : decode cX6_shuts 10 = .ok (.iload_n 3, 1) := by decide +kernel
theorem dX6_shuts_11 : decode cX6_shuts 11 = .ok (.aload 4, 2) := by decide +kernel
theorem dX6_shuts_13 : decode cX6_shuts 13 = .ok (.invokespecial 12, 3) := by decide +kernel
theorem dX6_shuts_16 : decode cX6_shuts 16 = .ok (.ineg, 1) := by decide +kernel
theorem dX6_shuts_17 : decode cX6_shuts 17 = .ok (.ireturn, 1) := by decide +kernel
theorem dX7_init_0 : decode cX7_init 0 = .ok (.aload_n 0, 1) := by decide +kernel
theorem dX7_init_1 : decode cX7_init 1 = .ok (.iload_n 1, 1) := by decide +kernel
theorem dX7_init_2 : decode cX7_init 2 = .ok (.invokespecial 1, 3) := by decide +kernel
theorem dX7_init_5 : decode cX7_init 5 = .ok (.return_, 1) := by decide +kernel
theorem dX7_leastAir_0 : decode cX7_leastAir 0 = .ok (.iconst 5, 1) := by decide +kernel
theorem dX7_leastAir_1 : decode cX7_leastAir 1 = .ok (.iload_n 1, 1) := by decide +kernel
theorem dX7_leastAir_2 : decode cX7_leastAir 2 = .ok (.iconst 2, 1) := by decide +kernel
theorem dX7_leastAir_3 : decode cX7_leastAir 3 = .ok (.idiv, 1) := by decide +kernel
theorem dX7_leastAir_4 : decode cX7_leastAir 4 = .ok (.iadd, 1) := by decide +kernel
theorem dX7_leastAir_5 : decode cX7_leastAir 5 = .ok (.ireturn, 1) := by decide +kernel
theorem dX7_mostAir_0 : decode cX7_mostAir 0 = .ok (.bipush 99, 2) := by decide +kernel
theorem dX7_mostAir_2 : decode cX7_mostAir 2 = .ok (.ireturn, 1) := by decide +kernel
theorem dX7_wakes_0 : decode cX7_wakes 0 = .ok (.aload 4, 2) := by decide +kernel
theorem dX7_wakes_2 : decode cX7_wakes 2 = .ok (.bipush 30, 2) := by decide +kernel
theorem dX7_wakes_4 : decode cX7_wakes 4 = .ok (.invokevirtual 7, 3) := by decide +kernel
theorem dX7_wakes_7 : decode cX7_wakes 7 = .ok (.aload_n 0, 1) := by decide +kernel
theorem dX7_wakes_8 : decode cX7_wakes 8 = .ok (.iload_n 1, 1) := by decide +kernel
theorem dX7_wakes_9 : decode cX7_wakes 9 = .ok (.iload_n 2, 1) := by decide +kernel
theorem dX7_wakes_10 : decode cX7_wakes 10 = .ok (.iload_n 3, 1) := by decide +kernel
theorem dX7_wakes_11 : decode cX7_wakes 11 = .ok (.aload 4, 2) := by decide +kernel
theorem dX7_wakes_13 : decode cX7_wakes 13 = .ok (.invokespecial 12, 3) := by decide +kernel
theorem dX7_wakes_16 : decode cX7_wakes 16 = .ok (.iconst 3, 1) := by decide +kernel
theorem dX7_wakes_17 : decode cX7_wakes 17 = .ok (.imul, 1) := by decide +kernel
theorem dX7_wakes_18 : decode cX7_wakes 18 = .ok (.ireturn, 1) := by decide +kernel
theorem dX8_init_0 : decode cX8_init 0 = .ok (.aload_n 0, 1) := by decide +kernel
theorem dX8_init_1 : decode cX8_init 1 = .ok (.iload_n 1, 1) := by decide +kernel
theorem dX8_init_2 : decode cX8_init 2 = .ok (.invokespecial 1, 3) := by decide +kernel
theorem dX8_init_5 : decode cX8_init 5 = .ok (.return_, 1) := by decide +kernel
theorem dX8_pleased_0 : decode cX8_pleased 0 = .ok (.aload_n 0, 1) := by decide +kernel
theorem dX8_pleased_1 : decode cX8_pleased 1 = .ok (.iload_n 1, 1) := by decide +kernel
theorem dX8_pleased_2 : decode cX8_pleased 2 = .ok (.iload_n 2, 1) := by decide +kernel
theorem dX8_pleased_3 : decode cX8_pleased 3 = .ok (.invokespecial 7, 3) := by decide +kernel
theorem dX8_pleased_6 : decode cX8_pleased 6 = .ok (.ifCond .ne 7, 3) := by decide +kernel
theorem dX8_pleased_9 : decode cX8_pleased 9 = .ok (.iconst 1, 1) := by decide +kernel
theorem dX8_pleased_10 : decode cX8_pleased 10 = .ok (.goto 4, 3) := by decide +kernel
theorem dX8_pleased_13 : decode cX8_pleased 13 = .ok (.iconst 0, 1) := by decide +kernel
theorem dX8_pleased_14 : decode cX8_pleased 14 = .ok (.ireturn, 1) := by decide +kernel
theorem dX8_shuts_0 : decode cX8_shuts 0 = .ok (.aload 4, 2) := by decide +kernel
theorem dX8_shuts_2 : decode cX8_shuts 2 = .ok (.bipush 70, 2) := by decide +kernel
theorem dX8_shuts_4 : decode cX8_shuts 4 = .ok (.invokevirtual 11, 3) := by decide +kernel
theorem dX8_shuts_7 : decode cX8_shuts 7 = .ok (.aload_n 0, 1) := by decide +kernel
theorem dX8_shuts_8 : decode cX8_shuts 8 = .ok (.iload_n 1, 1) := by decide +kernel
theorem dX8_shuts_9 : decode cX8_shuts 9 = .ok (.iload_n 2, 1) := by decide +kernel
theorem dX8_shuts_10 : decode cX8_shuts 10 = .ok (.iload_n 3, 1) := by decide +kernel
theorem dX8_shuts_11 : decode cX8_shuts 11 = .ok (.aload 4, 2) := by decide +kernel
theorem dX8_shuts_13 : decode cX8_shuts 13 = .ok (.invokespecial 16, 3) := by decide +kernel
theorem dX8_shuts_16 : decode cX8_shuts 16 = .ok (.iload_n 1, 1) := by decide +kernel
theorem dX8_shuts_17 : decode cX8_shuts 17 = .ok (.ixor, 1) := by decide +kernel
theorem dX8_shuts_18 : decode cX8_shuts 18 = .ok (.ireturn, 1) := by decide +kernel
theorem dX8_tells_0 : decode cX8_tells 0 = .ok (.aload 4, 2) := by decide +kernel
theorem dX8_tells_2 : decode cX8_tells 2 = .ok (.bipush 71, 2) := by decide +kernel
theorem dX8_tells_4 : decode cX8_tells 4 = .ok (.invokevirtual 11, 3) := by decide +kernel
theorem dX8_tells_7 : decode cX8_tells 7 = .ok (.aload_n 0, 1) := by decide +kernel
theorem dX8_tells_8 : decode cX8_tells 8 = .ok (.iload_n 1, 1) := by decide +kernel
theorem dX8_tells_9 : decode cX8_tells 9 = .ok (.iload_n 2, 1) := by decide +kernel
theorem dX8_tells_10 : decode cX8_tells 10 = .ok (.iload_n 3, 1) := by decide +kernel
theorem dX8_tells_11 : decode cX8_tells 11 = .ok (.aload 4, 2) := by decide +kernel
theorem dX8_tells_13 : decode cX8_tells 13 = .ok (.invokevirtual 20, 3) := by decide +kernel
theorem dX8_tells_16 : decode cX8_tells 16 = .ok (.aload_n 0, 1) := by decide +kernel
theorem dX8_tells_17 : decode cX8_tells 17 = .ok (.iload_n 1, 1) := by decide +kernel
theorem dX8_tells_18 : decode cX8_tells 18 = .ok (.iload_n 2, 1) := by decide +kernel
theorem dX8_tells_19 : decode cX8_tells 19 = .ok (.iload_n 3, 1) := by decide +kernel
theorem dX8_tells_20 : decode cX8_tells 20 = .ok (.aload 4, 2) := by decide +kernel
theorem dX8_tells_22 : decode cX8_tells 22 = .ok (.invokespecial 25, 3) := by decide +kernel
theorem dX8_tells_25 : decode cX8_tells 25 = .ok (.isub, 1) := by decide +kernel
theorem dX8_tells_26 : decode cX8_tells 26 = .ok (.ireturn, 1) := by decide +kernel
theorem dX9_init_0 : decode cX9_init 0 = .ok (.aload_n 0, 1) := by decide +kernel
theorem dX9_init_1 : decode cX9_init 1 = .ok (.iload_n 1, 1) := by decide +kernel
theorem dX9_init_2 : decode cX9_init 2 = .ok (.invokespecial 1, 3) := by decide +kernel
theorem dX9_init_5 : decode cX9_init 5 = .ok (.return_, 1) := by decide +kernel
theorem dX9_strength_0 : decode cX9_strength 0 = .ok (.iconst 2, 1) := by decide +kernel
theorem dX9_strength_1 : decode cX9_strength 1 = .ok (.ireturn, 1) := by decide +kernel
theorem dX9_tells_0 : decode cX9_tells 0 = .ok (.aload 4, 2) := by decide +kernel
theorem dX9_tells_2 : decode cX9_tells 2 = .ok (.bipush 60, 2) := by decide +kernel
theorem dX9_tells_4 : decode cX9_tells 4 = .ok (.invokevirtual 7, 3) := by decide +kernel
theorem dX9_tells_7 : decode cX9_tells 7 = .ok (.aload_n 0, 1) := by decide +kernel
theorem dX9_tells_8 : decode cX9_tells 8 = .ok (.iload_n 1, 1) := by decide +kernel
theorem dX9_tells_9 : decode cX9_tells 9 = .ok (.iload_n 2, 1) := by decide +kernel
theorem dX9_tells_10 : decode cX9_tells 10 = .ok (.iload_n 3, 1) := by decide +kernel
theorem dX9_tells_11 : decode cX9_tells 11 = .ok (.aload 4, 2) := by decide +kernel
theorem dX9_tells_13 : decode cX9_tells 13 = .ok (.invokespecial 12, 3) := by decide +kernel
theorem dX9_tells_16 : decode cX9_tells 16 = .ok (.aload_n 0, 1) := by decide +kernel
theorem dX9_tells_17 : decode cX9_tells 17 = .ok (.iload_n 1, 1) := by decide +kernel
theorem dX9_tells_18 : decode cX9_tells 18 = .ok (.iload_n 2, 1) := by decide +kernel
theorem dX9_tells_19 : decode cX9_tells 19 = .ok (.iconst 2, 1) := by decide +kernel
theorem dX9_tells_20 : decode cX9_tells 20 = .ok (.aload 4, 2) := by decide +kernel
theorem dX9_tells_22 : decode cX9_tells 22 = .ok (.invokevirtual 16, 3) := by decide +kernel
theorem dX9_tells_25 : decode cX9_tells 25 = .ok (.isub, 1) := by decide +kernel
theorem dX9_tells_26 : decode cX9_tells 26 = .ok (.ireturn, 1) := by decide +kernel
theorem dX10_init_0 : decode cX10_init 0 = .ok (.aload_n 0, 1) := by decide +kernel
theorem dX10_init_1 : decode cX10_init 1 = .ok (.invokespecial 3, 3) := by decide +kernel
theorem dX10_init_4 : decode cX10_init 4 = .ok (.aload_n 0, 1) := by decide +kernel
theorem dX10_init_5 : decode cX10_init 5 = .ok (.bipush 50, 2) := by decide +kernel
theorem dX10_init_7 : decode cX10_init 7 = .ok (.newarray .int, 2) := by decide +kernel
theorem dX10_init_9 : decode cX10_init 9 = .ok (.putfield 9, 3) := by decide +kernel
theorem dX10_init_12 : decode cX10_init 12 = .ok (.aload_n 0, 1) := by decide +kernel
theorem dX10_init_13 : decode cX10_init 13 = .ok (.iconst 0, 1) := by decide +kernel
theorem dX10_init_14 : decode cX10_init 14 = .ok (.putfield 15, 3) := by decide +kernel
theorem dX10_init_17 : decode cX10_init 17 = .ok (.aload_n 0, 1) := by decide +kernel
theorem dX10_init_18 : decode cX10_init 18 = .ok (.bipush 50, 2) := by decide +kernel
theorem dX10_init_20 : decode cX10_init 20 = .ok (.newarray .int, 2) := by decide +kernel
theorem dX10_init_22 : decode cX10_init 22 = .ok (.putfield 19, 3) := by decide +kernel
theorem dX10_init_25 : decode cX10_init 25 = .ok (.aload_n 0, 1) := by decide +kernel
theorem dX10_init_26 : decode cX10_init 26 = .ok (.iconst 0, 1) := by decide +kernel
theorem dX10_init_27 : decode cX10_init 27 = .ok (.putfield 22, 3) := by decide +kernel
theorem dX10_init_30 : decode cX10_init 30 = .ok (.aload_n 0, 1) := by decide +kernel
theorem dX10_init_31 : decode cX10_init 31 = .ok (.iconst 0, 1) := by decide +kernel
theorem dX10_init_32 : decode cX10_init 32 = .ok (.putfield 25, 3) := by decide +kernel
theorem dX10_init_35 : decode cX10_init 35 = .ok (.aload_n 0, 1) := by decide +kernel
theorem dX10_init_36 : decode cX10_init 36 = .ok (.iload_n 1, 1) := by decide +kernel
theorem dX10_init_37 : decode cX10_init 37 = .ok (.putfield 28, 3) := by decide +kernel
theorem dX10_init_40 : decode cX10_init 40 = .ok (.aload_n 0, 1) := by decide +kernel
theorem dX10_init_41 : decode cX10_init 41 = .ok (.aload_n 2, 1) := by decide +kernel
theorem dX10_init_42 : decode cX10_init 42 = .ok (.putfield 31, 3) := by decide +kernel
theorem dX10_init_45 : decode cX10_init 45 = .ok (.return_, 1) := by decide +kernel
theorem dX10_read_0 : decode cX10_read 0 = .ok (.iload_n 2, 1) := by decide +kernel
theorem dX10_read_1 : decode cX10_read 1 = .ok (.ifCond .ne 8, 3) := by decide +kernel
theorem dX10_read_4 : decode cX10_read 4 = .ok (.ldc 34, 2) := by decide +kernel
theorem dX10_read_6 : decode cX10_read 6 = .ok (.goto 5, 3) := by decide +kernel
theorem dX10_read_9 : decode cX10_read 9 = .ok (.ldc 36, 2) := by decide +kernel
theorem dX10_read_11 : decode cX10_read 11 = .ok (.astore_n 3, 1) := by decide +kernel
theorem dX10_read_12 : decode cX10_read 12 = .ok (.iconst 1, 1) := by decide +kernel
theorem dX10_read_13 : decode cX10_read 13 = .ok (.istore 4, 2) := by decide +kernel
theorem dX10_read_15 : decode cX10_read 15 = .ok (.iconst 0, 1) := by decide +kernel
theorem dX10_read_16 : decode cX10_read 16 = .ok (.istore 5, 2) := by decide +kernel
theorem dX10_read_18 : decode cX10_read 18 = .ok (.iload 5, 2) := by decide +kernel
theorem dX10_read_20 : decode cX10_read 20 = .ok (.aload_n 1, 1) := by decide +kernel
theorem dX10_read_21 : decode cX10_read 21 = .ok (.getfield 38, 3) := by decide +kernel
theorem dX10_read_24 : decode cX10_read 24 = .ok (.if_icmp .ge 150, 3) := by decide +kernel
theorem dX10_read_27 : decode cX10_read 27 = .ok (.aload_n 1, 1) := by decide +kernel
theorem dX10_read_28 : decode cX10_read 28 = .ok (.getfield 41, 3) := by decide +kernel
theorem dX10_read_31 : decode cX10_read 31 = .ok (.iload 5, 2) := by decide +kernel
theorem dX10_read_33 : decode cX10_read 33 = .ok (.iaload, 1) := by decide +kernel
theorem dX10_read_34 : decode cX10_read 34 = .ok (.istore 6, 2) := by decide +kernel
theorem dX10_read_36 : decode cX10_read 36 = .ok (.iload 5, 2) := by decide +kernel
theorem dX10_read_38 : decode cX10_read 38 = .ok (.iconst 1, 1) := by decide +kernel
theorem dX10_read_39 : decode cX10_read 39 = .ok (.iadd, 1) := by decide +kernel
theorem dX10_read_40 : decode cX10_read 40 = .ok (.istore 7, 2) := by decide +kernel
theorem dX10_read_42 : decode cX10_read 42 = .ok (.iload 4, 2) := by decide +kernel
theorem dX10_read_44 : decode cX10_read 44 = .ok (.ifCond .ne 49, 3) := by decide +kernel
theorem dX10_read_47 : decode cX10_read 47 = .ok (.iload 6, 2) := by decide +kernel
theorem dX10_read_49 : decode cX10_read 49 = .ok (.bipush 41, 2) := by decide +kernel
theorem dX10_read_51 : decode cX10_read 51 = .ok (.if_icmp .ne 13, 3) := by decide +kernel
theorem dX10_read_54 : decode cX10_read 54 = .ok (.aload_n 0, 1) := by decide +kernel
theorem dX10_read_55 : decode cX10_read 55 = .ok (.invokevirtual 44, 3) := by decide +kernel
theorem dX10_read_58 : decode cX10_read 58 = .ok (.ifCond .eq 15, 3) := by decide +kernel
theorem dX10_read_61 : decode cX10_read 61 = .ok (.goto 15, 3) := by decide +kernel
theorem dX10_read_64 : decode cX10_read 64 = .ok (.aload_n 0, 1) := by decide +kernel
theorem dX10_read_65 : decode cX10_read 65 = .ok (.iload 6, 2) := by decide +kernel
theorem dX10_read_67 : decode cX10_read 67 = .ok (.invokevirtual 48, 3) := by decide +kernel
theorem dX10_read_70 : decode cX10_read 70 = .ok (.ifCond .ne 6, 3) := by decide +kernel
theorem dX10_read_73 : decode cX10_read 73 = .ok (.iload 5, 2) := by decide +kernel
theorem dX10_read_75 : decode cX10_read 75 = .ok (.ireturn, 1) := by decide +kernel
theorem dX10_read_76 : decode cX10_read 76 = .ok (.iload 6, 2) := by decide +kernel
theorem dX10_read_78 : decode cX10_read 78 = .ok (.bipush 41, 2) := by decide +kernel
theorem dX10_read_80 : decode cX10_read 80 = .ok (.if_icmp .eq 7, 3) := by decide +kernel
theorem dX10_read_83 : decode cX10_read 83 = .ok (.iconst 1, 1) := by decide +kernel
theorem dX10_read_84 : decode cX10_read 84 = .ok (.goto 4, 3) := by decide +kernel
theorem dX10_read_87 : decode cX10_read 87 = .ok (.iconst 0, 1) := by decide +kernel
theorem dX10_read_88 : decode cX10_read 88 = .ok (.istore 4, 2) := by decide +kernel
theorem dX10_read_90 : decode cX10_read 90 = .ok (.goto 77, 3) := by decide +kernel
theorem dX10_read_93 : decode cX10_read 93 = .ok (.iload 6, 2) := by decide +kernel
theorem dX10_read_95 : decode cX10_read 95 = .ok (.invokestatic 52, 3) := by decide +kernel
theorem dX10_read_98 : decode cX10_read 98 = .ok (.ifCond .eq 29, 3) := by decide +kernel
theorem dX10_read_101 : decode cX10_read 101 = .ok (.aload_n 1, 1) := by decide +kernel
theorem dX10_read_102 : decode cX10_read 102 = .ok (.iload 5, 2) := by decide +kernel
theorem dX10_read_104 : decode cX10_read 104 = .ok (.invokestatic 55, 3) := by decide +kernel
theorem dX10_read_107 : decode cX10_read 107 = .ok (.istore 7, 2) := by decide +kernel
theorem dX10_read_109 : decode cX10_read 109 = .ok (.aload_n 0, 1) := by decide +kernel
theorem dX10_read_110 : decode cX10_read 110 = .ok (.aload_n 1, 1) := by decide +kernel
theorem dX10_read_111 : decode cX10_read 111 = .ok (.iload 5, 2) := by decide +kernel
theorem dX10_read_113 : decode cX10_read 113 = .ok (.iload 7, 2) := by decide +kernel
theorem dX10_read_115 : decode cX10_read 115 = .ok (.invokestatic 59, 3) := by decide +kernel
theorem dX10_read_118 : decode cX10_read 118 = .ok (.invokevirtual 63, 3) := by decide +kernel
theorem dX10_read_121 : decode cX10_read 121 = .ok (.iconst 0, 1) := by decide +kernel
theorem dX10_read_122 : decode cX10_read 122 = .ok (.istore 4, 2) := by decide +kernel
theorem dX10_read_124 : decode cX10_read 124 = .ok (.goto 43, 3) := by decide +kernel
theorem dX10_read_127 : decode cX10_read 127 = .ok (.aload_n 3, 1) := by decide +kernel
theorem dX10_read_128 : decode cX10_read 128 = .ok (.iload 6, 2) := by decide +kernel
theorem dX10_read_130 : decode cX10_read 130 = .ok (.invokestatic 67, 3) := by decide +kernel
theorem dX10_read_133 : decode cX10_read 133 = .ok (.ifCond .eq 22, 3) := by decide +kernel
theorem dX10_read_136 : decode cX10_read 136 = .ok (.aload_n 0, 1) := by decide +kernel
theorem dX10_read_137 : decode cX10_read 137 = .ok (.iconst (-1), 1) := by decide +kernel
theorem dX10_read_138 : decode cX10_read 138 = .ok (.aload_n 3, 1) := by decide +kernel
theorem dX10_read_139 : decode cX10_read 139 = .ok (.iload 6, 2) := by decide +kernel
theorem dX10_read_141 : decode cX10_read 141 = .ok (.i2c, 1) := by decide +kernel
theorem dX10_read_142 : decode cX10_read 142 = .ok (.invokevirtual 71, 3) := by decide +kernel
theorem dX10_read_145 : decode cX10_read 145 = .ok (.isub, 1) := by decide +kernel
theorem dX10_read_146 : decode cX10_read 146 = .ok (.invokevirtual 63, 3) := by decide +kernel
theorem dX10_read_149 : decode cX10_read 149 = .ok (.iconst 0, 1) := by decide +kernel
theorem dX10_read_150 : decode cX10_read 150 = .ok (.istore 4, 2) := by decide +kernel
theorem dX10_read_152 : decode cX10_read 152 = .ok (.goto 15, 3) := by decide +kernel
theorem dX10_read_155 : decode cX10_read 155 = .ok (.aload_n 0, 1) := by decide +kernel
theorem dX10_read_156 : decode cX10_read 156 = .ok (.iload 6, 2) := by decide +kernel
theorem dX10_read_158 : decode cX10_read 158 = .ok (.invokevirtual 77, 3) := by decide +kernel
theorem dX10_read_161 : decode cX10_read 161 = .ok (.ifCond .ne 6, 3) := by decide +kernel
theorem dX10_read_164 : decode cX10_read 164 = .ok (.iload 5, 2) := by decide +kernel
theorem dX10_read_166 : decode cX10_read 166 = .ok (.ireturn, 1) := by decide +kernel
theorem dX10_read_167 : decode cX10_read 167 = .ok (.iload 7, 2) := by decide +kernel
theorem dX10_read_169 : decode cX10_read 169 = .ok (.istore 5, 2) := by decide +kernel
theorem dX10_read_171 : decode cX10_read 171 = .ok (.goto (-153), 3) := by decide +kernel
theorem dX10_read_174 : decode cX10_read 174 = .ok (.iload 4, 2) := by decide +kernel
theorem dX10_read_176 : decode cX10_read 176 = .ok (.ifCond .ne 10, 3) := by decide +kernel
theorem dX10_read_179 : decode cX10_read 179 = .ok (.aload_n 0, 1) := by decide +kernel
theorem dX10_read_180 : decode cX10_read 180 = .ok (.getfield 25, 3) := by decide +kernel
theorem dX10_read_183 : decode cX10_read 183 = .ok (.ifCond .le 8, 3) := by decide +kernel
theorem dX10_read_186 : decode cX10_read 186 = .ok (.aload_n 1, 1) := by decide +kernel
theorem dX10_read_187 : decode cX10_read 187 = .ok (.getfield 38, 3) := by decide +kernel
theorem dX10_read_190 : decode cX10_read 190 = .ok (.ireturn, 1) := by decide +kernel
theorem dX10_read_191 : decode cX10_read 191 = .ok (.aload_n 0, 1) := by decide +kernel
theorem dX10_read_192 : decode cX10_read 192 = .ok (.iconst 1, 1) := by decide +kernel
theorem dX10_read_193 : decode cX10_read 193 = .ok (.invokevirtual 80, 3) := by decide +kernel
theorem dX10_read_196 : decode cX10_read 196 = .ok (.iconst (-1), 1) := by decide +kernel
theorem dX10_read_197 : decode cX10_read 197 = .ok (.ireturn, 1) := by decide +kernel
theorem dX10_isDigit_0 : decode cX10_isDigit 0 = .ok (.iload_n 0, 1) := by decide +kernel
theorem dX10_isDigit_1 : decode cX10_isDigit 1 = .ok (.bipush 48, 2) := by decide +kernel
theorem dX10_isDigit_3 : decode cX10_isDigit 3 = .ok (.if_icmp .lt 13, 3) := by decide +kernel
theorem dX10_isDigit_6 : decode cX10_isDigit 6 = .ok (.iload_n 0, 1) := by decide +kernel
theorem dX10_isDigit_7 : decode cX10_isDigit 7 = .ok (.bipush 57, 2) := by decide +kernel
theorem dX10_isDigit_9 : decode cX10_isDigit 9 = .ok (.if_icmp .gt 7, 3) := by decide +kernel
theorem dX10_isDigit_12 : decode cX10_isDigit 12 = .ok (.iconst 1, 1) := by decide +kernel
theorem dX10_isDigit_13 : decode cX10_isDigit 13 = .ok (.goto 4, 3) := by decide +kernel
theorem dX10_isDigit_16 : decode cX10_isDigit 16 = .ok (.iconst 0, 1) := by decide +kernel
theorem dX10_isDigit_17 : decode cX10_isDigit 17 = .ok (.ireturn, 1) := by decide +kernel
theorem dX10_isName_0 : decode cX10_isName 0 = .ok (.aload_n 0, 1) := by decide +kernel
theorem dX10_isName_1 : decode cX10_isName 1 = .ok (.iload_n 1, 1) := by decide +kernel
theorem dX10_isName_2 : decode cX10_isName 2 = .ok (.i2c, 1) := by decide +kernel
theorem dX10_isName_3 : decode cX10_isName 3 = .ok (.invokevirtual 71, 3) := by decide +kernel
theorem dX10_isName_6 : decode cX10_isName 6 = .ok (.ifCond .lt 7, 3) := by decide +kernel
theorem dX10_isName_9 : decode cX10_isName 9 = .ok (.iconst 1, 1) := by decide +kernel
theorem dX10_isName_10 : decode cX10_isName 10 = .ok (.goto 4, 3) := by decide +kernel
theorem dX10_isName_13 : decode cX10_isName 13 = .ok (.iconst 0, 1) := by decide +kernel
theorem dX10_isName_14 : decode cX10_isName 14 = .ok (.ireturn, 1) := by decide +kernel
theorem dX10_numberEnd_0 : decode cX10_numberEnd 0 = .ok (.aload_n 0, 1) := by decide +kernel
theorem dX10_numberEnd_1 : decode cX10_numberEnd 1 = .ok (.getfield 38, 3) := by decide +kernel
theorem dX10_numberEnd_4 : decode cX10_numberEnd 4 = .ok (.iload_n 1, 1) := by decide +kernel
theorem dX10_numberEnd_5 : decode cX10_numberEnd 5 = .ok (.iconst 4, 1) := by decide +kernel
theorem dX10_numberEnd_6 : decode cX10_numberEnd 6 = .ok (.iadd, 1) := by decide +kernel
theorem dX10_numberEnd_7 : decode cX10_numberEnd 7 = .ok (.invokestatic 83, 3) := by decide +kernel
theorem dX10_numberEnd_10 : decode cX10_numberEnd 10 = .ok (.istore_n 2, 1) := by decide +kernel
theorem dX10_numberEnd_11 : decode cX10_numberEnd 11 = .ok (.iload_n 1, 1) := by decide +kernel
theorem dX10_numberEnd_12 : decode cX10_numberEnd 12 = .ok (.istore_n 3, 1) := by decide +kernel
theorem dX10_numberEnd_13 : decode cX10_numberEnd 13 = .ok (.iload_n 3, 1) := by decide +kernel
theorem dX10_numberEnd_14 : decode cX10_numberEnd 14 = .ok (.iload_n 2, 1) := by decide +kernel
theorem dX10_numberEnd_15 : decode cX10_numberEnd 15 = .ok (.if_icmp .ge 21, 3) := by decide +kernel
theorem dX10_numberEnd_18 : decode cX10_numberEnd 18 = .ok (.aload_n 0, 1) := by decide +kernel
theorem dX10_numberEnd_19 : decode cX10_numberEnd 19 = .ok (.getfield 41, 3) := by decide +kernel
theorem dX10_numberEnd_22 : decode cX10_numberEnd 22 = .ok (.iload_n 3, 1) := by decide +kernel
theorem dX10_numberEnd_23 : decode cX10_numberEnd 23 = .ok (.iaload, 1) := by decide +kernel
theorem dX10_numberEnd_24 : decode cX10_numberEnd 24 = .ok (.invokestatic 52, 3) := by decide +kernel
theorem dX10_numberEnd_27 : decode cX10_numberEnd 27 = .ok (.ifCond .eq 9, 3) := by decide +kernel
theorem dX10_numberEnd_30 : decode cX10_numberEnd 30 = .ok (.iinc 3 1, 3) := by decide +kernel
theorem dX10_numberEnd_33 : decode cX10_numberEnd 33 = .ok (.goto (-20), 3) := by decide +kernel
theorem dX10_numberEnd_36 : decode cX10_numberEnd 36 = .ok (.iload_n 3, 1) := by decide +kernel
theorem dX10_numberEnd_37 : decode cX10_numberEnd 37 = .ok (.ireturn, 1) := by decide +kernel
theorem dX10_numberOf_0 : decode cX10_numberOf 0 = .ok (.iconst 0, 1) := by decide +kernel
theorem dX10_numberOf_1 : decode cX10_numberOf 1 = .ok (.istore_n 3, 1) := by decide +kernel
theorem dX10_numberOf_2 : decode cX10_numberOf 2 = .ok (.iload_n 1, 1) := by decide +kernel
theorem dX10_numberOf_3 : decode cX10_numberOf 3 = .ok (.istore 4, 2) := by decide +kernel
theorem dX10_numberOf_5 : decode cX10_numberOf 5 = .ok (.iload 4, 2) := by decide +kernel
theorem dX10_numberOf_7 : decode cX10_numberOf 7 = .ok (.iload_n 2, 1) := by decide +kernel
theorem dX10_numberOf_8 : decode cX10_numberOf 8 = .ok (.if_icmp .ge 25, 3) := by decide +kernel
theorem dX10_numberOf_11 : decode cX10_numberOf 11 = .ok (.iload_n 3, 1) := by decide +kernel
theorem dX10_numberOf_12 : decode cX10_numberOf 12 = .ok (.bipush 10, 2) := by decide +kernel
theorem dX10_numberOf_14 : decode cX10_numberOf 14 = .ok (.imul, 1) := by decide +kernel
theorem dX10_numberOf_15 : decode cX10_numberOf 15 = .ok (.aload_n 0, 1) := by decide +kernel
theorem dX10_numberOf_16 : decode cX10_numberOf 16 = .ok (.getfield 41, 3) := by decide +kernel
theorem dX10_numberOf_19 : decode cX10_numberOf 19 = .ok (.iload 4, 2) := by decide +kernel
theorem dX10_numberOf_21 : decode cX10_numberOf 21 = .ok (.iaload, 1) := by decide +kernel
theorem dX10_numberOf_22 : decode cX10_numberOf 22 = .ok (.iadd, 1) := by decide +kernel
theorem dX10_numberOf_23 : decode cX10_numberOf 23 = .ok (.bipush 48, 2) := by decide +kernel
theorem dX10_numberOf_25 : decode cX10_numberOf 25 = .ok (.isub, 1) := by decide +kernel
theorem dX10_numberOf_26 : decode cX10_numberOf 26 = .ok (.istore_n 3, 1) := by decide +kernel
theorem dX10_numberOf_27 : decode cX10_numberOf 27 = .ok (.iinc 4 1, 3) := by decide +kernel
theorem dX10_numberOf_30 : decode cX10_numberOf 30 = .ok (.goto (-25), 3) := by decide +kernel
theorem dX10_numberOf_33 : decode cX10_numberOf 33 = .ok (.iload_n 3, 1) := by decide +kernel
theorem dX10_numberOf_34 : decode cX10_numberOf 34 = .ok (.ireturn, 1) := by decide +kernel
theorem dX10_addCode_0 : decode cX10_addCode 0 = .ok (.aload_n 0, 1) := by decide +kernel
theorem dX10_addCode_1 : decode cX10_addCode 1 = .ok (.getfield 15, 3) := by decide +kernel
theorem dX10_addCode_4 : decode cX10_addCode 4 = .ok (.aload_n 0, 1) := by decide +kernel
theorem dX10_addCode_5 : decode cX10_addCode 5 = .ok (.getfield 9, 3) := by decide +kernel
theorem dX10_addCode_8 : decode cX10_addCode 8 = .ok (.arraylength, 1) := by decide +kernel
theorem dX10_addCode_9 : decode cX10_addCode 9 = .ok (.if_icmp .ge 23, 3) := by decide +kernel
theorem dX10_addCode_12 : decode cX10_addCode 12 = .ok (.aload_n 0, 1) := by decide +kernel
theorem dX10_addCode_13 : decode cX10_addCode 13 = .ok (.getfield 9, 3) := by decide +kernel
theorem dX10_addCode_16 : decode cX10_addCode 16 = .ok (.aload_n 0, 1) := by decide +kernel
theorem dX10_addCode_17 : decode cX10_addCode 17 = .ok (.getfield 15, 3) := by decide +kernel
theorem dX10_addCode_20 : decode cX10_addCode 20 = .ok (.iload_n 1, 1) := by decide +kernel
theorem dX10_addCode_21 : decode cX10_addCode 21 = .ok (.iastore, 1) := by decide +kernel
theorem dX10_addCode_22 : decode cX10_addCode 22 = .ok (.aload_n 0, 1) := by decide +kernel
theorem dX10_addCode_23 : decode cX10_addCode 23 = .ok (.dup, 1) := by decide +kernel
theorem dX10_addCode_24 : decode cX10_addCode 24 = .ok (.getfield 15, 3) := by decide +kernel
theorem dX10_addCode_27 : decode cX10_addCode 27 = .ok (.iconst 1, 1) := by decide +kernel
theorem dX10_addCode_28 : decode cX10_addCode 28 = .ok (.iadd, 1) := by decide +kernel
theorem dX10_addCode_29 : decode cX10_addCode 29 = .ok (.putfield 15, 3) := by decide +kernel
theorem dX10_addCode_32 : decode cX10_addCode 32 = .ok (.return_, 1) := by decide +kernel
theorem dX10_addValue_0 : decode cX10_addValue 0 = .ok (.aload_n 0, 1) := by decide +kernel
theorem dX10_addValue_1 : decode cX10_addValue 1 = .ok (.iload_n 1, 1) := by decide +kernel
theorem dX10_addValue_2 : decode cX10_addValue 2 = .ok (.invokevirtual 89, 3) := by decide +kernel
theorem dX10_addValue_5 : decode cX10_addValue 5 = .ok (.aload_n 0, 1) := by decide +kernel
theorem dX10_addValue_6 : decode cX10_addValue 6 = .ok (.invokevirtual 92, 3) := by decide +kernel
theorem dX10_addValue_9 : decode cX10_addValue 9 = .ok (.return_, 1) := by decide +kernel
theorem dX10_closeNots_0 : decode cX10_closeNots 0 = .ok (.aload_n 0, 1) := by decide +kernel
theorem dX10_closeNots_1 : decode cX10_closeNots 1 = .ok (.getfield 22, 3) := by decide +kernel
theorem dX10_closeNots_4 : decode cX10_closeNots 4 = .ok (.ifCond .le 48, 3) := by decide +kernel
theorem dX10_closeNots_7 : decode cX10_closeNots 7 = .ok (.aload_n 0, 1) := by decide +kernel
theorem dX10_closeNots_8 : decode cX10_closeNots 8 = .ok (.getfield 19, 3) := by decide +kernel
theorem dX10_closeNots_11 : decode cX10_closeNots 11 = .ok (.aload_n 0, 1) := by decide +kernel
theorem dX10_closeNots_12 : decode cX10_closeNots 12 = .ok (.getfield 22, 3) := by decide +kernel
theorem dX10_closeNots_15 : decode cX10_closeNots 15 = .ok (.iconst 1, 1) := by decide +kernel
theorem dX10_closeNots_16 : decode cX10_closeNots 16 = .ok (.isub, 1) := by decide +kernel
theorem dX10_closeNots_17 : decode cX10_closeNots 17 = .ok (.iaload, 1) := by decide +kernel
theorem dX10_closeNots_18 : decode cX10_closeNots 18 = .ok (.bipush 33, 2) := by decide +kernel
theorem dX10_closeNots_20 : decode cX10_closeNots 20 = .ok (.if_icmp .ne 32, 3) := by decide +kernel
theorem dX10_closeNots_23 : decode cX10_closeNots 23 = .ok (.aload_n 0, 1) := by decide +kernel
theorem dX10_closeNots_24 : decode cX10_closeNots 24 = .ok (.dup, 1) := by decide +kernel
theorem dX10_closeNots_25 : decode cX10_closeNots 25 = .ok (.getfield 22, 3) := by decide +kernel
theorem dX10_closeNots_28 : decode cX10_closeNots 28 = .ok (.iconst 1, 1) := by decide +kernel
theorem dX10_closeNots_29 : decode cX10_closeNots 29 = .ok (.isub, 1) := by decide +kernel
theorem dX10_closeNots_30 : decode cX10_closeNots 30 = .ok (.putfield 22, 3) := by decide +kernel
theorem dX10_closeNots_33 : decode cX10_closeNots 33 = .ok (.aload_n 0, 1) := by decide +kernel
theorem dX10_closeNots_34 : decode cX10_closeNots 34 = .ok (.dup, 1) := by decide +kernel
theorem dX10_closeNots_35 : decode cX10_closeNots 35 = .ok (.getfield 25, 3) := by decide +kernel
theorem dX10_closeNots_38 : decode cX10_closeNots 38 = .ok (.iconst 1, 1) := by decide +kernel
theorem dX10_closeNots_39 : decode cX10_closeNots 39 = .ok (.isub, 1) := by decide +kernel
theorem dX10_closeNots_40 : decode cX10_closeNots 40 = .ok (.putfield 25, 3) := by decide +kernel
theorem dX10_closeNots_43 : decode cX10_closeNots 43 = .ok (.aload_n 0, 1) := by decide +kernel
theorem dX10_closeNots_44 : decode cX10_closeNots 44 = .ok (.bipush (-33), 2) := by decide +kernel
theorem dX10_closeNots_46 : decode cX10_closeNots 46 = .ok (.invokevirtual 89, 3) := by decide +kernel
theorem dX10_closeNots_49 : decode cX10_closeNots 49 = .ok (.goto (-49), 3) := by decide +kernel
theorem dX10_closeNots_52 : decode cX10_closeNots 52 = .ok (.return_, 1) := by decide +kernel
theorem dX10_push_0 : decode cX10_push 0 = .ok (.aload_n 0, 1) := by decide +kernel
theorem dX10_push_1 : decode cX10_push 1 = .ok (.getfield 22, 3) := by decide +kernel
theorem dX10_push_4 : decode cX10_push 4 = .ok (.aload_n 0, 1) := by decide +kernel
theorem dX10_push_5 : decode cX10_push 5 = .ok (.getfield 19, 3) := by decide +kernel
theorem dX10_push_8 : decode cX10_push 8 = .ok (.arraylength, 1) := by decide +kernel
theorem dX10_push_9 : decode cX10_push 9 = .ok (.if_icmp .lt 5, 3) := by decide +kernel
theorem dX10_push_12 : decode cX10_push 12 = .ok (.iconst 0, 1) := by decide +kernel
theorem dX10_push_13 : decode cX10_push 13 = .ok (.ireturn, 1) := by decide +kernel
theorem dX10_push_14 : decode cX10_push 14 = .ok (.aload_n 0, 1) := by decide +kernel
theorem dX10_push_15 : decode cX10_push 15 = .ok (.getfield 19, 3) := by decide +kernel
theorem dX10_push_18 : decode cX10_push 18 = .ok (.aload_n 0, 1) := by decide +kernel
theorem dX10_push_19 : decode cX10_push 19 = .ok (.getfield 22, 3) := by decide +kernel
theorem dX10_push_22 : decode cX10_push 22 = .ok (.iload_n 1, 1) := by decide +kernel
theorem dX10_push_23 : decode cX10_push 23 = .ok (.iastore, 1) := by decide +kernel
theorem dX10_push_24 : decode cX10_push 24 = .ok (.aload_n 0, 1) := by decide +kernel
theorem dX10_push_25 : decode cX10_push 25 = .ok (.dup, 1) := by decide +kernel
theorem dX10_push_26 : decode cX10_push 26 = .ok (.getfield 22, 3) := by decide +kernel
theorem dX10_push_29 : decode cX10_push 29 = .ok (.iconst 1, 1) := by decide +kernel
theorem dX10_push_30 : decode cX10_push 30 = .ok (.iadd, 1) := by decide +kernel
theorem dX10_push_31 : decode cX10_push 31 = .ok (.putfield 22, 3) := by decide +kernel
theorem dX10_push_34 : decode cX10_push 34 = .ok (.iconst 1, 1) := by decide +kernel
theorem dX10_push_35 : decode cX10_push 35 = .ok (.ireturn, 1) := by decide +kernel
theorem dX10_opens_0 : decode cX10_opens 0 = .ok (.iload_n 1, 1) := by decide +kernel
theorem dX10_opens_1 : decode cX10_opens 1 = .ok (.bipush 33, 2) := by decide +kernel
theorem dX10_opens_3 : decode cX10_opens 3 = .ok (.if_icmp .eq 9, 3) := by decide +kernel
theorem dX10_opens_6 : decode cX10_opens 6 = .ok (.iload_n 1, 1) := by decide +kernel
theorem dX10_opens_7 : decode cX10_opens 7 = .ok (.bipush 40, 2) := by decide +kernel
theorem dX10_opens_9 : decode cX10_opens 9 = .ok (.if_icmp .ne 11, 3) := by decide +kernel
theorem dX10_opens_12 : decode cX10_opens 12 = .ok (.aload_n 0, 1) := by decide +kernel
theorem dX10_opens_13 : decode cX10_opens 13 = .ok (.getfield 25, 3) := by decide +kernel
theorem dX10_opens_16 : decode cX10_opens 16 = .ok (.iconst 5, 1) := by decide +kernel
theorem dX10_opens_17 : decode cX10_opens 17 = .ok (.if_icmp .lt 5, 3) := by decide +kernel
theorem dX10_opens_20 : decode cX10_opens 20 = .ok (.iconst 0, 1) := by decide +kernel
theorem dX10_opens_21 : decode cX10_opens 21 = .ok (.ireturn, 1) := by decide +kernel
theorem dX10_opens_22 : decode cX10_opens 22 = .ok (.aload_n 0, 1) := by decide +kernel
theorem dX10_opens_23 : decode cX10_opens 23 = .ok (.dup, 1) := by decide +kernel
theorem dX10_opens_24 : decode cX10_opens 24 = .ok (.getfield 25, 3) := by decide +kernel
theorem dX10_opens_27 : decode cX10_opens 27 = .ok (.iconst 1, 1) := by decide +kernel
theorem dX10_opens_28 : decode cX10_opens 28 = .ok (.iadd, 1) := by decide +kernel
theorem dX10_opens_29 : decode cX10_opens 29 = .ok (.putfield 25, 3) := by decide +kernel
theorem dX10_opens_32 : decode cX10_opens 32 = .ok (.aload_n 0, 1) := by decide +kernel
theorem dX10_opens_33 : decode cX10_opens 33 = .ok (.iload_n 1, 1) := by decide +kernel
theorem dX10_opens_34 : decode cX10_opens 34 = .ok (.invokevirtual 95, 3) := by decide +kernel
theorem dX10_opens_37 : decode cX10_opens 37 = .ok (.ireturn, 1) := by decide +kernel
theorem dX10_closes_0 : decode cX10_closes 0 = .ok (.aload_n 0, 1) := by decide +kernel
theorem dX10_closes_1 : decode cX10_closes 1 = .ok (.iconst 1, 1) := by decide +kernel
theorem dX10_closes_2 : decode cX10_closes 2 = .ok (.invokevirtual 80, 3) := by decide +kernel
theorem dX10_closes_5 : decode cX10_closes 5 = .ok (.aload_n 0, 1) := by decide +kernel
theorem dX10_closes_6 : decode cX10_closes 6 = .ok (.getfield 22, 3) := by decide +kernel
theorem dX10_closes_9 : decode cX10_closes 9 = .ok (.ifCond .gt 5, 3) := by decide +kernel
theorem dX10_closes_12 : decode cX10_closes 12 = .ok (.iconst 0, 1) := by decide +kernel
theorem dX10_closes_13 : decode cX10_closes 13 = .ok (.ireturn, 1) := by decide +kernel
theorem dX10_closes_14 : decode cX10_closes 14 = .ok (.aload_n 0, 1) := by decide +kernel
theorem dX10_closes_15 : decode cX10_closes 15 = .ok (.dup, 1) := by decide +kernel
theorem dX10_closes_16 : decode cX10_closes 16 = .ok (.getfield 22, 3) := by decide +kernel
theorem dX10_closes_19 : decode cX10_closes 19 = .ok (.iconst 1, 1) := by decide +kernel
theorem dX10_closes_20 : decode cX10_closes 20 = .ok (.isub, 1) := by decide +kernel
theorem dX10_closes_21 : decode cX10_closes 21 = .ok (.putfield 22, 3) := by decide +kernel
theorem dX10_closes_24 : decode cX10_closes 24 = .ok (.aload_n 0, 1) := by decide +kernel
theorem dX10_closes_25 : decode cX10_closes 25 = .ok (.dup, 1) := by decide +kernel
theorem dX10_closes_26 : decode cX10_closes 26 = .ok (.getfield 25, 3) := by decide +kernel
theorem dX10_closes_29 : decode cX10_closes 29 = .ok (.iconst 1, 1) := by decide +kernel
theorem dX10_closes_30 : decode cX10_closes 30 = .ok (.isub, 1) := by decide +kernel
theorem dX10_closes_31 : decode cX10_closes 31 = .ok (.putfield 25, 3) := by decide +kernel
theorem dX10_closes_34 : decode cX10_closes 34 = .ok (.aload_n 0, 1) := by decide +kernel
theorem dX10_closes_35 : decode cX10_closes 35 = .ok (.invokevirtual 92, 3) := by decide +kernel
theorem dX10_closes_38 : decode cX10_closes 38 = .ok (.iconst 1, 1) := by decide +kernel
theorem dX10_closes_39 : decode cX10_closes 39 = .ok (.ireturn, 1) := by decide +kernel
theorem dX10_joins_0 : decode cX10_joins 0 = .ok (.iload_n 1, 1) := by decide +kernel
theorem dX10_joins_1 : decode cX10_joins 1 = .ok (.invokestatic 98, 3) := by decide +kernel
theorem dX10_joins_4 : decode cX10_joins 4 = .ok (.istore_n 2, 1) := by decide +kernel
theorem dX10_joins_5 : decode cX10_joins 5 = .ok (.iload_n 2, 1) := by decide +kernel
theorem dX10_joins_6 : decode cX10_joins 6 = .ok (.ifCond .ne 5, 3) := by decide +kernel
theorem dX10_joins_9 : decode cX10_joins 9 = .ok (.iconst 0, 1) := by decide +kernel
theorem dX10_joins_10 : decode cX10_joins 10 = .ok (.ireturn, 1) := by decide +kernel
theorem dX10_joins_11 : decode cX10_joins 11 = .ok (.aload_n 0, 1) := by decide +kernel
theorem dX10_joins_12 : decode cX10_joins 12 = .ok (.iload_n 2, 1) := by decide +kernel
theorem dX10_joins_13 : decode cX10_joins 13 = .ok (.iconst 3, 1) := by decide +kernel
theorem dX10_joins_14 : decode cX10_joins 14 = .ok (.if_icmp .ne 7, 3) := by decide +kernel
theorem dX10_joins_17 : decode cX10_joins 17 = .ok (.iconst 4, 1) := by decide +kernel
theorem dX10_joins_18 : decode cX10_joins 18 = .ok (.goto 4, 3) := by decide +kernel
theorem dX10_joins_21 : decode cX10_joins 21 = .ok (.iload_n 2, 1) := by decide +kernel
theorem dX10_joins_22 : decode cX10_joins 22 = .ok (.invokevirtual 80, 3) := by decide +kernel
theorem dX10_joins_25 : decode cX10_joins 25 = .ok (.iload_n 2, 1) := by decide +kernel
theorem dX10_joins_26 : decode cX10_joins 26 = .ok (.iconst 3, 1) := by decide +kernel
theorem dX10_joins_27 : decode cX10_joins 27 = .ok (.if_icmp .ne 30, 3) := by decide +kernel
theorem dX10_joins_30 : decode cX10_joins 30 = .ok (.aload_n 0, 1) := by decide +kernel
theorem dX10_joins_31 : decode cX10_joins 31 = .ok (.getfield 22, 3) := by decide +kernel
theorem dX10_joins_34 : decode cX10_joins 34 = .ok (.ifCond .le 23, 3) := by decide +kernel
theorem dX10_joins_37 : decode cX10_joins 37 = .ok (.aload_n 0, 1) := by decide +kernel
theorem dX10_joins_38 : decode cX10_joins 38 = .ok (.getfield 19, 3) := by decide +kernel
theorem dX10_joins_41 : decode cX10_joins 41 = .ok (.aload_n 0, 1) := by decide +kernel
theorem dX10_joins_42 : decode cX10_joins 42 = .ok (.getfield 22, 3) := by decide +kernel
theorem dX10_joins_45 : decode cX10_joins 45 = .ok (.iconst 1, 1) := by decide +kernel
theorem dX10_joins_46 : decode cX10_joins 46 = .ok (.isub, 1) := by decide +kernel
theorem dX10_joins_47 : decode cX10_joins 47 = .ok (.iaload, 1) := by decide +kernel
theorem dX10_joins_48 : decode cX10_joins 48 = .ok (.invokestatic 98, 3) := by decide +kernel
theorem dX10_joins_51 : decode cX10_joins 51 = .ok (.iconst 3, 1) := by decide +kernel
theorem dX10_joins_52 : decode cX10_joins 52 = .ok (.if_icmp .ne 5, 3) := by decide +kernel
theorem dX10_joins_55 : decode cX10_joins 55 = .ok (.iconst 0, 1) := by decide +kernel
theorem dX10_joins_56 : decode cX10_joins 56 = .ok (.ireturn, 1) := by decide +kernel
theorem dX10_joins_57 : decode cX10_joins 57 = .ok (.aload_n 0, 1) := by decide +kernel
theorem dX10_joins_58 : decode cX10_joins 58 = .ok (.iload_n 1, 1) := by decide +kernel
theorem dX10_joins_59 : decode cX10_joins 59 = .ok (.invokevirtual 95, 3) := by decide +kernel
theorem dX10_joins_62 : decode cX10_joins 62 = .ok (.ireturn, 1) := by decide +kernel
theorem dX10_settleDownTo_0 : decode cX10_settleDownTo 0 = .ok (.aload_n 0, 1) := by decide +kernel
theorem dX10_settleDownTo_1 : decode cX10_settleDownTo 1 = .ok (.getfield 22, 3) := by decide +kernel
theorem dX10_settleDownTo_4 : decode cX10_settleDownTo 4 = .ok (.ifCond .le 48, 3) := by decide +kernel
theorem dX10_settleDownTo_7 : decode cX10_settleDownTo 7 = .ok (.aload_n 0, 1) := by decide +kernel
theorem dX10_settleDownTo_8 : decode cX10_settleDownTo 8 = .ok (.getfield 19, 3) := by decide +kernel
theorem dX10_settleDownTo_11 : decode cX10_settleDownTo 11 = .ok (.aload_n 0, 1) := by decide +kernel
theorem dX10_settleDownTo_12 : decode cX10_settleDownTo 12 = .ok (.getfield 22, 3) := by decide +kernel
theorem dX10_settleDownTo_15 : decode cX10_settleDownTo 15 = .ok (.iconst 1, 1) := by decide +kernel
theorem dX10_settleDownTo_16 : decode cX10_settleDownTo 16 = .ok (.isub, 1) := by decide +kernel
theorem dX10_settleDownTo_17 : decode cX10_settleDownTo 17 = .ok (.iaload, 1) := by decide +kernel
theorem dX10_settleDownTo_18 : decode cX10_settleDownTo 18 = .ok (.invokestatic 98, 3) := by decide +kernel
theorem dX10_settleDownTo_21 : decode cX10_settleDownTo 21 = .ok (.iload_n 1, 1) := by decide +kernel
theorem dX10_settleDownTo_22 : decode cX10_settleDownTo 22 = .ok (.if_icmp .lt 30, 3) := by decide +kernel
theorem dX10_settleDownTo_25 : decode cX10_settleDownTo 25 = .ok (.aload_n 0, 1) := by decide +kernel
theorem dX10_settleDownTo_26 : decode cX10_settleDownTo 26 = .ok (.dup, 1) := by decide +kernel
theorem dX10_settleDownTo_27 : decode cX10_settleDownTo 27 = .ok (.getfield 22, 3) := by decide +kernel
theorem dX10_settleDownTo_30 : decode cX10_settleDownTo 30 = .ok (.iconst 1, 1) := by decide +kernel
theorem dX10_settleDownTo_31 : decode cX10_settleDownTo 31 = .ok (.isub, 1) := by decide +kernel
theorem dX10_settleDownTo_32 : decode cX10_settleDownTo 32 = .ok (.putfield 22, 3) := by decide +kernel
theorem dX10_settleDownTo_35 : decode cX10_settleDownTo 35 = .ok (.aload_n 0, 1) := by decide +kernel
theorem dX10_settleDownTo_36 : decode cX10_settleDownTo 36 = .ok (.aload_n 0, 1) := by decide +kernel
theorem dX10_settleDownTo_37 : decode cX10_settleDownTo 37 = .ok (.getfield 19, 3) := by decide +kernel
theorem dX10_settleDownTo_40 : decode cX10_settleDownTo 40 = .ok (.aload_n 0, 1) := by decide +kernel
theorem dX10_settleDownTo_41 : decode cX10_settleDownTo 41 = .ok (.getfield 22, 3) := by decide +kernel
theorem dX10_settleDownTo_44 : decode cX10_settleDownTo 44 = .ok (.iaload, 1) := by decide +kernel
theorem dX10_settleDownTo_45 : decode cX10_settleDownTo 45 = .ok (.ineg, 1) := by decide +kernel
theorem dX10_settleDownTo_46 : decode cX10_settleDownTo 46 = .ok (.invokevirtual 89, 3) := by decide +kernel
theorem dX10_settleDownTo_49 : decode cX10_settleDownTo 49 = .ok (.goto (-49), 3) := by decide +kernel
theorem dX10_settleDownTo_52 : decode cX10_settleDownTo 52 = .ok (.return_, 1) := by decide +kernel
theorem dX10_levelOf_0 : decode cX10_levelOf 0 = .ok (.iload_n 0, 1) := by decide +kernel
theorem dX10_levelOf_1 : decode cX10_levelOf 1 = .ok (.lookupswitch 101 #[(37, 99), (38, 93), (42, 99), (43, 97), (45, 97), (47, 99), (60, 95), (61, 95), (62, 95), (124, 91)], 91) := by decide +kernel
theorem dX10_levelOf_92 : decode cX10_levelOf 92 = .ok (.iconst 1, 1) := by decide +kernel
theorem dX10_levelOf_93 : decode cX10_levelOf 93 = .ok (.ireturn, 1) := by decide +kernel
theorem dX10_levelOf_94 : decode cX10_levelOf 94 = .ok (.iconst 2, 1) := by decide +kernel
theorem dX10_levelOf_95 : decode cX10_levelOf 95 = .ok (.ireturn, 1) := by decide +kernel
theorem dX10_levelOf_96 : decode cX10_levelOf 96 = .ok (.iconst 3, 1) := by decide +kernel
theorem dX10_levelOf_97 : decode cX10_levelOf 97 = .ok (.ireturn, 1) := by decide +kernel
theorem dX10_levelOf_98 : decode cX10_levelOf 98 = .ok (.iconst 4, 1) := by decide +kernel
theorem dX10_levelOf_99 : decode cX10_levelOf 99 = .ok (.ireturn, 1) := by decide +kernel
theorem dX10_levelOf_100 : decode cX10_levelOf 100 = .ok (.iconst 5, 1) := by decide +kernel
theorem dX10_levelOf_101 : decode cX10_levelOf 101 = .ok (.ireturn, 1) := by decide +kernel
theorem dX10_levelOf_102 : decode cX10_levelOf 102 = .ok (.iconst 0, 1) := by decide +kernel
theorem dX10_levelOf_103 : decode cX10_levelOf 103 = .ok (.ireturn, 1) := by decide +kernel
theorem dX10_value_0 : decode cX10_value 0 = .ok (.iconst 0, 1) := by decide +kernel
theorem dX10_value_1 : decode cX10_value 1 = .ok (.istore 4, 2) := by decide +kernel
theorem dX10_value_3 : decode cX10_value 3 = .ok (.iconst 0, 1) := by decide +kernel
theorem dX10_value_4 : decode cX10_value 4 = .ok (.istore 5, 2) := by decide +kernel
theorem dX10_value_6 : decode cX10_value 6 = .ok (.iload 5, 2) := by decide +kernel
theorem dX10_value_8 : decode cX10_value 8 = .ok (.aload_n 0, 1) := by decide +kernel
theorem dX10_value_9 : decode cX10_value 9 = .ok (.getfield 15, 3) := by decide +kernel
theorem dX10_value_12 : decode cX10_value 12 = .ok (.if_icmp .ge 162, 3) := by decide +kernel
theorem dX10_value_15 : decode cX10_value 15 = .ok (.aload_n 0, 1) := by decide +kernel
theorem dX10_value_16 : decode cX10_value 16 = .ok (.getfield 9, 3) := by decide +kernel
theorem dX10_value_19 : decode cX10_value 19 = .ok (.iload 5, 2) := by decide +kernel
theorem dX10_value_21 : decode cX10_value 21 = .ok (.iaload, 1) := by decide +kernel
theorem dX10_value_22 : decode cX10_value 22 = .ok (.istore 6, 2) := by decide +kernel
theorem dX10_value_24 : decode cX10_value 24 = .ok (.iload 6, 2) := by decide +kernel
theorem dX10_value_26 : decode cX10_value 26 = .ok (.bipush (-33), 2) := by decide +kernel
theorem dX10_value_28 : decode cX10_value 28 = .ok (.if_icmp .ne 38, 3) := by decide +kernel
theorem dX10_value_31 : decode cX10_value 31 = .ok (.iload 4, 2) := by decide +kernel
theorem dX10_value_33 : decode cX10_value 33 = .ok (.iconst 1, 1) := by decide +kernel
theorem dX10_value_34 : decode cX10_value 34 = .ok (.if_icmp .lt 134, 3) := by decide +kernel
theorem dX10_value_37 : decode cX10_value 37 = .ok (.aload_n 0, 1) := by decide +kernel
theorem dX10_value_38 : decode cX10_value 38 = .ok (.getfield 19, 3) := by decide +kernel
theorem dX10_value_41 : decode cX10_value 41 = .ok (.iload 4, 2) := by decide +kernel
theorem dX10_value_43 : decode cX10_value 43 = .ok (.iconst 1, 1) := by decide +kernel
theorem dX10_value_44 : decode cX10_value 44 = .ok (.isub, 1) := by decide +kernel
theorem dX10_value_45 : decode cX10_value 45 = .ok (.aload_n 0, 1) := by decide +kernel
theorem dX10_value_46 : decode cX10_value 46 = .ok (.getfield 19, 3) := by decide +kernel
theorem dX10_value_49 : decode cX10_value 49 = .ok (.iload 4, 2) := by decide +kernel
theorem dX10_value_51 : decode cX10_value 51 = .ok (.iconst 1, 1) := by decide +kernel
theorem dX10_value_52 : decode cX10_value 52 = .ok (.isub, 1) := by decide +kernel
theorem dX10_value_53 : decode cX10_value 53 = .ok (.iaload, 1) := by decide +kernel
theorem dX10_value_54 : decode cX10_value 54 = .ok (.ifCond .ne 7, 3) := by decide +kernel
theorem dX10_value_57 : decode cX10_value 57 = .ok (.iconst 1, 1) := by decide +kernel
theorem dX10_value_58 : decode cX10_value 58 = .ok (.goto 4, 3) := by decide +kernel
theorem dX10_value_61 : decode cX10_value 61 = .ok (.iconst 0, 1) := by decide +kernel
theorem dX10_value_62 : decode cX10_value 62 = .ok (.iastore, 1) := by decide +kernel
theorem dX10_value_63 : decode cX10_value 63 = .ok (.goto 105, 3) := by decide +kernel
theorem dX10_value_66 : decode cX10_value 66 = .ok (.iload 6, 2) := by decide +kernel
theorem dX10_value_68 : decode cX10_value 68 = .ok (.bipush (-3), 2) := by decide +kernel
theorem dX10_value_70 : decode cX10_value 70 = .ok (.if_icmp .ge 46, 3) := by decide +kernel
theorem dX10_value_73 : decode cX10_value 73 = .ok (.iload 4, 2) := by decide +kernel
theorem dX10_value_75 : decode cX10_value 75 = .ok (.iconst 2, 1) := by decide +kernel
theorem dX10_value_76 : decode cX10_value 76 = .ok (.if_icmp .lt 92, 3) := by decide +kernel
theorem dX10_value_79 : decode cX10_value 79 = .ok (.iinc 4 (-1), 3) := by decide +kernel
theorem dX10_value_82 : decode cX10_value 82 = .ok (.aload_n 0, 1) := by decide +kernel
theorem dX10_value_83 : decode cX10_value 83 = .ok (.getfield 19, 3) := by decide +kernel
theorem dX10_value_86 : decode cX10_value 86 = .ok (.iload 4, 2) := by decide +kernel
theorem dX10_value_88 : decode cX10_value 88 = .ok (.iconst 1, 1) := by decide +kernel
theorem dX10_value_89 : decode cX10_value 89 = .ok (.isub, 1) := by decide +kernel
theorem dX10_value_90 : decode cX10_value 90 = .ok (.iload 6, 2) := by decide +kernel
theorem dX10_value_92 : decode cX10_value 92 = .ok (.ineg, 1) := by decide +kernel
theorem dX10_value_93 : decode cX10_value 93 = .ok (.aload_n 0, 1) := by decide +kernel
theorem dX10_value_94 : decode cX10_value 94 = .ok (.getfield 19, 3) := by decide +kernel
theorem dX10_value_97 : decode cX10_value 97 = .ok (.iload 4, 2) := by decide +kernel
theorem dX10_value_99 : decode cX10_value 99 = .ok (.iconst 1, 1) := by decide +kernel
theorem dX10_value_100 : decode cX10_value 100 = .ok (.isub, 1) := by decide +kernel
theorem dX10_value_101 : decode cX10_value 101 = .ok (.iaload, 1) := by decide +kernel
theorem dX10_value_102 : decode cX10_value 102 = .ok (.aload_n 0, 1) := by decide +kernel
theorem dX10_value_103 : decode cX10_value 103 = .ok (.getfield 19, 3) := by decide +kernel
theorem dX10_value_106 : decode cX10_value 106 = .ok (.iload 4, 2) := by decide +kernel
theorem dX10_value_108 : decode cX10_value 108 = .ok (.iaload, 1) := by decide +kernel
theorem dX10_value_109 : decode cX10_value 109 = .ok (.invokestatic 101, 3) := by decide +kernel
theorem dX10_value_112 : decode cX10_value 112 = .ok (.iastore, 1) := by decide +kernel
theorem dX10_value_113 : decode cX10_value 113 = .ok (.goto 55, 3) := by decide +kernel
theorem dX10_value_116 : decode cX10_value 116 = .ok (.iload 4, 2) := by decide +kernel
theorem dX10_value_118 : decode cX10_value 118 = .ok (.aload_n 0, 1) := by decide +kernel
theorem dX10_value_119 : decode cX10_value 119 = .ok (.getfield 19, 3) := by decide +kernel
theorem dX10_value_122 : decode cX10_value 122 = .ok (.arraylength, 1) := by decide +kernel
theorem dX10_value_123 : decode cX10_value 123 = .ok (.if_icmp .ge 45, 3) := by decide +kernel
theorem dX10_value_126 : decode cX10_value 126 = .ok (.aload_n 0, 1) := by decide +kernel
theorem dX10_value_127 : decode cX10_value 127 = .ok (.getfield 19, 3) := by decide +kernel
theorem dX10_value_130 : decode cX10_value 130 = .ok (.iload 4, 2) := by decide +kernel
theorem dX10_value_132 : decode cX10_value 132 = .ok (.iload 6, 2) := by decide +kernel
theorem dX10_value_134 : decode cX10_value 134 = .ok (.ifCond .lt 8, 3) := by decide +kernel
theorem dX10_value_137 : decode cX10_value 137 = .ok (.iload 6, 2) := by decide +kernel
theorem dX10_value_139 : decode cX10_value 139 = .ok (.goto 25, 3) := by decide +kernel
theorem dX10_value_142 : decode cX10_value 142 = .ok (.iload 6, 2) := by decide +kernel
theorem dX10_value_144 : decode cX10_value 144 = .ok (.iconst (-1), 1) := by decide +kernel
theorem dX10_value_145 : decode cX10_value 145 = .ok (.if_icmp .ne 7, 3) := by decide +kernel
theorem dX10_value_148 : decode cX10_value 148 = .ok (.iload_n 1, 1) := by decide +kernel
theorem dX10_value_149 : decode cX10_value 149 = .ok (.goto 15, 3) := by decide +kernel
theorem dX10_value_152 : decode cX10_value 152 = .ok (.iload 6, 2) := by decide +kernel
theorem dX10_value_154 : decode cX10_value 154 = .ok (.bipush (-2), 2) := by decide +kernel
theorem dX10_value_156 : decode cX10_value 156 = .ok (.if_icmp .ne 7, 3) := by decide +kernel
theorem dX10_value_159 : decode cX10_value 159 = .ok (.iload_n 2, 1) := by decide +kernel
theorem dX10_value_160 : decode cX10_value 160 = .ok (.goto 4, 3) := by decide +kernel
theorem dX10_value_163 : decode cX10_value 163 = .ok (.iload_n 3, 1) := by decide +kernel
theorem dX10_value_164 : decode cX10_value 164 = .ok (.iastore, 1) := by decide +kernel
theorem dX10_value_165 : decode cX10_value 165 = .ok (.iinc 4 1, 3) := by decide +kernel
theorem dX10_value_168 : decode cX10_value 168 = .ok (.iinc 5 1, 3) := by decide +kernel
theorem dX10_value_171 : decode cX10_value 171 = .ok (.goto (-165), 3) := by decide +kernel
theorem dX10_value_174 : decode cX10_value 174 = .ok (.iload 4, 2) := by decide +kernel
theorem dX10_value_176 : decode cX10_value 176 = .ok (.ifCond .le 12, 3) := by decide +kernel
theorem dX10_value_179 : decode cX10_value 179 = .ok (.aload_n 0, 1) := by decide +kernel
theorem dX10_value_180 : decode cX10_value 180 = .ok (.getfield 19, 3) := by decide +kernel
theorem dX10_value_183 : decode cX10_value 183 = .ok (.iconst 0, 1) := by decide +kernel
theorem dX10_value_184 : decode cX10_value 184 = .ok (.iaload, 1) := by decide +kernel
theorem dX10_value_185 : decode cX10_value 185 = .ok (.goto 4, 3) := by decide +kernel
theorem dX10_value_188 : decode cX10_value 188 = .ok (.iconst 0, 1) := by decide +kernel
theorem dX10_value_189 : decode cX10_value 189 = .ok (.ireturn, 1) := by decide +kernel
theorem dX10_joined_0 : decode cX10_joined 0 = .ok (.iload_n 0, 1) := by decide +kernel
theorem dX10_joined_1 : decode cX10_joined 1 = .ok (.lookupswitch 168 #[(38, 97), (42, 152), (43, 144), (45, 148), (47, 156), (60, 111), (61, 122), (62, 133), (124, 83)], 83) := by decide +kernel
theorem dX10_joined_84 : decode cX10_joined 84 = .ok (.iload_n 1, 1) := by decide +kernel
theorem dX10_joined_85 : decode cX10_joined 85 = .ok (.ifCond .ne 7, 3) := by decide +kernel
theorem dX10_joined_88 : decode cX10_joined 88 = .ok (.iload_n 2, 1) := by decide +kernel
theorem dX10_joined_89 : decode cX10_joined 89 = .ok (.ifCond .eq 7, 3) := by decide +kernel
theorem dX10_joined_92 : decode cX10_joined 92 = .ok (.iconst 1, 1) := by decide +kernel
theorem dX10_joined_93 : decode cX10_joined 93 = .ok (.goto 4, 3) := by decide +kernel
theorem dX10_joined_96 : decode cX10_joined 96 = .ok (.iconst 0, 1) := by decide +kernel
theorem dX10_joined_97 : decode cX10_joined 97 = .ok (.ireturn, 1) := by decide +kernel
theorem dX10_joined_98 : decode cX10_joined 98 = .ok (.iload_n 1, 1) := by decide +kernel
theorem dX10_joined_99 : decode cX10_joined 99 = .ok (.ifCond .eq 11, 3) := by decide +kernel
theorem dX10_joined_102 : decode cX10_joined 102 = .ok (.iload_n 2, 1) := by decide +kernel
theorem dX10_joined_103 : decode cX10_joined 103 = .ok (.ifCond .eq 7, 3) := by decide +kernel
theorem dX10_joined_106 : decode cX10_joined 106 = .ok (.iconst 1, 1) := by decide +kernel
theorem dX10_joined_107 : decode cX10_joined 107 = .ok (.goto 4, 3) := by decide +kernel
theorem dX10_joined_110 : decode cX10_joined 110 = .ok (.iconst 0, 1) := by decide +kernel
theorem dX10_joined_111 : decode cX10_joined 111 = .ok (.ireturn, 1) := by decide +kernel
theorem dX10_joined_112 : decode cX10_joined 112 = .ok (.iload_n 1, 1) := by decide +kernel
theorem dX10_joined_113 : decode cX10_joined 113 = .ok (.iload_n 2, 1) := by decide +kernel
theorem dX10_joined_114 : decode cX10_joined 114 = .ok (.if_icmp .ge 7, 3) := by decide +kernel
theorem dX10_joined_117 : decode cX10_joined 117 = .ok (.iconst 1, 1) := by decide +kernel
theorem dX10_joined_118 : decode cX10_joined 118 = .ok (.goto 4, 3) := by decide +kernel
theorem dX10_joined_121 : decode cX10_joined 121 = .ok (.iconst 0, 1) := by decide +kernel
theorem dX10_joined_122 : decode cX10_joined 122 = .ok (.ireturn, 1) := by decide +kernel
theorem dX10_joined_123 : decode cX10_joined 123 = .ok (.iload_n 1, 1) := by decide +kernel
theorem dX10_joined_124 : decode cX10_joined 124 = .ok (.iload_n 2, 1) := by decide +kernel
theorem dX10_joined_125 : decode cX10_joined 125 = .ok (.if_icmp .ne 7, 3) := by decide +kernel
theorem dX10_joined_128 : decode cX10_joined 128 = .ok (.iconst 1, 1) := by decide +kernel
theorem dX10_joined_129 : decode cX10_joined 129 = .ok (.goto 4, 3) := by decide +kernel
theorem dX10_joined_132 : decode cX10_joined 132 = .ok (.iconst 0, 1) := by decide +kernel
theorem dX10_joined_133 : decode cX10_joined 133 = .ok (.ireturn, 1) := by decide +kernel
theorem dX10_joined_134 : decode cX10_joined 134 = .ok (.iload_n 1, 1) := by decide +kernel
theorem dX10_joined_135 : decode cX10_joined 135 = .ok (.iload_n 2, 1) := by decide +kernel
theorem dX10_joined_136 : decode cX10_joined 136 = .ok (.if_icmp .le 7, 3) := by decide +kernel
theorem dX10_joined_139 : decode cX10_joined 139 = .ok (.iconst 1, 1) := by decide +kernel
theorem dX10_joined_140 : decode cX10_joined 140 = .ok (.goto 4, 3) := by decide +kernel
theorem dX10_joined_143 : decode cX10_joined 143 = .ok (.iconst 0, 1) := by decide +kernel
theorem dX10_joined_144 : decode cX10_joined 144 = .ok (.ireturn, 1) := by decide +kernel
theorem dX10_joined_145 : decode cX10_joined 145 = .ok (.iload_n 1, 1) := by decide +kernel
theorem dX10_joined_146 : decode cX10_joined 146 = .ok (.iload_n 2, 1) := by decide +kernel
theorem dX10_joined_147 : decode cX10_joined 147 = .ok (.iadd, 1) := by decide +kernel
theorem dX10_joined_148 : decode cX10_joined 148 = .ok (.ireturn, 1) := by decide +kernel
theorem dX10_joined_149 : decode cX10_joined 149 = .ok (.iload_n 1, 1) := by decide +kernel
theorem dX10_joined_150 : decode cX10_joined 150 = .ok (.iload_n 2, 1) := by decide +kernel
theorem dX10_joined_151 : decode cX10_joined 151 = .ok (.isub, 1) := by decide +kernel
theorem dX10_joined_152 : decode cX10_joined 152 = .ok (.ireturn, 1) := by decide +kernel
theorem dX10_joined_153 : decode cX10_joined 153 = .ok (.iload_n 1, 1) := by decide +kernel
theorem dX10_joined_154 : decode cX10_joined 154 = .ok (.iload_n 2, 1) := by decide +kernel
theorem dX10_joined_155 : decode cX10_joined 155 = .ok (.imul, 1) := by decide +kernel
theorem dX10_joined_156 : decode cX10_joined 156 = .ok (.ireturn, 1) := by decide +kernel
theorem dX10_joined_157 : decode cX10_joined 157 = .ok (.iload_n 2, 1) := by decide +kernel
theorem dX10_joined_158 : decode cX10_joined 158 = .ok (.ifCond .ne 7, 3) := by decide +kernel
theorem dX10_joined_161 : decode cX10_joined 161 = .ok (.iconst 0, 1) := by decide +kernel
theorem dX10_joined_162 : decode cX10_joined 162 = .ok (.goto 6, 3) := by decide +kernel
theorem dX10_joined_165 : decode cX10_joined 165 = .ok (.iload_n 1, 1) := by decide +kernel
theorem dX10_joined_166 : decode cX10_joined 166 = .ok (.iload_n 2, 1) := by decide +kernel
theorem dX10_joined_167 : decode cX10_joined 167 = .ok (.idiv, 1) := by decide +kernel
theorem dX10_joined_168 : decode cX10_joined 168 = .ok (.ireturn, 1) := by decide +kernel
theorem dX10_joined_169 : decode cX10_joined 169 = .ok (.iload_n 2, 1) := by decide +kernel
theorem dX10_joined_170 : decode cX10_joined 170 = .ok (.ifCond .ne 7, 3) := by decide +kernel
theorem dX10_joined_173 : decode cX10_joined 173 = .ok (.iconst 0, 1) := by decide +kernel
theorem dX10_joined_174 : decode cX10_joined 174 = .ok (.goto 6, 3) := by decide +kernel
theorem dX10_joined_177 : decode cX10_joined 177 = .ok (.iload_n 1, 1) := by decide +kernel
theorem dX10_joined_178 : decode cX10_joined 178 = .ok (.iload_n 2, 1) := by decide +kernel
theorem dX10_joined_179 : decode cX10_joined 179 = .ok (.irem, 1) := by decide +kernel
theorem dX10_joined_180 : decode cX10_joined 180 = .ok (.ireturn, 1) := by decide +kernel
theorem dX11_init_0 : decode cX11_init 0 = .ok (.aload_n 0, 1) := by decide +kernel
theorem dX11_init_1 : decode cX11_init 1 = .ok (.invokespecial 1, 3) := by decide +kernel
theorem dX11_init_4 : decode cX11_init 4 = .ok (.aload_n 0, 1) := by decide +kernel
theorem dX11_init_5 : decode cX11_init 5 = .ok (.bipush 7, 2) := by decide +kernel
theorem dX11_init_7 : decode cX11_init 7 = .ok (.anewarray 9, 3) := by decide +kernel
theorem dX11_init_10 : decode cX11_init 10 = .ok (.putfield 11, 3) := by decide +kernel
theorem dX11_init_13 : decode cX11_init 13 = .ok (.aload_n 0, 1) := by decide +kernel
theorem dX11_init_14 : decode cX11_init 14 = .ok (.sipush 2701, 3) := by decide +kernel
theorem dX11_init_17 : decode cX11_init 17 = .ok (.newarray .int, 2) := by decide +kernel
theorem dX11_init_19 : decode cX11_init 19 = .ok (.putfield 15, 3) := by decide +kernel
theorem dX11_init_22 : decode cX11_init 22 = .ok (.aload_n 0, 1) := by decide +kernel
theorem dX11_init_23 : decode cX11_init 23 = .ok (.iconst 4, 1) := by decide +kernel
theorem dX11_init_24 : decode cX11_init 24 = .ok (.anewarray 19, 3) := by decide +kernel
theorem dX11_init_27 : decode cX11_init 27 = .ok (.putfield 21, 3) := by decide +kernel
theorem dX11_init_30 : decode cX11_init 30 = .ok (.aload_n 0, 1) := by decide +kernel
theorem dX11_init_31 : decode cX11_init 31 = .ok (.new 19, 3) := by decide +kernel
theorem dX11_init_34 : decode cX11_init 34 = .ok (.dup, 1) := by decide +kernel
theorem dX11_init_35 : decode cX11_init 35 = .ok (.bipush 40, 2) := by decide +kernel
theorem dX11_init_37 : decode cX11_init 37 = .ok (.invokespecial 25, 3) := by decide +kernel
theorem dX11_init_40 : decode cX11_init 40 = .ok (.putfield 28, 3) := by decide +kernel
theorem dX11_init_43 : decode cX11_init 43 = .ok (.aload_n 0, 1) := by decide +kernel
theorem dX11_init_44 : decode cX11_init 44 = .ok (.bipush 6, 2) := by decide +kernel
theorem dX11_init_46 : decode cX11_init 46 = .ok (.newarray .int, 2) := by decide +kernel
theorem dX11_init_48 : decode cX11_init 48 = .ok (.putfield 32, 3) := by decide +kernel
theorem dX11_init_51 : decode cX11_init 51 = .ok (.aload_n 0, 1) := by decide +kernel
theorem dX11_init_52 : decode cX11_init 52 = .ok (.iconst 0, 1) := by decide +kernel
theorem dX11_init_53 : decode cX11_init 53 = .ok (.putfield 35, 3) := by decide +kernel
theorem dX11_init_56 : decode cX11_init 56 = .ok (.aload_n 0, 1) := by decide +kernel
theorem dX11_init_57 : decode cX11_init 57 = .ok (.iconst 0, 1) := by decide +kernel
theorem dX11_init_58 : decode cX11_init 58 = .ok (.putfield 39, 3) := by decide +kernel
theorem dX11_init_61 : decode cX11_init 61 = .ok (.aload_n 0, 1) := by decide +kernel
theorem dX11_init_62 : decode cX11_init 62 = .ok (.getfield 11, 3) := by decide +kernel
theorem dX11_init_65 : decode cX11_init 65 = .ok (.iconst 0, 1) := by decide +kernel
theorem dX11_init_66 : decode cX11_init 66 = .ok (.new 9, 3) := by decide +kernel
theorem dX11_init_69 : decode cX11_init 69 = .ok (.dup, 1) := by decide +kernel
theorem dX11_init_70 : decode cX11_init 70 = .ok (.iconst 0, 1) := by decide +kernel
theorem dX11_init_71 : decode cX11_init 71 = .ok (.invokespecial 42, 3) := by decide +kernel
theorem dX11_init_74 : decode cX11_init 74 = .ok (.aastore, 1) := by decide +kernel
theorem dX11_init_75 : decode cX11_init 75 = .ok (.aload_n 0, 1) := by decide +kernel
theorem dX11_init_76 : decode cX11_init 76 = .ok (.getfield 11, 3) := by decide +kernel
theorem dX11_init_79 : decode cX11_init 79 = .ok (.iconst 1, 1) := by decide +kernel
theorem dX11_init_80 : decode cX11_init 80 = .ok (.new 43, 3) := by decide +kernel
theorem dX11_init_83 : decode cX11_init 83 = .ok (.dup, 1) := by decide +kernel
theorem dX11_init_84 : decode cX11_init 84 = .ok (.iconst 1, 1) := by decide +kernel
theorem dX11_init_85 : decode cX11_init 85 = .ok (.invokespecial 45, 3) := by decide +kernel
theorem dX11_init_88 : decode cX11_init 88 = .ok (.aastore, 1) := by decide +kernel
theorem dX11_init_89 : decode cX11_init 89 = .ok (.aload_n 0, 1) := by decide +kernel
theorem dX11_init_90 : decode cX11_init 90 = .ok (.getfield 11, 3) := by decide +kernel
theorem dX11_init_93 : decode cX11_init 93 = .ok (.iconst 2, 1) := by decide +kernel
theorem dX11_init_94 : decode cX11_init 94 = .ok (.new 46, 3) := by decide +kernel
theorem dX11_init_97 : decode cX11_init 97 = .ok (.dup, 1) := by decide +kernel
theorem dX11_init_98 : decode cX11_init 98 = .ok (.iconst 2, 1) := by decide +kernel
theorem dX11_init_99 : decode cX11_init 99 = .ok (.invokespecial 48, 3) := by decide +kernel
theorem dX11_init_102 : decode cX11_init 102 = .ok (.aastore, 1) := by decide +kernel
theorem dX11_init_103 : decode cX11_init 103 = .ok (.aload_n 0, 1) := by decide +kernel
theorem dX11_init_104 : decode cX11_init 104 = .ok (.getfield 11, 3) := by decide +kernel
theorem dX11_init_107 : decode cX11_init 107 = .ok (.iconst 3, 1) := by decide +kernel
theorem dX11_init_108 : decode cX11_init 108 = .ok (.new 49, 3) := by decide +kernel
theorem dX11_init_111 : decode cX11_init 111 = .ok (.dup, 1) := by decide +kernel
theorem dX11_init_112 : decode cX11_init 112 = .ok (.iconst 3, 1) := by decide +kernel
theorem dX11_init_113 : decode cX11_init 113 = .ok (.invokespecial 51, 3) := by decide +kernel
theorem dX11_init_116 : decode cX11_init 116 = .ok (.aastore, 1) := by decide +kernel
theorem dX11_init_117 : decode cX11_init 117 = .ok (.aload_n 0, 1) := by decide +kernel
theorem dX11_init_118 : decode cX11_init 118 = .ok (.getfield 11, 3) := by decide +kernel
theorem dX11_init_121 : decode cX11_init 121 = .ok (.iconst 4, 1) := by decide +kernel
theorem dX11_init_122 : decode cX11_init 122 = .ok (.new 52, 3) := by decide +kernel
theorem dX11_init_125 : decode cX11_init 125 = .ok (.dup, 1) := by decide +kernel
theorem dX11_init_126 : decode cX11_init 126 = .ok (.iconst 4, 1) := by decide +kernel
theorem dX11_init_127 : decode cX11_init 127 = .ok (.invokespecial 54, 3) := by decide +kernel
theorem dX11_init_130 : decode cX11_init 130 = .ok (.aastore, 1) := by decide +kernel
theorem dX11_init_131 : decode cX11_init 131 = .ok (.aload_n 0, 1) := by decide +kernel
theorem dX11_init_132 : decode cX11_init 132 = .ok (.getfield 11, 3) := by decide +kernel
theorem dX11_init_135 : decode cX11_init 135 = .ok (.iconst 5, 1) := by decide +kernel
theorem dX11_init_136 : decode cX11_init 136 = .ok (.new 55, 3) := by decide +kernel
theorem dX11_init_139 : decode cX11_init 139 = .ok (.dup, 1) := by decide +kernel
theorem dX11_init_140 : decode cX11_init 140 = .ok (.iconst 5, 1) := by decide +kernel
theorem dX11_init_141 : decode cX11_init 141 = .ok (.invokespecial 57, 3) := by decide +kernel
theorem dX11_init_144 : decode cX11_init 144 = .ok (.aastore, 1) := by decide +kernel
theorem dX11_init_145 : decode cX11_init 145 = .ok (.aload_n 0, 1) := by decide +kernel
theorem dX11_init_146 : decode cX11_init 146 = .ok (.getfield 11, 3) := by decide +kernel
theorem dX11_init_149 : decode cX11_init 149 = .ok (.bipush 6, 2) := by decide +kernel
theorem dX11_init_151 : decode cX11_init 151 = .ok (.new 58, 3) := by decide +kernel
theorem dX11_init_154 : decode cX11_init 154 = .ok (.dup, 1) := by decide +kernel
theorem dX11_init_155 : decode cX11_init 155 = .ok (.bipush 6, 2) := by decide +kernel
theorem dX11_init_157 : decode cX11_init 157 = .ok (.invokespecial 60, 3) := by decide +kernel
theorem dX11_init_160 : decode cX11_init 160 = .ok (.aastore, 1) := by decide +kernel
theorem dX11_init_161 : decode cX11_init 161 = .ok (.iconst 0, 1) := by decide +kernel
theorem dX11_init_162 : decode cX11_init 162 = .ok (.istore_n 1, 1) := by decide +kernel
theorem dX11_init_163 : decode cX11_init 163 = .ok (.iload_n 1, 1) := by decide +kernel
theorem dX11_init_164 : decode cX11_init 164 = .ok (.iconst 4, 1) := by decide +kernel
theorem dX11_init_165 : decode cX11_init 165 = .ok (.if_icmp .ge 24, 3) := by decide +kernel
theorem dX11_init_168 : decode cX11_init 168 = .ok (.aload_n 0, 1) := by decide +kernel
theorem dX11_init_169 : decode cX11_init 169 = .ok (.getfield 21, 3) := by decide +kernel
theorem dX11_init_172 : decode cX11_init 172 = .ok (.iload_n 1, 1) := by decide +kernel
theorem dX11_init_173 : decode cX11_init 173 = .ok (.new 19, 3) := by decide +kernel
theorem dX11_init_176 : decode cX11_init 176 = .ok (.dup, 1) := by decide +kernel
theorem dX11_init_177 : decode cX11_init 177 = .ok (.bipush 40, 2) := by decide +kernel
theorem dX11_init_179 : decode cX11_init 179 = .ok (.invokespecial 25, 3) := by decide +kernel
theorem dX11_init_182 : decode cX11_init 182 = .ok (.aastore, 1) := by decide +kernel
theorem dX11_init_183 : decode cX11_init 183 = .ok (.iinc 1 1, 3) := by decide +kernel
theorem dX11_init_186 : decode cX11_init 186 = .ok (.goto (-23), 3) := by decide +kernel
theorem dX11_init_189 : decode cX11_init 189 = .ok (.aload_n 0, 1) := by decide +kernel
theorem dX11_init_190 : decode cX11_init 190 = .ok (.new 61, 3) := by decide +kernel
theorem dX11_init_193 : decode cX11_init 193 = .ok (.dup, 1) := by decide +kernel
theorem dX11_init_194 : decode cX11_init 194 = .ok (.aload_n 0, 1) := by decide +kernel
theorem dX11_init_195 : decode cX11_init 195 = .ok (.getfield 11, 3) := by decide +kernel
theorem dX11_init_198 : decode cX11_init 198 = .ok (.iconst 0, 1) := by decide +kernel
theorem dX11_init_199 : decode cX11_init 199 = .ok (.aaload, 1) := by decide +kernel
theorem dX11_init_200 : decode cX11_init 200 = .ok (.invokespecial 63, 3) := by decide +kernel
theorem dX11_init_203 : decode cX11_init 203 = .ok (.putfield 66, 3) := by decide +kernel
theorem dX11_init_206 : decode cX11_init 206 = .ok (.aload_n 0, 1) := by decide +kernel
theorem dX11_init_207 : decode cX11_init 207 = .ok (.new 61, 3) := by decide +kernel
theorem dX11_init_210 : decode cX11_init 210 = .ok (.dup, 1) := by decide +kernel
theorem dX11_init_211 : decode cX11_init 211 = .ok (.aload_n 0, 1) := by decide +kernel
theorem dX11_init_212 : decode cX11_init 212 = .ok (.getfield 11, 3) := by decide +kernel
theorem dX11_init_215 : decode cX11_init 215 = .ok (.iconst 0, 1) := by decide +kernel
theorem dX11_init_216 : decode cX11_init 216 = .ok (.aaload, 1) := by decide +kernel
theorem dX11_init_217 : decode cX11_init 217 = .ok (.invokespecial 63, 3) := by decide +kernel
theorem dX11_init_220 : decode cX11_init 220 = .ok (.putfield 70, 3) := by decide +kernel
theorem dX11_init_223 : decode cX11_init 223 = .ok (.aload_n 0, 1) := by decide +kernel
theorem dX11_init_224 : decode cX11_init 224 = .ok (.new 61, 3) := by decide +kernel
theorem dX11_init_227 : decode cX11_init 227 = .ok (.dup, 1) := by decide +kernel
theorem dX11_init_228 : decode cX11_init 228 = .ok (.aload_n 0, 1) := by decide +kernel
theorem dX11_init_229 : decode cX11_init 229 = .ok (.getfield 11, 3) := by decide +kernel
theorem dX11_init_232 : decode cX11_init 232 = .ok (.iconst 0, 1) := by decide +kernel
theorem dX11_init_233 : decode cX11_init 233 = .ok (.aaload, 1) := by decide +kernel
theorem dX11_init_234 : decode cX11_init 234 = .ok (.invokespecial 63, 3) := by decide +kernel
theorem dX11_init_237 : decode cX11_init 237 = .ok (.putfield 73, 3) := by decide +kernel
theorem dX11_init_240 : decode cX11_init 240 = .ok (.aload_n 0, 1) := by decide +kernel
theorem dX11_init_241 : decode cX11_init 241 = .ok (.new 76, 3) := by decide +kernel
theorem dX11_init_244 : decode cX11_init 244 = .ok (.dup, 1) := by decide +kernel
theorem dX11_init_245 : decode cX11_init 245 = .ok (.aload_n 0, 1) := by decide +kernel
theorem dX11_init_246 : decode cX11_init 246 = .ok (.getfield 66, 3) := by decide +kernel
theorem dX11_init_249 : decode cX11_init 249 = .ok (.invokespecial 78, 3) := by decide +kernel
theorem dX11_init_252 : decode cX11_init 252 = .ok (.putfield 81, 3) := by decide +kernel
theorem dX11_init_255 : decode cX11_init 255 = .ok (.return_, 1) := by decide +kernel
theorem dX11_window_0 : decode cX11_window 0 = .ok (.iload_n 1, 1) := by decide +kernel
theorem dX11_window_1 : decode cX11_window 1 = .ok (.invokestatic 85, 3) := by decide +kernel
theorem dX11_window_4 : decode cX11_window 4 = .ok (.ifCond .eq 10, 3) := by decide +kernel
theorem dX11_window_7 : decode cX11_window 7 = .ok (.iload_n 2, 1) := by decide +kernel
theorem dX11_window_8 : decode cX11_window 8 = .ok (.invokestatic 89, 3) := by decide +kernel
theorem dX11_window_11 : decode cX11_window 11 = .ok (.ifCond .ne 9, 3) := by decide +kernel
theorem dX11_window_14 : decode cX11_window 14 = .ok (.aload_n 0, 1) := by decide +kernel
theorem dX11_window_15 : decode cX11_window 15 = .ok (.iconst 1, 1) := by decide +kernel
theorem dX11_window_16 : decode cX11_window 16 = .ok (.invokevirtual 92, 3) := by decide +kernel
theorem dX11_window_19 : decode cX11_window 19 = .ok (.ireturn, 1) := by decide +kernel
theorem dX11_window_20 : decode cX11_window 20 = .ok (.aload_n 0, 1) := by decide +kernel
theorem dX11_window_21 : decode cX11_window 21 = .ok (.getfield 66, 3) := by decide +kernel
theorem dX11_window_24 : decode cX11_window 24 = .ok (.getfield 96, 3) := by decide +kernel
theorem dX11_window_27 : decode cX11_window 27 = .ok (.bipush 8, 2) := by decide +kernel
theorem dX11_window_29 : decode cX11_window 29 = .ok (.if_icmp .lt 9, 3) := by decide +kernel
theorem dX11_window_32 : decode cX11_window 32 = .ok (.aload_n 0, 1) := by decide +kernel
theorem dX11_window_33 : decode cX11_window 33 = .ok (.iconst 4, 1) := by decide +kernel
theorem dX11_window_34 : decode cX11_window 34 = .ok (.invokevirtual 92, 3) := by decide +kernel
theorem dX11_window_37 : decode cX11_window 37 = .ok (.ireturn, 1) := by decide +kernel
theorem dX11_window_38 : decode cX11_window 38 = .ok (.aload_n 0, 1) := by decide +kernel
theorem dX11_window_39 : decode cX11_window 39 = .ok (.getfield 66, 3) := by decide +kernel
theorem dX11_window_42 : decode cX11_window 42 = .ok (.iload_n 1, 1) := by decide +kernel
theorem dX11_window_43 : decode cX11_window 43 = .ok (.iload_n 2, 1) := by decide +kernel
theorem dX11_window_44 : decode cX11_window 44 = .ok (.invokevirtual 99, 3) := by decide +kernel
theorem dX11_window_47 : decode cX11_window 47 = .ok (.ireturn, 1) := by decide +kernel
theorem dX11_cord_0 : decode cX11_cord 0 = .ok (.iload_n 1, 1) := by decide +kernel
theorem dX11_cord_1 : decode cX11_cord 1 = .ok (.invokestatic 103, 3) := by decide +kernel
theorem dX11_cord_4 : decode cX11_cord 4 = .ok (.istore_n 2, 1) := by decide +kernel
theorem dX11_cord_5 : decode cX11_cord 5 = .ok (.iload_n 1, 1) := by decide +kernel
theorem dX11_cord_6 : decode cX11_cord 6 = .ok (.aload_n 0, 1) := by decide +kernel
theorem dX11_cord_7 : decode cX11_cord 7 = .ok (.getfield 66, 3) := by decide +kernel
theorem dX11_cord_10 : decode cX11_cord 10 = .ok (.getfield 96, 3) := by decide +kernel
theorem dX11_cord_13 : decode cX11_cord 13 = .ok (.ishr, 1) := by decide +kernel
theorem dX11_cord_14 : decode cX11_cord 14 = .ok (.ifCond .ne 13, 3) := by decide +kernel
theorem dX11_cord_17 : decode cX11_cord 17 = .ok (.iload_n 2, 1) := by decide +kernel
theorem dX11_cord_18 : decode cX11_cord 18 = .ok (.iconst 2, 1) := by decide +kernel
theorem dX11_cord_19 : decode cX11_cord 19 = .ok (.if_icmp .lt 8, 3) := by decide +kernel
theorem dX11_cord_22 : decode cX11_cord 22 = .ok (.iload_n 2, 1) := by decide +kernel
theorem dX11_cord_23 : decode cX11_cord 23 = .ok (.iconst 3, 1) := by decide +kernel
theorem dX11_cord_24 : decode cX11_cord 24 = .ok (.if_icmp .le 9, 3) := by decide +kernel
theorem dX11_cord_27 : decode cX11_cord 27 = .ok (.aload_n 0, 1) := by decide +kernel
theorem dX11_cord_28 : decode cX11_cord 28 = .ok (.iconst 1, 1) := by decide +kernel
theorem dX11_cord_29 : decode cX11_cord 29 = .ok (.invokevirtual 92, 3) := by decide +kernel
theorem dX11_cord_32 : decode cX11_cord 32 = .ok (.ireturn, 1) := by decide +kernel
theorem dX11_cord_33 : decode cX11_cord 33 = .ok (.aload_n 0, 1) := by decide +kernel
theorem dX11_cord_34 : decode cX11_cord 34 = .ok (.getfield 66, 3) := by decide +kernel
theorem dX11_cord_37 : decode cX11_cord 37 = .ok (.getfield 108, 3) := by decide +kernel
theorem dX11_cord_40 : decode cX11_cord 40 = .ok (.iconst 4, 1) := by decide +kernel
theorem dX11_cord_41 : decode cX11_cord 41 = .ok (.if_icmp .lt 9, 3) := by decide +kernel
theorem dX11_cord_44 : decode cX11_cord 44 = .ok (.aload_n 0, 1) := by decide +kernel
theorem dX11_cord_45 : decode cX11_cord 45 = .ok (.iconst 4, 1) := by decide +kernel
theorem dX11_cord_46 : decode cX11_cord 46 = .ok (.invokevirtual 92, 3) := by decide +kernel
theorem dX11_cord_49 : decode cX11_cord 49 = .ok (.ireturn, 1) := by decide +kernel
theorem dX11_cord_50 : decode cX11_cord 50 = .ok (.iload_n 1, 1) := by decide +kernel
theorem dX11_cord_51 : decode cX11_cord 51 = .ok (.aload_n 0, 1) := by decide +kernel
theorem dX11_cord_52 : decode cX11_cord 52 = .ok (.getfield 66, 3) := by decide +kernel
theorem dX11_cord_55 : decode cX11_cord 55 = .ok (.invokevirtual 111, 3) := by decide +kernel
theorem dX11_cord_58 : decode cX11_cord 58 = .ok (.iand, 1) := by decide +kernel
theorem dX11_cord_59 : decode cX11_cord 59 = .ok (.ifCond .eq 9, 3) := by decide +kernel
theorem dX11_cord_62 : decode cX11_cord 62 = .ok (.aload_n 0, 1) := by decide +kernel
theorem dX11_cord_63 : decode cX11_cord 63 = .ok (.iconst 3, 1) := by decide +kernel
theorem dX11_cord_64 : decode cX11_cord 64 = .ok (.invokevirtual 92, 3) := by decide +kernel
theorem dX11_cord_67 : decode cX11_cord 67 = .ok (.ireturn, 1) := by decide +kernel
theorem dX11_cord_68 : decode cX11_cord 68 = .ok (.aload_n 0, 1) := by decide +kernel
theorem dX11_cord_69 : decode cX11_cord 69 = .ok (.getfield 66, 3) := by decide +kernel
theorem dX11_cord_72 : decode cX11_cord 72 = .ok (.iload_n 1, 1) := by decide +kernel
theorem dX11_cord_73 : decode cX11_cord 73 = .ok (.invokevirtual 115, 3) := by decide +kernel
theorem dX11_cord_76 : decode cX11_cord 76 = .ok (.ireturn, 1) := by decide +kernel
theorem dX11_drop_0 : decode cX11_drop 0 = .ok (.aload_n 0, 1) := by decide +kernel
theorem dX11_drop_1 : decode cX11_drop 1 = .ok (.getfield 66, 3) := by decide +kernel
theorem dX11_drop_4 : decode cX11_drop 4 = .ok (.getfield 108, 3) := by decide +kernel
theorem dX11_drop_7 : decode cX11_drop 7 = .ok (.ifCond .gt 9, 3) := by decide +kernel
theorem dX11_drop_10 : decode cX11_drop 10 = .ok (.aload_n 0, 1) := by decide +kernel
theorem dX11_drop_11 : decode cX11_drop 11 = .ok (.iconst 2, 1) := by decide +kernel
theorem dX11_drop_12 : decode cX11_drop 12 = .ok (.invokevirtual 92, 3) := by decide +kernel
theorem dX11_drop_15 : decode cX11_drop 15 = .ok (.ireturn, 1) := by decide +kernel
theorem dX11_drop_16 : decode cX11_drop 16 = .ok (.aload_n 0, 1) := by decide +kernel
theorem dX11_drop_17 : decode cX11_drop 17 = .ok (.getfield 66, 3) := by decide +kernel
theorem dX11_drop_20 : decode cX11_drop 20 = .ok (.invokevirtual 118, 3) := by decide +kernel
theorem dX11_drop_23 : decode cX11_drop 23 = .ok (.ireturn, 1) := by decide +kernel
theorem dX11_ofWindow_0 : decode cX11_ofWindow 0 = .ok (.aload_n 0, 1) := by decide +kernel
theorem dX11_ofWindow_1 : decode cX11_ofWindow 1 = .ok (.iload_n 1, 1) := by decide +kernel
theorem dX11_ofWindow_2 : decode cX11_ofWindow 2 = .ok (.invokevirtual 121, 3) := by decide +kernel
theorem dX11_ofWindow_5 : decode cX11_ofWindow 5 = .ok (.ifCond .ne 9, 3) := by decide +kernel
theorem dX11_ofWindow_8 : decode cX11_ofWindow 8 = .ok (.aload_n 0, 1) := by decide +kernel
theorem dX11_ofWindow_9 : decode cX11_ofWindow 9 = .ok (.iconst 1, 1) := by decide +kernel
theorem dX11_ofWindow_10 : decode cX11_ofWindow 10 = .ok (.invokevirtual 92, 3) := by decide +kernel
theorem dX11_ofWindow_13 : decode cX11_ofWindow 13 = .ok (.ireturn, 1) := by decide +kernel
theorem dX11_ofWindow_14 : decode cX11_ofWindow 14 = .ok (.iload_n 2, 1) := by decide +kernel
theorem dX11_ofWindow_15 : decode cX11_ofWindow 15 = .ok (.tableswitch 69 0 3 #[29, 39, 49, 59], 29) := by decide +kernel
theorem dX11_ofWindow_44 : decode cX11_ofWindow 44 = .ok (.aload_n 0, 1) := by decide +kernel
theorem dX11_ofWindow_45 : decode cX11_ofWindow 45 = .ok (.getfield 66, 3) := by decide +kernel
theorem dX11_ofWindow_48 : decode cX11_ofWindow 48 = .ok (.getfield 124, 3) := by decide +kernel
theorem dX11_ofWindow_51 : decode cX11_ofWindow 51 = .ok (.iload_n 1, 1) := by decide +kernel
theorem dX11_ofWindow_52 : decode cX11_ofWindow 52 = .ok (.iaload, 1) := by decide +kernel
theorem dX11_ofWindow_53 : decode cX11_ofWindow 53 = .ok (.ireturn, 1) := by decide +kernel
theorem dX11_ofWindow_54 : decode cX11_ofWindow 54 = .ok (.aload_n 0, 1) := by decide +kernel
theorem dX11_ofWindow_55 : decode cX11_ofWindow 55 = .ok (.getfield 66, 3) := by decide +kernel
theorem dX11_ofWindow_58 : decode cX11_ofWindow 58 = .ok (.getfield 127, 3) := by decide +kernel
theorem dX11_ofWindow_61 : decode cX11_ofWindow 61 = .ok (.iload_n 1, 1) := by decide +kernel
theorem dX11_ofWindow_62 : decode cX11_ofWindow 62 = .ok (.iaload, 1) := by decide +kernel
theorem dX11_ofWindow_63 : decode cX11_ofWindow 63 = .ok (.ireturn, 1) := by decide +kernel
theorem dX11_ofWindow_64 : decode cX11_ofWindow 64 = .ok (.aload_n 0, 1) := by decide +kernel
theorem dX11_ofWindow_65 : decode cX11_ofWindow 65 = .ok (.getfield 66, 3) := by decide +kernel
theorem dX11_ofWindow_68 : decode cX11_ofWindow 68 = .ok (.getfield 130, 3) := by decide +kernel
theorem dX11_ofWindow_71 : decode cX11_ofWindow 71 = .ok (.iload_n 1, 1) := by decide +kernel
theorem dX11_ofWindow_72 : decode cX11_ofWindow 72 = .ok (.iaload, 1) := by decide +kernel
theorem dX11_ofWindow_73 : decode cX11_ofWindow 73 = .ok (.ireturn, 1) := by decide +kernel
theorem dX11_ofWindow_74 : decode cX11_ofWindow 74 = .ok (.aload_n 0, 1) := by decide +kernel
theorem dX11_ofWindow_75 : decode cX11_ofWindow 75 = .ok (.getfield 66, 3) := by decide +kernel
theorem dX11_ofWindow_78 : decode cX11_ofWindow 78 = .ok (.getfield 133, 3) := by decide +kernel
theorem dX11_ofWindow_81 : decode cX11_ofWindow 81 = .ok (.iload_n 1, 1) := by decide +kernel
theorem dX11_ofWindow_82 : decode cX11_ofWindow 82 = .ok (.iaload, 1) := by decide +kernel
theorem dX11_ofWindow_83 : decode cX11_ofWindow 83 = .ok (.ireturn, 1) := by decide +kernel
theorem dX11_ofWindow_84 : decode cX11_ofWindow 84 = .ok (.aload_n 0, 1) := by decide +kernel
theorem dX11_ofWindow_85 : decode cX11_ofWindow 85 = .ok (.iconst 1, 1) := by decide +kernel
theorem dX11_ofWindow_86 : decode cX11_ofWindow 86 = .ok (.invokevirtual 92, 3) := by decide +kernel
theorem dX11_ofWindow_89 : decode cX11_ofWindow 89 = .ok (.ireturn, 1) := by decide +kernel
theorem dX11_ofCord_0 : decode cX11_ofCord 0 = .ok (.iload_n 1, 1) := by decide +kernel
theorem dX11_ofCord_1 : decode cX11_ofCord 1 = .ok (.ifCond .lt 23, 3) := by decide +kernel
theorem dX11_ofCord_4 : decode cX11_ofCord 4 = .ok (.iload_n 1, 1) := by decide +kernel
theorem dX11_ofCord_5 : decode cX11_ofCord 5 = .ok (.aload_n 0, 1) := by decide +kernel
theorem dX11_ofCord_6 : decode cX11_ofCord 6 = .ok (.getfield 66, 3) := by decide +kernel
theorem dX11_ofCord_9 : decode cX11_ofCord 9 = .ok (.getfield 108, 3) := by decide +kernel
theorem dX11_ofCord_12 : decode cX11_ofCord 12 = .ok (.if_icmp .ge 12, 3) := by decide +kernel
theorem dX11_ofCord_15 : decode cX11_ofCord 15 = .ok (.iload_n 2, 1) := by decide +kernel
theorem dX11_ofCord_16 : decode cX11_ofCord 16 = .ok (.ifCond .lt 8, 3) := by decide +kernel
theorem dX11_ofCord_19 : decode cX11_ofCord 19 = .ok (.iload_n 2, 1) := by decide +kernel
theorem dX11_ofCord_20 : decode cX11_ofCord 20 = .ok (.iconst 1, 1) := by decide +kernel
theorem dX11_ofCord_21 : decode cX11_ofCord 21 = .ok (.if_icmp .le 9, 3) := by decide +kernel
theorem dX11_ofCord_24 : decode cX11_ofCord 24 = .ok (.aload_n 0, 1) := by decide +kernel
theorem dX11_ofCord_25 : decode cX11_ofCord 25 = .ok (.iconst 1, 1) := by decide +kernel
theorem dX11_ofCord_26 : decode cX11_ofCord 26 = .ok (.invokevirtual 92, 3) := by decide +kernel
theorem dX11_ofCord_29 : decode cX11_ofCord 29 = .ok (.ireturn, 1) := by decide +kernel
theorem dX11_ofCord_30 : decode cX11_ofCord 30 = .ok (.aload_n 0, 1) := by decide +kernel
theorem dX11_ofCord_31 : decode cX11_ofCord 31 = .ok (.getfield 66, 3) := by decide +kernel
theorem dX11_ofCord_34 : decode cX11_ofCord 34 = .ok (.iload_n 1, 1) := by decide +kernel
theorem dX11_ofCord_35 : decode cX11_ofCord 35 = .ok (.invokevirtual 136, 3) := by decide +kernel
theorem dX11_ofCord_38 : decode cX11_ofCord 38 = .ok (.istore_n 3, 1) := by decide +kernel
theorem dX11_ofCord_39 : decode cX11_ofCord 39 = .ok (.iload_n 2, 1) := by decide +kernel
theorem dX11_ofCord_40 : decode cX11_ofCord 40 = .ok (.ifCond .ne 7, 3) := by decide +kernel
theorem dX11_ofCord_43 : decode cX11_ofCord 43 = .ok (.iload_n 3, 1) := by decide +kernel
theorem dX11_ofCord_44 : decode cX11_ofCord 44 = .ok (.goto 11, 3) := by decide +kernel
theorem dX11_ofCord_47 : decode cX11_ofCord 47 = .ok (.aload_n 0, 1) := by decide +kernel
theorem dX11_ofCord_48 : decode cX11_ofCord 48 = .ok (.getfield 66, 3) := by decide +kernel
theorem dX11_ofCord_51 : decode cX11_ofCord 51 = .ok (.iload_n 3, 1) := by decide +kernel
theorem dX11_ofCord_52 : decode cX11_ofCord 52 = .ok (.invokevirtual 139, 3) := by decide +kernel
theorem dX11_ofCord_55 : decode cX11_ofCord 55 = .ok (.ireturn, 1) := by decide +kernel
theorem dX11_open_0 : decode cX11_open 0 = .ok (.aload_n 0, 1) := by decide +kernel
theorem dX11_open_1 : decode cX11_open 1 = .ok (.iload_n 1, 1) := by decide +kernel
theorem dX11_open_2 : decode cX11_open 2 = .ok (.invokevirtual 121, 3) := by decide +kernel
theorem dX11_open_5 : decode cX11_open 5 = .ok (.ifCond .eq 10, 3) := by decide +kernel
theorem dX11_open_8 : decode cX11_open 8 = .ok (.iload_n 2, 1) := by decide +kernel
theorem dX11_open_9 : decode cX11_open 9 = .ok (.invokestatic 89, 3) := by decide +kernel
theorem dX11_open_12 : decode cX11_open 12 = .ok (.ifCond .ne 9, 3) := by decide +kernel
theorem dX11_open_15 : decode cX11_open 15 = .ok (.aload_n 0, 1) := by decide +kernel
theorem dX11_open_16 : decode cX11_open 16 = .ok (.iconst 1, 1) := by decide +kernel
theorem dX11_open_17 : decode cX11_open 17 = .ok (.invokevirtual 92, 3) := by decide +kernel
theorem dX11_open_20 : decode cX11_open 20 = .ok (.ireturn, 1) := by decide +kernel
theorem dX11_open_21 : decode cX11_open 21 = .ok (.aload_n 0, 1) := by decide +kernel
theorem dX11_open_22 : decode cX11_open 22 = .ok (.getfield 66, 3) := by decide +kernel
theorem dX11_open_25 : decode cX11_open 25 = .ok (.getfield 130, 3) := by decide +kernel
theorem dX11_open_28 : decode cX11_open 28 = .ok (.iload_n 1, 1) := by decide +kernel
theorem dX11_open_29 : decode cX11_open 29 = .ok (.iaload, 1) := by decide +kernel
theorem dX11_open_30 : decode cX11_open 30 = .ok (.ifCond .ge 15, 3) := by decide +kernel
theorem dX11_open_33 : decode cX11_open 33 = .ok (.aload_n 0, 1) := by decide +kernel
theorem dX11_open_34 : decode cX11_open 34 = .ok (.getfield 66, 3) := by decide +kernel
theorem dX11_open_37 : decode cX11_open 37 = .ok (.getfield 133, 3) := by decide +kernel
theorem dX11_open_40 : decode cX11_open 40 = .ok (.iload_n 1, 1) := by decide +kernel
theorem dX11_open_41 : decode cX11_open 41 = .ok (.iaload, 1) := by decide +kernel
theorem dX11_open_42 : decode cX11_open 42 = .ok (.ifCond .eq 9, 3) := by decide +kernel
theorem dX11_open_45 : decode cX11_open 45 = .ok (.aload_n 0, 1) := by decide +kernel
theorem dX11_open_46 : decode cX11_open 46 = .ok (.iconst 3, 1) := by decide +kernel
theorem dX11_open_47 : decode cX11_open 47 = .ok (.invokevirtual 92, 3) := by decide +kernel
theorem dX11_open_50 : decode cX11_open 50 = .ok (.ireturn, 1) := by decide +kernel
theorem dX11_open_51 : decode cX11_open 51 = .ok (.aload_n 0, 1) := by decide +kernel
theorem dX11_open_52 : decode cX11_open 52 = .ok (.getfield 66, 3) := by decide +kernel
theorem dX11_open_55 : decode cX11_open 55 = .ok (.getfield 127, 3) := by decide +kernel
theorem dX11_open_58 : decode cX11_open 58 = .ok (.iload_n 1, 1) := by decide +kernel
theorem dX11_open_59 : decode cX11_open 59 = .ok (.iaload, 1) := by decide +kernel
theorem dX11_open_60 : decode cX11_open 60 = .ok (.istore_n 3, 1) := by decide +kernel
theorem dX11_open_61 : decode cX11_open 61 = .ok (.aload_n 0, 1) := by decide +kernel
theorem dX11_open_62 : decode cX11_open 62 = .ok (.getfield 66, 3) := by decide +kernel
theorem dX11_open_65 : decode cX11_open 65 = .ok (.getfield 127, 3) := by decide +kernel
theorem dX11_open_68 : decode cX11_open 68 = .ok (.iload_n 1, 1) := by decide +kernel
theorem dX11_open_69 : decode cX11_open 69 = .ok (.iload_n 2, 1) := by decide +kernel
theorem dX11_open_70 : decode cX11_open 70 = .ok (.iastore, 1) := by decide +kernel
theorem dX11_open_71 : decode cX11_open 71 = .ok (.iload_n 3, 1) := by decide +kernel
theorem dX11_open_72 : decode cX11_open 72 = .ok (.ireturn, 1) := by decide +kernel
theorem dX11_swell_0 : decode cX11_swell 0 = .ok (.aload_n 0, 1) := by decide +kernel
theorem dX11_swell_1 : decode cX11_swell 1 = .ok (.iload_n 1, 1) := by decide +kernel
theorem dX11_swell_2 : decode cX11_swell 2 = .ok (.invokevirtual 121, 3) := by decide +kernel
theorem dX11_swell_5 : decode cX11_swell 5 = .ok (.ifCond .eq 12, 3) := by decide +kernel
theorem dX11_swell_8 : decode cX11_swell 8 = .ok (.iload_n 2, 1) := by decide +kernel
theorem dX11_swell_9 : decode cX11_swell 9 = .ok (.ifCond .lt 8, 3) := by decide +kernel
theorem dX11_swell_12 : decode cX11_swell 12 = .ok (.iload_n 2, 1) := by decide +kernel
theorem dX11_swell_13 : decode cX11_swell 13 = .ok (.iconst 1, 1) := by decide +kernel
theorem dX11_swell_14 : decode cX11_swell 14 = .ok (.if_icmp .le 9, 3) := by decide +kernel
theorem dX11_swell_17 : decode cX11_swell 17 = .ok (.aload_n 0, 1) := by decide +kernel
theorem dX11_swell_18 : decode cX11_swell 18 = .ok (.iconst 1, 1) := by decide +kernel
theorem dX11_swell_19 : decode cX11_swell 19 = .ok (.invokevirtual 92, 3) := by decide +kernel
theorem dX11_swell_22 : decode cX11_swell 22 = .ok (.ireturn, 1) := by decide +kernel
theorem dX11_swell_23 : decode cX11_swell 23 = .ok (.aload_n 0, 1) := by decide +kernel
theorem dX11_swell_24 : decode cX11_swell 24 = .ok (.getfield 66, 3) := by decide +kernel
theorem dX11_swell_27 : decode cX11_swell 27 = .ok (.getfield 133, 3) := by decide +kernel
theorem dX11_swell_30 : decode cX11_swell 30 = .ok (.iload_n 1, 1) := by decide +kernel
theorem dX11_swell_31 : decode cX11_swell 31 = .ok (.iaload, 1) := by decide +kernel
theorem dX11_swell_32 : decode cX11_swell 32 = .ok (.istore_n 3, 1) := by decide +kernel
theorem dX11_swell_33 : decode cX11_swell 33 = .ok (.aload_n 0, 1) := by decide +kernel
theorem dX11_swell_34 : decode cX11_swell 34 = .ok (.getfield 66, 3) := by decide +kernel
theorem dX11_swell_37 : decode cX11_swell 37 = .ok (.getfield 133, 3) := by decide +kernel
theorem dX11_swell_40 : decode cX11_swell 40 = .ok (.iload_n 1, 1) := by decide +kernel
theorem dX11_swell_41 : decode cX11_swell 41 = .ok (.iload_n 2, 1) := by decide +kernel
theorem dX11_swell_42 : decode cX11_swell 42 = .ok (.iastore, 1) := by decide +kernel
theorem dX11_swell_43 : decode cX11_swell 43 = .ok (.iload_n 3, 1) := by decide +kernel
theorem dX11_swell_44 : decode cX11_swell 44 = .ok (.ireturn, 1) := by decide +kernel
theorem dX11_pull_0 : decode cX11_pull 0 = .ok (.aload_n 0, 1) := by decide +kernel
theorem dX11_pull_1 : decode cX11_pull 1 = .ok (.iload_n 1, 1) := by decide +kernel
theorem dX11_pull_2 : decode cX11_pull 2 = .ok (.invokevirtual 121, 3) := by decide +kernel
theorem dX11_pull_5 : decode cX11_pull 5 = .ok (.ifCond .eq 11, 3) := by decide +kernel
theorem dX11_pull_8 : decode cX11_pull 8 = .ok (.aload_n 0, 1) := by decide +kernel
theorem dX11_pull_9 : decode cX11_pull 9 = .ok (.iload_n 2, 1) := by decide +kernel
theorem dX11_pull_10 : decode cX11_pull 10 = .ok (.invokevirtual 121, 3) := by decide +kernel
theorem dX11_pull_13 : decode cX11_pull 13 = .ok (.ifCond .ne 9, 3) := by decide +kernel
theorem dX11_pull_16 : decode cX11_pull 16 = .ok (.aload_n 0, 1) := by decide +kernel
theorem dX11_pull_17 : decode cX11_pull 17 = .ok (.iconst 1, 1) := by decide +kernel
theorem dX11_pull_18 : decode cX11_pull 18 = .ok (.invokevirtual 92, 3) := by decide +kernel
theorem dX11_pull_21 : decode cX11_pull 21 = .ok (.ireturn, 1) := by decide +kernel
theorem dX11_pull_22 : decode cX11_pull 22 = .ok (.aload_n 0, 1) := by decide +kernel
theorem dX11_pull_23 : decode cX11_pull 23 = .ok (.getfield 66, 3) := by decide +kernel
theorem dX11_pull_26 : decode cX11_pull 26 = .ok (.invokevirtual 142, 3) := by decide +kernel
theorem dX11_pull_29 : decode cX11_pull 29 = .ok (.ifCond .ne 15, 3) := by decide +kernel
theorem dX11_pull_32 : decode cX11_pull 32 = .ok (.aload_n 0, 1) := by decide +kernel
theorem dX11_pull_33 : decode cX11_pull 33 = .ok (.getfield 66, 3) := by decide +kernel
theorem dX11_pull_36 : decode cX11_pull 36 = .ok (.iload_n 1, 1) := by decide +kernel
theorem dX11_pull_37 : decode cX11_pull 37 = .ok (.iload_n 2, 1) := by decide +kernel
theorem dX11_pull_38 : decode cX11_pull 38 = .ok (.invokevirtual 146, 3) := by decide +kernel
theorem dX11_pull_41 : decode cX11_pull 41 = .ok (.ifCond .ne 9, 3) := by decide +kernel
theorem dX11_pull_44 : decode cX11_pull 44 = .ok (.aload_n 0, 1) := by decide +kernel
theorem dX11_pull_45 : decode cX11_pull 45 = .ok (.iconst 3, 1) := by decide +kernel
theorem dX11_pull_46 : decode cX11_pull 46 = .ok (.invokevirtual 92, 3) := by decide +kernel
theorem dX11_pull_49 : decode cX11_pull 49 = .ok (.ireturn, 1) := by decide +kernel
theorem dX11_pull_50 : decode cX11_pull 50 = .ok (.aload_n 0, 1) := by decide +kernel
theorem dX11_pull_51 : decode cX11_pull 51 = .ok (.getfield 66, 3) := by decide +kernel
theorem dX11_pull_54 : decode cX11_pull 54 = .ok (.iload_n 1, 1) := by decide +kernel
theorem dX11_pull_55 : decode cX11_pull 55 = .ok (.iload_n 2, 1) := by decide +kernel
theorem dX11_pull_56 : decode cX11_pull 56 = .ok (.invokevirtual 150, 3) := by decide +kernel
theorem dX11_pull_59 : decode cX11_pull 59 = .ok (.aload_n 0, 1) := by decide +kernel
theorem dX11_pull_60 : decode cX11_pull 60 = .ok (.getfield 66, 3) := by decide +kernel
theorem dX11_pull_63 : decode cX11_pull 63 = .ok (.getfield 127, 3) := by decide +kernel
theorem dX11_pull_66 : decode cX11_pull 66 = .ok (.iload_n 1, 1) := by decide +kernel
theorem dX11_pull_67 : decode cX11_pull 67 = .ok (.iaload, 1) := by decide +kernel
theorem dX11_pull_68 : decode cX11_pull 68 = .ok (.ireturn, 1) := by decide +kernel
theorem dX11_swap_0 : decode cX11_swap 0 = .ok (.aload_n 0, 1) := by decide +kernel
theorem dX11_swap_1 : decode cX11_swap 1 = .ok (.iload_n 1, 1) := by decide +kernel
theorem dX11_swap_2 : decode cX11_swap 2 = .ok (.invokevirtual 121, 3) := by decide +kernel
theorem dX11_swap_5 : decode cX11_swap 5 = .ok (.ifCond .eq 11, 3) := by decide +kernel
theorem dX11_swap_8 : decode cX11_swap 8 = .ok (.aload_n 0, 1) := by decide +kernel
theorem dX11_swap_9 : decode cX11_swap 9 = .ok (.iload_n 2, 1) := by decide +kernel
theorem dX11_swap_10 : decode cX11_swap 10 = .ok (.invokevirtual 121, 3) := by decide +kernel
theorem dX11_swap_13 : decode cX11_swap 13 = .ok (.ifCond .ne 9, 3) := by decide +kernel
theorem dX11_swap_16 : decode cX11_swap 16 = .ok (.aload_n 0, 1) := by decide +kernel
theorem dX11_swap_17 : decode cX11_swap 17 = .ok (.iconst 1, 1) := by decide +kernel
theorem dX11_swap_18 : decode cX11_swap 18 = .ok (.invokevirtual 92, 3) := by decide +kernel
theorem dX11_swap_21 : decode cX11_swap 21 = .ok (.ireturn, 1) := by decide +kernel
theorem dX11_swap_22 : decode cX11_swap 22 = .ok (.aload_n 0, 1) := by decide +kernel
theorem dX11_swap_23 : decode cX11_swap 23 = .ok (.getfield 66, 3) := by decide +kernel
theorem dX11_swap_26 : decode cX11_swap 26 = .ok (.iload_n 1, 1) := by decide +kernel
theorem dX11_swap_27 : decode cX11_swap 27 = .ok (.iload_n 2, 1) := by decide +kernel
theorem dX11_swap_28 : decode cX11_swap 28 = .ok (.invokevirtual 154, 3) := by decide +kernel
theorem dX11_swap_31 : decode cX11_swap 31 = .ok (.iconst 1, 1) := by decide +kernel
theorem dX11_swap_32 : decode cX11_swap 32 = .ok (.ireturn, 1) := by decide +kernel
theorem dX11_air_0 : decode cX11_air 0 = .ok (.iload_n 1, 1) := by decide +kernel
theorem dX11_air_1 : decode cX11_air 1 = .ok (.invokestatic 85, 3) := by decide +kernel
theorem dX11_air_4 : decode cX11_air 4 = .ok (.ifCond .ne 9, 3) := by decide +kernel
theorem dX11_air_7 : decode cX11_air 7 = .ok (.aload_n 0, 1) := by decide +kernel
theorem dX11_air_8 : decode cX11_air 8 = .ok (.iconst 1, 1) := by decide +kernel
theorem dX11_air_9 : decode cX11_air 9 = .ok (.invokevirtual 92, 3) := by decide +kernel
theorem dX11_air_12 : decode cX11_air 12 = .ok (.ireturn, 1) := by decide +kernel
theorem dX11_air_13 : decode cX11_air 13 = .ok (.aload_n 0, 1) := by decide +kernel
theorem dX11_air_14 : decode cX11_air 14 = .ok (.getfield 66, 3) := by decide +kernel
theorem dX11_air_17 : decode cX11_air 17 = .ok (.iload_n 1, 1) := by decide +kernel
theorem dX11_air_18 : decode cX11_air 18 = .ok (.invokevirtual 157, 3) := by decide +kernel
theorem dX11_air_21 : decode cX11_air 21 = .ok (.ireturn, 1) := by decide +kernel
theorem dX11_lodger_0 : decode cX11_lodger 0 = .ok (.iload_n 1, 1) := by decide +kernel
theorem dX11_lodger_1 : decode cX11_lodger 1 = .ok (.invokestatic 160, 3) := by decide +kernel
theorem dX11_lodger_4 : decode cX11_lodger 4 = .ok (.ifCond .eq 10, 3) := by decide +kernel
theorem dX11_lodger_7 : decode cX11_lodger 7 = .ok (.iload_n 2, 1) := by decide +kernel
theorem dX11_lodger_8 : decode cX11_lodger 8 = .ok (.invokestatic 85, 3) := by decide +kernel
theorem dX11_lodger_11 : decode cX11_lodger 11 = .ok (.ifCond .ne 9, 3) := by decide +kernel
theorem dX11_lodger_14 : decode cX11_lodger 14 = .ok (.aload_n 0, 1) := by decide +kernel
theorem dX11_lodger_15 : decode cX11_lodger 15 = .ok (.iconst 1, 1) := by decide +kernel
theorem dX11_lodger_16 : decode cX11_lodger 16 = .ok (.invokevirtual 92, 3) := by decide +kernel
theorem dX11_lodger_19 : decode cX11_lodger 19 = .ok (.ireturn, 1) := by decide +kernel
theorem dX11_lodger_20 : decode cX11_lodger 20 = .ok (.aload_n 0, 1) := by decide +kernel
theorem dX11_lodger_21 : decode cX11_lodger 21 = .ok (.getfield 66, 3) := by decide +kernel
theorem dX11_lodger_24 : decode cX11_lodger 24 = .ok (.getfield 163, 3) := by decide +kernel
theorem dX11_lodger_27 : decode cX11_lodger 27 = .ok (.bipush 6, 2) := by decide +kernel
theorem dX11_lodger_29 : decode cX11_lodger 29 = .ok (.if_icmp .lt 9, 3) := by decide +kernel
theorem dX11_lodger_32 : decode cX11_lodger 32 = .ok (.aload_n 0, 1) := by decide +kernel
theorem dX11_lodger_33 : decode cX11_lodger 33 = .ok (.iconst 4, 1) := by decide +kernel
theorem dX11_lodger_34 : decode cX11_lodger 34 = .ok (.invokevirtual 92, 3) := by decide +kernel
theorem dX11_lodger_37 : decode cX11_lodger 37 = .ok (.ireturn, 1) := by decide +kernel
theorem dX11_lodger_38 : decode cX11_lodger 38 = .ok (.aload_n 0, 1) := by decide +kernel
theorem dX11_lodger_39 : decode cX11_lodger 39 = .ok (.getfield 66, 3) := by decide +kernel
theorem dX11_lodger_42 : decode cX11_lodger 42 = .ok (.dup, 1) := by decide +kernel
theorem dX11_lodger_43 : decode cX11_lodger 43 = .ok (.getfield 163, 3) := by decide +kernel
theorem dX11_lodger_46 : decode cX11_lodger 46 = .ok (.dup_x1, 1) := by decide +kernel
theorem dX11_lodger_47 : decode cX11_lodger 47 = .ok (.iconst 1, 1) := by decide +kernel
theorem dX11_lodger_48 : decode cX11_lodger 48 = .ok (.iadd, 1) := by decide +kernel
theorem dX11_lodger_49 : decode cX11_lodger 49 = .ok (.putfield 163, 3) := by decide +kernel
theorem dX11_lodger_52 : decode cX11_lodger 52 = .ok (.istore_n 3, 1) := by decide +kernel
theorem dX11_lodger_53 : decode cX11_lodger 53 = .ok (.aload_n 0, 1) := by decide +kernel
theorem dX11_lodger_54 : decode cX11_lodger 54 = .ok (.getfield 66, 3) := by decide +kernel
theorem dX11_lodger_57 : decode cX11_lodger 57 = .ok (.iload_n 3, 1) := by decide +kernel
theorem dX11_lodger_58 : decode cX11_lodger 58 = .ok (.aload_n 0, 1) := by decide +kernel
theorem dX11_lodger_59 : decode cX11_lodger 59 = .ok (.getfield 11, 3) := by decide +kernel
theorem dX11_lodger_62 : decode cX11_lodger 62 = .ok (.iload_n 1, 1) := by decide +kernel
theorem dX11_lodger_63 : decode cX11_lodger 63 = .ok (.bipush 10, 2) := by decide +kernel
theorem dX11_lodger_65 : decode cX11_lodger 65 = .ok (.idiv, 1) := by decide +kernel
theorem dX11_lodger_66 : decode cX11_lodger 66 = .ok (.aaload, 1) := by decide +kernel
theorem dX11_lodger_67 : decode cX11_lodger 67 = .ok (.iload_n 1, 1) := by decide +kernel
theorem dX11_lodger_68 : decode cX11_lodger 68 = .ok (.bipush 10, 2) := by decide +kernel
theorem dX11_lodger_70 : decode cX11_lodger 70 = .ok (.irem, 1) := by decide +kernel
theorem dX11_lodger_71 : decode cX11_lodger 71 = .ok (.invokevirtual 166, 3) := by decide +kernel
theorem dX11_lodger_74 : decode cX11_lodger 74 = .ok (.aload_n 0, 1) := by decide +kernel
theorem dX11_lodger_75 : decode cX11_lodger 75 = .ok (.getfield 66, 3) := by decide +kernel
theorem dX11_lodger_78 : decode cX11_lodger 78 = .ok (.getfield 170, 3) := by decide +kernel
theorem dX11_lodger_81 : decode cX11_lodger 81 = .ok (.iload_n 3, 1) := by decide +kernel
theorem dX11_lodger_82 : decode cX11_lodger 82 = .ok (.iload_n 2, 1) := by decide +kernel
theorem dX11_lodger_83 : decode cX11_lodger 83 = .ok (.iastore, 1) := by decide +kernel
theorem dX11_lodger_84 : decode cX11_lodger 84 = .ok (.iload_n 3, 1) := by decide +kernel
theorem dX11_lodger_85 : decode cX11_lodger 85 = .ok (.ireturn, 1) := by decide +kernel
theorem dX11_ofLodger_0 : decode cX11_ofLodger 0 = .ok (.aload_n 0, 1) := by decide +kernel
theorem dX11_ofLodger_1 : decode cX11_ofLodger 1 = .ok (.iload_n 1, 1) := by decide +kernel
theorem dX11_ofLodger_2 : decode cX11_ofLodger 2 = .ok (.invokevirtual 173, 3) := by decide +kernel
theorem dX11_ofLodger_5 : decode cX11_ofLodger 5 = .ok (.ifCond .ne 9, 3) := by decide +kernel
theorem dX11_ofLodger_8 : decode cX11_ofLodger 8 = .ok (.aload_n 0, 1) := by decide +kernel
theorem dX11_ofLodger_9 : decode cX11_ofLodger 9 = .ok (.iconst 1, 1) := by decide +kernel
theorem dX11_ofLodger_10 : decode cX11_ofLodger 10 = .ok (.invokevirtual 92, 3) := by decide +kernel
theorem dX11_ofLodger_13 : decode cX11_ofLodger 13 = .ok (.ireturn, 1) := by decide +kernel
theorem dX11_ofLodger_14 : decode cX11_ofLodger 14 = .ok (.aload_n 0, 1) := by decide +kernel
theorem dX11_ofLodger_15 : decode cX11_ofLodger 15 = .ok (.getfield 66, 3) := by decide +kernel
theorem dX11_ofLodger_18 : decode cX11_ofLodger 18 = .ok (.getfield 176, 3) := by decide +kernel
theorem dX11_ofLodger_21 : decode cX11_ofLodger 21 = .ok (.iload_n 1, 1) := by decide +kernel
theorem dX11_ofLodger_22 : decode cX11_ofLodger 22 = .ok (.aaload, 1) := by decide +kernel
theorem dX11_ofLodger_23 : decode cX11_ofLodger 23 = .ok (.astore_n 3, 1) := by decide +kernel
theorem dX11_ofLodger_24 : decode cX11_ofLodger 24 = .ok (.iload_n 2, 1) := by decide +kernel
theorem dX11_ofLodger_25 : decode cX11_ofLodger 25 = .ok (.tableswitch 118 0 6 #[43, 48, 58, 68, 82, 96, 101], 43) := by decide +kernel
theorem dX11_ofLodger_68 : decode cX11_ofLodger 68 = .ok (.aload_n 3, 1) := by decide +kernel
theorem dX11_ofLodger_69 : decode cX11_ofLodger 69 = .ok (.getfield 179, 3) := by decide +kernel
theorem dX11_ofLodger_72 : decode cX11_ofLodger 72 = .ok (.ireturn, 1) := by decide +kernel
theorem dX11_ofLodger_73 : decode cX11_ofLodger 73 = .ok (.aload_n 0, 1) := by decide +kernel
theorem dX11_ofLodger_74 : decode cX11_ofLodger 74 = .ok (.getfield 66, 3) := by decide +kernel
theorem dX11_ofLodger_77 : decode cX11_ofLodger 77 = .ok (.getfield 182, 3) := by decide +kernel
theorem dX11_ofLodger_80 : decode cX11_ofLodger 80 = .ok (.iload_n 1, 1) := by decide +kernel
theorem dX11_ofLodger_81 : decode cX11_ofLodger 81 = .ok (.iaload, 1) := by decide +kernel
theorem dX11_ofLodger_82 : decode cX11_ofLodger 82 = .ok (.ireturn, 1) := by decide +kernel
theorem dX11_ofLodger_83 : decode cX11_ofLodger 83 = .ok (.aload_n 0, 1) := by decide +kernel
theorem dX11_ofLodger_84 : decode cX11_ofLodger 84 = .ok (.getfield 66, 3) := by decide +kernel
theorem dX11_ofLodger_87 : decode cX11_ofLodger 87 = .ok (.getfield 170, 3) := by decide +kernel
theorem dX11_ofLodger_90 : decode cX11_ofLodger 90 = .ok (.iload_n 1, 1) := by decide +kernel
theorem dX11_ofLodger_91 : decode cX11_ofLodger 91 = .ok (.iaload, 1) := by decide +kernel
theorem dX11_ofLodger_92 : decode cX11_ofLodger 92 = .ok (.ireturn, 1) := by decide +kernel
theorem dX11_ofLodger_93 : decode cX11_ofLodger 93 = .ok (.aload_n 3, 1) := by decide +kernel
theorem dX11_ofLodger_94 : decode cX11_ofLodger 94 = .ok (.aload_n 0, 1) := by decide +kernel
theorem dX11_ofLodger_95 : decode cX11_ofLodger 95 = .ok (.getfield 66, 3) := by decide +kernel
theorem dX11_ofLodger_98 : decode cX11_ofLodger 98 = .ok (.getfield 182, 3) := by decide +kernel
theorem dX11_ofLodger_101 : decode cX11_ofLodger 101 = .ok (.iload_n 1, 1) := by decide +kernel
theorem dX11_ofLodger_102 : decode cX11_ofLodger 102 = .ok (.iaload, 1) := by decide +kernel
theorem dX11_ofLodger_103 : decode cX11_ofLodger 103 = .ok (.invokevirtual 185, 3) := by decide +kernel
theorem dX11_ofLodger_106 : decode cX11_ofLodger 106 = .ok (.ireturn, 1) := by decide +kernel
theorem dX11_ofLodger_107 : decode cX11_ofLodger 107 = .ok (.aload_n 3, 1) := by decide +kernel
theorem dX11_ofLodger_108 : decode cX11_ofLodger 108 = .ok (.aload_n 0, 1) := by decide +kernel
theorem dX11_ofLodger_109 : decode cX11_ofLodger 109 = .ok (.getfield 66, 3) := by decide +kernel
theorem dX11_ofLodger_112 : decode cX11_ofLodger 112 = .ok (.getfield 182, 3) := by decide +kernel
theorem dX11_ofLodger_115 : decode cX11_ofLodger 115 = .ok (.iload_n 1, 1) := by decide +kernel
theorem dX11_ofLodger_116 : decode cX11_ofLodger 116 = .ok (.iaload, 1) := by decide +kernel
theorem dX11_ofLodger_117 : decode cX11_ofLodger 117 = .ok (.invokevirtual 188, 3) := by decide +kernel
theorem dX11_ofLodger_120 : decode cX11_ofLodger 120 = .ok (.ireturn, 1) := by decide +kernel
theorem dX11_ofLodger_121 : decode cX11_ofLodger 121 = .ok (.aload_n 3, 1) := by decide +kernel
theorem dX11_ofLodger_122 : decode cX11_ofLodger 122 = .ok (.invokevirtual 191, 3) := by decide +kernel
theorem dX11_ofLodger_125 : decode cX11_ofLodger 125 = .ok (.ireturn, 1) := by decide +kernel
theorem dX11_ofLodger_126 : decode cX11_ofLodger 126 = .ok (.aload_n 0, 1) := by decide +kernel
theorem dX11_ofLodger_127 : decode cX11_ofLodger 127 = .ok (.getfield 66, 3) := by decide +kernel
theorem dX11_ofLodger_130 : decode cX11_ofLodger 130 = .ok (.iload_n 1, 1) := by decide +kernel
theorem dX11_ofLodger_131 : decode cX11_ofLodger 131 = .ok (.invokevirtual 194, 3) := by decide +kernel
theorem dX11_ofLodger_134 : decode cX11_ofLodger 134 = .ok (.ifCond .eq 7, 3) := by decide +kernel
theorem dX11_ofLodger_137 : decode cX11_ofLodger 137 = .ok (.iconst 1, 1) := by decide +kernel
theorem dX11_ofLodger_138 : decode cX11_ofLodger 138 = .ok (.goto 4, 3) := by decide +kernel
theorem dX11_ofLodger_141 : decode cX11_ofLodger 141 = .ok (.iconst 0, 1) := by decide +kernel
theorem dX11_ofLodger_142 : decode cX11_ofLodger 142 = .ok (.ireturn, 1) := by decide +kernel
theorem dX11_ofLodger_143 : decode cX11_ofLodger 143 = .ok (.aload_n 0, 1) := by decide +kernel
theorem dX11_ofLodger_144 : decode cX11_ofLodger 144 = .ok (.iconst 1, 1) := by decide +kernel
theorem dX11_ofLodger_145 : decode cX11_ofLodger 145 = .ok (.invokevirtual 92, 3) := by decide +kernel
theorem dX11_ofLodger_148 : decode cX11_ofLodger 148 = .ok (.ireturn, 1) := by decide +kernel
theorem dX11_become_0 : decode cX11_become 0 = .ok (.aload_n 0, 1) := by decide +kernel
theorem dX11_become_1 : decode cX11_become 1 = .ok (.iload_n 1, 1) := by decide +kernel
theorem dX11_become_2 : decode cX11_become 2 = .ok (.invokevirtual 173, 3) := by decide +kernel
theorem dX11_become_5 : decode cX11_become 5 = .ok (.ifCond .eq 10, 3) := by decide +kernel
theorem dX11_become_8 : decode cX11_become 8 = .ok (.iload_n 2, 1) := by decide +kernel
theorem dX11_become_9 : decode cX11_become 9 = .ok (.invokestatic 160, 3) := by decide +kernel
theorem dX11_become_12 : decode cX11_become 12 = .ok (.ifCond .ne 9, 3) := by decide +kernel
theorem dX11_become_15 : decode cX11_become 15 = .ok (.aload_n 0, 1) := by decide +kernel
theorem dX11_become_16 : decode cX11_become 16 = .ok (.iconst 1, 1) := by decide +kernel
theorem dX11_become_17 : decode cX11_become 17 = .ok (.invokevirtual 92, 3) := by decide +kernel
theorem dX11_become_20 : decode cX11_become 20 = .ok (.ireturn, 1) := by decide +kernel
theorem dX11_become_21 : decode cX11_become 21 = .ok (.aload_n 0, 1) := by decide +kernel
theorem dX11_become_22 : decode cX11_become 22 = .ok (.getfield 66, 3) := by decide +kernel
theorem dX11_become_25 : decode cX11_become 25 = .ok (.getfield 176, 3) := by decide +kernel
theorem dX11_become_28 : decode cX11_become 28 = .ok (.iload_n 1, 1) := by decide +kernel
theorem dX11_become_29 : decode cX11_become 29 = .ok (.aaload, 1) := by decide +kernel
theorem dX11_become_30 : decode cX11_become 30 = .ok (.getfield 179, 3) := by decide +kernel
theorem dX11_become_33 : decode cX11_become 33 = .ok (.istore_n 3, 1) := by decide +kernel
theorem dX11_become_34 : decode cX11_become 34 = .ok (.aload_n 0, 1) := by decide +kernel
theorem dX11_become_35 : decode cX11_become 35 = .ok (.getfield 66, 3) := by decide +kernel
theorem dX11_become_38 : decode cX11_become 38 = .ok (.iload_n 1, 1) := by decide +kernel
theorem dX11_become_39 : decode cX11_become 39 = .ok (.aload_n 0, 1) := by decide +kernel
theorem dX11_become_40 : decode cX11_become 40 = .ok (.getfield 11, 3) := by decide +kernel
theorem dX11_become_43 : decode cX11_become 43 = .ok (.iload_n 2, 1) := by decide +kernel
theorem dX11_become_44 : decode cX11_become 44 = .ok (.bipush 10, 2) := by decide +kernel
theorem dX11_become_46 : decode cX11_become 46 = .ok (.idiv, 1) := by decide +kernel
theorem dX11_become_47 : decode cX11_become 47 = .ok (.aaload, 1) := by decide +kernel
theorem dX11_become_48 : decode cX11_become 48 = .ok (.iload_n 2, 1) := by decide +kernel
theorem dX11_become_49 : decode cX11_become 49 = .ok (.bipush 10, 2) := by decide +kernel
theorem dX11_become_51 : decode cX11_become 51 = .ok (.irem, 1) := by decide +kernel
theorem dX11_become_52 : decode cX11_become 52 = .ok (.invokevirtual 166, 3) := by decide +kernel
theorem dX11_become_55 : decode cX11_become 55 = .ok (.iload_n 3, 1) := by decide +kernel
theorem dX11_become_56 : decode cX11_become 56 = .ok (.ireturn, 1) := by decide +kernel
theorem dX11_as_0 : decode cX11_as 0 = .ok (.aload_n 0, 1) := by decide +kernel
theorem dX11_as_1 : decode cX11_as 1 = .ok (.iload_n 1, 1) := by decide +kernel
theorem dX11_as_2 : decode cX11_as 2 = .ok (.invokevirtual 173, 3) := by decide +kernel
theorem dX11_as_5 : decode cX11_as 5 = .ok (.ifCond .eq 13, 3) := by decide +kernel
theorem dX11_as_8 : decode cX11_as 8 = .ok (.iload_n 2, 1) := by decide +kernel
theorem dX11_as_9 : decode cX11_as 9 = .ok (.ifCond .lt 9, 3) := by decide +kernel
theorem dX11_as_12 : decode cX11_as 12 = .ok (.iload_n 2, 1) := by decide +kernel
theorem dX11_as_13 : decode cX11_as 13 = .ok (.bipush 7, 2) := by decide +kernel
theorem dX11_as_15 : decode cX11_as 15 = .ok (.if_icmp .lt 9, 3) := by decide +kernel
theorem dX11_as_18 : decode cX11_as 18 = .ok (.aload_n 0, 1) := by decide +kernel
theorem dX11_as_19 : decode cX11_as 19 = .ok (.iconst 1, 1) := by decide +kernel
theorem dX11_as_20 : decode cX11_as 20 = .ok (.invokevirtual 92, 3) := by decide +kernel
theorem dX11_as_23 : decode cX11_as 23 = .ok (.ireturn, 1) := by decide +kernel
theorem dX11_as_24 : decode cX11_as 24 = .ok (.aload_n 0, 1) := by decide +kernel
theorem dX11_as_25 : decode cX11_as 25 = .ok (.getfield 66, 3) := by decide +kernel
theorem dX11_as_28 : decode cX11_as 28 = .ok (.getfield 176, 3) := by decide +kernel
theorem dX11_as_31 : decode cX11_as 31 = .ok (.iload_n 1, 1) := by decide +kernel
theorem dX11_as_32 : decode cX11_as 32 = .ok (.aaload, 1) := by decide +kernel
theorem dX11_as_33 : decode cX11_as 33 = .ok (.getfield 179, 3) := by decide +kernel
theorem dX11_as_36 : decode cX11_as 36 = .ok (.iload_n 2, 1) := by decide +kernel
theorem dX11_as_37 : decode cX11_as 37 = .ok (.invokestatic 197, 3) := by decide +kernel
theorem dX11_as_40 : decode cX11_as 40 = .ok (.ifCond .ne 9, 3) := by decide +kernel
theorem dX11_as_43 : decode cX11_as 43 = .ok (.aload_n 0, 1) := by decide +kernel
theorem dX11_as_44 : decode cX11_as 44 = .ok (.iconst 5, 1) := by decide +kernel
theorem dX11_as_45 : decode cX11_as 45 = .ok (.invokevirtual 92, 3) := by decide +kernel
theorem dX11_as_48 : decode cX11_as 48 = .ok (.ireturn, 1) := by decide +kernel
theorem dX11_as_49 : decode cX11_as 49 = .ok (.aload_n 0, 1) := by decide +kernel
theorem dX11_as_50 : decode cX11_as 50 = .ok (.getfield 66, 3) := by decide +kernel
theorem dX11_as_53 : decode cX11_as 53 = .ok (.getfield 182, 3) := by decide +kernel
theorem dX11_as_56 : decode cX11_as 56 = .ok (.iload_n 1, 1) := by decide +kernel
theorem dX11_as_57 : decode cX11_as 57 = .ok (.iaload, 1) := by decide +kernel
theorem dX11_as_58 : decode cX11_as 58 = .ok (.ireturn, 1) := by decide +kernel
theorem dX11_goes_0 : decode cX11_goes 0 = .ok (.aload_n 0, 1) := by decide +kernel
theorem dX11_goes_1 : decode cX11_goes 1 = .ok (.iload_n 1, 1) := by decide +kernel
theorem dX11_goes_2 : decode cX11_goes 2 = .ok (.invokevirtual 173, 3) := by decide +kernel
theorem dX11_goes_5 : decode cX11_goes 5 = .ok (.ifCond .eq 10, 3) := by decide +kernel
theorem dX11_goes_8 : decode cX11_goes 8 = .ok (.iload_n 2, 1) := by decide +kernel
theorem dX11_goes_9 : decode cX11_goes 9 = .ok (.invokestatic 85, 3) := by decide +kernel
theorem dX11_goes_12 : decode cX11_goes 12 = .ok (.ifCond .ne 9, 3) := by decide +kernel
theorem dX11_goes_15 : decode cX11_goes 15 = .ok (.aload_n 0, 1) := by decide +kernel
theorem dX11_goes_16 : decode cX11_goes 16 = .ok (.iconst 1, 1) := by decide +kernel
theorem dX11_goes_17 : decode cX11_goes 17 = .ok (.invokevirtual 92, 3) := by decide +kernel
theorem dX11_goes_20 : decode cX11_goes 20 = .ok (.ireturn, 1) := by decide +kernel
theorem dX11_goes_21 : decode cX11_goes 21 = .ok (.aload_n 0, 1) := by decide +kernel
theorem dX11_goes_22 : decode cX11_goes 22 = .ok (.getfield 66, 3) := by decide +kernel
theorem dX11_goes_25 : decode cX11_goes 25 = .ok (.getfield 170, 3) := by decide +kernel
theorem dX11_goes_28 : decode cX11_goes 28 = .ok (.iload_n 1, 1) := by decide +kernel
theorem dX11_goes_29 : decode cX11_goes 29 = .ok (.iaload, 1) := by decide +kernel
theorem dX11_goes_30 : decode cX11_goes 30 = .ok (.istore_n 3, 1) := by decide +kernel
theorem dX11_goes_31 : decode cX11_goes 31 = .ok (.aload_n 0, 1) := by decide +kernel
theorem dX11_goes_32 : decode cX11_goes 32 = .ok (.getfield 66, 3) := by decide +kernel
theorem dX11_goes_35 : decode cX11_goes 35 = .ok (.getfield 170, 3) := by decide +kernel
theorem dX11_goes_38 : decode cX11_goes 38 = .ok (.iload_n 1, 1) := by decide +kernel
theorem dX11_goes_39 : decode cX11_goes 39 = .ok (.iload_n 2, 1) := by decide +kernel
theorem dX11_goes_40 : decode cX11_goes 40 = .ok (.iastore, 1) := by decide +kernel
theorem dX11_goes_41 : decode cX11_goes 41 = .ok (.iload_n 3, 1) := by decide +kernel
theorem dX11_goes_42 : decode cX11_goes 42 = .ok (.ireturn, 1) := by decide +kernel
theorem dX11_content_0 : decode cX11_content 0 = .ok (.aload_n 0, 1) := by decide +kernel
theorem dX11_content_1 : decode cX11_content 1 = .ok (.getfield 66, 3) := by decide +kernel
theorem dX11_content_4 : decode cX11_content 4 = .ok (.invokevirtual 200, 3) := by decide +kernel
theorem dX11_content_7 : decode cX11_content 7 = .ok (.ireturn, 1) := by decide +kernel
theorem dX11_feed_0 : decode cX11_feed 0 = .ok (.iload_n 3, 1) := by decide +kernel
theorem dX11_feed_1 : decode cX11_feed 1 = .ok (.iconst 1, 1) := by decide +kernel
theorem dX11_feed_2 : decode cX11_feed 2 = .ok (.if_icmp .lt 9, 3) := by decide +kernel
theorem dX11_feed_5 : decode cX11_feed 5 = .ok (.iload_n 3, 1) := by decide +kernel
theorem dX11_feed_6 : decode cX11_feed 6 = .ok (.bipush 8, 2) := by decide +kernel
theorem dX11_feed_8 : decode cX11_feed 8 = .ok (.if_icmp .le 9, 3) := by decide +kernel
theorem dX11_feed_11 : decode cX11_feed 11 = .ok (.aload_n 0, 1) := by decide +kernel
theorem dX11_feed_12 : decode cX11_feed 12 = .ok (.iconst 1, 1) := by decide +kernel
theorem dX11_feed_13 : decode cX11_feed 13 = .ok (.invokevirtual 92, 3) := by decide +kernel
theorem dX11_feed_16 : decode cX11_feed 16 = .ok (.ireturn, 1) := by decide +kernel
theorem dX11_feed_17 : decode cX11_feed 17 = .ok (.aload_n 0, 1) := by decide +kernel
theorem dX11_feed_18 : decode cX11_feed 18 = .ok (.getfield 66, 3) := by decide +kernel
theorem dX11_feed_21 : decode cX11_feed 21 = .ok (.getfield 203, 3) := by decide +kernel
theorem dX11_feed_24 : decode cX11_feed 24 = .ok (.getfield 206, 3) := by decide +kernel
theorem dX11_feed_27 : decode cX11_feed 27 = .ok (.iload_n 3, 1) := by decide +kernel
theorem dX11_feed_28 : decode cX11_feed 28 = .ok (.iadd, 1) := by decide +kernel
theorem dX11_feed_29 : decode cX11_feed 29 = .ok (.bipush 50, 2) := by decide +kernel
theorem dX11_feed_31 : decode cX11_feed 31 = .ok (.if_icmp .le 9, 3) := by decide +kernel
theorem dX11_feed_34 : decode cX11_feed 34 = .ok (.aload_n 0, 1) := by decide +kernel
theorem dX11_feed_35 : decode cX11_feed 35 = .ok (.iconst 4, 1) := by decide +kernel
theorem dX11_feed_36 : decode cX11_feed 36 = .ok (.invokevirtual 92, 3) := by decide +kernel
theorem dX11_feed_39 : decode cX11_feed 39 = .ok (.ireturn, 1) := by decide +kernel
theorem dX11_feed_40 : decode cX11_feed 40 = .ok (.iconst 0, 1) := by decide +kernel
theorem dX11_feed_41 : decode cX11_feed 41 = .ok (.istore 4, 2) := by decide +kernel
theorem dX11_feed_43 : decode cX11_feed 43 = .ok (.iload 4, 2) := by decide +kernel
theorem dX11_feed_45 : decode cX11_feed 45 = .ok (.iload_n 3, 1) := by decide +kernel
theorem dX11_feed_46 : decode cX11_feed 46 = .ok (.if_icmp .ge 31, 3) := by decide +kernel
theorem dX11_feed_49 : decode cX11_feed 49 = .ok (.aload_n 0, 1) := by decide +kernel
theorem dX11_feed_50 : decode cX11_feed 50 = .ok (.getfield 66, 3) := by decide +kernel
theorem dX11_feed_53 : decode cX11_feed 53 = .ok (.getfield 203, 3) := by decide +kernel
theorem dX11_feed_56 : decode cX11_feed 56 = .ok (.lload_n 1, 1) := by decide +kernel
theorem dX11_feed_57 : decode cX11_feed 57 = .ok (.bipush 8, 2) := by decide +kernel
theorem dX11_feed_59 : decode cX11_feed 59 = .ok (.iload 4, 2) := by decide +kernel
theorem dX11_feed_61 : decode cX11_feed 61 = .ok (.imul, 1) := by decide +kernel
theorem dX11_feed_62 : decode cX11_feed 62 = .ok (.lushr, 1) := by decide +kernel
theorem dX11_feed_63 : decode cX11_feed 63 = .ok (.l2i, 1) := by decide +kernel
theorem dX11_feed_64 : decode cX11_feed 64 = .ok (.sipush 255, 3) := by decide +kernel
theorem dX11_feed_67 : decode cX11_feed 67 = .ok (.iand, 1) := by decide +kernel
theorem dX11_feed_68 : decode cX11_feed 68 = .ok (.invokevirtual 209, 3) := by decide +kernel
theorem dX11_feed_71 : decode cX11_feed 71 = .ok (.iinc 4 1, 3) := by decide +kernel
theorem dX11_feed_74 : decode cX11_feed 74 = .ok (.goto (-31), 3) := by decide +kernel
theorem dX11_feed_77 : decode cX11_feed 77 = .ok (.aload_n 0, 1) := by decide +kernel
theorem dX11_feed_78 : decode cX11_feed 78 = .ok (.getfield 66, 3) := by decide +kernel
theorem dX11_feed_81 : decode cX11_feed 81 = .ok (.getfield 203, 3) := by decide +kernel
theorem dX11_feed_84 : decode cX11_feed 84 = .ok (.getfield 206, 3) := by decide +kernel
theorem dX11_feed_87 : decode cX11_feed 87 = .ok (.ireturn, 1) := by decide +kernel
theorem dX11_text_0 : decode cX11_text 0 = .ok (.iload_n 1, 1) := by decide +kernel
theorem dX11_text_1 : decode cX11_text 1 = .ok (.invokestatic 212, 3) := by decide +kernel
theorem dX11_text_4 : decode cX11_text 4 = .ok (.ifCond .ne 9, 3) := by decide +kernel
theorem dX11_text_7 : decode cX11_text 7 = .ok (.aload_n 0, 1) := by decide +kernel
theorem dX11_text_8 : decode cX11_text 8 = .ok (.iconst 1, 1) := by decide +kernel
theorem dX11_text_9 : decode cX11_text 9 = .ok (.invokevirtual 92, 3) := by decide +kernel
theorem dX11_text_12 : decode cX11_text 12 = .ok (.ireturn, 1) := by decide +kernel
theorem dX11_text_13 : decode cX11_text 13 = .ok (.new 215, 3) := by decide +kernel
theorem dX11_text_16 : decode cX11_text 16 = .ok (.dup, 1) := by decide +kernel
theorem dX11_text_17 : decode cX11_text 17 = .ok (.aload_n 0, 1) := by decide +kernel
theorem dX11_text_18 : decode cX11_text 18 = .ok (.getfield 39, 3) := by decide +kernel
theorem dX11_text_21 : decode cX11_text 21 = .ok (.iconst 1, 1) := by decide +kernel
theorem dX11_text_22 : decode cX11_text 22 = .ok (.iadd, 1) := by decide +kernel
theorem dX11_text_23 : decode cX11_text 23 = .ok (.aload_n 0, 1) := by decide +kernel
theorem dX11_text_24 : decode cX11_text 24 = .ok (.getfield 15, 3) := by decide +kernel
theorem dX11_text_27 : decode cX11_text 27 = .ok (.invokespecial 217, 3) := by decide +kernel
theorem dX11_text_30 : decode cX11_text 30 = .ok (.astore_n 2, 1) := by decide +kernel
theorem dX11_text_31 : decode cX11_text 31 = .ok (.aload_n 2, 1) := by decide +kernel
theorem dX11_text_32 : decode cX11_text 32 = .ok (.aload_n 0, 1) := by decide +kernel
theorem dX11_text_33 : decode cX11_text 33 = .ok (.getfield 66, 3) := by decide +kernel
theorem dX11_text_36 : decode cX11_text 36 = .ok (.getfield 203, 3) := by decide +kernel
theorem dX11_text_39 : decode cX11_text 39 = .ok (.iload_n 1, 1) := by decide +kernel
theorem dX11_text_40 : decode cX11_text 40 = .ok (.invokevirtual 220, 3) := by decide +kernel
theorem dX11_text_43 : decode cX11_text 43 = .ok (.istore_n 3, 1) := by decide +kernel
theorem dX11_text_44 : decode cX11_text 44 = .ok (.aload_n 0, 1) := by decide +kernel
theorem dX11_text_45 : decode cX11_text 45 = .ok (.getfield 66, 3) := by decide +kernel
theorem dX11_text_48 : decode cX11_text 48 = .ok (.getfield 203, 3) := by decide +kernel
theorem dX11_text_51 : decode cX11_text 51 = .ok (.iconst 0, 1) := by decide +kernel
theorem dX11_text_52 : decode cX11_text 52 = .ok (.putfield 206, 3) := by decide +kernel
theorem dX11_text_55 : decode cX11_text 55 = .ok (.iload_n 3, 1) := by decide +kernel
theorem dX11_text_56 : decode cX11_text 56 = .ok (.ifCond .lt 8, 3) := by decide +kernel
theorem dX11_text_59 : decode cX11_text 59 = .ok (.bipush (-10), 2) := by decide +kernel
theorem dX11_text_61 : decode cX11_text 61 = .ok (.iload_n 3, 1) := by decide +kernel
theorem dX11_text_62 : decode cX11_text 62 = .ok (.isub, 1) := by decide +kernel
theorem dX11_text_63 : decode cX11_text 63 = .ok (.ireturn, 1) := by decide +kernel
theorem dX11_text_64 : decode cX11_text 64 = .ok (.aload_n 0, 1) := by decide +kernel
theorem dX11_text_65 : decode cX11_text 65 = .ok (.dup, 1) := by decide +kernel
theorem dX11_text_66 : decode cX11_text 66 = .ok (.getfield 39, 3) := by decide +kernel
theorem dX11_text_69 : decode cX11_text 69 = .ok (.iconst 1, 1) := by decide +kernel
theorem dX11_text_70 : decode cX11_text 70 = .ok (.iadd, 1) := by decide +kernel
theorem dX11_text_71 : decode cX11_text 71 = .ok (.putfield 39, 3) := by decide +kernel
theorem dX11_text_74 : decode cX11_text 74 = .ok (.aload_n 0, 1) := by decide +kernel
theorem dX11_text_75 : decode cX11_text 75 = .ok (.getfield 66, 3) := by decide +kernel
theorem dX11_text_78 : decode cX11_text 78 = .ok (.getfield 224, 3) := by decide +kernel
theorem dX11_text_81 : decode cX11_text 81 = .ok (.iload_n 1, 1) := by decide +kernel
theorem dX11_text_82 : decode cX11_text 82 = .ok (.aload_n 2, 1) := by decide +kernel
theorem dX11_text_83 : decode cX11_text 83 = .ok (.aastore, 1) := by decide +kernel
theorem dX11_text_84 : decode cX11_text 84 = .ok (.iconst 1, 1) := by decide +kernel
theorem dX11_text_85 : decode cX11_text 85 = .ok (.ireturn, 1) := by decide +kernel
theorem dX11_law_0 : decode cX11_law 0 = .ok (.iload_n 1, 1) := by decide +kernel
theorem dX11_law_1 : decode cX11_law 1 = .ok (.invokestatic 212, 3) := by decide +kernel
theorem dX11_law_4 : decode cX11_law 4 = .ok (.ifCond .ne 9, 3) := by decide +kernel
theorem dX11_law_7 : decode cX11_law 7 = .ok (.aload_n 0, 1) := by decide +kernel
theorem dX11_law_8 : decode cX11_law 8 = .ok (.iconst 1, 1) := by decide +kernel
theorem dX11_law_9 : decode cX11_law 9 = .ok (.invokevirtual 92, 3) := by decide +kernel
theorem dX11_law_12 : decode cX11_law 12 = .ok (.ireturn, 1) := by decide +kernel
theorem dX11_law_13 : decode cX11_law 13 = .ok (.aload_n 0, 1) := by decide +kernel
theorem dX11_law_14 : decode cX11_law 14 = .ok (.getfield 66, 3) := by decide +kernel
theorem dX11_law_17 : decode cX11_law 17 = .ok (.iload_n 1, 1) := by decide +kernel
theorem dX11_law_18 : decode cX11_law 18 = .ok (.iload_n 2, 1) := by decide +kernel
theorem dX11_law_19 : decode cX11_law 19 = .ok (.iload_n 3, 1) := by decide +kernel
theorem dX11_law_20 : decode cX11_law 20 = .ok (.iload 4, 2) := by decide +kernel
theorem dX11_law_22 : decode cX11_law 22 = .ok (.invokevirtual 228, 3) := by decide +kernel
theorem dX11_law_25 : decode cX11_law 25 = .ok (.ireturn, 1) := by decide +kernel
theorem dX11_turn_0 : decode cX11_turn 0 = .ok (.aload_n 0, 1) := by decide +kernel
theorem dX11_turn_1 : decode cX11_turn 1 = .ok (.iload_n 1, 1) := by decide +kernel
theorem dX11_turn_2 : decode cX11_turn 2 = .ok (.invokevirtual 173, 3) := by decide +kernel
theorem dX11_turn_5 : decode cX11_turn 5 = .ok (.ifCond .ne 9, 3) := by decide +kernel
theorem dX11_turn_8 : decode cX11_turn 8 = .ok (.aload_n 0, 1) := by decide +kernel
theorem dX11_turn_9 : decode cX11_turn 9 = .ok (.iconst 1, 1) := by decide +kernel
theorem dX11_turn_10 : decode cX11_turn 10 = .ok (.invokevirtual 92, 3) := by decide +kernel
theorem dX11_turn_13 : decode cX11_turn 13 = .ok (.ireturn, 1) := by decide +kernel
theorem dX11_turn_14 : decode cX11_turn 14 = .ok (.aload_n 0, 1) := by decide +kernel
theorem dX11_turn_15 : decode cX11_turn 15 = .ok (.getfield 66, 3) := by decide +kernel
theorem dX11_turn_18 : decode cX11_turn 18 = .ok (.iload_n 1, 1) := by decide +kernel
theorem dX11_turn_19 : decode cX11_turn 19 = .ok (.invokevirtual 232, 3) := by decide +kernel
theorem dX11_turn_22 : decode cX11_turn 22 = .ok (.ireturn, 1) := by decide +kernel
theorem dX11_hours_0 : decode cX11_hours 0 = .ok (.iload_n 1, 1) := by decide +kernel
theorem dX11_hours_1 : decode cX11_hours 1 = .ok (.iconst 1, 1) := by decide +kernel
theorem dX11_hours_2 : decode cX11_hours 2 = .ok (.if_icmp .lt 9, 3) := by decide +kernel
theorem dX11_hours_5 : decode cX11_hours 5 = .ok (.iload_n 1, 1) := by decide +kernel
theorem dX11_hours_6 : decode cX11_hours 6 = .ok (.bipush 100, 2) := by decide +kernel
theorem dX11_hours_8 : decode cX11_hours 8 = .ok (.if_icmp .le 9, 3) := by decide +kernel
theorem dX11_hours_11 : decode cX11_hours 11 = .ok (.aload_n 0, 1) := by decide +kernel
theorem dX11_hours_12 : decode cX11_hours 12 = .ok (.iconst 1, 1) := by decide +kernel
theorem dX11_hours_13 : decode cX11_hours 13 = .ok (.invokevirtual 92, 3) := by decide +kernel
theorem dX11_hours_16 : decode cX11_hours 16 = .ok (.ireturn, 1) := by decide +kernel
theorem dX11_hours_17 : decode cX11_hours 17 = .ok (.iconst 0, 1) := by decide +kernel
theorem dX11_hours_18 : decode cX11_hours 18 = .ok (.istore_n 2, 1) := by decide +kernel
theorem dX11_hours_19 : decode cX11_hours 19 = .ok (.iload_n 2, 1) := by decide +kernel
theorem dX11_hours_20 : decode cX11_hours 20 = .ok (.iload_n 1, 1) := by decide +kernel
theorem dX11_hours_21 : decode cX11_hours 21 = .ok (.if_icmp .ge 16, 3) := by decide +kernel
theorem dX11_hours_24 : decode cX11_hours 24 = .ok (.aload_n 0, 1) := by decide +kernel
theorem dX11_hours_25 : decode cX11_hours 25 = .ok (.getfield 66, 3) := by decide +kernel
theorem dX11_hours_28 : decode cX11_hours 28 = .ok (.invokevirtual 235, 3) := by decide +kernel
theorem dX11_hours_31 : decode cX11_hours 31 = .ok (.iinc 2 1, 3) := by decide +kernel
theorem dX11_hours_34 : decode cX11_hours 34 = .ok (.goto (-15), 3) := by decide +kernel
theorem dX11_hours_37 : decode cX11_hours 37 = .ok (.aload_n 0, 1) := by decide +kernel
theorem dX11_hours_38 : decode cX11_hours 38 = .ok (.getfield 66, 3) := by decide +kernel
theorem dX11_hours_41 : decode cX11_hours 41 = .ok (.getfield 238, 3) := by decide +kernel
theorem dX11_hours_44 : decode cX11_hours 44 = .ok (.ireturn, 1) := by decide +kernel
theorem dX11_loose_0 : decode cX11_loose 0 = .ok (.iload_n 1, 1) := by decide +kernel
theorem dX11_loose_1 : decode cX11_loose 1 = .ok (.iconst 1, 1) := by decide +kernel
theorem dX11_loose_2 : decode cX11_loose 2 = .ok (.if_icmp .lt 9, 3) := by decide +kernel
theorem dX11_loose_5 : decode cX11_loose 5 = .ok (.iload_n 1, 1) := by decide +kernel
theorem dX11_loose_6 : decode cX11_loose 6 = .ok (.bipush 100, 2) := by decide +kernel
theorem dX11_loose_8 : decode cX11_loose 8 = .ok (.if_icmp .le 9, 3) := by decide +kernel
theorem dX11_loose_11 : decode cX11_loose 11 = .ok (.aload_n 0, 1) := by decide +kernel
theorem dX11_loose_12 : decode cX11_loose 12 = .ok (.iconst 1, 1) := by decide +kernel
theorem dX11_loose_13 : decode cX11_loose 13 = .ok (.invokevirtual 92, 3) := by decide +kernel
theorem dX11_loose_16 : decode cX11_loose 16 = .ok (.ireturn, 1) := by decide +kernel
theorem dX11_loose_17 : decode cX11_loose 17 = .ok (.iconst 0, 1) := by decide +kernel
theorem dX11_loose_18 : decode cX11_loose 18 = .ok (.istore_n 2, 1) := by decide +kernel
theorem dX11_loose_19 : decode cX11_loose 19 = .ok (.iload_n 2, 1) := by decide +kernel
theorem dX11_loose_20 : decode cX11_loose 20 = .ok (.iload_n 1, 1) := by decide +kernel
theorem dX11_loose_21 : decode cX11_loose 21 = .ok (.if_icmp .ge 23, 3) := by decide +kernel
theorem dX11_loose_24 : decode cX11_loose 24 = .ok (.aload_n 0, 1) := by decide +kernel
theorem dX11_loose_25 : decode cX11_loose 25 = .ok (.getfield 66, 3) := by decide +kernel
theorem dX11_loose_28 : decode cX11_loose 28 = .ok (.invokevirtual 241, 3) := by decide +kernel
theorem dX11_loose_31 : decode cX11_loose 31 = .ok (.aload_n 0, 1) := by decide +kernel
theorem dX11_loose_32 : decode cX11_loose 32 = .ok (.getfield 66, 3) := by decide +kernel
theorem dX11_loose_35 : decode cX11_loose 35 = .ok (.invokevirtual 235, 3) := by decide +kernel
theorem dX11_loose_38 : decode cX11_loose 38 = .ok (.iinc 2 1, 3) := by decide +kernel
theorem dX11_loose_41 : decode cX11_loose 41 = .ok (.goto (-22), 3) := by decide +kernel
theorem dX11_loose_44 : decode cX11_loose 44 = .ok (.aload_n 0, 1) := by decide +kernel
theorem dX11_loose_45 : decode cX11_loose 45 = .ok (.getfield 66, 3) := by decide +kernel
theorem dX11_loose_48 : decode cX11_loose 48 = .ok (.getfield 238, 3) := by decide +kernel
theorem dX11_loose_51 : decode cX11_loose 51 = .ok (.ireturn, 1) := by decide +kernel
theorem dX11_hour_0 : decode cX11_hour 0 = .ok (.iload_n 1, 1) := by decide +kernel
theorem dX11_hour_1 : decode cX11_hour 1 = .ok (.ifCond .lt 9, 3) := by decide +kernel
theorem dX11_hour_4 : decode cX11_hour 4 = .ok (.iload_n 1, 1) := by decide +kernel
theorem dX11_hour_5 : decode cX11_hour 5 = .ok (.bipush 24, 2) := by decide +kernel
theorem dX11_hour_7 : decode cX11_hour 7 = .ok (.if_icmp .lt 9, 3) := by decide +kernel
theorem dX11_hour_10 : decode cX11_hour 10 = .ok (.aload_n 0, 1) := by decide +kernel
theorem dX11_hour_11 : decode cX11_hour 11 = .ok (.iconst 1, 1) := by decide +kernel
theorem dX11_hour_12 : decode cX11_hour 12 = .ok (.invokevirtual 92, 3) := by decide +kernel
theorem dX11_hour_15 : decode cX11_hour 15 = .ok (.ireturn, 1) := by decide +kernel
theorem dX11_hour_16 : decode cX11_hour 16 = .ok (.aload_n 0, 1) := by decide +kernel
theorem dX11_hour_17 : decode cX11_hour 17 = .ok (.getfield 66, 3) := by decide +kernel
theorem dX11_hour_20 : decode cX11_hour 20 = .ok (.getfield 244, 3) := by decide +kernel
theorem dX11_hour_23 : decode cX11_hour 23 = .ok (.istore_n 2, 1) := by decide +kernel
theorem dX11_hour_24 : decode cX11_hour 24 = .ok (.aload_n 0, 1) := by decide +kernel
theorem dX11_hour_25 : decode cX11_hour 25 = .ok (.getfield 66, 3) := by decide +kernel
theorem dX11_hour_28 : decode cX11_hour 28 = .ok (.iload_n 1, 1) := by decide +kernel
theorem dX11_hour_29 : decode cX11_hour 29 = .ok (.putfield 244, 3) := by decide +kernel
theorem dX11_hour_32 : decode cX11_hour 32 = .ok (.iload_n 2, 1) := by decide +kernel
theorem dX11_hour_33 : decode cX11_hour 33 = .ok (.ireturn, 1) := by decide +kernel
theorem dX11_lock_0 : decode cX11_lock 0 = .ok (.iload_n 1, 1) := by decide +kernel
theorem dX11_lock_1 : decode cX11_lock 1 = .ok (.ifCond .lt 19, 3) := by decide +kernel
theorem dX11_lock_4 : decode cX11_lock 4 = .ok (.iload_n 1, 1) := by decide +kernel
theorem dX11_lock_5 : decode cX11_lock 5 = .ok (.bipush 24, 2) := by decide +kernel
theorem dX11_lock_7 : decode cX11_lock 7 = .ok (.if_icmp .gt 13, 3) := by decide +kernel
theorem dX11_lock_10 : decode cX11_lock 10 = .ok (.iload_n 2, 1) := by decide +kernel
theorem dX11_lock_11 : decode cX11_lock 11 = .ok (.ifCond .lt 9, 3) := by decide +kernel
theorem dX11_lock_14 : decode cX11_lock 14 = .ok (.iload_n 2, 1) := by decide +kernel
theorem dX11_lock_15 : decode cX11_lock 15 = .ok (.bipush 24, 2) := by decide +kernel
theorem dX11_lock_17 : decode cX11_lock 17 = .ok (.if_icmp .le 9, 3) := by decide +kernel
theorem dX11_lock_20 : decode cX11_lock 20 = .ok (.aload_n 0, 1) := by decide +kernel
theorem dX11_lock_21 : decode cX11_lock 21 = .ok (.iconst 1, 1) := by decide +kernel
theorem dX11_lock_22 : decode cX11_lock 22 = .ok (.invokevirtual 92, 3) := by decide +kernel
theorem dX11_lock_25 : decode cX11_lock 25 = .ok (.ireturn, 1) := by decide +kernel
theorem dX11_lock_26 : decode cX11_lock 26 = .ok (.aload_n 0, 1) := by decide +kernel
theorem dX11_lock_27 : decode cX11_lock 27 = .ok (.getfield 66, 3) := by decide +kernel
theorem dX11_lock_30 : decode cX11_lock 30 = .ok (.iload_n 1, 1) := by decide +kernel
theorem dX11_lock_31 : decode cX11_lock 31 = .ok (.putfield 247, 3) := by decide +kernel
theorem dX11_lock_34 : decode cX11_lock 34 = .ok (.aload_n 0, 1) := by decide +kernel
theorem dX11_lock_35 : decode cX11_lock 35 = .ok (.getfield 66, 3) := by decide +kernel
theorem dX11_lock_38 : decode cX11_lock 38 = .ok (.iload_n 2, 1) := by decide +kernel
theorem dX11_lock_39 : decode cX11_lock 39 = .ok (.putfield 250, 3) := by decide +kernel
theorem dX11_lock_42 : decode cX11_lock 42 = .ok (.aload_n 0, 1) := by decide +kernel
theorem dX11_lock_43 : decode cX11_lock 43 = .ok (.getfield 66, 3) := by decide +kernel
theorem dX11_lock_46 : decode cX11_lock 46 = .ok (.invokevirtual 142, 3) := by decide +kernel
theorem dX11_lock_49 : decode cX11_lock 49 = .ok (.ifCond .eq 7, 3) := by decide +kernel
theorem dX11_lock_52 : decode cX11_lock 52 = .ok (.iconst 1, 1) := by decide +kernel
theorem dX11_lock_53 : decode cX11_lock 53 = .ok (.goto 4, 3) := by decide +kernel
theorem dX11_lock_56 : decode cX11_lock 56 = .ok (.iconst 0, 1) := by decide +kernel
theorem dX11_lock_57 : decode cX11_lock 57 = .ok (.ireturn, 1) := by decide +kernel
theorem dX11_rests_0 : decode cX11_rests 0 = .ok (.aload_n 0, 1) := by decide +kernel
theorem dX11_rests_1 : decode cX11_rests 1 = .ok (.getfield 70, 3) := by decide +kernel
theorem dX11_rests_4 : decode cX11_rests 4 = .ok (.aload_n 0, 1) := by decide +kernel
theorem dX11_rests_5 : decode cX11_rests 5 = .ok (.getfield 66, 3) := by decide +kernel
theorem dX11_rests_8 : decode cX11_rests 8 = .ok (.invokevirtual 253, 3) := by decide +kernel
theorem dX11_rests_11 : decode cX11_rests 11 = .ok (.iconst 0, 1) := by decide +kernel
theorem dX11_rests_12 : decode cX11_rests 12 = .ok (.istore_n 1, 1) := by decide +kernel
theorem dX11_rests_13 : decode cX11_rests 13 = .ok (.iload_n 1, 1) := by decide +kernel
theorem dX11_rests_14 : decode cX11_rests 14 = .ok (.bipush 100, 2) := by decide +kernel
theorem dX11_rests_16 : decode cX11_rests 16 = .ok (.if_icmp .gt 21, 3) := by decide +kernel
theorem dX11_rests_19 : decode cX11_rests 19 = .ok (.aload_n 0, 1) := by decide +kernel
theorem dX11_rests_20 : decode cX11_rests 20 = .ok (.getfield 70, 3) := by decide +kernel
theorem dX11_rests_23 : decode cX11_rests 23 = .ok (.invokevirtual 256, 3) := by decide +kernel
theorem dX11_rests_26 : decode cX11_rests 26 = .ok (.ifCond .ne 5, 3) := by decide +kernel
theorem dX11_rests_29 : decode cX11_rests 29 = .ok (.iload_n 1, 1) := by decide +kernel
theorem dX11_rests_30 : decode cX11_rests 30 = .ok (.ireturn, 1) := by decide +kernel
theorem dX11_rests_31 : decode cX11_rests 31 = .ok (.iinc 1 1, 3) := by decide +kernel
theorem dX11_rests_34 : decode cX11_rests 34 = .ok (.goto (-21), 3) := by decide +kernel
theorem dX11_rests_37 : decode cX11_rests 37 = .ok (.aload_n 0, 1) := by decide +kernel
theorem dX11_rests_38 : decode cX11_rests 38 = .ok (.iconst 2, 1) := by decide +kernel
theorem dX11_rests_39 : decode cX11_rests 39 = .ok (.invokevirtual 92, 3) := by decide +kernel
theorem dX11_rests_42 : decode cX11_rests 42 = .ok (.ireturn, 1) := by decide +kernel
theorem dX11_then_0 : decode cX11_then 0 = .ok (.iload_n 1, 1) := by decide +kernel
theorem dX11_then_1 : decode cX11_then 1 = .ok (.ifCond .lt 17, 3) := by decide +kernel
theorem dX11_then_4 : decode cX11_then 4 = .ok (.iload_n 1, 1) := by decide +kernel
theorem dX11_then_5 : decode cX11_then 5 = .ok (.bipush 100, 2) := by decide +kernel
theorem dX11_then_7 : decode cX11_then 7 = .ok (.if_icmp .gt 11, 3) := by decide +kernel
theorem dX11_then_10 : decode cX11_then 10 = .ok (.aload_n 0, 1) := by decide +kernel
theorem dX11_then_11 : decode cX11_then 11 = .ok (.iload_n 2, 1) := by decide +kernel
theorem dX11_then_12 : decode cX11_then 12 = .ok (.invokevirtual 121, 3) := by decide +kernel
theorem dX11_then_15 : decode cX11_then 15 = .ok (.ifCond .ne 9, 3) := by decide +kernel
theorem dX11_then_18 : decode cX11_then 18 = .ok (.aload_n 0, 1) := by decide +kernel
theorem dX11_then_19 : decode cX11_then 19 = .ok (.iconst 1, 1) := by decide +kernel
theorem dX11_then_20 : decode cX11_then 20 = .ok (.invokevirtual 92, 3) := by decide +kernel
theorem dX11_then_23 : decode cX11_then 23 = .ok (.ireturn, 1) := by decide +kernel
theorem dX11_then_24 : decode cX11_then 24 = .ok (.aload_n 0, 1) := by decide +kernel
theorem dX11_then_25 : decode cX11_then 25 = .ok (.getfield 70, 3) := by decide +kernel
theorem dX11_then_28 : decode cX11_then 28 = .ok (.aload_n 0, 1) := by decide +kernel
theorem dX11_then_29 : decode cX11_then 29 = .ok (.getfield 66, 3) := by decide +kernel
theorem dX11_then_32 : decode cX11_then 32 = .ok (.invokevirtual 253, 3) := by decide +kernel
theorem dX11_then_35 : decode cX11_then 35 = .ok (.iconst 0, 1) := by decide +kernel
theorem dX11_then_36 : decode cX11_then 36 = .ok (.istore_n 3, 1) := by decide +kernel
theorem dX11_then_37 : decode cX11_then 37 = .ok (.iload_n 3, 1) := by decide +kernel
theorem dX11_then_38 : decode cX11_then 38 = .ok (.iload_n 1, 1) := by decide +kernel
theorem dX11_then_39 : decode cX11_then 39 = .ok (.if_icmp .ge 16, 3) := by decide +kernel
theorem dX11_then_42 : decode cX11_then 42 = .ok (.aload_n 0, 1) := by decide +kernel
theorem dX11_then_43 : decode cX11_then 43 = .ok (.getfield 70, 3) := by decide +kernel
theorem dX11_then_46 : decode cX11_then 46 = .ok (.invokevirtual 235, 3) := by decide +kernel
theorem dX11_then_49 : decode cX11_then 49 = .ok (.iinc 3 1, 3) := by decide +kernel
theorem dX11_then_52 : decode cX11_then 52 = .ok (.goto (-15), 3) := by decide +kernel
theorem dX11_then_55 : decode cX11_then 55 = .ok (.aload_n 0, 1) := by decide +kernel
theorem dX11_then_56 : decode cX11_then 56 = .ok (.getfield 70, 3) := by decide +kernel
theorem dX11_then_59 : decode cX11_then 59 = .ok (.getfield 127, 3) := by decide +kernel
theorem dX11_then_62 : decode cX11_then 62 = .ok (.iload_n 2, 1) := by decide +kernel
theorem dX11_then_63 : decode cX11_then 63 = .ok (.iaload, 1) := by decide +kernel
theorem dX11_then_64 : decode cX11_then 64 = .ok (.ireturn, 1) := by decide +kernel
theorem dX11_standings_0 : decode cX11_standings 0 = .ok (.iconst 1, 1) := by decide +kernel
theorem dX11_standings_1 : decode cX11_standings 1 = .ok (.istore_n 1, 1) := by decide +kernel
theorem dX11_standings_2 : decode cX11_standings 2 = .ok (.iconst 0, 1) := by decide +kernel
theorem dX11_standings_3 : decode cX11_standings 3 = .ok (.istore_n 2, 1) := by decide +kernel
theorem dX11_standings_4 : decode cX11_standings 4 = .ok (.iload_n 2, 1) := by decide +kernel
theorem dX11_standings_5 : decode cX11_standings 5 = .ok (.aload_n 0, 1) := by decide +kernel
theorem dX11_standings_6 : decode cX11_standings 6 = .ok (.getfield 66, 3) := by decide +kernel
theorem dX11_standings_9 : decode cX11_standings 9 = .ok (.getfield 108, 3) := by decide +kernel
theorem dX11_standings_12 : decode cX11_standings 12 = .ok (.if_icmp .ge 46, 3) := by decide +kernel
theorem dX11_standings_15 : decode cX11_standings 15 = .ok (.aload_n 0, 1) := by decide +kernel
theorem dX11_standings_16 : decode cX11_standings 16 = .ok (.getfield 66, 3) := by decide +kernel
theorem dX11_standings_19 : decode cX11_standings 19 = .ok (.iload_n 2, 1) := by decide +kernel
theorem dX11_standings_20 : decode cX11_standings 20 = .ok (.invokevirtual 136, 3) := by decide +kernel
theorem dX11_standings_23 : decode cX11_standings 23 = .ok (.aload_n 0, 1) := by decide +kernel
theorem dX11_standings_24 : decode cX11_standings 24 = .ok (.getfield 66, 3) := by decide +kernel
theorem dX11_standings_27 : decode cX11_standings 27 = .ok (.invokevirtual 259, 3) := by decide +kernel
theorem dX11_standings_30 : decode cX11_standings 30 = .ok (.iconst (-1), 1) := by decide +kernel
theorem dX11_standings_31 : decode cX11_standings 31 = .ok (.ixor, 1) := by decide +kernel
theorem dX11_standings_32 : decode cX11_standings 32 = .ok (.iand, 1) := by decide +kernel
theorem dX11_standings_33 : decode cX11_standings 33 = .ok (.istore_n 3, 1) := by decide +kernel
theorem dX11_standings_34 : decode cX11_standings 34 = .ok (.iload_n 1, 1) := by decide +kernel
theorem dX11_standings_35 : decode cX11_standings 35 = .ok (.iload_n 3, 1) := by decide +kernel
theorem dX11_standings_36 : decode cX11_standings 36 = .ok (.invokestatic 103, 3) := by decide +kernel
theorem dX11_standings_39 : decode cX11_standings 39 = .ok (.aload_n 0, 1) := by decide +kernel
theorem dX11_standings_40 : decode cX11_standings 40 = .ok (.getfield 66, 3) := by decide +kernel
theorem dX11_standings_43 : decode cX11_standings 43 = .ok (.iload_n 3, 1) := by decide +kernel
theorem dX11_standings_44 : decode cX11_standings 44 = .ok (.invokevirtual 139, 3) := by decide +kernel
theorem dX11_standings_47 : decode cX11_standings 47 = .ok (.invokestatic 262, 3) := by decide +kernel
theorem dX11_standings_50 : decode cX11_standings 50 = .ok (.imul, 1) := by decide +kernel
theorem dX11_standings_51 : decode cX11_standings 51 = .ok (.istore_n 1, 1) := by decide +kernel
theorem dX11_standings_52 : decode cX11_standings 52 = .ok (.iinc 2 1, 3) := by decide +kernel
theorem dX11_standings_55 : decode cX11_standings 55 = .ok (.goto (-51), 3) := by decide +kernel
theorem dX11_standings_58 : decode cX11_standings 58 = .ok (.iload_n 1, 1) := by decide +kernel
theorem dX11_standings_59 : decode cX11_standings 59 = .ok (.ireturn, 1) := by decide +kernel
theorem dX11_fewest_0 : decode cX11_fewest 0 = .ok (.iload_n 1, 1) := by decide +kernel
theorem dX11_fewest_1 : decode cX11_fewest 1 = .ok (.iconst (-1), 1) := by decide +kernel
theorem dX11_fewest_2 : decode cX11_fewest 2 = .ok (.if_icmp .lt 14, 3) := by decide +kernel
theorem dX11_fewest_5 : decode cX11_fewest 5 = .ok (.iload_n 1, 1) := by decide +kernel
theorem dX11_fewest_6 : decode cX11_fewest 6 = .ok (.aload_n 0, 1) := by decide +kernel
theorem dX11_fewest_7 : decode cX11_fewest 7 = .ok (.getfield 66, 3) := by decide +kernel
theorem dX11_fewest_10 : decode cX11_fewest 10 = .ok (.getfield 96, 3) := by decide +kernel
theorem dX11_fewest_13 : decode cX11_fewest 13 = .ok (.if_icmp .lt 9, 3) := by decide +kernel
theorem dX11_fewest_16 : decode cX11_fewest 16 = .ok (.aload_n 0, 1) := by decide +kernel
theorem dX11_fewest_17 : decode cX11_fewest 17 = .ok (.iconst 1, 1) := by decide +kernel
theorem dX11_fewest_18 : decode cX11_fewest 18 = .ok (.invokevirtual 92, 3) := by decide +kernel
theorem dX11_fewest_21 : decode cX11_fewest 21 = .ok (.ireturn, 1) := by decide +kernel
theorem dX11_fewest_22 : decode cX11_fewest 22 = .ok (.aload_n 0, 1) := by decide +kernel
theorem dX11_fewest_23 : decode cX11_fewest 23 = .ok (.getfield 81, 3) := by decide +kernel
theorem dX11_fewest_26 : decode cX11_fewest 26 = .ok (.aload_n 0, 1) := by decide +kernel
theorem dX11_fewest_27 : decode cX11_fewest 27 = .ok (.getfield 66, 3) := by decide +kernel
theorem dX11_fewest_30 : decode cX11_fewest 30 = .ok (.getfield 163, 3) := by decide +kernel
theorem dX11_fewest_33 : decode cX11_fewest 33 = .ok (.invokevirtual 265, 3) := by decide +kernel
theorem dX11_fewest_36 : decode cX11_fewest 36 = .ok (.aload_n 0, 1) := by decide +kernel
theorem dX11_fewest_37 : decode cX11_fewest 37 = .ok (.getfield 81, 3) := by decide +kernel
theorem dX11_fewest_40 : decode cX11_fewest 40 = .ok (.getfield 268, 3) := by decide +kernel
theorem dX11_fewest_43 : decode cX11_fewest 43 = .ok (.ldc_w 271, 3) := by decide +kernel
theorem dX11_fewest_46 : decode cX11_fewest 46 = .ok (.if_icmp .lt 9, 3) := by decide +kernel
theorem dX11_fewest_49 : decode cX11_fewest 49 = .ok (.aload_n 0, 1) := by decide +kernel
theorem dX11_fewest_50 : decode cX11_fewest 50 = .ok (.iconst 2, 1) := by decide +kernel
theorem dX11_fewest_51 : decode cX11_fewest 51 = .ok (.invokevirtual 92, 3) := by decide +kernel
theorem dX11_fewest_54 : decode cX11_fewest 54 = .ok (.ireturn, 1) := by decide +kernel
theorem dX11_fewest_55 : decode cX11_fewest 55 = .ok (.iload_n 1, 1) := by decide +kernel
theorem dX11_fewest_56 : decode cX11_fewest 56 = .ok (.iconst (-1), 1) := by decide +kernel
theorem dX11_fewest_57 : decode cX11_fewest 57 = .ok (.if_icmp .ne 13, 3) := by decide +kernel
theorem dX11_fewest_60 : decode cX11_fewest 60 = .ok (.aload_n 0, 1) := by decide +kernel
theorem dX11_fewest_61 : decode cX11_fewest 61 = .ok (.getfield 81, 3) := by decide +kernel
theorem dX11_fewest_64 : decode cX11_fewest 64 = .ok (.getfield 268, 3) := by decide +kernel
theorem dX11_fewest_67 : decode cX11_fewest 67 = .ok (.goto 12, 3) := by decide +kernel
theorem dX11_fewest_70 : decode cX11_fewest 70 = .ok (.aload_n 0, 1) := by decide +kernel
theorem dX11_fewest_71 : decode cX11_fewest 71 = .ok (.getfield 81, 3) := by decide +kernel
theorem dX11_fewest_74 : decode cX11_fewest 74 = .ok (.getfield 272, 3) := by decide +kernel
theorem dX11_fewest_77 : decode cX11_fewest 77 = .ok (.iload_n 1, 1) := by decide +kernel
theorem dX11_fewest_78 : decode cX11_fewest 78 = .ok (.iaload, 1) := by decide +kernel
theorem dX11_fewest_79 : decode cX11_fewest 79 = .ok (.ireturn, 1) := by decide +kernel
theorem dX11_most_0 : decode cX11_most 0 = .ok (.iload_n 1, 1) := by decide +kernel
theorem dX11_most_1 : decode cX11_most 1 = .ok (.bipush (-2), 2) := by decide +kernel
theorem dX11_most_3 : decode cX11_most 3 = .ok (.if_icmp .lt 14, 3) := by decide +kernel
theorem dX11_most_6 : decode cX11_most 6 = .ok (.iload_n 1, 1) := by decide +kernel
theorem dX11_most_7 : decode cX11_most 7 = .ok (.aload_n 0, 1) := by decide +kernel
theorem dX11_most_8 : decode cX11_most 8 = .ok (.getfield 66, 3) := by decide +kernel
theorem dX11_most_11 : decode cX11_most 11 = .ok (.getfield 96, 3) := by decide +kernel
theorem dX11_most_14 : decode cX11_most 14 = .ok (.if_icmp .lt 9, 3) := by decide +kernel
theorem dX11_most_17 : decode cX11_most 17 = .ok (.aload_n 0, 1) := by decide +kernel
theorem dX11_most_18 : decode cX11_most 18 = .ok (.iconst 1, 1) := by decide +kernel
theorem dX11_most_19 : decode cX11_most 19 = .ok (.invokevirtual 92, 3) := by decide +kernel
theorem dX11_most_22 : decode cX11_most 22 = .ok (.ireturn, 1) := by decide +kernel
theorem dX11_most_23 : decode cX11_most 23 = .ok (.aload_n 0, 1) := by decide +kernel
theorem dX11_most_24 : decode cX11_most 24 = .ok (.getfield 81, 3) := by decide +kernel
theorem dX11_most_27 : decode cX11_most 27 = .ok (.iconst 0, 1) := by decide +kernel
theorem dX11_most_28 : decode cX11_most 28 = .ok (.invokevirtual 265, 3) := by decide +kernel
theorem dX11_most_31 : decode cX11_most 31 = .ok (.iload_n 1, 1) := by decide +kernel
theorem dX11_most_32 : decode cX11_most 32 = .ok (.bipush (-2), 2) := by decide +kernel
theorem dX11_most_34 : decode cX11_most 34 = .ok (.if_icmp .ne 11, 3) := by decide +kernel
theorem dX11_most_37 : decode cX11_most 37 = .ok (.aload_n 0, 1) := by decide +kernel
theorem dX11_most_38 : decode cX11_most 38 = .ok (.getfield 81, 3) := by decide +kernel
theorem dX11_most_41 : decode cX11_most 41 = .ok (.getfield 275, 3) := by decide +kernel
theorem dX11_most_44 : decode cX11_most 44 = .ok (.ireturn, 1) := by decide +kernel
theorem dX11_most_45 : decode cX11_most 45 = .ok (.iload_n 1, 1) := by decide +kernel
theorem dX11_most_46 : decode cX11_most 46 = .ok (.iconst (-1), 1) := by decide +kernel
theorem dX11_most_47 : decode cX11_most 47 = .ok (.if_icmp .ne 13, 3) := by decide +kernel
theorem dX11_most_50 : decode cX11_most 50 = .ok (.aload_n 0, 1) := by decide +kernel
theorem dX11_most_51 : decode cX11_most 51 = .ok (.getfield 81, 3) := by decide +kernel
theorem dX11_most_54 : decode cX11_most 54 = .ok (.getfield 268, 3) := by decide +kernel
theorem dX11_most_57 : decode cX11_most 57 = .ok (.goto 12, 3) := by decide +kernel
theorem dX11_most_60 : decode cX11_most 60 = .ok (.aload_n 0, 1) := by decide +kernel
theorem dX11_most_61 : decode cX11_most 61 = .ok (.getfield 81, 3) := by decide +kernel
theorem dX11_most_64 : decode cX11_most 64 = .ok (.getfield 272, 3) := by decide +kernel
theorem dX11_most_67 : decode cX11_most 67 = .ok (.iload_n 1, 1) := by decide +kernel
theorem dX11_most_68 : decode cX11_most 68 = .ok (.iaload, 1) := by decide +kernel
theorem dX11_most_69 : decode cX11_most 69 = .ok (.ireturn, 1) := by decide +kernel
theorem dX11_helps_0 : decode cX11_helps 0 = .ok (.iload_n 1, 1) := by decide +kernel
theorem dX11_helps_1 : decode cX11_helps 1 = .ok (.ifCond .lt 8, 3) := by decide +kernel
theorem dX11_helps_4 : decode cX11_helps 4 = .ok (.iload_n 1, 1) := by decide +kernel
theorem dX11_helps_5 : decode cX11_helps 5 = .ok (.iconst 1, 1) := by decide +kernel
theorem dX11_helps_6 : decode cX11_helps 6 = .ok (.if_icmp .le 9, 3) := by decide +kernel
theorem dX11_helps_9 : decode cX11_helps 9 = .ok (.aload_n 0, 1) := by decide +kernel
theorem dX11_helps_10 : decode cX11_helps 10 = .ok (.iconst 1, 1) := by decide +kernel
theorem dX11_helps_11 : decode cX11_helps 11 = .ok (.invokevirtual 92, 3) := by decide +kernel
theorem dX11_helps_14 : decode cX11_helps 14 = .ok (.ireturn, 1) := by decide +kernel
theorem dX11_helps_15 : decode cX11_helps 15 = .ok (.iconst (-1), 1) := by decide +kernel
theorem dX11_helps_16 : decode cX11_helps 16 = .ok (.istore_n 2, 1) := by decide +kernel
theorem dX11_helps_17 : decode cX11_helps 17 = .ok (.iconst 0, 1) := by decide +kernel
theorem dX11_helps_18 : decode cX11_helps 18 = .ok (.istore_n 3, 1) := by decide +kernel
theorem dX11_helps_19 : decode cX11_helps 19 = .ok (.iconst 0, 1) := by decide +kernel
theorem dX11_helps_20 : decode cX11_helps 20 = .ok (.istore 4, 2) := by decide +kernel
theorem dX11_helps_22 : decode cX11_helps 22 = .ok (.iload 4, 2) := by decide +kernel
theorem dX11_helps_24 : decode cX11_helps 24 = .ok (.aload_n 0, 1) := by decide +kernel
theorem dX11_helps_25 : decode cX11_helps 25 = .ok (.getfield 66, 3) := by decide +kernel
theorem dX11_helps_28 : decode cX11_helps 28 = .ok (.getfield 96, 3) := by decide +kernel
theorem dX11_helps_31 : decode cX11_helps 31 = .ok (.if_icmp .ge 88, 3) := by decide +kernel
theorem dX11_helps_34 : decode cX11_helps 34 = .ok (.iload 4, 2) := by decide +kernel
theorem dX11_helps_36 : decode cX11_helps 36 = .ok (.iconst 1, 1) := by decide +kernel
theorem dX11_helps_37 : decode cX11_helps 37 = .ok (.iadd, 1) := by decide +kernel
theorem dX11_helps_38 : decode cX11_helps 38 = .ok (.istore 5, 2) := by decide +kernel
theorem dX11_helps_40 : decode cX11_helps 40 = .ok (.iload 5, 2) := by decide +kernel
theorem dX11_helps_42 : decode cX11_helps 42 = .ok (.aload_n 0, 1) := by decide +kernel
theorem dX11_helps_43 : decode cX11_helps 43 = .ok (.getfield 66, 3) := by decide +kernel
theorem dX11_helps_46 : decode cX11_helps 46 = .ok (.getfield 96, 3) := by decide +kernel
theorem dX11_helps_49 : decode cX11_helps 49 = .ok (.if_icmp .ge 64, 3) := by decide +kernel
theorem dX11_helps_52 : decode cX11_helps 52 = .ok (.aload_n 0, 1) := by decide +kernel
theorem dX11_helps_53 : decode cX11_helps 53 = .ok (.getfield 66, 3) := by decide +kernel
theorem dX11_helps_56 : decode cX11_helps 56 = .ok (.getfield 130, 3) := by decide +kernel
theorem dX11_helps_59 : decode cX11_helps 59 = .ok (.iload 4, 2) := by decide +kernel
theorem dX11_helps_61 : decode cX11_helps 61 = .ok (.iaload, 1) := by decide +kernel
theorem dX11_helps_62 : decode cX11_helps 62 = .ok (.aload_n 0, 1) := by decide +kernel
theorem dX11_helps_63 : decode cX11_helps 63 = .ok (.getfield 66, 3) := by decide +kernel
theorem dX11_helps_66 : decode cX11_helps 66 = .ok (.getfield 130, 3) := by decide +kernel
theorem dX11_helps_69 : decode cX11_helps 69 = .ok (.iload 5, 2) := by decide +kernel
theorem dX11_helps_71 : decode cX11_helps 71 = .ok (.iaload, 1) := by decide +kernel
theorem dX11_helps_72 : decode cX11_helps 72 = .ok (.if_icmp .ne 7, 3) := by decide +kernel
theorem dX11_helps_75 : decode cX11_helps 75 = .ok (.iconst (-1), 1) := by decide +kernel
theorem dX11_helps_76 : decode cX11_helps 76 = .ok (.goto 11, 3) := by decide +kernel
theorem dX11_helps_79 : decode cX11_helps 79 = .ok (.aload_n 0, 1) := by decide +kernel
theorem dX11_helps_80 : decode cX11_helps 80 = .ok (.iload 4, 2) := by decide +kernel
theorem dX11_helps_82 : decode cX11_helps 82 = .ok (.iload 5, 2) := by decide +kernel
theorem dX11_helps_84 : decode cX11_helps 84 = .ok (.invokevirtual 278, 3) := by decide +kernel
theorem dX11_helps_87 : decode cX11_helps 87 = .ok (.istore 6, 2) := by decide +kernel
theorem dX11_helps_89 : decode cX11_helps 89 = .ok (.iload 6, 2) := by decide +kernel
theorem dX11_helps_91 : decode cX11_helps 91 = .ok (.iload_n 2, 1) := by decide +kernel
theorem dX11_helps_92 : decode cX11_helps 92 = .ok (.if_icmp .le 15, 3) := by decide +kernel
theorem dX11_helps_95 : decode cX11_helps 95 = .ok (.iload 6, 2) := by decide +kernel
theorem dX11_helps_97 : decode cX11_helps 97 = .ok (.istore_n 2, 1) := by decide +kernel
theorem dX11_helps_98 : decode cX11_helps 98 = .ok (.bipush 10, 2) := by decide +kernel
theorem dX11_helps_100 : decode cX11_helps 100 = .ok (.iload 4, 2) := by decide +kernel
theorem dX11_helps_102 : decode cX11_helps 102 = .ok (.imul, 1) := by decide +kernel
theorem dX11_helps_103 : decode cX11_helps 103 = .ok (.iload 5, 2) := by decide +kernel
theorem dX11_helps_105 : decode cX11_helps 105 = .ok (.iadd, 1) := by decide +kernel
theorem dX11_helps_106 : decode cX11_helps 106 = .ok (.istore_n 3, 1) := by decide +kernel
theorem dX11_helps_107 : decode cX11_helps 107 = .ok (.iinc 5 1, 3) := by decide +kernel
theorem dX11_helps_110 : decode cX11_helps 110 = .ok (.goto (-70), 3) := by decide +kernel
theorem dX11_helps_113 : decode cX11_helps 113 = .ok (.iinc 4 1, 3) := by decide +kernel
theorem dX11_helps_116 : decode cX11_helps 116 = .ok (.goto (-94), 3) := by decide +kernel
theorem dX11_helps_119 : decode cX11_helps 119 = .ok (.iload_n 2, 1) := by decide +kernel
theorem dX11_helps_120 : decode cX11_helps 120 = .ok (.ifCond .ge 9, 3) := by decide +kernel
theorem dX11_helps_123 : decode cX11_helps 123 = .ok (.aload_n 0, 1) := by decide +kernel
theorem dX11_helps_124 : decode cX11_helps 124 = .ok (.iconst 2, 1) := by decide +kernel
theorem dX11_helps_125 : decode cX11_helps 125 = .ok (.invokevirtual 92, 3) := by decide +kernel
theorem dX11_helps_128 : decode cX11_helps 128 = .ok (.ireturn, 1) := by decide +kernel
theorem dX11_helps_129 : decode cX11_helps 129 = .ok (.iload_n 1, 1) := by decide +kernel
theorem dX11_helps_130 : decode cX11_helps 130 = .ok (.ifCond .ne 7, 3) := by decide +kernel
theorem dX11_helps_133 : decode cX11_helps 133 = .ok (.iload_n 3, 1) := by decide +kernel
theorem dX11_helps_134 : decode cX11_helps 134 = .ok (.goto 4, 3) := by decide +kernel
theorem dX11_helps_137 : decode cX11_helps 137 = .ok (.iload_n 2, 1) := by decide +kernel
theorem dX11_helps_138 : decode cX11_helps 138 = .ok (.ireturn, 1) := by decide +kernel
theorem dX11_who_0 : decode cX11_who 0 = .ok (.iload_n 1, 1) := by decide +kernel
theorem dX11_who_1 : decode cX11_who 1 = .ok (.invokestatic 281, 3) := by decide +kernel
theorem dX11_who_4 : decode cX11_who 4 = .ok (.ifCond .ne 9, 3) := by decide +kernel
theorem dX11_who_7 : decode cX11_who 7 = .ok (.aload_n 0, 1) := by decide +kernel
theorem dX11_who_8 : decode cX11_who 8 = .ok (.iconst 1, 1) := by decide +kernel
theorem dX11_who_9 : decode cX11_who 9 = .ok (.invokevirtual 92, 3) := by decide +kernel
theorem dX11_who_12 : decode cX11_who 12 = .ok (.ireturn, 1) := by decide +kernel
theorem dX11_who_13 : decode cX11_who 13 = .ok (.aload_n 0, 1) := by decide +kernel
theorem dX11_who_14 : decode cX11_who 14 = .ok (.getfield 21, 3) := by decide +kernel
theorem dX11_who_17 : decode cX11_who 17 = .ok (.iload_n 1, 1) := by decide +kernel
theorem dX11_who_18 : decode cX11_who 18 = .ok (.aaload, 1) := by decide +kernel
theorem dX11_who_19 : decode cX11_who 19 = .ok (.astore_n 2, 1) := by decide +kernel
theorem dX11_who_20 : decode cX11_who 20 = .ok (.aload_n 2, 1) := by decide +kernel
theorem dX11_who_21 : decode cX11_who 21 = .ok (.getfield 284, 3) := by decide +kernel
theorem dX11_who_24 : decode cX11_who 24 = .ok (.ifCond .eq 17, 3) := by decide +kernel
theorem dX11_who_27 : decode cX11_who 27 = .ok (.aload_n 2, 1) := by decide +kernel
theorem dX11_who_28 : decode cX11_who 28 = .ok (.getfield 206, 3) := by decide +kernel
theorem dX11_who_31 : decode cX11_who 31 = .ok (.aload_n 0, 1) := by decide +kernel
theorem dX11_who_32 : decode cX11_who 32 = .ok (.getfield 66, 3) := by decide +kernel
theorem dX11_who_35 : decode cX11_who 35 = .ok (.getfield 96, 3) := by decide +kernel
theorem dX11_who_38 : decode cX11_who 38 = .ok (.if_icmp .eq 9, 3) := by decide +kernel
theorem dX11_who_41 : decode cX11_who 41 = .ok (.aload_n 0, 1) := by decide +kernel
theorem dX11_who_42 : decode cX11_who 42 = .ok (.iconst 2, 1) := by decide +kernel
theorem dX11_who_43 : decode cX11_who 43 = .ok (.invokevirtual 92, 3) := by decide +kernel
theorem dX11_who_46 : decode cX11_who 46 = .ok (.ireturn, 1) := by decide +kernel
theorem dX11_who_47 : decode cX11_who 47 = .ok (.iconst 0, 1) := by decide +kernel
theorem dX11_who_48 : decode cX11_who 48 = .ok (.istore_n 3, 1) := by decide +kernel
theorem dX11_who_49 : decode cX11_who 49 = .ok (.iconst 0, 1) := by decide +kernel
theorem dX11_who_50 : decode cX11_who 50 = .ok (.istore 4, 2) := by decide +kernel
theorem dX11_who_52 : decode cX11_who 52 = .ok (.iload 4, 2) := by decide +kernel
theorem dX11_who_54 : decode cX11_who 54 = .ok (.aload_n 0, 1) := by decide +kernel
theorem dX11_who_55 : decode cX11_who 55 = .ok (.getfield 66, 3) := by decide +kernel
theorem dX11_who_58 : decode cX11_who 58 = .ok (.getfield 163, 3) := by decide +kernel
theorem dX11_who_61 : decode cX11_who 61 = .ok (.if_icmp .ge 26, 3) := by decide +kernel
theorem dX11_who_64 : decode cX11_who 64 = .ok (.aload_n 0, 1) := by decide +kernel
theorem dX11_who_65 : decode cX11_who 65 = .ok (.iload 4, 2) := by decide +kernel
theorem dX11_who_67 : decode cX11_who 67 = .ok (.aload_n 2, 1) := by decide +kernel
theorem dX11_who_68 : decode cX11_who 68 = .ok (.invokevirtual 287, 3) := by decide +kernel
theorem dX11_who_71 : decode cX11_who 71 = .ok (.ifCond .eq 10, 3) := by decide +kernel
theorem dX11_who_74 : decode cX11_who 74 = .ok (.iload_n 3, 1) := by decide +kernel
theorem dX11_who_75 : decode cX11_who 75 = .ok (.iconst 1, 1) := by decide +kernel
theorem dX11_who_76 : decode cX11_who 76 = .ok (.iload 4, 2) := by decide +kernel
theorem dX11_who_78 : decode cX11_who 78 = .ok (.ishl, 1) := by decide +kernel
theorem dX11_who_79 : decode cX11_who 79 = .ok (.ior, 1) := by decide +kernel
theorem dX11_who_80 : decode cX11_who 80 = .ok (.istore_n 3, 1) := by decide +kernel
theorem dX11_who_81 : decode cX11_who 81 = .ok (.iinc 4 1, 3) := by decide +kernel
theorem dX11_who_84 : decode cX11_who 84 = .ok (.goto (-32), 3) := by decide +kernel
theorem dX11_who_87 : decode cX11_who 87 = .ok (.iload_n 3, 1) := by decide +kernel
theorem dX11_who_88 : decode cX11_who 88 = .ok (.ireturn, 1) := by decide +kernel
theorem dX11_seed_0 : decode cX11_seed 0 = .ok (.aload_n 0, 1) := by decide +kernel
theorem dX11_seed_1 : decode cX11_seed 1 = .ok (.getfield 66, 3) := by decide +kernel
theorem dX11_seed_4 : decode cX11_seed 4 = .ok (.getfield 291, 3) := by decide +kernel
theorem dX11_seed_7 : decode cX11_seed 7 = .ok (.istore_n 2, 1) := by decide +kernel
theorem dX11_seed_8 : decode cX11_seed 8 = .ok (.aload_n 0, 1) := by decide +kernel
theorem dX11_seed_9 : decode cX11_seed 9 = .ok (.getfield 66, 3) := by decide +kernel
theorem dX11_seed_12 : decode cX11_seed 12 = .ok (.iload_n 1, 1) := by decide +kernel
theorem dX11_seed_13 : decode cX11_seed 13 = .ok (.putfield 291, 3) := by decide +kernel
theorem dX11_seed_16 : decode cX11_seed 16 = .ok (.iload_n 2, 1) := by decide +kernel
theorem dX11_seed_17 : decode cX11_seed 17 = .ok (.ireturn, 1) := by decide +kernel
theorem dX11_voice_0 : decode cX11_voice 0 = .ok (.aload_n 0, 1) := by decide +kernel
theorem dX11_voice_1 : decode cX11_voice 1 = .ok (.iload_n 1, 1) := by decide +kernel
theorem dX11_voice_2 : decode cX11_voice 2 = .ok (.invokevirtual 173, 3) := by decide +kernel
theorem dX11_voice_5 : decode cX11_voice 5 = .ok (.ifCond .eq 12, 3) := by decide +kernel
theorem dX11_voice_8 : decode cX11_voice 8 = .ok (.iload_n 2, 1) := by decide +kernel
theorem dX11_voice_9 : decode cX11_voice 9 = .ok (.ifCond .lt 8, 3) := by decide +kernel
theorem dX11_voice_12 : decode cX11_voice 12 = .ok (.iload_n 2, 1) := by decide +kernel
theorem dX11_voice_13 : decode cX11_voice 13 = .ok (.iconst 3, 1) := by decide +kernel
theorem dX11_voice_14 : decode cX11_voice 14 = .ok (.if_icmp .le 9, 3) := by decide +kernel
theorem dX11_voice_17 : decode cX11_voice 17 = .ok (.aload_n 0, 1) := by decide +kernel
theorem dX11_voice_18 : decode cX11_voice 18 = .ok (.iconst 1, 1) := by decide +kernel
theorem dX11_voice_19 : decode cX11_voice 19 = .ok (.invokevirtual 92, 3) := by decide +kernel
theorem dX11_voice_22 : decode cX11_voice 22 = .ok (.ireturn, 1) := by decide +kernel
theorem dX11_voice_23 : decode cX11_voice 23 = .ok (.aload_n 0, 1) := by decide +kernel
theorem dX11_voice_24 : decode cX11_voice 24 = .ok (.getfield 28, 3) := by decide +kernel
theorem dX11_voice_27 : decode cX11_voice 27 = .ok (.iconst 0, 1) := by decide +kernel
theorem dX11_voice_28 : decode cX11_voice 28 = .ok (.putfield 206, 3) := by decide +kernel
theorem dX11_voice_31 : decode cX11_voice 31 = .ok (.aload_n 0, 1) := by decide +kernel
theorem dX11_voice_32 : decode cX11_voice 32 = .ok (.getfield 66, 3) := by decide +kernel
theorem dX11_voice_35 : decode cX11_voice 35 = .ok (.getfield 176, 3) := by decide +kernel
theorem dX11_voice_38 : decode cX11_voice 38 = .ok (.iload_n 1, 1) := by decide +kernel
theorem dX11_voice_39 : decode cX11_voice 39 = .ok (.aaload, 1) := by decide +kernel
theorem dX11_voice_40 : decode cX11_voice 40 = .ok (.astore 4, 2) := by decide +kernel
theorem dX11_voice_42 : decode cX11_voice 42 = .ok (.aload_n 0, 1) := by decide +kernel
theorem dX11_voice_43 : decode cX11_voice 43 = .ok (.getfield 66, 3) := by decide +kernel
theorem dX11_voice_46 : decode cX11_voice 46 = .ok (.getfield 182, 3) := by decide +kernel
theorem dX11_voice_49 : decode cX11_voice 49 = .ok (.iload_n 1, 1) := by decide +kernel
theorem dX11_voice_50 : decode cX11_voice 50 = .ok (.iaload, 1) := by decide +kernel
theorem dX11_voice_51 : decode cX11_voice 51 = .ok (.istore 5, 2) := by decide +kernel
theorem dX11_voice_53 : decode cX11_voice 53 = .ok (.iload_n 2, 1) := by decide +kernel
theorem dX11_voice_54 : decode cX11_voice 54 = .ok (.tableswitch 68 0 2 #[26, 40, 54], 26) := by decide +kernel
theorem dX11_voice_80 : decode cX11_voice 80 = .ok (.aload 4, 2) := by decide +kernel
theorem dX11_voice_82 : decode cX11_voice 82 = .ok (.iload_n 1, 1) := by decide +kernel
theorem dX11_voice_83 : decode cX11_voice 83 = .ok (.iload 5, 2) := by decide +kernel
theorem dX11_voice_85 : decode cX11_voice 85 = .ok (.iload_n 3, 1) := by decide +kernel
theorem dX11_voice_86 : decode cX11_voice 86 = .ok (.aload_n 0, 1) := by decide +kernel
theorem dX11_voice_87 : decode cX11_voice 87 = .ok (.getfield 28, 3) := by decide +kernel
theorem dX11_voice_90 : decode cX11_voice 90 = .ok (.invokevirtual 294, 3) := by decide +kernel
theorem dX11_voice_93 : decode cX11_voice 93 = .ok (.ireturn, 1) := by decide +kernel
theorem dX11_voice_94 : decode cX11_voice 94 = .ok (.aload 4, 2) := by decide +kernel
theorem dX11_voice_96 : decode cX11_voice 96 = .ok (.iload_n 1, 1) := by decide +kernel
theorem dX11_voice_97 : decode cX11_voice 97 = .ok (.iload 5, 2) := by decide +kernel
theorem dX11_voice_99 : decode cX11_voice 99 = .ok (.iload_n 3, 1) := by decide +kernel
theorem dX11_voice_100 : decode cX11_voice 100 = .ok (.aload_n 0, 1) := by decide +kernel
theorem dX11_voice_101 : decode cX11_voice 101 = .ok (.getfield 28, 3) := by decide +kernel
theorem dX11_voice_104 : decode cX11_voice 104 = .ok (.invokevirtual 298, 3) := by decide +kernel
theorem dX11_voice_107 : decode cX11_voice 107 = .ok (.ireturn, 1) := by decide +kernel
theorem dX11_voice_108 : decode cX11_voice 108 = .ok (.aload 4, 2) := by decide +kernel
theorem dX11_voice_110 : decode cX11_voice 110 = .ok (.iload_n 1, 1) := by decide +kernel
theorem dX11_voice_111 : decode cX11_voice 111 = .ok (.iload 5, 2) := by decide +kernel
theorem dX11_voice_113 : decode cX11_voice 113 = .ok (.iload_n 3, 1) := by decide +kernel
theorem dX11_voice_114 : decode cX11_voice 114 = .ok (.aload_n 0, 1) := by decide +kernel
theorem dX11_voice_115 : decode cX11_voice 115 = .ok (.getfield 28, 3) := by decide +kernel
theorem dX11_voice_118 : decode cX11_voice 118 = .ok (.invokevirtual 301, 3) := by decide +kernel
theorem dX11_voice_121 : decode cX11_voice 121 = .ok (.ireturn, 1) := by decide +kernel
theorem dX11_voice_122 : decode cX11_voice 122 = .ok (.aload 4, 2) := by decide +kernel
theorem dX11_voice_124 : decode cX11_voice 124 = .ok (.iload_n 1, 1) := by decide +kernel
theorem dX11_voice_125 : decode cX11_voice 125 = .ok (.iload 5, 2) := by decide +kernel
theorem dX11_voice_127 : decode cX11_voice 127 = .ok (.iload_n 3, 1) := by decide +kernel
theorem dX11_voice_128 : decode cX11_voice 128 = .ok (.aload_n 0, 1) := by decide +kernel
theorem dX11_voice_129 : decode cX11_voice 129 = .ok (.getfield 28, 3) := by decide +kernel
theorem dX11_voice_132 : decode cX11_voice 132 = .ok (.invokevirtual 304, 3) := by decide +kernel
theorem dX11_voice_135 : decode cX11_voice 135 = .ok (.ireturn, 1) := by decide +kernel
theorem dX11_trace_0 : decode cX11_trace 0 = .ok (.iload_n 1, 1) := by decide +kernel
theorem dX11_trace_1 : decode cX11_trace 1 = .ok (.ifCond .lt 14, 3) := by decide +kernel
theorem dX11_trace_4 : decode cX11_trace 4 = .ok (.iload_n 1, 1) := by decide +kernel
theorem dX11_trace_5 : decode cX11_trace 5 = .ok (.aload_n 0, 1) := by decide +kernel
theorem dX11_trace_6 : decode cX11_trace 6 = .ok (.getfield 28, 3) := by decide +kernel
theorem dX11_trace_9 : decode cX11_trace 9 = .ok (.getfield 206, 3) := by decide +kernel
theorem dX11_trace_12 : decode cX11_trace 12 = .ok (.if_icmp .lt 9, 3) := by decide +kernel
theorem dX11_trace_15 : decode cX11_trace 15 = .ok (.aload_n 0, 1) := by decide +kernel
theorem dX11_trace_16 : decode cX11_trace 16 = .ok (.iconst 2, 1) := by decide +kernel
theorem dX11_trace_17 : decode cX11_trace 17 = .ok (.invokevirtual 92, 3) := by decide +kernel
theorem dX11_trace_20 : decode cX11_trace 20 = .ok (.ireturn, 1) := by decide +kernel
theorem dX11_trace_21 : decode cX11_trace 21 = .ok (.aload_n 0, 1) := by decide +kernel
theorem dX11_trace_22 : decode cX11_trace 22 = .ok (.getfield 28, 3) := by decide +kernel
theorem dX11_trace_25 : decode cX11_trace 25 = .ok (.getfield 307, 3) := by decide +kernel
theorem dX11_trace_28 : decode cX11_trace 28 = .ok (.iload_n 1, 1) := by decide +kernel
theorem dX11_trace_29 : decode cX11_trace 29 = .ok (.iaload, 1) := by decide +kernel
theorem dX11_trace_30 : decode cX11_trace 30 = .ok (.ireturn, 1) := by decide +kernel
theorem dX11_sheet_0 : decode cX11_sheet 0 = .ok (.iload_n 1, 1) := by decide +kernel
theorem dX11_sheet_1 : decode cX11_sheet 1 = .ok (.invokestatic 281, 3) := by decide +kernel
theorem dX11_sheet_4 : decode cX11_sheet 4 = .ok (.ifCond .eq 25, 3) := by decide +kernel
theorem dX11_sheet_7 : decode cX11_sheet 7 = .ok (.iload_n 2, 1) := by decide +kernel
theorem dX11_sheet_8 : decode cX11_sheet 8 = .ok (.ifCond .eq 27, 3) := by decide +kernel
theorem dX11_sheet_11 : decode cX11_sheet 11 = .ok (.iload_n 2, 1) := by decide +kernel
theorem dX11_sheet_12 : decode cX11_sheet 12 = .ok (.bipush 8, 2) := by decide +kernel
theorem dX11_sheet_14 : decode cX11_sheet 14 = .ok (.if_icmp .eq 21, 3) := by decide +kernel
theorem dX11_sheet_17 : decode cX11_sheet 17 = .ok (.iload_n 2, 1) := by decide +kernel
theorem dX11_sheet_18 : decode cX11_sheet 18 = .ok (.bipush 16, 2) := by decide +kernel
theorem dX11_sheet_20 : decode cX11_sheet 20 = .ok (.if_icmp .eq 15, 3) := by decide +kernel
theorem dX11_sheet_23 : decode cX11_sheet 23 = .ok (.iload_n 2, 1) := by decide +kernel
theorem dX11_sheet_24 : decode cX11_sheet 24 = .ok (.bipush 32, 2) := by decide +kernel
theorem dX11_sheet_26 : decode cX11_sheet 26 = .ok (.if_icmp .eq 9, 3) := by decide +kernel
theorem dX11_sheet_29 : decode cX11_sheet 29 = .ok (.aload_n 0, 1) := by decide +kernel
theorem dX11_sheet_30 : decode cX11_sheet 30 = .ok (.iconst 1, 1) := by decide +kernel
theorem dX11_sheet_31 : decode cX11_sheet 31 = .ok (.invokevirtual 92, 3) := by decide +kernel
theorem dX11_sheet_34 : decode cX11_sheet 34 = .ok (.ireturn, 1) := by decide +kernel
theorem dX11_sheet_35 : decode cX11_sheet 35 = .ok (.iload_n 2, 1) := by decide +kernel
theorem dX11_sheet_36 : decode cX11_sheet 36 = .ok (.ifCond .eq 13, 3) := by decide +kernel
theorem dX11_sheet_39 : decode cX11_sheet 39 = .ok (.iload_n 3, 1) := by decide +kernel
theorem dX11_sheet_40 : decode cX11_sheet 40 = .ok (.ifCond .ge 9, 3) := by decide +kernel
theorem dX11_sheet_43 : decode cX11_sheet 43 = .ok (.aload_n 0, 1) := by decide +kernel
theorem dX11_sheet_44 : decode cX11_sheet 44 = .ok (.iconst 3, 1) := by decide +kernel
theorem dX11_sheet_45 : decode cX11_sheet 45 = .ok (.invokevirtual 92, 3) := by decide +kernel
theorem dX11_sheet_48 : decode cX11_sheet 48 = .ok (.ireturn, 1) := by decide +kernel
theorem dX11_sheet_49 : decode cX11_sheet 49 = .ok (.iload_n 2, 1) := by decide +kernel
theorem dX11_sheet_50 : decode cX11_sheet 50 = .ok (.ifCond .eq 15, 3) := by decide +kernel
theorem dX11_sheet_53 : decode cX11_sheet 53 = .ok (.iload_n 3, 1) := by decide +kernel
theorem dX11_sheet_54 : decode cX11_sheet 54 = .ok (.bipush 40, 2) := by decide +kernel
theorem dX11_sheet_56 : decode cX11_sheet 56 = .ok (.if_icmp .le 9, 3) := by decide +kernel
theorem dX11_sheet_59 : decode cX11_sheet 59 = .ok (.aload_n 0, 1) := by decide +kernel
theorem dX11_sheet_60 : decode cX11_sheet 60 = .ok (.iconst 1, 1) := by decide +kernel
theorem dX11_sheet_61 : decode cX11_sheet 61 = .ok (.invokevirtual 92, 3) := by decide +kernel
theorem dX11_sheet_64 : decode cX11_sheet 64 = .ok (.ireturn, 1) := by decide +kernel
theorem dX11_sheet_65 : decode cX11_sheet 65 = .ok (.aload_n 0, 1) := by decide +kernel
theorem dX11_sheet_66 : decode cX11_sheet 66 = .ok (.getfield 21, 3) := by decide +kernel
theorem dX11_sheet_69 : decode cX11_sheet 69 = .ok (.iload_n 1, 1) := by decide +kernel
theorem dX11_sheet_70 : decode cX11_sheet 70 = .ok (.aaload, 1) := by decide +kernel
theorem dX11_sheet_71 : decode cX11_sheet 71 = .ok (.iload_n 2, 1) := by decide +kernel
theorem dX11_sheet_72 : decode cX11_sheet 72 = .ok (.iload_n 2, 1) := by decide +kernel
theorem dX11_sheet_73 : decode cX11_sheet 73 = .ok (.ifCond .ne 7, 3) := by decide +kernel
theorem dX11_sheet_76 : decode cX11_sheet 76 = .ok (.iconst 0, 1) := by decide +kernel
theorem dX11_sheet_77 : decode cX11_sheet 77 = .ok (.goto 4, 3) := by decide +kernel
theorem dX11_sheet_80 : decode cX11_sheet 80 = .ok (.iload_n 3, 1) := by decide +kernel
theorem dX11_sheet_81 : decode cX11_sheet 81 = .ok (.invokevirtual 310, 3) := by decide +kernel
theorem dX11_sheet_84 : decode cX11_sheet 84 = .ok (.iconst 1, 1) := by decide +kernel
theorem dX11_sheet_85 : decode cX11_sheet 85 = .ok (.ireturn, 1) := by decide +kernel
theorem dX11_put_0 : decode cX11_put 0 = .ok (.iload_n 1, 1) := by decide +kernel
theorem dX11_put_1 : decode cX11_put 1 = .ok (.invokestatic 281, 3) := by decide +kernel
theorem dX11_put_4 : decode cX11_put 4 = .ok (.ifCond .ne 9, 3) := by decide +kernel
theorem dX11_put_7 : decode cX11_put 7 = .ok (.aload_n 0, 1) := by decide +kernel
theorem dX11_put_8 : decode cX11_put 8 = .ok (.iconst 1, 1) := by decide +kernel
theorem dX11_put_9 : decode cX11_put 9 = .ok (.invokevirtual 92, 3) := by decide +kernel
theorem dX11_put_12 : decode cX11_put 12 = .ok (.ireturn, 1) := by decide +kernel
theorem dX11_put_13 : decode cX11_put 13 = .ok (.aload_n 0, 1) := by decide +kernel
theorem dX11_put_14 : decode cX11_put 14 = .ok (.getfield 21, 3) := by decide +kernel
theorem dX11_put_17 : decode cX11_put 17 = .ok (.iload_n 1, 1) := by decide +kernel
theorem dX11_put_18 : decode cX11_put 18 = .ok (.aaload, 1) := by decide +kernel
theorem dX11_put_19 : decode cX11_put 19 = .ok (.astore 4, 2) := by decide +kernel
theorem dX11_put_21 : decode cX11_put 21 = .ok (.aload 4, 2) := by decide +kernel
theorem dX11_put_23 : decode cX11_put 23 = .ok (.getfield 284, 3) := by decide +kernel
theorem dX11_put_26 : decode cX11_put 26 = .ok (.ifCond .ne 9, 3) := by decide +kernel
theorem dX11_put_29 : decode cX11_put 29 = .ok (.aload_n 0, 1) := by decide +kernel
theorem dX11_put_30 : decode cX11_put 30 = .ok (.iconst 2, 1) := by decide +kernel
theorem dX11_put_31 : decode cX11_put 31 = .ok (.invokevirtual 92, 3) := by decide +kernel
theorem dX11_put_34 : decode cX11_put 34 = .ok (.ireturn, 1) := by decide +kernel
theorem dX11_put_35 : decode cX11_put 35 = .ok (.iload_n 2, 1) := by decide +kernel
theorem dX11_put_36 : decode cX11_put 36 = .ok (.ifCond .lt 12, 3) := by decide +kernel
theorem dX11_put_39 : decode cX11_put 39 = .ok (.iload_n 2, 1) := by decide +kernel
theorem dX11_put_40 : decode cX11_put 40 = .ok (.aload 4, 2) := by decide +kernel
theorem dX11_put_42 : decode cX11_put 42 = .ok (.getfield 206, 3) := by decide +kernel
theorem dX11_put_45 : decode cX11_put 45 = .ok (.if_icmp .lt 9, 3) := by decide +kernel
theorem dX11_put_48 : decode cX11_put 48 = .ok (.aload_n 0, 1) := by decide +kernel
theorem dX11_put_49 : decode cX11_put 49 = .ok (.iconst 1, 1) := by decide +kernel
theorem dX11_put_50 : decode cX11_put 50 = .ok (.invokevirtual 92, 3) := by decide +kernel
theorem dX11_put_53 : decode cX11_put 53 = .ok (.ireturn, 1) := by decide +kernel
theorem dX11_put_54 : decode cX11_put 54 = .ok (.aload 4, 2) := by decide +kernel
theorem dX11_put_56 : decode cX11_put 56 = .ok (.getfield 307, 3) := by decide +kernel
theorem dX11_put_59 : decode cX11_put 59 = .ok (.iload_n 2, 1) := by decide +kernel
theorem dX11_put_60 : decode cX11_put 60 = .ok (.aload 4, 2) := by decide +kernel
theorem dX11_put_62 : decode cX11_put 62 = .ok (.getfield 284, 3) := by decide +kernel
theorem dX11_put_65 : decode cX11_put 65 = .ok (.bipush 32, 2) := by decide +kernel
theorem dX11_put_67 : decode cX11_put 67 = .ok (.if_icmp .ne 7, 3) := by decide +kernel
theorem dX11_put_70 : decode cX11_put 70 = .ok (.iload_n 3, 1) := by decide +kernel
theorem dX11_put_71 : decode cX11_put 71 = .ok (.goto 14, 3) := by decide +kernel
theorem dX11_put_74 : decode cX11_put 74 = .ok (.iload_n 3, 1) := by decide +kernel
theorem dX11_put_75 : decode cX11_put 75 = .ok (.iconst 1, 1) := by decide +kernel
theorem dX11_put_76 : decode cX11_put 76 = .ok (.aload 4, 2) := by decide +kernel
theorem dX11_put_78 : decode cX11_put 78 = .ok (.getfield 284, 3) := by decide +kernel
theorem dX11_put_81 : decode cX11_put 81 = .ok (.ishl, 1) := by decide +kernel
theorem dX11_put_82 : decode cX11_put 82 = .ok (.iconst 1, 1) := by decide +kernel
theorem dX11_put_83 : decode cX11_put 83 = .ok (.isub, 1) := by decide +kernel
theorem dX11_put_84 : decode cX11_put 84 = .ok (.iand, 1) := by decide +kernel
theorem dX11_put_85 : decode cX11_put 85 = .ok (.iastore, 1) := by decide +kernel
theorem dX11_put_86 : decode cX11_put 86 = .ok (.iconst 1, 1) := by decide +kernel
theorem dX11_put_87 : decode cX11_put 87 = .ok (.ireturn, 1) := by decide +kernel
theorem dX11_move_0 : decode cX11_move 0 = .ok (.iload_n 1, 1) := by decide +kernel
theorem dX11_move_1 : decode cX11_move 1 = .ok (.invokestatic 281, 3) := by decide +kernel
theorem dX11_move_4 : decode cX11_move 4 = .ok (.ifCond .eq 10, 3) := by decide +kernel
theorem dX11_move_7 : decode cX11_move 7 = .ok (.iload_n 3, 1) := by decide +kernel
theorem dX11_move_8 : decode cX11_move 8 = .ok (.invokestatic 281, 3) := by decide +kernel
theorem dX11_move_11 : decode cX11_move 11 = .ok (.ifCond .ne 9, 3) := by decide +kernel
theorem dX11_move_14 : decode cX11_move 14 = .ok (.aload_n 0, 1) := by decide +kernel
theorem dX11_move_15 : decode cX11_move 15 = .ok (.iconst 1, 1) := by decide +kernel
theorem dX11_move_16 : decode cX11_move 16 = .ok (.invokevirtual 92, 3) := by decide +kernel
theorem dX11_move_19 : decode cX11_move 19 = .ok (.ireturn, 1) := by decide +kernel
theorem dX11_move_20 : decode cX11_move 20 = .ok (.aload_n 0, 1) := by decide +kernel
theorem dX11_move_21 : decode cX11_move 21 = .ok (.getfield 21, 3) := by decide +kernel
theorem dX11_move_24 : decode cX11_move 24 = .ok (.iload_n 1, 1) := by decide +kernel
theorem dX11_move_25 : decode cX11_move 25 = .ok (.aaload, 1) := by decide +kernel
theorem dX11_move_26 : decode cX11_move 26 = .ok (.astore 6, 2) := by decide +kernel
theorem dX11_move_28 : decode cX11_move 28 = .ok (.aload_n 0, 1) := by decide +kernel
theorem dX11_move_29 : decode cX11_move 29 = .ok (.getfield 21, 3) := by decide +kernel
theorem dX11_move_32 : decode cX11_move 32 = .ok (.iload_n 3, 1) := by decide +kernel
theorem dX11_move_33 : decode cX11_move 33 = .ok (.aaload, 1) := by decide +kernel
theorem dX11_move_34 : decode cX11_move 34 = .ok (.astore 7, 2) := by decide +kernel
theorem dX11_move_36 : decode cX11_move 36 = .ok (.aload 6, 2) := by decide +kernel
theorem dX11_move_38 : decode cX11_move 38 = .ok (.getfield 284, 3) := by decide +kernel
theorem dX11_move_41 : decode cX11_move 41 = .ok (.ifCond .eq 11, 3) := by decide +kernel
theorem dX11_move_44 : decode cX11_move 44 = .ok (.aload 7, 2) := by decide +kernel
theorem dX11_move_46 : decode cX11_move 46 = .ok (.getfield 284, 3) := by decide +kernel
theorem dX11_move_49 : decode cX11_move 49 = .ok (.ifCond .ne 9, 3) := by decide +kernel
theorem dX11_move_52 : decode cX11_move 52 = .ok (.aload_n 0, 1) := by decide +kernel
theorem dX11_move_53 : decode cX11_move 53 = .ok (.iconst 2, 1) := by decide +kernel
theorem dX11_move_54 : decode cX11_move 54 = .ok (.invokevirtual 92, 3) := by decide +kernel
theorem dX11_move_57 : decode cX11_move 57 = .ok (.ireturn, 1) := by decide +kernel
theorem dX11_move_58 : decode cX11_move 58 = .ok (.aload 6, 2) := by decide +kernel
theorem dX11_move_60 : decode cX11_move 60 = .ok (.getfield 284, 3) := by decide +kernel
theorem dX11_move_63 : decode cX11_move 63 = .ok (.aload 7, 2) := by decide +kernel
theorem dX11_move_65 : decode cX11_move 65 = .ok (.getfield 284, 3) := by decide +kernel
theorem dX11_move_68 : decode cX11_move 68 = .ok (.if_icmp .eq 9, 3) := by decide +kernel
theorem dX11_move_71 : decode cX11_move 71 = .ok (.aload_n 0, 1) := by decide +kernel
theorem dX11_move_72 : decode cX11_move 72 = .ok (.iconst 5, 1) := by decide +kernel
theorem dX11_move_73 : decode cX11_move 73 = .ok (.invokevirtual 92, 3) := by decide +kernel
theorem dX11_move_76 : decode cX11_move 76 = .ok (.ireturn, 1) := by decide +kernel
theorem dX11_move_77 : decode cX11_move 77 = .ok (.aload 6, 2) := by decide +kernel
theorem dX11_move_79 : decode cX11_move 79 = .ok (.iload_n 2, 1) := by decide +kernel
theorem dX11_move_80 : decode cX11_move 80 = .ok (.iload 5, 2) := by decide +kernel
theorem dX11_move_82 : decode cX11_move 82 = .ok (.invokevirtual 313, 3) := by decide +kernel
theorem dX11_move_85 : decode cX11_move 85 = .ok (.ifCond .eq 15, 3) := by decide +kernel
theorem dX11_move_88 : decode cX11_move 88 = .ok (.aload 7, 2) := by decide +kernel
theorem dX11_move_90 : decode cX11_move 90 = .ok (.iload 4, 2) := by decide +kernel
theorem dX11_move_92 : decode cX11_move 92 = .ok (.iload 5, 2) := by decide +kernel
theorem dX11_move_94 : decode cX11_move 94 = .ok (.invokevirtual 313, 3) := by decide +kernel
theorem dX11_move_97 : decode cX11_move 97 = .ok (.ifCond .ne 9, 3) := by decide +kernel
theorem dX11_move_100 : decode cX11_move 100 = .ok (.aload_n 0, 1) := by decide +kernel
theorem dX11_move_101 : decode cX11_move 101 = .ok (.iconst 1, 1) := by decide +kernel
theorem dX11_move_102 : decode cX11_move 102 = .ok (.invokevirtual 92, 3) := by decide +kernel
theorem dX11_move_105 : decode cX11_move 105 = .ok (.ireturn, 1) := by decide +kernel
theorem dX11_move_106 : decode cX11_move 106 = .ok (.aload 6, 2) := by decide +kernel
theorem dX11_move_108 : decode cX11_move 108 = .ok (.getfield 307, 3) := by decide +kernel
theorem dX11_move_111 : decode cX11_move 111 = .ok (.iload_n 2, 1) := by decide +kernel
theorem dX11_move_112 : decode cX11_move 112 = .ok (.aload 7, 2) := by decide +kernel
theorem dX11_move_114 : decode cX11_move 114 = .ok (.getfield 307, 3) := by decide +kernel
theorem dX11_move_117 : decode cX11_move 117 = .ok (.iload 4, 2) := by decide +kernel
theorem dX11_move_119 : decode cX11_move 119 = .ok (.iload 5, 2) := by decide +kernel
theorem dX11_move_121 : decode cX11_move 121 = .ok (.invokestatic 316, 3) := by decide +kernel
theorem dX11_move_124 : decode cX11_move 124 = .ok (.iload 5, 2) := by decide +kernel
theorem dX11_move_126 : decode cX11_move 126 = .ok (.ireturn, 1) := by decide +kernel
theorem dX11_judge_0 : decode cX11_judge 0 = .ok (.iload_n 1, 1) := by decide +kernel
theorem dX11_judge_1 : decode cX11_judge 1 = .ok (.invokestatic 281, 3) := by decide +kernel
theorem dX11_judge_4 : decode cX11_judge 4 = .ok (.ifCond .ne 9, 3) := by decide +kernel
theorem dX11_judge_7 : decode cX11_judge 7 = .ok (.aload_n 0, 1) := by decide +kernel
theorem dX11_judge_8 : decode cX11_judge 8 = .ok (.iconst 1, 1) := by decide +kernel
theorem dX11_judge_9 : decode cX11_judge 9 = .ok (.invokevirtual 92, 3) := by decide +kernel
theorem dX11_judge_12 : decode cX11_judge 12 = .ok (.ireturn, 1) := by decide +kernel
theorem dX11_judge_13 : decode cX11_judge 13 = .ok (.aload_n 0, 1) := by decide +kernel
theorem dX11_judge_14 : decode cX11_judge 14 = .ok (.getfield 21, 3) := by decide +kernel
theorem dX11_judge_17 : decode cX11_judge 17 = .ok (.iload_n 1, 1) := by decide +kernel
theorem dX11_judge_18 : decode cX11_judge 18 = .ok (.aaload, 1) := by decide +kernel
theorem dX11_judge_19 : decode cX11_judge 19 = .ok (.astore_n 2, 1) := by decide +kernel
theorem dX11_judge_20 : decode cX11_judge 20 = .ok (.aload_n 2, 1) := by decide +kernel
theorem dX11_judge_21 : decode cX11_judge 21 = .ok (.getfield 284, 3) := by decide +kernel
theorem dX11_judge_24 : decode cX11_judge 24 = .ok (.ifCond .ne 9, 3) := by decide +kernel
theorem dX11_judge_27 : decode cX11_judge 27 = .ok (.aload_n 0, 1) := by decide +kernel
theorem dX11_judge_28 : decode cX11_judge 28 = .ok (.iconst 2, 1) := by decide +kernel
theorem dX11_judge_29 : decode cX11_judge 29 = .ok (.invokevirtual 92, 3) := by decide +kernel
theorem dX11_judge_32 : decode cX11_judge 32 = .ok (.ireturn, 1) := by decide +kernel
theorem dX11_judge_33 : decode cX11_judge 33 = .ok (.aload_n 0, 1) := by decide +kernel
theorem dX11_judge_34 : decode cX11_judge 34 = .ok (.getfield 66, 3) := by decide +kernel
theorem dX11_judge_37 : decode cX11_judge 37 = .ok (.aload_n 2, 1) := by decide +kernel
theorem dX11_judge_38 : decode cX11_judge 38 = .ok (.invokevirtual 322, 3) := by decide +kernel
theorem dX11_judge_41 : decode cX11_judge 41 = .ok (.ireturn, 1) := by decide +kernel
theorem dX11_image_0 : decode cX11_image 0 = .ok (.aload_n 0, 1) := by decide +kernel
theorem dX11_image_1 : decode cX11_image 1 = .ok (.getfield 73, 3) := by decide +kernel
theorem dX11_image_4 : decode cX11_image 4 = .ok (.aload_n 0, 1) := by decide +kernel
theorem dX11_image_5 : decode cX11_image 5 = .ok (.getfield 66, 3) := by decide +kernel
theorem dX11_image_8 : decode cX11_image 8 = .ok (.invokevirtual 253, 3) := by decide +kernel
theorem dX11_image_11 : decode cX11_image 11 = .ok (.aload_n 0, 1) := by decide +kernel
theorem dX11_image_12 : decode cX11_image 12 = .ok (.dup, 1) := by decide +kernel
theorem dX11_image_13 : decode cX11_image 13 = .ok (.getfield 35, 3) := by decide +kernel
theorem dX11_image_16 : decode cX11_image 16 = .ok (.iconst 1, 1) := by decide +kernel
theorem dX11_image_17 : decode cX11_image 17 = .ok (.iadd, 1) := by decide +kernel
theorem dX11_image_18 : decode cX11_image 18 = .ok (.putfield 35, 3) := by decide +kernel
theorem dX11_image_21 : decode cX11_image 21 = .ok (.aload_n 0, 1) := by decide +kernel
theorem dX11_image_22 : decode cX11_image 22 = .ok (.getfield 35, 3) := by decide +kernel
theorem dX11_image_25 : decode cX11_image 25 = .ok (.ireturn, 1) := by decide +kernel
theorem dX11_restore_0 : decode cX11_restore 0 = .ok (.aload_n 0, 1) := by decide +kernel
theorem dX11_restore_1 : decode cX11_restore 1 = .ok (.getfield 35, 3) := by decide +kernel
theorem dX11_restore_4 : decode cX11_restore 4 = .ok (.ifCond .ne 9, 3) := by decide +kernel
theorem dX11_restore_7 : decode cX11_restore 7 = .ok (.aload_n 0, 1) := by decide +kernel
theorem dX11_restore_8 : decode cX11_restore 8 = .ok (.iconst 2, 1) := by decide +kernel
theorem dX11_restore_9 : decode cX11_restore 9 = .ok (.invokevirtual 92, 3) := by decide +kernel
theorem dX11_restore_12 : decode cX11_restore 12 = .ok (.ireturn, 1) := by decide +kernel
theorem dX11_restore_13 : decode cX11_restore 13 = .ok (.aload_n 0, 1) := by decide +kernel
theorem dX11_restore_14 : decode cX11_restore 14 = .ok (.getfield 66, 3) := by decide +kernel
theorem dX11_restore_17 : decode cX11_restore 17 = .ok (.aload_n 0, 1) := by decide +kernel
theorem dX11_restore_18 : decode cX11_restore 18 = .ok (.getfield 73, 3) := by decide +kernel
theorem dX11_restore_21 : decode cX11_restore 21 = .ok (.invokevirtual 253, 3) := by decide +kernel
theorem dX11_restore_24 : decode cX11_restore 24 = .ok (.aload_n 0, 1) := by decide +kernel
theorem dX11_restore_25 : decode cX11_restore 25 = .ok (.getfield 66, 3) := by decide +kernel
theorem dX11_restore_28 : decode cX11_restore 28 = .ok (.getfield 244, 3) := by decide +kernel
theorem dX11_restore_31 : decode cX11_restore 31 = .ok (.ireturn, 1) := by decide +kernel
theorem dX11_tell_0 : decode cX11_tell 0 = .ok (.aload_n 0, 1) := by decide +kernel
theorem dX11_tell_1 : decode cX11_tell 1 = .ok (.getfield 66, 3) := by decide +kernel
theorem dX11_tell_4 : decode cX11_tell 4 = .ok (.getfield 326, 3) := by decide +kernel
theorem dX11_tell_7 : decode cX11_tell 7 = .ok (.getfield 206, 3) := by decide +kernel
theorem dX11_tell_10 : decode cX11_tell 10 = .ok (.bipush 20, 2) := by decide +kernel
theorem dX11_tell_12 : decode cX11_tell 12 = .ok (.if_icmp .lt 9, 3) := by decide +kernel
theorem dX11_tell_15 : decode cX11_tell 15 = .ok (.aload_n 0, 1) := by decide +kernel
theorem dX11_tell_16 : decode cX11_tell 16 = .ok (.iconst 4, 1) := by decide +kernel
theorem dX11_tell_17 : decode cX11_tell 17 = .ok (.invokevirtual 92, 3) := by decide +kernel
theorem dX11_tell_20 : decode cX11_tell 20 = .ok (.ireturn, 1) := by decide +kernel
theorem dX11_tell_21 : decode cX11_tell 21 = .ok (.aload_n 0, 1) := by decide +kernel
theorem dX11_tell_22 : decode cX11_tell 22 = .ok (.getfield 66, 3) := by decide +kernel
theorem dX11_tell_25 : decode cX11_tell 25 = .ok (.getfield 326, 3) := by decide +kernel
theorem dX11_tell_28 : decode cX11_tell 28 = .ok (.iload_n 1, 1) := by decide +kernel
theorem dX11_tell_29 : decode cX11_tell 29 = .ok (.invokevirtual 209, 3) := by decide +kernel
theorem dX11_tell_32 : decode cX11_tell 32 = .ok (.aload_n 0, 1) := by decide +kernel
theorem dX11_tell_33 : decode cX11_tell 33 = .ok (.getfield 66, 3) := by decide +kernel
theorem dX11_tell_36 : decode cX11_tell 36 = .ok (.getfield 326, 3) := by decide +kernel
theorem dX11_tell_39 : decode cX11_tell 39 = .ok (.getfield 206, 3) := by decide +kernel
theorem dX11_tell_42 : decode cX11_tell 42 = .ok (.ireturn, 1) := by decide +kernel
theorem dX11_check_0 : decode cX11_check 0 = .ok (.aload_n 0, 1) := by decide +kernel
theorem dX11_check_1 : decode cX11_check 1 = .ok (.getfield 66, 3) := by decide +kernel
theorem dX11_check_4 : decode cX11_check 4 = .ok (.getfield 326, 3) := by decide +kernel
theorem dX11_check_7 : decode cX11_check 7 = .ok (.getfield 206, 3) := by decide +kernel
theorem dX11_check_10 : decode cX11_check 10 = .ok (.istore_n 1, 1) := by decide +kernel
theorem dX11_check_11 : decode cX11_check 11 = .ok (.aload_n 0, 1) := by decide +kernel
theorem dX11_check_12 : decode cX11_check 12 = .ok (.getfield 66, 3) := by decide +kernel
theorem dX11_check_15 : decode cX11_check 15 = .ok (.getfield 326, 3) := by decide +kernel
theorem dX11_check_18 : decode cX11_check 18 = .ok (.iconst 0, 1) := by decide +kernel
theorem dX11_check_19 : decode cX11_check 19 = .ok (.putfield 206, 3) := by decide +kernel
theorem dX11_check_22 : decode cX11_check 22 = .ok (.iconst 0, 1) := by decide +kernel
theorem dX11_check_23 : decode cX11_check 23 = .ok (.istore_n 2, 1) := by decide +kernel
theorem dX11_check_24 : decode cX11_check 24 = .ok (.iload_n 2, 1) := by decide +kernel
theorem dX11_check_25 : decode cX11_check 25 = .ok (.iload_n 1, 1) := by decide +kernel
theorem dX11_check_26 : decode cX11_check 26 = .ok (.if_icmp .ge 42, 3) := by decide +kernel
theorem dX11_check_29 : decode cX11_check 29 = .ok (.iload_n 2, 1) := by decide +kernel
theorem dX11_check_30 : decode cX11_check 30 = .ok (.bipush 9, 2) := by decide +kernel
theorem dX11_check_32 : decode cX11_check 32 = .ok (.if_icmp .ge 26, 3) := by decide +kernel
theorem dX11_check_35 : decode cX11_check 35 = .ok (.aload_n 0, 1) := by decide +kernel
theorem dX11_check_36 : decode cX11_check 36 = .ok (.getfield 66, 3) := by decide +kernel
theorem dX11_check_39 : decode cX11_check 39 = .ok (.getfield 326, 3) := by decide +kernel
theorem dX11_check_42 : decode cX11_check 42 = .ok (.getfield 307, 3) := by decide +kernel
theorem dX11_check_45 : decode cX11_check 45 = .ok (.iload_n 2, 1) := by decide +kernel
theorem dX11_check_46 : decode cX11_check 46 = .ok (.iaload, 1) := by decide +kernel
theorem dX11_check_47 : decode cX11_check 47 = .ok (.aload_n 0, 1) := by decide +kernel
theorem dX11_check_48 : decode cX11_check 48 = .ok (.getfield 66, 3) := by decide +kernel
theorem dX11_check_51 : decode cX11_check 51 = .ok (.iload_n 2, 1) := by decide +kernel
theorem dX11_check_52 : decode cX11_check 52 = .ok (.invokevirtual 157, 3) := by decide +kernel
theorem dX11_check_55 : decode cX11_check 55 = .ok (.if_icmp .eq 7, 3) := by decide +kernel
theorem dX11_check_58 : decode cX11_check 58 = .ok (.iconst 1, 1) := by decide +kernel
theorem dX11_check_59 : decode cX11_check 59 = .ok (.iload_n 2, 1) := by decide +kernel
theorem dX11_check_60 : decode cX11_check 60 = .ok (.iadd, 1) := by decide +kernel
theorem dX11_check_61 : decode cX11_check 61 = .ok (.ireturn, 1) := by decide +kernel
theorem dX11_check_62 : decode cX11_check 62 = .ok (.iinc 2 1, 3) := by decide +kernel
theorem dX11_check_65 : decode cX11_check 65 = .ok (.goto (-41), 3) := by decide +kernel
theorem dX11_check_68 : decode cX11_check 68 = .ok (.iconst 0, 1) := by decide +kernel
theorem dX11_check_69 : decode cX11_check 69 = .ok (.ireturn, 1) := by decide +kernel
theorem dX11_count_0 : decode cX11_count 0 = .ok (.iload_n 1, 1) := by decide +kernel
theorem dX11_count_1 : decode cX11_count 1 = .ok (.tableswitch 174 0 11 #[63, 71, 79, 87, 95, 103, 111, 127, 136, 147, 158, 166], 63) := by decide +kernel
theorem dX11_count_64 : decode cX11_count 64 = .ok (.aload_n 0, 1) := by decide +kernel
theorem dX11_count_65 : decode cX11_count 65 = .ok (.getfield 66, 3) := by decide +kernel
theorem dX11_count_68 : decode cX11_count 68 = .ok (.getfield 96, 3) := by decide +kernel
theorem dX11_count_71 : decode cX11_count 71 = .ok (.ireturn, 1) := by decide +kernel
theorem dX11_count_72 : decode cX11_count 72 = .ok (.aload_n 0, 1) := by decide +kernel
theorem dX11_count_73 : decode cX11_count 73 = .ok (.getfield 66, 3) := by decide +kernel
theorem dX11_count_76 : decode cX11_count 76 = .ok (.getfield 108, 3) := by decide +kernel
theorem dX11_count_79 : decode cX11_count 79 = .ok (.ireturn, 1) := by decide +kernel
theorem dX11_count_80 : decode cX11_count 80 = .ok (.aload_n 0, 1) := by decide +kernel
theorem dX11_count_81 : decode cX11_count 81 = .ok (.getfield 66, 3) := by decide +kernel
theorem dX11_count_84 : decode cX11_count 84 = .ok (.getfield 163, 3) := by decide +kernel
theorem dX11_count_87 : decode cX11_count 87 = .ok (.ireturn, 1) := by decide +kernel
theorem dX11_count_88 : decode cX11_count 88 = .ok (.aload_n 0, 1) := by decide +kernel
theorem dX11_count_89 : decode cX11_count 89 = .ok (.getfield 66, 3) := by decide +kernel
theorem dX11_count_92 : decode cX11_count 92 = .ok (.getfield 244, 3) := by decide +kernel
theorem dX11_count_95 : decode cX11_count 95 = .ok (.ireturn, 1) := by decide +kernel
theorem dX11_count_96 : decode cX11_count 96 = .ok (.aload_n 0, 1) := by decide +kernel
theorem dX11_count_97 : decode cX11_count 97 = .ok (.getfield 66, 3) := by decide +kernel
theorem dX11_count_100 : decode cX11_count 100 = .ok (.getfield 329, 3) := by decide +kernel
theorem dX11_count_103 : decode cX11_count 103 = .ok (.ireturn, 1) := by decide +kernel
theorem dX11_count_104 : decode cX11_count 104 = .ok (.aload_n 0, 1) := by decide +kernel
theorem dX11_count_105 : decode cX11_count 105 = .ok (.getfield 66, 3) := by decide +kernel
theorem dX11_count_108 : decode cX11_count 108 = .ok (.getfield 238, 3) := by decide +kernel
theorem dX11_count_111 : decode cX11_count 111 = .ok (.ireturn, 1) := by decide +kernel
theorem dX11_count_112 : decode cX11_count 112 = .ok (.aload_n 0, 1) := by decide +kernel
theorem dX11_count_113 : decode cX11_count 113 = .ok (.getfield 66, 3) := by decide +kernel
theorem dX11_count_116 : decode cX11_count 116 = .ok (.invokevirtual 142, 3) := by decide +kernel
theorem dX11_count_119 : decode cX11_count 119 = .ok (.ifCond .eq 7, 3) := by decide +kernel
theorem dX11_count_122 : decode cX11_count 122 = .ok (.iconst 1, 1) := by decide +kernel
theorem dX11_count_123 : decode cX11_count 123 = .ok (.goto 4, 3) := by decide +kernel
theorem dX11_count_126 : decode cX11_count 126 = .ok (.iconst 0, 1) := by decide +kernel
theorem dX11_count_127 : decode cX11_count 127 = .ok (.ireturn, 1) := by decide +kernel
theorem dX11_count_128 : decode cX11_count 128 = .ok (.aload_n 0, 1) := by decide +kernel
theorem dX11_count_129 : decode cX11_count 129 = .ok (.getfield 66, 3) := by decide +kernel
theorem dX11_count_132 : decode cX11_count 132 = .ok (.iconst (-1), 1) := by decide +kernel
theorem dX11_count_133 : decode cX11_count 133 = .ok (.invokevirtual 139, 3) := by decide +kernel
theorem dX11_count_136 : decode cX11_count 136 = .ok (.ireturn, 1) := by decide +kernel
theorem dX11_count_137 : decode cX11_count 137 = .ok (.aload_n 0, 1) := by decide +kernel
theorem dX11_count_138 : decode cX11_count 138 = .ok (.getfield 66, 3) := by decide +kernel
theorem dX11_count_141 : decode cX11_count 141 = .ok (.getfield 203, 3) := by decide +kernel
theorem dX11_count_144 : decode cX11_count 144 = .ok (.getfield 206, 3) := by decide +kernel
theorem dX11_count_147 : decode cX11_count 147 = .ok (.ireturn, 1) := by decide +kernel
theorem dX11_count_148 : decode cX11_count 148 = .ok (.aload_n 0, 1) := by decide +kernel
theorem dX11_count_149 : decode cX11_count 149 = .ok (.getfield 66, 3) := by decide +kernel
theorem dX11_count_152 : decode cX11_count 152 = .ok (.getfield 326, 3) := by decide +kernel
theorem dX11_count_155 : decode cX11_count 155 = .ok (.getfield 206, 3) := by decide +kernel
theorem dX11_count_158 : decode cX11_count 158 = .ok (.ireturn, 1) := by decide +kernel
theorem dX11_count_159 : decode cX11_count 159 = .ok (.aload_n 0, 1) := by decide +kernel
theorem dX11_count_160 : decode cX11_count 160 = .ok (.getfield 28, 3) := by decide +kernel
theorem dX11_count_163 : decode cX11_count 163 = .ok (.getfield 206, 3) := by decide +kernel
theorem dX11_count_166 : decode cX11_count 166 = .ok (.ireturn, 1) := by decide +kernel
theorem dX11_count_167 : decode cX11_count 167 = .ok (.aload_n 0, 1) := by decide +kernel
theorem dX11_count_168 : decode cX11_count 168 = .ok (.getfield 66, 3) := by decide +kernel
theorem dX11_count_171 : decode cX11_count 171 = .ok (.getfield 291, 3) := by decide +kernel
theorem dX11_count_174 : decode cX11_count 174 = .ok (.ireturn, 1) := by decide +kernel
theorem dX11_count_175 : decode cX11_count 175 = .ok (.aload_n 0, 1) := by decide +kernel
theorem dX11_count_176 : decode cX11_count 176 = .ok (.iconst 1, 1) := by decide +kernel
theorem dX11_count_177 : decode cX11_count 177 = .ok (.invokevirtual 92, 3) := by decide +kernel
theorem dX11_count_180 : decode cX11_count 180 = .ok (.ireturn, 1) := by decide +kernel
theorem dX11_told_0 : decode cX11_told 0 = .ok (.iload_n 1, 1) := by decide +kernel
theorem dX11_told_1 : decode cX11_told 1 = .ok (.iconst 1, 1) := by decide +kernel
theorem dX11_told_2 : decode cX11_told 2 = .ok (.if_icmp .lt 8, 3) := by decide +kernel
theorem dX11_told_5 : decode cX11_told 5 = .ok (.iload_n 1, 1) := by decide +kernel
theorem dX11_told_6 : decode cX11_told 6 = .ok (.iconst 5, 1) := by decide +kernel
theorem dX11_told_7 : decode cX11_told 7 = .ok (.if_icmp .le 9, 3) := by decide +kernel
theorem dX11_told_10 : decode cX11_told 10 = .ok (.aload_n 0, 1) := by decide +kernel
theorem dX11_told_11 : decode cX11_told 11 = .ok (.iconst 1, 1) := by decide +kernel
theorem dX11_told_12 : decode cX11_told 12 = .ok (.invokevirtual 92, 3) := by decide +kernel
theorem dX11_told_15 : decode cX11_told 15 = .ok (.ireturn, 1) := by decide +kernel
theorem dX11_told_16 : decode cX11_told 16 = .ok (.aload_n 0, 1) := by decide +kernel
theorem dX11_told_17 : decode cX11_told 17 = .ok (.getfield 32, 3) := by decide +kernel
theorem dX11_told_20 : decode cX11_told 20 = .ok (.iload_n 1, 1) := by decide +kernel
theorem dX11_told_21 : decode cX11_told 21 = .ok (.iaload, 1) := by decide +kernel
theorem dX11_told_22 : decode cX11_told 22 = .ok (.ireturn, 1) := by decide +kernel
theorem dX11_error_0 : decode cX11_error 0 = .ok (.aload_n 0, 1) := by decide +kernel
theorem dX11_error_1 : decode cX11_error 1 = .ok (.getfield 32, 3) := by decide +kernel
theorem dX11_error_4 : decode cX11_error 4 = .ok (.iload_n 1, 1) := by decide +kernel
theorem dX11_error_5 : decode cX11_error 5 = .ok (.dup2, 1) := by decide +kernel
theorem dX11_error_6 : decode cX11_error 6 = .ok (.iaload, 1) := by decide +kernel
theorem dX11_error_7 : decode cX11_error 7 = .ok (.iconst 1, 1) := by decide +kernel
theorem dX11_error_8 : decode cX11_error 8 = .ok (.iadd, 1) := by decide +kernel
theorem dX11_error_9 : decode cX11_error 9 = .ok (.iastore, 1) := by decide +kernel
theorem dX11_error_10 : decode cX11_error 10 = .ok (.ldc_w 332, 3) := by decide +kernel
theorem dX11_error_13 : decode cX11_error 13 = .ok (.iload_n 1, 1) := by decide +kernel
theorem dX11_error_14 : decode cX11_error 14 = .ok (.isub, 1) := by decide +kernel
theorem dX11_error_15 : decode cX11_error 15 = .ok (.ireturn, 1) := by decide +kernel
theorem dX11_isWindow_0 : decode cX11_isWindow 0 = .ok (.iload_n 1, 1) := by decide +kernel
theorem dX11_isWindow_1 : decode cX11_isWindow 1 = .ok (.ifCond .lt 18, 3) := by decide +kernel
theorem dX11_isWindow_4 : decode cX11_isWindow 4 = .ok (.iload_n 1, 1) := by decide +kernel
theorem dX11_isWindow_5 : decode cX11_isWindow 5 = .ok (.aload_n 0, 1) := by decide +kernel
theorem dX11_isWindow_6 : decode cX11_isWindow 6 = .ok (.getfield 66, 3) := by decide +kernel
theorem dX11_isWindow_9 : decode cX11_isWindow 9 = .ok (.getfield 96, 3) := by decide +kernel
theorem dX11_isWindow_12 : decode cX11_isWindow 12 = .ok (.if_icmp .ge 7, 3) := by decide +kernel
theorem dX11_isWindow_15 : decode cX11_isWindow 15 = .ok (.iconst 1, 1) := by decide +kernel
theorem dX11_isWindow_16 : decode cX11_isWindow 16 = .ok (.goto 4, 3) := by decide +kernel
theorem dX11_isWindow_19 : decode cX11_isWindow 19 = .ok (.iconst 0, 1) := by decide +kernel
theorem dX11_isWindow_20 : decode cX11_isWindow 20 = .ok (.ireturn, 1) := by decide +kernel
theorem dX11_isLodger_0 : decode cX11_isLodger 0 = .ok (.iload_n 1, 1) := by decide +kernel
theorem dX11_isLodger_1 : decode cX11_isLodger 1 = .ok (.ifCond .lt 18, 3) := by decide +kernel
theorem dX11_isLodger_4 : decode cX11_isLodger 4 = .ok (.iload_n 1, 1) := by decide +kernel
theorem dX11_isLodger_5 : decode cX11_isLodger 5 = .ok (.aload_n 0, 1) := by decide +kernel
theorem dX11_isLodger_6 : decode cX11_isLodger 6 = .ok (.getfield 66, 3) := by decide +kernel
theorem dX11_isLodger_9 : decode cX11_isLodger 9 = .ok (.getfield 163, 3) := by decide +kernel
theorem dX11_isLodger_12 : decode cX11_isLodger 12 = .ok (.if_icmp .ge 7, 3) := by decide +kernel
theorem dX11_isLodger_15 : decode cX11_isLodger 15 = .ok (.iconst 1, 1) := by decide +kernel
theorem dX11_isLodger_16 : decode cX11_isLodger 16 = .ok (.goto 4, 3) := by decide +kernel
theorem dX11_isLodger_19 : decode cX11_isLodger 19 = .ok (.iconst 0, 1) := by decide +kernel
theorem dX11_isLodger_20 : decode cX11_isLodger 20 = .ok (.ireturn, 1) := by decide +kernel
theorem dX11_isRoom_0 : decode cX11_isRoom 0 = .ok (.iload_n 0, 1) := by decide +kernel
theorem dX11_isRoom_1 : decode cX11_isRoom 1 = .ok (.ifCond .lt 13, 3) := by decide +kernel
theorem dX11_isRoom_4 : decode cX11_isRoom 4 = .ok (.iload_n 0, 1) := by decide +kernel
theorem dX11_isRoom_5 : decode cX11_isRoom 5 = .ok (.bipush 9, 2) := by decide +kernel
theorem dX11_isRoom_7 : decode cX11_isRoom 7 = .ok (.if_icmp .ge 7, 3) := by decide +kernel
theorem dX11_isRoom_10 : decode cX11_isRoom 10 = .ok (.iconst 1, 1) := by decide +kernel
theorem dX11_isRoom_11 : decode cX11_isRoom 11 = .ok (.goto 4, 3) := by decide +kernel
theorem dX11_isRoom_14 : decode cX11_isRoom 14 = .ok (.iconst 0, 1) := by decide +kernel
theorem dX11_isRoom_15 : decode cX11_isRoom 15 = .ok (.ireturn, 1) := by decide +kernel
theorem dX11_isNotch_0 : decode cX11_isNotch 0 = .ok (.iload_n 0, 1) := by decide +kernel
theorem dX11_isNotch_1 : decode cX11_isNotch 1 = .ok (.ifCond .lt 13, 3) := by decide +kernel
theorem dX11_isNotch_4 : decode cX11_isNotch 4 = .ok (.iload_n 0, 1) := by decide +kernel
theorem dX11_isNotch_5 : decode cX11_isNotch 5 = .ok (.bipush 9, 2) := by decide +kernel
theorem dX11_isNotch_7 : decode cX11_isNotch 7 = .ok (.if_icmp .gt 7, 3) := by decide +kernel
theorem dX11_isNotch_10 : decode cX11_isNotch 10 = .ok (.iconst 1, 1) := by decide +kernel
theorem dX11_isNotch_11 : decode cX11_isNotch 11 = .ok (.goto 4, 3) := by decide +kernel
theorem dX11_isNotch_14 : decode cX11_isNotch 14 = .ok (.iconst 0, 1) := by decide +kernel
theorem dX11_isNotch_15 : decode cX11_isNotch 15 = .ok (.ireturn, 1) := by decide +kernel
theorem dX11_isKindAndNumber_0 : decode cX11_isKindAndNumber 0 = .ok (.iload_n 0, 1) := by decide +kernel
theorem dX11_isKindAndNumber_1 : decode cX11_isKindAndNumber 1 = .ok (.ifCond .lt 13, 3) := by decide +kernel
theorem dX11_isKindAndNumber_4 : decode cX11_isKindAndNumber 4 = .ok (.iload_n 0, 1) := by decide +kernel
theorem dX11_isKindAndNumber_5 : decode cX11_isKindAndNumber 5 = .ok (.bipush 70, 2) := by decide +kernel
theorem dX11_isKindAndNumber_7 : decode cX11_isKindAndNumber 7 = .ok (.if_icmp .ge 7, 3) := by decide +kernel
theorem dX11_isKindAndNumber_10 : decode cX11_isKindAndNumber 10 = .ok (.iconst 1, 1) := by decide +kernel
theorem dX11_isKindAndNumber_11 : decode cX11_isKindAndNumber 11 = .ok (.goto 4, 3) := by decide +kernel
theorem dX11_isKindAndNumber_14 : decode cX11_isKindAndNumber 14 = .ok (.iconst 0, 1) := by decide +kernel
theorem dX11_isKindAndNumber_15 : decode cX11_isKindAndNumber 15 = .ok (.ireturn, 1) := by decide +kernel
theorem dX11_isUse_0 : decode cX11_isUse 0 = .ok (.iload_n 0, 1) := by decide +kernel
theorem dX11_isUse_1 : decode cX11_isUse 1 = .ok (.ifCond .eq 8, 3) := by decide +kernel
theorem dX11_isUse_4 : decode cX11_isUse 4 = .ok (.iload_n 0, 1) := by decide +kernel
theorem dX11_isUse_5 : decode cX11_isUse 5 = .ok (.iconst 1, 1) := by decide +kernel
theorem dX11_isUse_6 : decode cX11_isUse 6 = .ok (.if_icmp .ne 7, 3) := by decide +kernel
theorem dX11_isUse_9 : decode cX11_isUse 9 = .ok (.iconst 1, 1) := by decide +kernel
theorem dX11_isUse_10 : decode cX11_isUse 10 = .ok (.goto 4, 3) := by decide +kernel
theorem dX11_isUse_13 : decode cX11_isUse 13 = .ok (.iconst 0, 1) := by decide +kernel
theorem dX11_isUse_14 : decode cX11_isUse 14 = .ok (.ireturn, 1) := by decide +kernel
theorem dX11_isSheet_0 : decode cX11_isSheet 0 = .ok (.iload_n 0, 1) := by decide +kernel
theorem dX11_isSheet_1 : decode cX11_isSheet 1 = .ok (.ifCond .lt 12, 3) := by decide +kernel
theorem dX11_isSheet_4 : decode cX11_isSheet 4 = .ok (.iload_n 0, 1) := by decide +kernel
theorem dX11_isSheet_5 : decode cX11_isSheet 5 = .ok (.iconst 4, 1) := by decide +kernel
theorem dX11_isSheet_6 : decode cX11_isSheet 6 = .ok (.if_icmp .ge 7, 3) := by decide +kernel
theorem dX11_isSheet_9 : decode cX11_isSheet 9 = .ok (.iconst 1, 1) := by decide +kernel
theorem dX11_isSheet_10 : decode cX11_isSheet 10 = .ok (.goto 4, 3) := by decide +kernel
theorem dX11_isSheet_13 : decode cX11_isSheet 13 = .ok (.iconst 0, 1) := by decide +kernel
theorem dX11_isSheet_14 : decode cX11_isSheet 14 = .ok (.ireturn, 1) := by decide +kernel
theorem dX11_isUnder_0 : decode cX11_isUnder 0 = .ok (.iload_n 0, 1) := by decide +kernel
theorem dX11_isUnder_1 : decode cX11_isUnder 1 = .ok (.istore_n 2, 1) := by decide +kernel
theorem dX11_isUnder_2 : decode cX11_isUnder 2 = .ok (.iconst 0, 1) := by decide +kernel
theorem dX11_isUnder_3 : decode cX11_isUnder 3 = .ok (.istore_n 3, 1) := by decide +kernel
theorem dX11_isUnder_4 : decode cX11_isUnder 4 = .ok (.iload_n 3, 1) := by decide +kernel
theorem dX11_isUnder_5 : decode cX11_isUnder 5 = .ok (.bipush 7, 2) := by decide +kernel
theorem dX11_isUnder_7 : decode cX11_isUnder 7 = .ok (.if_icmp .ge 26, 3) := by decide +kernel
theorem dX11_isUnder_10 : decode cX11_isUnder 10 = .ok (.iload_n 2, 1) := by decide +kernel
theorem dX11_isUnder_11 : decode cX11_isUnder 11 = .ok (.ifCond .lt 22, 3) := by decide +kernel
theorem dX11_isUnder_14 : decode cX11_isUnder 14 = .ok (.iload_n 2, 1) := by decide +kernel
theorem dX11_isUnder_15 : decode cX11_isUnder 15 = .ok (.iload_n 1, 1) := by decide +kernel
theorem dX11_isUnder_16 : decode cX11_isUnder 16 = .ok (.if_icmp .ne 5, 3) := by decide +kernel
theorem dX11_isUnder_19 : decode cX11_isUnder 19 = .ok (.iconst 1, 1) := by decide +kernel
theorem dX11_isUnder_20 : decode cX11_isUnder 20 = .ok (.ireturn, 1) := by decide +kernel
theorem dX11_isUnder_21 : decode cX11_isUnder 21 = .ok (.getstatic 333, 3) := by decide +kernel
theorem dX11_isUnder_24 : decode cX11_isUnder 24 = .ok (.iload_n 2, 1) := by decide +kernel
theorem dX11_isUnder_25 : decode cX11_isUnder 25 = .ok (.iaload, 1) := by decide +kernel
theorem dX11_isUnder_26 : decode cX11_isUnder 26 = .ok (.istore_n 2, 1) := by decide +kernel
theorem dX11_isUnder_27 : decode cX11_isUnder 27 = .ok (.iinc 3 1, 3) := by decide +kernel
theorem dX11_isUnder_30 : decode cX11_isUnder 30 = .ok (.goto (-26), 3) := by decide +kernel
theorem dX11_isUnder_33 : decode cX11_isUnder 33 = .ok (.iconst 0, 1) := by decide +kernel
theorem dX11_isUnder_34 : decode cX11_isUnder 34 = .ok (.ireturn, 1) := by decide +kernel
theorem dX11_waysToOpen_0 : decode cX11_waysToOpen 0 = .ok (.iload_n 0, 1) := by decide +kernel
theorem dX11_waysToOpen_1 : decode cX11_waysToOpen 1 = .ok (.iconst 2, 1) := by decide +kernel
theorem dX11_waysToOpen_2 : decode cX11_waysToOpen 2 = .ok (.if_icmp .ge 5, 3) := by decide +kernel
theorem dX11_waysToOpen_5 : decode cX11_waysToOpen 5 = .ok (.iconst 1, 1) := by decide +kernel
theorem dX11_waysToOpen_6 : decode cX11_waysToOpen 6 = .ok (.ireturn, 1) := by decide +kernel
theorem dX11_waysToOpen_7 : decode cX11_waysToOpen 7 = .ok (.iload_n 0, 1) := by decide +kernel
theorem dX11_waysToOpen_8 : decode cX11_waysToOpen 8 = .ok (.iconst 2, 1) := by decide +kernel
theorem dX11_waysToOpen_9 : decode cX11_waysToOpen 9 = .ok (.if_icmp .ne 8, 3) := by decide +kernel
theorem dX11_waysToOpen_12 : decode cX11_waysToOpen 12 = .ok (.iload_n 1, 1) := by decide +kernel
theorem dX11_waysToOpen_13 : decode cX11_waysToOpen 13 = .ok (.invokestatic 336, 3) := by decide +kernel
theorem dX11_waysToOpen_16 : decode cX11_waysToOpen 16 = .ok (.ireturn, 1) := by decide +kernel
theorem dX11_waysToOpen_17 : decode cX11_waysToOpen 17 = .ok (.iconst 0, 1) := by decide +kernel
theorem dX11_waysToOpen_18 : decode cX11_waysToOpen 18 = .ok (.istore_n 2, 1) := by decide +kernel
theorem dX11_waysToOpen_19 : decode cX11_waysToOpen 19 = .ok (.iconst 0, 1) := by decide +kernel
theorem dX11_waysToOpen_20 : decode cX11_waysToOpen 20 = .ok (.istore_n 3, 1) := by decide +kernel
theorem dX11_waysToOpen_21 : decode cX11_waysToOpen 21 = .ok (.iload_n 3, 1) := by decide +kernel
theorem dX11_waysToOpen_22 : decode cX11_waysToOpen 22 = .ok (.bipush 9, 2) := by decide +kernel
theorem dX11_waysToOpen_24 : decode cX11_waysToOpen 24 = .ok (.if_icmp .gt 18, 3) := by decide +kernel
theorem dX11_waysToOpen_27 : decode cX11_waysToOpen 27 = .ok (.iload_n 2, 1) := by decide +kernel
theorem dX11_waysToOpen_28 : decode cX11_waysToOpen 28 = .ok (.iload_n 1, 1) := by decide +kernel
theorem dX11_waysToOpen_29 : decode cX11_waysToOpen 29 = .ok (.iload_n 3, 1) := by decide +kernel
theorem dX11_waysToOpen_30 : decode cX11_waysToOpen 30 = .ok (.isub, 1) := by decide +kernel
theorem dX11_waysToOpen_31 : decode cX11_waysToOpen 31 = .ok (.invokestatic 336, 3) := by decide +kernel
theorem dX11_waysToOpen_34 : decode cX11_waysToOpen 34 = .ok (.iadd, 1) := by decide +kernel
theorem dX11_waysToOpen_35 : decode cX11_waysToOpen 35 = .ok (.istore_n 2, 1) := by decide +kernel
theorem dX11_waysToOpen_36 : decode cX11_waysToOpen 36 = .ok (.iinc 3 1, 3) := by decide +kernel
theorem dX11_waysToOpen_39 : decode cX11_waysToOpen 39 = .ok (.goto (-18), 3) := by decide +kernel
theorem dX11_waysToOpen_42 : decode cX11_waysToOpen 42 = .ok (.iload_n 2, 1) := by decide +kernel
theorem dX11_waysToOpen_43 : decode cX11_waysToOpen 43 = .ok (.ireturn, 1) := by decide +kernel
theorem dX11_waysOfTwo_0 : decode cX11_waysOfTwo 0 = .ok (.iload_n 0, 1) := by decide +kernel
theorem dX11_waysOfTwo_1 : decode cX11_waysOfTwo 1 = .ok (.ifCond .lt 9, 3) := by decide +kernel
theorem dX11_waysOfTwo_4 : decode cX11_waysOfTwo 4 = .ok (.iload_n 0, 1) := by decide +kernel
theorem dX11_waysOfTwo_5 : decode cX11_waysOfTwo 5 = .ok (.bipush 18, 2) := by decide +kernel
theorem dX11_waysOfTwo_7 : decode cX11_waysOfTwo 7 = .ok (.if_icmp .le 5, 3) := by decide +kernel
theorem dX11_waysOfTwo_10 : decode cX11_waysOfTwo 10 = .ok (.iconst 0, 1) := by decide +kernel
theorem dX11_waysOfTwo_11 : decode cX11_waysOfTwo 11 = .ok (.ireturn, 1) := by decide +kernel
theorem dX11_waysOfTwo_12 : decode cX11_waysOfTwo 12 = .ok (.iload_n 0, 1) := by decide +kernel
theorem dX11_waysOfTwo_13 : decode cX11_waysOfTwo 13 = .ok (.bipush 9, 2) := by decide +kernel
theorem dX11_waysOfTwo_15 : decode cX11_waysOfTwo 15 = .ok (.if_icmp .gt 9, 3) := by decide +kernel
theorem dX11_waysOfTwo_18 : decode cX11_waysOfTwo 18 = .ok (.iload_n 0, 1) := by decide +kernel
theorem dX11_waysOfTwo_19 : decode cX11_waysOfTwo 19 = .ok (.iconst 1, 1) := by decide +kernel
theorem dX11_waysOfTwo_20 : decode cX11_waysOfTwo 20 = .ok (.iadd, 1) := by decide +kernel
theorem dX11_waysOfTwo_21 : decode cX11_waysOfTwo 21 = .ok (.goto 7, 3) := by decide +kernel
theorem dX11_waysOfTwo_24 : decode cX11_waysOfTwo 24 = .ok (.bipush 19, 2) := by decide +kernel
theorem dX11_waysOfTwo_26 : decode cX11_waysOfTwo 26 = .ok (.iload_n 0, 1) := by decide +kernel
theorem dX11_waysOfTwo_27 : decode cX11_waysOfTwo 27 = .ok (.isub, 1) := by decide +kernel
theorem dX11_waysOfTwo_28 : decode cX11_waysOfTwo 28 = .ok (.ireturn, 1) := by decide +kernel
theorem dX11_contentIfSwapped_0 : decode cX11_contentIfSwapped 0 = .ok (.aload_n 0, 1) := by decide +kernel
theorem dX11_contentIfSwapped_1 : decode cX11_contentIfSwapped 1 = .ok (.getfield 70, 3) := by decide +kernel
theorem dX11_contentIfSwapped_4 : decode cX11_contentIfSwapped 4 = .ok (.aload_n 0, 1) := by decide +kernel
theorem dX11_contentIfSwapped_5 : decode cX11_contentIfSwapped 5 = .ok (.getfield 66, 3) := by decide +kernel
theorem dX11_contentIfSwapped_8 : decode cX11_contentIfSwapped 8 = .ok (.invokevirtual 253, 3) := by decide +kernel
theorem dX11_contentIfSwapped_11 : decode cX11_contentIfSwapped 11 = .ok (.aload_n 0, 1) := by decide +kernel
theorem dX11_contentIfSwapped_12 : decode cX11_contentIfSwapped 12 = .ok (.getfield 70, 3) := by decide +kernel
theorem dX11_contentIfSwapped_15 : decode cX11_contentIfSwapped 15 = .ok (.iload_n 1, 1) := by decide +kernel
theorem dX11_contentIfSwapped_16 : decode cX11_contentIfSwapped 16 = .ok (.iload_n 2, 1) := by decide +kernel
theorem dX11_contentIfSwapped_17 : decode cX11_contentIfSwapped 17 = .ok (.invokevirtual 154, 3) := by decide +kernel
theorem dX11_contentIfSwapped_20 : decode cX11_contentIfSwapped 20 = .ok (.aload_n 0, 1) := by decide +kernel
theorem dX11_contentIfSwapped_21 : decode cX11_contentIfSwapped 21 = .ok (.getfield 70, 3) := by decide +kernel
theorem dX11_contentIfSwapped_24 : decode cX11_contentIfSwapped 24 = .ok (.invokevirtual 256, 3) := by decide +kernel
theorem dX11_contentIfSwapped_27 : decode cX11_contentIfSwapped 27 = .ok (.pop, 1) := by decide +kernel
theorem dX11_contentIfSwapped_28 : decode cX11_contentIfSwapped 28 = .ok (.aload_n 0, 1) := by decide +kernel
theorem dX11_contentIfSwapped_29 : decode cX11_contentIfSwapped 29 = .ok (.getfield 70, 3) := by decide +kernel
theorem dX11_contentIfSwapped_32 : decode cX11_contentIfSwapped 32 = .ok (.invokevirtual 200, 3) := by decide +kernel
theorem dX11_contentIfSwapped_35 : decode cX11_contentIfSwapped 35 = .ok (.invokestatic 103, 3) := by decide +kernel
theorem dX11_contentIfSwapped_38 : decode cX11_contentIfSwapped 38 = .ok (.ireturn, 1) := by decide +kernel
theorem dX11_wouldStandSo_0 : decode cX11_wouldStandSo 0 = .ok (.aload_n 0, 1) := by decide +kernel
theorem dX11_wouldStandSo_1 : decode cX11_wouldStandSo 1 = .ok (.getfield 70, 3) := by decide +kernel
theorem dX11_wouldStandSo_4 : decode cX11_wouldStandSo 4 = .ok (.aload_n 0, 1) := by decide +kernel
theorem dX11_wouldStandSo_5 : decode cX11_wouldStandSo 5 = .ok (.getfield 66, 3) := by decide +kernel
theorem dX11_wouldStandSo_8 : decode cX11_wouldStandSo 8 = .ok (.invokevirtual 253, 3) := by decide +kernel
theorem dX11_wouldStandSo_11 : decode cX11_wouldStandSo 11 = .ok (.aload_n 0, 1) := by decide +kernel
theorem dX11_wouldStandSo_12 : decode cX11_wouldStandSo 12 = .ok (.getfield 70, 3) := by decide +kernel
theorem dX11_wouldStandSo_15 : decode cX11_wouldStandSo 15 = .ok (.iload_n 1, 1) := by decide +kernel
theorem dX11_wouldStandSo_16 : decode cX11_wouldStandSo 16 = .ok (.invokevirtual 232, 3) := by decide +kernel
theorem dX11_wouldStandSo_19 : decode cX11_wouldStandSo 19 = .ok (.ifCond .le 18, 3) := by decide +kernel
theorem dX11_wouldStandSo_22 : decode cX11_wouldStandSo 22 = .ok (.aload_n 0, 1) := by decide +kernel
theorem dX11_wouldStandSo_23 : decode cX11_wouldStandSo 23 = .ok (.getfield 70, 3) := by decide +kernel
theorem dX11_wouldStandSo_26 : decode cX11_wouldStandSo 26 = .ok (.aload_n 2, 1) := by decide +kernel
theorem dX11_wouldStandSo_27 : decode cX11_wouldStandSo 27 = .ok (.invokevirtual 322, 3) := by decide +kernel
theorem dX11_wouldStandSo_30 : decode cX11_wouldStandSo 30 = .ok (.ifCond .ge 7, 3) := by decide +kernel
theorem dX11_wouldStandSo_33 : decode cX11_wouldStandSo 33 = .ok (.iconst 1, 1) := by decide +kernel
theorem dX11_wouldStandSo_34 : decode cX11_wouldStandSo 34 = .ok (.goto 4, 3) := by decide +kernel
theorem dX11_wouldStandSo_37 : decode cX11_wouldStandSo 37 = .ok (.iconst 0, 1) := by decide +kernel
theorem dX11_wouldStandSo_38 : decode cX11_wouldStandSo 38 = .ok (.ireturn, 1) := by decide +kernel
theorem dJ6_bitCount_0f7a4_0 : decode cJ6_bitCount_0f7a4 0 = .ok (.iload_n 0, 1) := by decide +kernel
theorem dJ6_bitCount_0f7a4_1 : decode cJ6_bitCount_0f7a4 1 = .ok (.iload_n 0, 1) := by decide +kernel
theorem dJ6_bitCount_0f7a4_2 : decode cJ6_bitCount_0f7a4 2 = .ok (.iconst 1, 1) := by decide +kernel
theorem dJ6_bitCount_0f7a4_3 : decode cJ6_bitCount_0f7a4 3 = .ok (.iushr, 1) := by decide +kernel
theorem dJ6_bitCount_0f7a4_4 : decode cJ6_bitCount_0f7a4 4 = .ok (.ldc_w 265, 3) := by decide +kernel
theorem dJ6_bitCount_0f7a4_7 : decode cJ6_bitCount_0f7a4 7 = .ok (.iand, 1) := by decide +kernel
theorem dJ6_bitCount_0f7a4_8 : decode cJ6_bitCount_0f7a4 8 = .ok (.isub, 1) := by decide +kernel
theorem dJ6_bitCount_0f7a4_9 : decode cJ6_bitCount_0f7a4 9 = .ok (.istore_n 0, 1) := by decide +kernel
theorem dJ6_bitCount_0f7a4_10 : decode cJ6_bitCount_0f7a4 10 = .ok (.iload_n 0, 1) := by decide +kernel
theorem dJ6_bitCount_0f7a4_11 : decode cJ6_bitCount_0f7a4 11 = .ok (.ldc_w 266, 3) := by decide +kernel
theorem dJ6_bitCount_0f7a4_14 : decode cJ6_bitCount_0f7a4 14 = .ok (.iand, 1) := by decide +kernel
theorem dJ6_bitCount_0f7a4_15 : decode cJ6_bitCount_0f7a4 15 = .ok (.iload_n 0, 1) := by decide +kernel
theorem dJ6_bitCount_0f7a4_16 : decode cJ6_bitCount_0f7a4 16 = .ok (.iconst 2, 1) := by decide +kernel
theorem dJ6_bitCount_0f7a4_17 : decode cJ6_bitCount_0f7a4 17 = .ok (.iushr, 1) := by decide +kernel
theorem dJ6_bitCount_0f7a4_18 : decode cJ6_bitCount_0f7a4 18 = .ok (.ldc_w 266, 3) := by decide +kernel
theorem dJ6_bitCount_0f7a4_21 : decode cJ6_bitCount_0f7a4 21 = .ok (.iand, 1) := by decide +kernel
theorem dJ6_bitCount_0f7a4_22 : decode cJ6_bitCount_0f7a4 22 = .ok (.iadd, 1) := by decide +kernel
theorem dJ6_bitCount_0f7a4_23 : decode cJ6_bitCount_0f7a4 23 = .ok (.istore_n 0, 1) := by decide +kernel
theorem dJ6_bitCount_0f7a4_24 : decode cJ6_bitCount_0f7a4 24 = .ok (.iload_n 0, 1) := by decide +kernel
theorem dJ6_bitCount_0f7a4_25 : decode cJ6_bitCount_0f7a4 25 = .ok (.iload_n 0, 1) := by decide +kernel
theorem dJ6_bitCount_0f7a4_26 : decode cJ6_bitCount_0f7a4 26 = .ok (.iconst 4, 1) := by decide +kernel
theorem dJ6_bitCount_0f7a4_27 : decode cJ6_bitCount_0f7a4 27 = .ok (.iushr, 1) := by decide +kernel
theorem dJ6_bitCount_0f7a4_28 : decode cJ6_bitCount_0f7a4 28 = .ok (.iadd, 1) := by decide +kernel
theorem dJ6_bitCount_0f7a4_29 : decode cJ6_bitCount_0f7a4 29 = .ok (.ldc_w 267, 3) := by decide +kernel
theorem dJ6_bitCount_0f7a4_32 : decode cJ6_bitCount_0f7a4 32 = .ok (.iand, 1) := by decide +kernel
theorem dJ6_bitCount_0f7a4_33 : decode cJ6_bitCount_0f7a4 33 = .ok (.istore_n 0, 1) := by decide +kernel
theorem dJ6_bitCount_0f7a4_34 : decode cJ6_bitCount_0f7a4 34 = .ok (.iload_n 0, 1) := by decide +kernel
theorem dJ6_bitCount_0f7a4_35 : decode cJ6_bitCount_0f7a4 35 = .ok (.iload_n 0, 1) := by decide +kernel
theorem dJ6_bitCount_0f7a4_36 : decode cJ6_bitCount_0f7a4 36 = .ok (.bipush 8, 2) := by decide +kernel
theorem dJ6_bitCount_0f7a4_38 : decode cJ6_bitCount_0f7a4 38 = .ok (.iushr, 1) := by decide +kernel
theorem dJ6_bitCount_0f7a4_39 : decode cJ6_bitCount_0f7a4 39 = .ok (.iadd, 1) := by decide +kernel
theorem dJ6_bitCount_0f7a4_40 : decode cJ6_bitCount_0f7a4 40 = .ok (.istore_n 0, 1) := by decide +kernel
theorem dJ6_bitCount_0f7a4_41 : decode cJ6_bitCount_0f7a4 41 = .ok (.iload_n 0, 1) := by decide +kernel
theorem dJ6_bitCount_0f7a4_42 : decode cJ6_bitCount_0f7a4 42 = .ok (.iload_n 0, 1) := by decide +kernel
theorem dJ6_bitCount_0f7a4_43 : decode cJ6_bitCount_0f7a4 43 = .ok (.bipush 16, 2) := by decide +kernel
theorem dJ6_bitCount_0f7a4_45 : decode cJ6_bitCount_0f7a4 45 = .ok (.iushr, 1) := by decide +kernel
theorem dJ6_bitCount_0f7a4_46 : decode cJ6_bitCount_0f7a4 46 = .ok (.iadd, 1) := by decide +kernel
theorem dJ6_bitCount_0f7a4_47 : decode cJ6_bitCount_0f7a4 47 = .ok (.istore_n 0, 1) := by decide +kernel
theorem dJ6_bitCount_0f7a4_48 : decode cJ6_bitCount_0f7a4 48 = .ok (.iload_n 0, 1) := by decide +kernel
theorem dJ6_bitCount_0f7a4_49 : decode cJ6_bitCount_0f7a4 49 = .ok (.bipush 63, 2) := by decide +kernel
theorem dJ6_bitCount_0f7a4_51 : decode cJ6_bitCount_0f7a4 51 = .ok (.iand, 1) := by decide +kernel
theorem dJ6_bitCount_0f7a4_52 : decode cJ6_bitCount_0f7a4 52 = .ok (.ireturn, 1) := by decide +kernel
theorem dJ7_fill_53178_0 : decode cJ7_fill_53178 0 = .ok (.iconst 0, 1) := by decide +kernel
theorem dJ7_fill_53178_1 : decode cJ7_fill_53178 1 = .ok (.istore_n 2, 1) := by decide +kernel
theorem dJ7_fill_53178_2 : decode cJ7_fill_53178 2 = .ok (.aload_n 0, 1) := by decide +kernel
theorem dJ7_fill_53178_3 : decode cJ7_fill_53178 3 = .ok (.arraylength, 1) := by decide +kernel
theorem dJ7_fill_53178_4 : decode cJ7_fill_53178 4 = .ok (.istore_n 3, 1) := by decide +kernel
theorem dJ7_fill_53178_5 : decode cJ7_fill_53178 5 = .ok (.iload_n 2, 1) := by decide +kernel
theorem dJ7_fill_53178_6 : decode cJ7_fill_53178 6 = .ok (.iload_n 3, 1) := by decide +kernel
theorem dJ7_fill_53178_7 : decode cJ7_fill_53178 7 = .ok (.if_icmp .ge 13, 3) := by decide +kernel
theorem dJ7_fill_53178_10 : decode cJ7_fill_53178 10 = .ok (.aload_n 0, 1) := by decide +kernel
theorem dJ7_fill_53178_11 : decode cJ7_fill_53178 11 = .ok (.iload_n 2, 1) := by decide +kernel
theorem dJ7_fill_53178_12 : decode cJ7_fill_53178 12 = .ok (.iload_n 1, 1) := by decide +kernel
theorem dJ7_fill_53178_13 : decode cJ7_fill_53178 13 = .ok (.iastore, 1) := by decide +kernel
theorem dJ7_fill_53178_14 : decode cJ7_fill_53178 14 = .ok (.iinc 2 1, 3) := by decide +kernel
theorem dJ7_fill_53178_17 : decode cJ7_fill_53178 17 = .ok (.goto (-12), 3) := by decide +kernel
theorem dJ7_fill_53178_20 : decode cJ7_fill_53178 20 = .ok (.return_, 1) := by decide +kernel
