theorem dX9_init_0 : decode cX9_init 0 = .ok (.aload_n 0, 1) := by decide +kernel
theorem dX9_init_1 : decode cX9_init 1 = .ok (.invokespecial 1, 3) := by decide +kernel
theorem dX9_init_4 : decode cX9_init 4 = .ok (.aload_n 0, 1) := by decide +kernel
theorem dX9_init_5 : decode cX9_init 5 = .ok (.new 7, 3) := by decide +kernel
theorem dX9_init_8 : decode cX9_init 8 = .ok (.dup, 1) := by decide +kernel
theorem dX9_init_9 : decode cX9_init 9 = .ok (.invokespecial 9, 3) := by decide +kernel
theorem dX9_init_12 : decode cX9_init 12 = .ok (.putfield 10, 3) := by decide +kernel
theorem dX9_init_15 : decode cX9_init 15 = .ok (.aload_n 0, 1) := by decide +kernel
theorem dX9_init_16 : decode cX9_init 16 = .ok (.iconst 4, 1) := by decide +kernel
theorem dX9_init_17 : decode cX9_init 17 = .ok (.iconst 5, 1) := by decide +kernel
theorem dX9_init_18 : decode cX9_init 18 = .ok (.multianewarray 16 2, 4) := by decide +kernel
theorem dX9_init_22 : decode cX9_init 22 = .ok (.putfield 18, 3) := by decide +kernel
theorem dX9_init_25 : decode cX9_init 25 = .ok (.aload_n 0, 1) := by decide +kernel
theorem dX9_init_26 : decode cX9_init 26 = .ok (.iconst 4, 1) := by decide +kernel
theorem dX9_init_27 : decode cX9_init 27 = .ok (.newarray .int, 2) := by decide +kernel
theorem dX9_init_29 : decode cX9_init 29 = .ok (.putfield 21, 3) := by decide +kernel
theorem dX9_init_32 : decode cX9_init 32 = .ok (.aload_n 0, 1) := by decide +kernel
theorem dX9_init_33 : decode cX9_init 33 = .ok (.iconst 4, 1) := by decide +kernel
theorem dX9_init_34 : decode cX9_init 34 = .ok (.newarray .int, 2) := by decide +kernel
theorem dX9_init_36 : decode cX9_init 36 = .ok (.putfield 25, 3) := by decide +kernel
theorem dX9_init_39 : decode cX9_init 39 = .ok (.aload_n 0, 1) := by decide +kernel
theorem dX9_init_40 : decode cX9_init 40 = .ok (.iconst 5, 1) := by decide +kernel
theorem dX9_init_41 : decode cX9_init 41 = .ok (.iconst 5, 1) := by decide +kernel
theorem dX9_init_42 : decode cX9_init 42 = .ok (.multianewarray 16 2, 4) := by decide +kernel
theorem dX9_init_46 : decode cX9_init 46 = .ok (.putfield 28, 3) := by decide +kernel
theorem dX9_init_49 : decode cX9_init 49 = .ok (.aload_n 0, 1) := by decide +kernel
theorem dX9_init_50 : decode cX9_init 50 = .ok (.iconst 5, 1) := by decide +kernel
theorem dX9_init_51 : decode cX9_init 51 = .ok (.iconst 5, 1) := by decide +kernel
theorem dX9_init_52 : decode cX9_init 52 = .ok (.multianewarray 16 2, 4) := by decide +kernel
theorem dX9_init_56 : decode cX9_init 56 = .ok (.putfield 31, 3) := by decide +kernel
theorem dX9_init_59 : decode cX9_init 59 = .ok (.aload_n 0, 1) := by decide +kernel
theorem dX9_init_60 : decode cX9_init 60 = .ok (.iconst 1, 1) := by decide +kernel
theorem dX9_init_61 : decode cX9_init 61 = .ok (.putfield 34, 3) := by decide +kernel
theorem dX9_init_64 : decode cX9_init 64 = .ok (.aload_n 0, 1) := by decide +kernel
theorem dX9_init_65 : decode cX9_init 65 = .ok (.bipush 6, 2) := by decide +kernel
theorem dX9_init_67 : decode cX9_init 67 = .ok (.newarray .int, 2) := by decide +kernel
theorem dX9_init_69 : decode cX9_init 69 = .ok (.putfield 38, 3) := by decide +kernel
theorem dX9_init_72 : decode cX9_init 72 = .ok (.aload_n 0, 1) := by decide +kernel
theorem dX9_init_73 : decode cX9_init 73 = .ok (.bipush 6, 2) := by decide +kernel
theorem dX9_init_75 : decode cX9_init 75 = .ok (.newarray .int, 2) := by decide +kernel
theorem dX9_init_77 : decode cX9_init 77 = .ok (.putfield 41, 3) := by decide +kernel
theorem dX9_init_80 : decode cX9_init 80 = .ok (.aload_n 0, 1) := by decide +kernel
theorem dX9_init_81 : decode cX9_init 81 = .ok (.bipush 6, 2) := by decide +kernel
theorem dX9_init_83 : decode cX9_init 83 = .ok (.newarray .int, 2) := by decide +kernel
theorem dX9_init_85 : decode cX9_init 85 = .ok (.putfield 44, 3) := by decide +kernel
theorem dX9_init_88 : decode cX9_init 88 = .ok (.aload_n 0, 1) := by decide +kernel
theorem dX9_init_89 : decode cX9_init 89 = .ok (.bipush 6, 2) := by decide +kernel
theorem dX9_init_91 : decode cX9_init 91 = .ok (.newarray .int, 2) := by decide +kernel
theorem dX9_init_93 : decode cX9_init 93 = .ok (.putfield 47, 3) := by decide +kernel
theorem dX9_init_96 : decode cX9_init 96 = .ok (.aload_n 0, 1) := by decide +kernel
theorem dX9_init_97 : decode cX9_init 97 = .ok (.bipush 20, 2) := by decide +kernel
theorem dX9_init_99 : decode cX9_init 99 = .ok (.anewarray 50, 3) := by decide +kernel
theorem dX9_init_102 : decode cX9_init 102 = .ok (.putfield 51, 3) := by decide +kernel
theorem dX9_init_105 : decode cX9_init 105 = .ok (.aload_n 0, 1) := by decide +kernel
theorem dX9_init_106 : decode cX9_init 106 = .ok (.bipush 20, 2) := by decide +kernel
theorem dX9_init_108 : decode cX9_init 108 = .ok (.anewarray 50, 3) := by decide +kernel
theorem dX9_init_111 : decode cX9_init 111 = .ok (.putfield 55, 3) := by decide +kernel
theorem dX9_init_114 : decode cX9_init 114 = .ok (.aload_n 0, 1) := by decide +kernel
theorem dX9_init_115 : decode cX9_init 115 = .ok (.iconst 4, 1) := by decide +kernel
theorem dX9_init_116 : decode cX9_init 116 = .ok (.bipush 6, 2) := by decide +kernel
theorem dX9_init_118 : decode cX9_init 118 = .ok (.multianewarray 58 2, 4) := by decide +kernel
theorem dX9_init_122 : decode cX9_init 122 = .ok (.putfield 59, 3) := by decide +kernel
theorem dX9_init_125 : decode cX9_init 125 = .ok (.aload_n 0, 1) := by decide +kernel
theorem dX9_init_126 : decode cX9_init 126 = .ok (.aload_n 1, 1) := by decide +kernel
theorem dX9_init_127 : decode cX9_init 127 = .ok (.putfield 62, 3) := by decide +kernel
theorem dX9_init_130 : decode cX9_init 130 = .ok (.aload_n 0, 1) := by decide +kernel
theorem dX9_init_131 : decode cX9_init 131 = .ok (.iload_n 2, 1) := by decide +kernel
theorem dX9_init_132 : decode cX9_init 132 = .ok (.putfield 65, 3) := by decide +kernel
theorem dX9_init_135 : decode cX9_init 135 = .ok (.aload_n 0, 1) := by decide +kernel
theorem dX9_init_136 : decode cX9_init 136 = .ok (.getfield 38, 3) := by decide +kernel
theorem dX9_init_139 : decode cX9_init 139 = .ok (.iconst 0, 1) := by decide +kernel
theorem dX9_init_140 : decode cX9_init 140 = .ok (.iconst (-1), 1) := by decide +kernel
theorem dX9_init_141 : decode cX9_init 141 = .ok (.iastore, 1) := by decide +kernel
theorem dX9_init_142 : decode cX9_init 142 = .ok (.iconst 0, 1) := by decide +kernel
theorem dX9_init_143 : decode cX9_init 143 = .ok (.istore_n 3, 1) := by decide +kernel
theorem dX9_init_144 : decode cX9_init 144 = .ok (.iload_n 3, 1) := by decide +kernel
theorem dX9_init_145 : decode cX9_init 145 = .ok (.bipush 6, 2) := by decide +kernel
theorem dX9_init_147 : decode cX9_init 147 = .ok (.if_icmp .ge 16, 3) := by decide +kernel
theorem dX9_init_150 : decode cX9_init 150 = .ok (.aload_n 0, 1) := by decide +kernel
theorem dX9_init_151 : decode cX9_init 151 = .ok (.getfield 44, 3) := by decide +kernel
theorem dX9_init_154 : decode cX9_init 154 = .ok (.iload_n 3, 1) := by decide +kernel
theorem dX9_init_155 : decode cX9_init 155 = .ok (.iconst (-1), 1) := by decide +kernel
theorem dX9_init_156 : decode cX9_init 156 = .ok (.iastore, 1) := by decide +kernel
theorem dX9_init_157 : decode cX9_init 157 = .ok (.iinc 3 1, 3) := by decide +kernel
theorem dX9_init_160 : decode cX9_init 160 = .ok (.goto (-16), 3) := by decide +kernel
theorem dX9_init_163 : decode cX9_init 163 = .ok (.return_, 1) := by decide +kernel
theorem dX9_draw_0 : decode cX9_draw 0 = .ok (.aload_n 0, 1) := by decide +kernel
theorem dX9_draw_1 : decode cX9_draw 1 = .ok (.getfield 62, 3) := by decide +kernel
theorem dX9_draw_4 : decode cX9_draw 4 = .ok (.aload_n 0, 1) := by decide +kernel
theorem dX9_draw_5 : decode cX9_draw 5 = .ok (.getfield 65, 3) := by decide +kernel
theorem dX9_draw_8 : decode cX9_draw 8 = .ok (.bipush 24, 2) := by decide +kernel
theorem dX9_draw_10 : decode cX9_draw 10 = .ok (.irem, 1) := by decide +kernel
theorem dX9_draw_11 : decode cX9_draw 11 = .ok (.invokestatic 68, 3) := by decide +kernel
theorem dX9_draw_14 : decode cX9_draw 14 = .ok (.aload_n 0, 1) := by decide +kernel
theorem dX9_draw_15 : decode cX9_draw 15 = .ok (.getfield 65, 3) := by decide +kernel
theorem dX9_draw_18 : decode cX9_draw 18 = .ok (.bipush 24, 2) := by decide +kernel
theorem dX9_draw_20 : decode cX9_draw 20 = .ok (.idiv, 1) := by decide +kernel
theorem dX9_draw_21 : decode cX9_draw 21 = .ok (.bipush 8, 2) := by decide +kernel
theorem dX9_draw_23 : decode cX9_draw 23 = .ok (.irem, 1) := by decide +kernel
theorem dX9_draw_24 : decode cX9_draw 24 = .ok (.ishr, 1) := by decide +kernel
theorem dX9_draw_25 : decode cX9_draw 25 = .ok (.bipush 73, 2) := by decide +kernel
theorem dX9_draw_27 : decode cX9_draw 27 = .ok (.aload_n 0, 1) := by decide +kernel
theorem dX9_draw_28 : decode cX9_draw 28 = .ok (.getfield 65, 3) := by decide +kernel
theorem dX9_draw_31 : decode cX9_draw 31 = .ok (.imul, 1) := by decide +kernel
theorem dX9_draw_32 : decode cX9_draw 32 = .ok (.iadd, 1) := by decide +kernel
theorem dX9_draw_33 : decode cX9_draw 33 = .ok (.iload_n 1, 1) := by decide +kernel
theorem dX9_draw_34 : decode cX9_draw 34 = .ok (.invokestatic 74, 3) := by decide +kernel
theorem dX9_draw_37 : decode cX9_draw 37 = .ok (.istore_n 2, 1) := by decide +kernel
theorem dX9_draw_38 : decode cX9_draw 38 = .ok (.aload_n 0, 1) := by decide +kernel
theorem dX9_draw_39 : decode cX9_draw 39 = .ok (.dup, 1) := by decide +kernel
theorem dX9_draw_40 : decode cX9_draw 40 = .ok (.getfield 65, 3) := by decide +kernel
theorem dX9_draw_43 : decode cX9_draw 43 = .ok (.iconst 1, 1) := by decide +kernel
theorem dX9_draw_44 : decode cX9_draw 44 = .ok (.iadd, 1) := by decide +kernel
theorem dX9_draw_45 : decode cX9_draw 45 = .ok (.putfield 65, 3) := by decide +kernel
theorem dX9_draw_48 : decode cX9_draw 48 = .ok (.iload_n 2, 1) := by decide +kernel
theorem dX9_draw_49 : decode cX9_draw 49 = .ok (.ireturn, 1) := by decide +kernel
theorem dX9_make_0 : decode cX9_make 0 = .ok (.iconst 2, 1) := by decide +kernel
theorem dX9_make_1 : decode cX9_make 1 = .ok (.aload_n 0, 1) := by decide +kernel
theorem dX9_make_2 : decode cX9_make 2 = .ok (.iconst 3, 1) := by decide +kernel
theorem dX9_make_3 : decode cX9_make 3 = .ok (.invokevirtual 78, 3) := by decide +kernel
theorem dX9_make_6 : decode cX9_make 6 = .ok (.iadd, 1) := by decide +kernel
theorem dX9_make_7 : decode cX9_make 7 = .ok (.istore_n 1, 1) := by decide +kernel
theorem dX9_make_8 : decode cX9_make 8 = .ok (.iload_n 1, 1) := by decide +kernel
theorem dX9_make_9 : decode cX9_make 9 = .ok (.ifCond .le 91, 3) := by decide +kernel
theorem dX9_make_12 : decode cX9_make 12 = .ok (.aload_n 0, 1) := by decide +kernel
theorem dX9_make_13 : decode cX9_make 13 = .ok (.getfield 21, 3) := by decide +kernel
theorem dX9_make_16 : decode cX9_make 16 = .ok (.aload_n 0, 1) := by decide +kernel
theorem dX9_make_17 : decode cX9_make 17 = .ok (.getfield 82, 3) := by decide +kernel
theorem dX9_make_20 : decode cX9_make 20 = .ok (.aload_n 0, 1) := by decide +kernel
theorem dX9_make_21 : decode cX9_make 21 = .ok (.iconst 3, 1) := by decide +kernel
theorem dX9_make_22 : decode cX9_make 22 = .ok (.invokevirtual 78, 3) := by decide +kernel
theorem dX9_make_25 : decode cX9_make 25 = .ok (.ifCond .ne 11, 3) := by decide +kernel
theorem dX9_make_28 : decode cX9_make 28 = .ok (.aload_n 0, 1) := by decide +kernel
theorem dX9_make_29 : decode cX9_make 29 = .ok (.iconst 4, 1) := by decide +kernel
theorem dX9_make_30 : decode cX9_make 30 = .ok (.invokevirtual 78, 3) := by decide +kernel
theorem dX9_make_33 : decode cX9_make 33 = .ok (.goto 4, 3) := by decide +kernel
theorem dX9_make_36 : decode cX9_make 36 = .ok (.iconst 1, 1) := by decide +kernel
theorem dX9_make_37 : decode cX9_make 37 = .ok (.iastore, 1) := by decide +kernel
theorem dX9_make_38 : decode cX9_make 38 = .ok (.aload_n 0, 1) := by decide +kernel
theorem dX9_make_39 : decode cX9_make 39 = .ok (.getfield 25, 3) := by decide +kernel
theorem dX9_make_42 : decode cX9_make 42 = .ok (.aload_n 0, 1) := by decide +kernel
theorem dX9_make_43 : decode cX9_make 43 = .ok (.getfield 82, 3) := by decide +kernel
theorem dX9_make_46 : decode cX9_make 46 = .ok (.aload_n 0, 1) := by decide +kernel
theorem dX9_make_47 : decode cX9_make 47 = .ok (.bipush 8, 2) := by decide +kernel
theorem dX9_make_49 : decode cX9_make 49 = .ok (.invokevirtual 78, 3) := by decide +kernel
theorem dX9_make_52 : decode cX9_make 52 = .ok (.iastore, 1) := by decide +kernel
theorem dX9_make_53 : decode cX9_make 53 = .ok (.aload_n 0, 1) := by decide +kernel
theorem dX9_make_54 : decode cX9_make 54 = .ok (.getfield 10, 3) := by decide +kernel
theorem dX9_make_57 : decode cX9_make 57 = .ok (.aload_n 0, 1) := by decide +kernel
theorem dX9_make_58 : decode cX9_make 58 = .ok (.getfield 21, 3) := by decide +kernel
theorem dX9_make_61 : decode cX9_make 61 = .ok (.aload_n 0, 1) := by decide +kernel
theorem dX9_make_62 : decode cX9_make 62 = .ok (.getfield 82, 3) := by decide +kernel
theorem dX9_make_65 : decode cX9_make 65 = .ok (.iaload, 1) := by decide +kernel
theorem dX9_make_66 : decode cX9_make 66 = .ok (.aload_n 0, 1) := by decide +kernel
theorem dX9_make_67 : decode cX9_make 67 = .ok (.getfield 25, 3) := by decide +kernel
theorem dX9_make_70 : decode cX9_make 70 = .ok (.aload_n 0, 1) := by decide +kernel
theorem dX9_make_71 : decode cX9_make 71 = .ok (.getfield 82, 3) := by decide +kernel
theorem dX9_make_74 : decode cX9_make 74 = .ok (.iaload, 1) := by decide +kernel
theorem dX9_make_75 : decode cX9_make 75 = .ok (.invokevirtual 85, 3) := by decide +kernel
theorem dX9_make_78 : decode cX9_make 78 = .ok (.aload_n 0, 1) := by decide +kernel
theorem dX9_make_79 : decode cX9_make 79 = .ok (.dup, 1) := by decide +kernel
theorem dX9_make_80 : decode cX9_make 80 = .ok (.getfield 82, 3) := by decide +kernel
theorem dX9_make_83 : decode cX9_make 83 = .ok (.dup_x1, 1) := by decide +kernel
theorem dX9_make_84 : decode cX9_make 84 = .ok (.iconst 1, 1) := by decide +kernel
theorem dX9_make_85 : decode cX9_make 85 = .ok (.iadd, 1) := by decide +kernel
theorem dX9_make_86 : decode cX9_make 86 = .ok (.putfield 82, 3) := by decide +kernel
theorem dX9_make_89 : decode cX9_make 89 = .ok (.if_icmp .eq 5, 3) := by decide +kernel
theorem dX9_make_92 : decode cX9_make 92 = .ok (.iconst 0, 1) := by decide +kernel
theorem dX9_make_93 : decode cX9_make 93 = .ok (.ireturn, 1) := by decide +kernel
theorem dX9_make_94 : decode cX9_make 94 = .ok (.iinc 1 (-1), 3) := by decide +kernel
theorem dX9_make_97 : decode cX9_make 97 = .ok (.goto (-89), 3) := by decide +kernel
theorem dX9_make_100 : decode cX9_make 100 = .ok (.iconst 2, 1) := by decide +kernel
theorem dX9_make_101 : decode cX9_make 101 = .ok (.aload_n 0, 1) := by decide +kernel
theorem dX9_make_102 : decode cX9_make 102 = .ok (.iconst 4, 1) := by decide +kernel
theorem dX9_make_103 : decode cX9_make 103 = .ok (.invokevirtual 78, 3) := by decide +kernel
theorem dX9_make_106 : decode cX9_make 106 = .ok (.iadd, 1) := by decide +kernel
theorem dX9_make_107 : decode cX9_make 107 = .ok (.istore_n 1, 1) := by decide +kernel
theorem dX9_make_108 : decode cX9_make 108 = .ok (.iload_n 1, 1) := by decide +kernel
theorem dX9_make_109 : decode cX9_make 109 = .ok (.ifCond .le 32, 3) := by decide +kernel
theorem dX9_make_112 : decode cX9_make 112 = .ok (.aload_n 0, 1) := by decide +kernel
theorem dX9_make_113 : decode cX9_make 113 = .ok (.getfield 10, 3) := by decide +kernel
theorem dX9_make_116 : decode cX9_make 116 = .ok (.invokevirtual 88, 3) := by decide +kernel
theorem dX9_make_119 : decode cX9_make 119 = .ok (.aload_n 0, 1) := by decide +kernel
theorem dX9_make_120 : decode cX9_make 120 = .ok (.dup, 1) := by decide +kernel
theorem dX9_make_121 : decode cX9_make 121 = .ok (.getfield 92, 3) := by decide +kernel
theorem dX9_make_124 : decode cX9_make 124 = .ok (.dup_x1, 1) := by decide +kernel
theorem dX9_make_125 : decode cX9_make 125 = .ok (.iconst 1, 1) := by decide +kernel
theorem dX9_make_126 : decode cX9_make 126 = .ok (.iadd, 1) := by decide +kernel
theorem dX9_make_127 : decode cX9_make 127 = .ok (.putfield 92, 3) := by decide +kernel
theorem dX9_make_130 : decode cX9_make 130 = .ok (.if_icmp .eq 5, 3) := by decide +kernel
theorem dX9_make_133 : decode cX9_make 133 = .ok (.iconst 0, 1) := by decide +kernel
theorem dX9_make_134 : decode cX9_make 134 = .ok (.ireturn, 1) := by decide +kernel
theorem dX9_make_135 : decode cX9_make 135 = .ok (.iinc 1 (-1), 3) := by decide +kernel
theorem dX9_make_138 : decode cX9_make 138 = .ok (.goto (-30), 3) := by decide +kernel
theorem dX9_make_141 : decode cX9_make 141 = .ok (.iconst 2, 1) := by decide +kernel
theorem dX9_make_142 : decode cX9_make 142 = .ok (.aload_n 0, 1) := by decide +kernel
theorem dX9_make_143 : decode cX9_make 143 = .ok (.iconst 4, 1) := by decide +kernel
theorem dX9_make_144 : decode cX9_make 144 = .ok (.invokevirtual 78, 3) := by decide +kernel
theorem dX9_make_147 : decode cX9_make 147 = .ok (.iadd, 1) := by decide +kernel
theorem dX9_make_148 : decode cX9_make 148 = .ok (.istore_n 1, 1) := by decide +kernel
theorem dX9_make_149 : decode cX9_make 149 = .ok (.iload_n 1, 1) := by decide +kernel
theorem dX9_make_150 : decode cX9_make 150 = .ok (.ifCond .le 107, 3) := by decide +kernel
theorem dX9_make_153 : decode cX9_make 153 = .ok (.aload_n 0, 1) := by decide +kernel
theorem dX9_make_154 : decode cX9_make 154 = .ok (.getfield 38, 3) := by decide +kernel
theorem dX9_make_157 : decode cX9_make 157 = .ok (.aload_n 0, 1) := by decide +kernel
theorem dX9_make_158 : decode cX9_make 158 = .ok (.getfield 34, 3) := by decide +kernel
theorem dX9_make_161 : decode cX9_make 161 = .ok (.aload_n 0, 1) := by decide +kernel
theorem dX9_make_162 : decode cX9_make 162 = .ok (.aload_n 0, 1) := by decide +kernel
theorem dX9_make_163 : decode cX9_make 163 = .ok (.getfield 34, 3) := by decide +kernel
theorem dX9_make_166 : decode cX9_make 166 = .ok (.invokevirtual 78, 3) := by decide +kernel
theorem dX9_make_169 : decode cX9_make 169 = .ok (.iastore, 1) := by decide +kernel
theorem dX9_make_170 : decode cX9_make 170 = .ok (.aload_n 0, 1) := by decide +kernel
theorem dX9_make_171 : decode cX9_make 171 = .ok (.getfield 10, 3) := by decide +kernel
theorem dX9_make_174 : decode cX9_make 174 = .ok (.aload_n 0, 1) := by decide +kernel
theorem dX9_make_175 : decode cX9_make 175 = .ok (.getfield 38, 3) := by decide +kernel
theorem dX9_make_178 : decode cX9_make 178 = .ok (.aload_n 0, 1) := by decide +kernel
theorem dX9_make_179 : decode cX9_make 179 = .ok (.getfield 34, 3) := by decide +kernel
theorem dX9_make_182 : decode cX9_make 182 = .ok (.iaload, 1) := by decide +kernel
theorem dX9_make_183 : decode cX9_make 183 = .ok (.invokevirtual 95, 3) := by decide +kernel
theorem dX9_make_186 : decode cX9_make 186 = .ok (.aload_n 0, 1) := by decide +kernel
theorem dX9_make_187 : decode cX9_make 187 = .ok (.dup, 1) := by decide +kernel
theorem dX9_make_188 : decode cX9_make 188 = .ok (.getfield 34, 3) := by decide +kernel
theorem dX9_make_191 : decode cX9_make 191 = .ok (.dup_x1, 1) := by decide +kernel
theorem dX9_make_192 : decode cX9_make 192 = .ok (.iconst 1, 1) := by decide +kernel
theorem dX9_make_193 : decode cX9_make 193 = .ok (.iadd, 1) := by decide +kernel
theorem dX9_make_194 : decode cX9_make 194 = .ok (.putfield 34, 3) := by decide +kernel
theorem dX9_make_197 : decode cX9_make 197 = .ok (.if_icmp .eq 5, 3) := by decide +kernel
theorem dX9_make_200 : decode cX9_make 200 = .ok (.iconst 0, 1) := by decide +kernel
theorem dX9_make_201 : decode cX9_make 201 = .ok (.ireturn, 1) := by decide +kernel
theorem dX9_make_202 : decode cX9_make 202 = .ok (.aload_n 0, 1) := by decide +kernel
theorem dX9_make_203 : decode cX9_make 203 = .ok (.getfield 34, 3) := by decide +kernel
theorem dX9_make_206 : decode cX9_make 206 = .ok (.iconst 1, 1) := by decide +kernel
theorem dX9_make_207 : decode cX9_make 207 = .ok (.isub, 1) := by decide +kernel
theorem dX9_make_208 : decode cX9_make 208 = .ok (.istore_n 2, 1) := by decide +kernel
theorem dX9_make_209 : decode cX9_make 209 = .ok (.aload_n 0, 1) := by decide +kernel
theorem dX9_make_210 : decode cX9_make 210 = .ok (.getfield 41, 3) := by decide +kernel
theorem dX9_make_213 : decode cX9_make 213 = .ok (.iload_n 2, 1) := by decide +kernel
theorem dX9_make_214 : decode cX9_make 214 = .ok (.aload_n 0, 1) := by decide +kernel
theorem dX9_make_215 : decode cX9_make 215 = .ok (.iconst 3, 1) := by decide +kernel
theorem dX9_make_216 : decode cX9_make 216 = .ok (.invokevirtual 78, 3) := by decide +kernel
theorem dX9_make_219 : decode cX9_make 219 = .ok (.ifCond .ne 11, 3) := by decide +kernel
theorem dX9_make_222 : decode cX9_make 222 = .ok (.aload_n 0, 1) := by decide +kernel
theorem dX9_make_223 : decode cX9_make 223 = .ok (.iconst 4, 1) := by decide +kernel
theorem dX9_make_224 : decode cX9_make 224 = .ok (.invokevirtual 78, 3) := by decide +kernel
theorem dX9_make_227 : decode cX9_make 227 = .ok (.goto 4, 3) := by decide +kernel
theorem dX9_make_230 : decode cX9_make 230 = .ok (.iconst 1, 1) := by decide +kernel
theorem dX9_make_231 : decode cX9_make 231 = .ok (.iastore, 1) := by decide +kernel
theorem dX9_make_232 : decode cX9_make 232 = .ok (.aload_n 0, 1) := by decide +kernel
theorem dX9_make_233 : decode cX9_make 233 = .ok (.getfield 10, 3) := by decide +kernel
theorem dX9_make_236 : decode cX9_make 236 = .ok (.iload_n 2, 1) := by decide +kernel
theorem dX9_make_237 : decode cX9_make 237 = .ok (.aload_n 0, 1) := by decide +kernel
theorem dX9_make_238 : decode cX9_make 238 = .ok (.getfield 41, 3) := by decide +kernel
theorem dX9_make_241 : decode cX9_make 241 = .ok (.iload_n 2, 1) := by decide +kernel
theorem dX9_make_242 : decode cX9_make 242 = .ok (.iaload, 1) := by decide +kernel
theorem dX9_make_243 : decode cX9_make 243 = .ok (.invokevirtual 98, 3) := by decide +kernel
theorem dX9_make_246 : decode cX9_make 246 = .ok (.ifCond .eq 5, 3) := by decide +kernel
theorem dX9_make_249 : decode cX9_make 249 = .ok (.iconst 0, 1) := by decide +kernel
theorem dX9_make_250 : decode cX9_make 250 = .ok (.ireturn, 1) := by decide +kernel
theorem dX9_make_251 : decode cX9_make 251 = .ok (.iinc 1 (-1), 3) := by decide +kernel
theorem dX9_make_254 : decode cX9_make 254 = .ok (.goto (-105), 3) := by decide +kernel
theorem dX9_make_257 : decode cX9_make 257 = .ok (.aload_n 0, 1) := by decide +kernel
theorem dX9_make_258 : decode cX9_make 258 = .ok (.getfield 41, 3) := by decide +kernel
theorem dX9_make_261 : decode cX9_make 261 = .ok (.iconst 0, 1) := by decide +kernel
theorem dX9_make_262 : decode cX9_make 262 = .ok (.iconst 1, 1) := by decide +kernel
theorem dX9_make_263 : decode cX9_make 263 = .ok (.iastore, 1) := by decide +kernel
theorem dX9_make_264 : decode cX9_make 264 = .ok (.aload_n 0, 1) := by decide +kernel
theorem dX9_make_265 : decode cX9_make 265 = .ok (.getfield 10, 3) := by decide +kernel
theorem dX9_make_268 : decode cX9_make 268 = .ok (.iconst 0, 1) := by decide +kernel
theorem dX9_make_269 : decode cX9_make 269 = .ok (.iconst 1, 1) := by decide +kernel
theorem dX9_make_270 : decode cX9_make 270 = .ok (.invokevirtual 98, 3) := by decide +kernel
theorem dX9_make_273 : decode cX9_make 273 = .ok (.ifCond .ne 49, 3) := by decide +kernel
theorem dX9_make_276 : decode cX9_make 276 = .ok (.aload_n 0, 1) := by decide +kernel
theorem dX9_make_277 : decode cX9_make 277 = .ok (.getfield 10, 3) := by decide +kernel
theorem dX9_make_280 : decode cX9_make 280 = .ok (.invokevirtual 101, 3) := by decide +kernel
theorem dX9_make_283 : decode cX9_make 283 = .ok (.aload_n 0, 1) := by decide +kernel
theorem dX9_make_284 : decode cX9_make 284 = .ok (.getfield 82, 3) := by decide +kernel
theorem dX9_make_287 : decode cX9_make 287 = .ok (.if_icmp .ne 35, 3) := by decide +kernel
theorem dX9_make_290 : decode cX9_make 290 = .ok (.aload_n 0, 1) := by decide +kernel
theorem dX9_make_291 : decode cX9_make 291 = .ok (.getfield 10, 3) := by decide +kernel
theorem dX9_make_294 : decode cX9_make 294 = .ok (.invokevirtual 103, 3) := by decide +kernel
theorem dX9_make_297 : decode cX9_make 297 = .ok (.aload_n 0, 1) := by decide +kernel
theorem dX9_make_298 : decode cX9_make 298 = .ok (.getfield 92, 3) := by decide +kernel
theorem dX9_make_301 : decode cX9_make 301 = .ok (.if_icmp .ne 21, 3) := by decide +kernel
theorem dX9_make_304 : decode cX9_make 304 = .ok (.aload_n 0, 1) := by decide +kernel
theorem dX9_make_305 : decode cX9_make 305 = .ok (.getfield 10, 3) := by decide +kernel
theorem dX9_make_308 : decode cX9_make 308 = .ok (.invokevirtual 105, 3) := by decide +kernel
theorem dX9_make_311 : decode cX9_make 311 = .ok (.aload_n 0, 1) := by decide +kernel
theorem dX9_make_312 : decode cX9_make 312 = .ok (.getfield 34, 3) := by decide +kernel
theorem dX9_make_315 : decode cX9_make 315 = .ok (.if_icmp .ne 7, 3) := by decide +kernel
theorem dX9_make_318 : decode cX9_make 318 = .ok (.iconst 1, 1) := by decide +kernel
theorem dX9_make_319 : decode cX9_make 319 = .ok (.goto 4, 3) := by decide +kernel
theorem dX9_make_322 : decode cX9_make 322 = .ok (.iconst 0, 1) := by decide +kernel
theorem dX9_make_323 : decode cX9_make 323 = .ok (.ireturn, 1) := by decide +kernel
theorem dX9_near_0 : decode cX9_near 0 = .ok (.aload_n 1, 1) := by decide +kernel
theorem dX9_near_1 : decode cX9_near 1 = .ok (.iload_n 2, 1) := by decide +kernel
theorem dX9_near_2 : decode cX9_near 2 = .ok (.baload, 1) := by decide +kernel
theorem dX9_near_3 : decode cX9_near 3 = .ok (.ifCond .eq 7, 3) := by decide +kernel
theorem dX9_near_6 : decode cX9_near 6 = .ok (.iconst 1, 1) := by decide +kernel
theorem dX9_near_7 : decode cX9_near 7 = .ok (.goto 5, 3) := by decide +kernel
theorem dX9_near_10 : decode cX9_near 10 = .ok (.bipush 99, 2) := by decide +kernel
theorem dX9_near_12 : decode cX9_near 12 = .ok (.istore 4, 2) := by decide +kernel
theorem dX9_near_14 : decode cX9_near 14 = .ok (.iconst 0, 1) := by decide +kernel
theorem dX9_near_15 : decode cX9_near 15 = .ok (.istore 5, 2) := by decide +kernel
theorem dX9_near_17 : decode cX9_near 17 = .ok (.iload 5, 2) := by decide +kernel
theorem dX9_near_19 : decode cX9_near 19 = .ok (.aload_n 0, 1) := by decide +kernel
theorem dX9_near_20 : decode cX9_near 20 = .ok (.getfield 92, 3) := by decide +kernel
theorem dX9_near_23 : decode cX9_near 23 = .ok (.if_icmp .ge 45, 3) := by decide +kernel
theorem dX9_near_26 : decode cX9_near 26 = .ok (.iload_n 3, 1) := by decide +kernel
theorem dX9_near_27 : decode cX9_near 27 = .ok (.iconst 1, 1) := by decide +kernel
theorem dX9_near_28 : decode cX9_near 28 = .ok (.if_icmp .le 40, 3) := by decide +kernel
theorem dX9_near_31 : decode cX9_near 31 = .ok (.aload_n 0, 1) := by decide +kernel
theorem dX9_near_32 : decode cX9_near 32 = .ok (.getfield 28, 3) := by decide +kernel
theorem dX9_near_35 : decode cX9_near 35 = .ok (.iload 5, 2) := by decide +kernel
theorem dX9_near_37 : decode cX9_near 37 = .ok (.aaload, 1) := by decide +kernel
theorem dX9_near_38 : decode cX9_near 38 = .ok (.iload_n 2, 1) := by decide +kernel
theorem dX9_near_39 : decode cX9_near 39 = .ok (.baload, 1) := by decide +kernel
theorem dX9_near_40 : decode cX9_near 40 = .ok (.ifCond .eq 22, 3) := by decide +kernel
theorem dX9_near_43 : decode cX9_near 43 = .ok (.iload 4, 2) := by decide +kernel
theorem dX9_near_45 : decode cX9_near 45 = .ok (.iconst 1, 1) := by decide +kernel
theorem dX9_near_46 : decode cX9_near 46 = .ok (.aload_n 0, 1) := by decide +kernel
theorem dX9_near_47 : decode cX9_near 47 = .ok (.aload_n 1, 1) := by decide +kernel
theorem dX9_near_48 : decode cX9_near 48 = .ok (.iload 5, 2) := by decide +kernel
theorem dX9_near_50 : decode cX9_near 50 = .ok (.iload_n 3, 1) := by decide +kernel
theorem dX9_near_51 : decode cX9_near 51 = .ok (.iconst 1, 1) := by decide +kernel
theorem dX9_near_52 : decode cX9_near 52 = .ok (.isub, 1) := by decide +kernel
theorem dX9_near_53 : decode cX9_near 53 = .ok (.invokevirtual 107, 3) := by decide +kernel
theorem dX9_near_56 : decode cX9_near 56 = .ok (.iadd, 1) := by decide +kernel
theorem dX9_near_57 : decode cX9_near 57 = .ok (.invokestatic 111, 3) := by decide +kernel
theorem dX9_near_60 : decode cX9_near 60 = .ok (.istore 4, 2) := by decide +kernel
theorem dX9_near_62 : decode cX9_near 62 = .ok (.iinc 5 1, 3) := by decide +kernel
theorem dX9_near_65 : decode cX9_near 65 = .ok (.goto (-48), 3) := by decide +kernel
theorem dX9_near_68 : decode cX9_near 68 = .ok (.iload 4, 2) := by decide +kernel
theorem dX9_near_70 : decode cX9_near 70 = .ok (.bipush 99, 2) := by decide +kernel
theorem dX9_near_72 : decode cX9_near 72 = .ok (.invokestatic 111, 3) := by decide +kernel
theorem dX9_near_75 : decode cX9_near 75 = .ok (.ireturn, 1) := by decide +kernel
theorem dX9_isHeld_0 : decode cX9_isHeld 0 = .ok (.iload_n 1, 1) := by decide +kernel
theorem dX9_isHeld_1 : decode cX9_isHeld 1 = .ok (.iload_n 2, 1) := by decide +kernel
theorem dX9_isHeld_2 : decode cX9_isHeld 2 = .ok (.if_icmp .ne 5, 3) := by decide +kernel
theorem dX9_isHeld_5 : decode cX9_isHeld 5 = .ok (.iconst 1, 1) := by decide +kernel
theorem dX9_isHeld_6 : decode cX9_isHeld 6 = .ok (.ireturn, 1) := by decide +kernel
theorem dX9_isHeld_7 : decode cX9_isHeld 7 = .ok (.iconst 0, 1) := by decide +kernel
theorem dX9_isHeld_8 : decode cX9_isHeld 8 = .ok (.istore 4, 2) := by decide +kernel
theorem dX9_isHeld_10 : decode cX9_isHeld 10 = .ok (.iload 4, 2) := by decide +kernel
theorem dX9_isHeld_12 : decode cX9_isHeld 12 = .ok (.aload_n 0, 1) := by decide +kernel
theorem dX9_isHeld_13 : decode cX9_isHeld 13 = .ok (.getfield 92, 3) := by decide +kernel
theorem dX9_isHeld_16 : decode cX9_isHeld 16 = .ok (.if_icmp .ge 40, 3) := by decide +kernel
theorem dX9_isHeld_19 : decode cX9_isHeld 19 = .ok (.iload_n 3, 1) := by decide +kernel
theorem dX9_isHeld_20 : decode cX9_isHeld 20 = .ok (.ifCond .le 36, 3) := by decide +kernel
theorem dX9_isHeld_23 : decode cX9_isHeld 23 = .ok (.aload_n 0, 1) := by decide +kernel
theorem dX9_isHeld_24 : decode cX9_isHeld 24 = .ok (.getfield 28, 3) := by decide +kernel
theorem dX9_isHeld_27 : decode cX9_isHeld 27 = .ok (.iload_n 1, 1) := by decide +kernel
theorem dX9_isHeld_28 : decode cX9_isHeld 28 = .ok (.aaload, 1) := by decide +kernel
theorem dX9_isHeld_29 : decode cX9_isHeld 29 = .ok (.iload 4, 2) := by decide +kernel
theorem dX9_isHeld_31 : decode cX9_isHeld 31 = .ok (.baload, 1) := by decide +kernel
theorem dX9_isHeld_32 : decode cX9_isHeld 32 = .ok (.ifCond .eq 18, 3) := by decide +kernel
theorem dX9_isHeld_35 : decode cX9_isHeld 35 = .ok (.aload_n 0, 1) := by decide +kernel
theorem dX9_isHeld_36 : decode cX9_isHeld 36 = .ok (.iload 4, 2) := by decide +kernel
theorem dX9_isHeld_38 : decode cX9_isHeld 38 = .ok (.iload_n 2, 1) := by decide +kernel
theorem dX9_isHeld_39 : decode cX9_isHeld 39 = .ok (.iload_n 3, 1) := by decide +kernel
theorem dX9_isHeld_40 : decode cX9_isHeld 40 = .ok (.iconst 1, 1) := by decide +kernel
theorem dX9_isHeld_41 : decode cX9_isHeld 41 = .ok (.isub, 1) := by decide +kernel
theorem dX9_isHeld_42 : decode cX9_isHeld 42 = .ok (.invokevirtual 116, 3) := by decide +kernel
theorem dX9_isHeld_45 : decode cX9_isHeld 45 = .ok (.ifCond .eq 5, 3) := by decide +kernel
theorem dX9_isHeld_48 : decode cX9_isHeld 48 = .ok (.iconst 1, 1) := by decide +kernel
theorem dX9_isHeld_49 : decode cX9_isHeld 49 = .ok (.ireturn, 1) := by decide +kernel
theorem dX9_isHeld_50 : decode cX9_isHeld 50 = .ok (.iinc 4 1, 3) := by decide +kernel
theorem dX9_isHeld_53 : decode cX9_isHeld 53 = .ok (.goto (-43), 3) := by decide +kernel
theorem dX9_isHeld_56 : decode cX9_isHeld 56 = .ok (.iconst 0, 1) := by decide +kernel
theorem dX9_isHeld_57 : decode cX9_isHeld 57 = .ok (.ireturn, 1) := by decide +kernel
theorem dX9_hasApart_0 : decode cX9_hasApart 0 = .ok (.iconst 0, 1) := by decide +kernel
theorem dX9_hasApart_1 : decode cX9_hasApart 1 = .ok (.istore_n 2, 1) := by decide +kernel
theorem dX9_hasApart_2 : decode cX9_hasApart 2 = .ok (.iload_n 2, 1) := by decide +kernel
theorem dX9_hasApart_3 : decode cX9_hasApart 3 = .ok (.aload_n 0, 1) := by decide +kernel
theorem dX9_hasApart_4 : decode cX9_hasApart 4 = .ok (.getfield 92, 3) := by decide +kernel
theorem dX9_hasApart_7 : decode cX9_hasApart 7 = .ok (.if_icmp .ge 61, 3) := by decide +kernel
theorem dX9_hasApart_10 : decode cX9_hasApart 10 = .ok (.iconst 0, 1) := by decide +kernel
theorem dX9_hasApart_11 : decode cX9_hasApart 11 = .ok (.istore_n 3, 1) := by decide +kernel
theorem dX9_hasApart_12 : decode cX9_hasApart 12 = .ok (.iload_n 3, 1) := by decide +kernel
theorem dX9_hasApart_13 : decode cX9_hasApart 13 = .ok (.iload_n 2, 1) := by decide +kernel
theorem dX9_hasApart_14 : decode cX9_hasApart 14 = .ok (.if_icmp .ge 48, 3) := by decide +kernel
theorem dX9_hasApart_17 : decode cX9_hasApart 17 = .ok (.aload_n 0, 1) := by decide +kernel
theorem dX9_hasApart_18 : decode cX9_hasApart 18 = .ok (.getfield 31, 3) := by decide +kernel
theorem dX9_hasApart_21 : decode cX9_hasApart 21 = .ok (.iload_n 2, 1) := by decide +kernel
theorem dX9_hasApart_22 : decode cX9_hasApart 22 = .ok (.aaload, 1) := by decide +kernel
theorem dX9_hasApart_23 : decode cX9_hasApart 23 = .ok (.iload_n 3, 1) := by decide +kernel
theorem dX9_hasApart_24 : decode cX9_hasApart 24 = .ok (.baload, 1) := by decide +kernel
theorem dX9_hasApart_25 : decode cX9_hasApart 25 = .ok (.ifCond .eq 31, 3) := by decide +kernel
theorem dX9_hasApart_28 : decode cX9_hasApart 28 = .ok (.aload_n 0, 1) := by decide +kernel
theorem dX9_hasApart_29 : decode cX9_hasApart 29 = .ok (.aload_n 1, 1) := by decide +kernel
theorem dX9_hasApart_30 : decode cX9_hasApart 30 = .ok (.iload_n 2, 1) := by decide +kernel
theorem dX9_hasApart_31 : decode cX9_hasApart 31 = .ok (.bipush 6, 2) := by decide +kernel
theorem dX9_hasApart_33 : decode cX9_hasApart 33 = .ok (.invokevirtual 107, 3) := by decide +kernel
theorem dX9_hasApart_36 : decode cX9_hasApart 36 = .ok (.bipush 99, 2) := by decide +kernel
theorem dX9_hasApart_38 : decode cX9_hasApart 38 = .ok (.if_icmp .ge 18, 3) := by decide +kernel
theorem dX9_hasApart_41 : decode cX9_hasApart 41 = .ok (.aload_n 0, 1) := by decide +kernel
theorem dX9_hasApart_42 : decode cX9_hasApart 42 = .ok (.aload_n 1, 1) := by decide +kernel
theorem dX9_hasApart_43 : decode cX9_hasApart 43 = .ok (.iload_n 3, 1) := by decide +kernel
theorem dX9_hasApart_44 : decode cX9_hasApart 44 = .ok (.bipush 6, 2) := by decide +kernel
theorem dX9_hasApart_46 : decode cX9_hasApart 46 = .ok (.invokevirtual 107, 3) := by decide +kernel
theorem dX9_hasApart_49 : decode cX9_hasApart 49 = .ok (.bipush 99, 2) := by decide +kernel
theorem dX9_hasApart_51 : decode cX9_hasApart 51 = .ok (.if_icmp .ge 5, 3) := by decide +kernel
theorem dX9_hasApart_54 : decode cX9_hasApart 54 = .ok (.iconst 1, 1) := by decide +kernel
theorem dX9_hasApart_55 : decode cX9_hasApart 55 = .ok (.ireturn, 1) := by decide +kernel
theorem dX9_hasApart_56 : decode cX9_hasApart 56 = .ok (.iinc 3 1, 3) := by decide +kernel
theorem dX9_hasApart_59 : decode cX9_hasApart 59 = .ok (.goto (-47), 3) := by decide +kernel
theorem dX9_hasApart_62 : decode cX9_hasApart 62 = .ok (.iinc 2 1, 3) := by decide +kernel
theorem dX9_hasApart_65 : decode cX9_hasApart 65 = .ok (.goto (-63), 3) := by decide +kernel
theorem dX9_hasApart_68 : decode cX9_hasApart 68 = .ok (.iconst 0, 1) := by decide +kernel
theorem dX9_hasApart_69 : decode cX9_hasApart 69 = .ok (.ireturn, 1) := by decide +kernel
theorem dX9_anyApart_0 : decode cX9_anyApart 0 = .ok (.iconst 0, 1) := by decide +kernel
theorem dX9_anyApart_1 : decode cX9_anyApart 1 = .ok (.istore_n 1, 1) := by decide +kernel
theorem dX9_anyApart_2 : decode cX9_anyApart 2 = .ok (.iload_n 1, 1) := by decide +kernel
theorem dX9_anyApart_3 : decode cX9_anyApart 3 = .ok (.aload_n 0, 1) := by decide +kernel
theorem dX9_anyApart_4 : decode cX9_anyApart 4 = .ok (.getfield 82, 3) := by decide +kernel
theorem dX9_anyApart_7 : decode cX9_anyApart 7 = .ok (.if_icmp .ge 24, 3) := by decide +kernel
theorem dX9_anyApart_10 : decode cX9_anyApart 10 = .ok (.aload_n 0, 1) := by decide +kernel
theorem dX9_anyApart_11 : decode cX9_anyApart 11 = .ok (.aload_n 0, 1) := by decide +kernel
theorem dX9_anyApart_12 : decode cX9_anyApart 12 = .ok (.getfield 18, 3) := by decide +kernel
theorem dX9_anyApart_15 : decode cX9_anyApart 15 = .ok (.iload_n 1, 1) := by decide +kernel
theorem dX9_anyApart_16 : decode cX9_anyApart 16 = .ok (.aaload, 1) := by decide +kernel
theorem dX9_anyApart_17 : decode cX9_anyApart 17 = .ok (.invokevirtual 120, 3) := by decide +kernel
theorem dX9_anyApart_20 : decode cX9_anyApart 20 = .ok (.ifCond .eq 5, 3) := by decide +kernel
theorem dX9_anyApart_23 : decode cX9_anyApart 23 = .ok (.iconst 1, 1) := by decide +kernel
theorem dX9_anyApart_24 : decode cX9_anyApart 24 = .ok (.ireturn, 1) := by decide +kernel
theorem dX9_anyApart_25 : decode cX9_anyApart 25 = .ok (.iinc 1 1, 3) := by decide +kernel
theorem dX9_anyApart_28 : decode cX9_anyApart 28 = .ok (.goto (-26), 3) := by decide +kernel
theorem dX9_anyApart_31 : decode cX9_anyApart 31 = .ok (.iconst 0, 1) := by decide +kernel
theorem dX9_anyApart_32 : decode cX9_anyApart 32 = .ok (.ireturn, 1) := by decide +kernel
theorem dX9_bind_0 : decode cX9_bind 0 = .ok (.aload_n 0, 1) := by decide +kernel
theorem dX9_bind_1 : decode cX9_bind 1 = .ok (.aload_n 0, 1) := by decide +kernel
theorem dX9_bind_2 : decode cX9_bind 2 = .ok (.getfield 82, 3) := by decide +kernel
theorem dX9_bind_5 : decode cX9_bind 5 = .ok (.invokevirtual 78, 3) := by decide +kernel
theorem dX9_bind_8 : decode cX9_bind 8 = .ok (.istore_n 1, 1) := by decide +kernel
theorem dX9_bind_9 : decode cX9_bind 9 = .ok (.aload_n 0, 1) := by decide +kernel
theorem dX9_bind_10 : decode cX9_bind 10 = .ok (.aload_n 0, 1) := by decide +kernel
theorem dX9_bind_11 : decode cX9_bind 11 = .ok (.getfield 92, 3) := by decide +kernel
theorem dX9_bind_14 : decode cX9_bind 14 = .ok (.invokevirtual 78, 3) := by decide +kernel
theorem dX9_bind_17 : decode cX9_bind 17 = .ok (.istore_n 2, 1) := by decide +kernel
theorem dX9_bind_18 : decode cX9_bind 18 = .ok (.aload_n 0, 1) := by decide +kernel
theorem dX9_bind_19 : decode cX9_bind 19 = .ok (.aload_n 0, 1) := by decide +kernel
theorem dX9_bind_20 : decode cX9_bind 20 = .ok (.getfield 92, 3) := by decide +kernel
theorem dX9_bind_23 : decode cX9_bind 23 = .ok (.invokevirtual 78, 3) := by decide +kernel
theorem dX9_bind_26 : decode cX9_bind 26 = .ok (.istore_n 3, 1) := by decide +kernel
theorem dX9_bind_27 : decode cX9_bind 27 = .ok (.aload_n 0, 1) := by decide +kernel
theorem dX9_bind_28 : decode cX9_bind 28 = .ok (.iconst 4, 1) := by decide +kernel
theorem dX9_bind_29 : decode cX9_bind 29 = .ok (.invokevirtual 78, 3) := by decide +kernel
theorem dX9_bind_32 : decode cX9_bind 32 = .ok (.ifCond .le 7, 3) := by decide +kernel
theorem dX9_bind_35 : decode cX9_bind 35 = .ok (.iconst 1, 1) := by decide +kernel
theorem dX9_bind_36 : decode cX9_bind 36 = .ok (.goto 4, 3) := by decide +kernel
theorem dX9_bind_39 : decode cX9_bind 39 = .ok (.iconst 0, 1) := by decide +kernel
theorem dX9_bind_40 : decode cX9_bind 40 = .ok (.istore 4, 2) := by decide +kernel
theorem dX9_bind_42 : decode cX9_bind 42 = .ok (.aload_n 0, 1) := by decide +kernel
theorem dX9_bind_43 : decode cX9_bind 43 = .ok (.bipush 6, 2) := by decide +kernel
theorem dX9_bind_45 : decode cX9_bind 45 = .ok (.invokevirtual 78, 3) := by decide +kernel
theorem dX9_bind_48 : decode cX9_bind 48 = .ok (.istore 5, 2) := by decide +kernel
theorem dX9_bind_50 : decode cX9_bind 50 = .ok (.iconst 0, 1) := by decide +kernel
theorem dX9_bind_51 : decode cX9_bind 51 = .ok (.istore 6, 2) := by decide +kernel
theorem dX9_bind_53 : decode cX9_bind 53 = .ok (.iconst 0, 1) := by decide +kernel
theorem dX9_bind_54 : decode cX9_bind 54 = .ok (.istore 7, 2) := by decide +kernel
theorem dX9_bind_56 : decode cX9_bind 56 = .ok (.iload 5, 2) := by decide +kernel
theorem dX9_bind_58 : decode cX9_bind 58 = .ok (.iconst 3, 1) := by decide +kernel
theorem dX9_bind_59 : decode cX9_bind 59 = .ok (.if_icmp .ge 90, 3) := by decide +kernel
theorem dX9_bind_62 : decode cX9_bind 62 = .ok (.aload_n 0, 1) := by decide +kernel
theorem dX9_bind_63 : decode cX9_bind 63 = .ok (.getfield 18, 3) := by decide +kernel
theorem dX9_bind_66 : decode cX9_bind 66 = .ok (.iload_n 1, 1) := by decide +kernel
theorem dX9_bind_67 : decode cX9_bind 67 = .ok (.aaload, 1) := by decide +kernel
theorem dX9_bind_68 : decode cX9_bind 68 = .ok (.iload_n 2, 1) := by decide +kernel
theorem dX9_bind_69 : decode cX9_bind 69 = .ok (.baload, 1) := by decide +kernel
theorem dX9_bind_70 : decode cX9_bind 70 = .ok (.istore 8, 2) := by decide +kernel
theorem dX9_bind_72 : decode cX9_bind 72 = .ok (.aload_n 0, 1) := by decide +kernel
theorem dX9_bind_73 : decode cX9_bind 73 = .ok (.getfield 18, 3) := by decide +kernel
theorem dX9_bind_76 : decode cX9_bind 76 = .ok (.iload_n 1, 1) := by decide +kernel
theorem dX9_bind_77 : decode cX9_bind 77 = .ok (.aaload, 1) := by decide +kernel
theorem dX9_bind_78 : decode cX9_bind 78 = .ok (.iload_n 2, 1) := by decide +kernel
theorem dX9_bind_79 : decode cX9_bind 79 = .ok (.iload 4, 2) := by decide +kernel
theorem dX9_bind_81 : decode cX9_bind 81 = .ok (.bastore, 1) := by decide +kernel
theorem dX9_bind_82 : decode cX9_bind 82 = .ok (.iload 4, 2) := by decide +kernel
theorem dX9_bind_84 : decode cX9_bind 84 = .ok (.ifCond .eq 20, 3) := by decide +kernel
theorem dX9_bind_87 : decode cX9_bind 87 = .ok (.aload_n 0, 1) := by decide +kernel
theorem dX9_bind_88 : decode cX9_bind 88 = .ok (.aload_n 0, 1) := by decide +kernel
theorem dX9_bind_89 : decode cX9_bind 89 = .ok (.getfield 18, 3) := by decide +kernel
theorem dX9_bind_92 : decode cX9_bind 92 = .ok (.iload_n 1, 1) := by decide +kernel
theorem dX9_bind_93 : decode cX9_bind 93 = .ok (.aaload, 1) := by decide +kernel
theorem dX9_bind_94 : decode cX9_bind 94 = .ok (.invokevirtual 120, 3) := by decide +kernel
theorem dX9_bind_97 : decode cX9_bind 97 = .ok (.ifCond .eq 7, 3) := by decide +kernel
theorem dX9_bind_100 : decode cX9_bind 100 = .ok (.iconst 1, 1) := by decide +kernel
theorem dX9_bind_101 : decode cX9_bind 101 = .ok (.goto 4, 3) := by decide +kernel
theorem dX9_bind_104 : decode cX9_bind 104 = .ok (.iconst 0, 1) := by decide +kernel
theorem dX9_bind_105 : decode cX9_bind 105 = .ok (.istore 7, 2) := by decide +kernel
theorem dX9_bind_107 : decode cX9_bind 107 = .ok (.iload 7, 2) := by decide +kernel
theorem dX9_bind_109 : decode cX9_bind 109 = .ok (.ifCond .eq 13, 3) := by decide +kernel
theorem dX9_bind_112 : decode cX9_bind 112 = .ok (.aload_n 0, 1) := by decide +kernel
theorem dX9_bind_113 : decode cX9_bind 113 = .ok (.getfield 18, 3) := by decide +kernel
theorem dX9_bind_116 : decode cX9_bind 116 = .ok (.iload_n 1, 1) := by decide +kernel
theorem dX9_bind_117 : decode cX9_bind 117 = .ok (.aaload, 1) := by decide +kernel
theorem dX9_bind_118 : decode cX9_bind 118 = .ok (.iload_n 2, 1) := by decide +kernel
theorem dX9_bind_119 : decode cX9_bind 119 = .ok (.iload 8, 2) := by decide +kernel
theorem dX9_bind_121 : decode cX9_bind 121 = .ok (.bastore, 1) := by decide +kernel
theorem dX9_bind_122 : decode cX9_bind 122 = .ok (.aload_n 0, 1) := by decide +kernel
theorem dX9_bind_123 : decode cX9_bind 123 = .ok (.getfield 10, 3) := by decide +kernel
theorem dX9_bind_126 : decode cX9_bind 126 = .ok (.iload_n 1, 1) := by decide +kernel
theorem dX9_bind_127 : decode cX9_bind 127 = .ok (.iload_n 2, 1) := by decide +kernel
theorem dX9_bind_128 : decode cX9_bind 128 = .ok (.iload 4, 2) := by decide +kernel
theorem dX9_bind_130 : decode cX9_bind 130 = .ok (.invokevirtual 124, 3) := by decide +kernel
theorem dX9_bind_133 : decode cX9_bind 133 = .ok (.iload 8, 2) := by decide +kernel
theorem dX9_bind_135 : decode cX9_bind 135 = .ok (.if_icmp .ne 12, 3) := by decide +kernel
theorem dX9_bind_138 : decode cX9_bind 138 = .ok (.iload 7, 2) := by decide +kernel
theorem dX9_bind_140 : decode cX9_bind 140 = .ok (.ifCond .ne 7, 3) := by decide +kernel
theorem dX9_bind_143 : decode cX9_bind 143 = .ok (.iconst 1, 1) := by decide +kernel
theorem dX9_bind_144 : decode cX9_bind 144 = .ok (.goto 4, 3) := by decide +kernel
theorem dX9_bind_147 : decode cX9_bind 147 = .ok (.iconst 0, 1) := by decide +kernel
theorem dX9_bind_148 : decode cX9_bind 148 = .ok (.ireturn, 1) := by decide +kernel
theorem dX9_bind_149 : decode cX9_bind 149 = .ok (.iload 5, 2) := by decide +kernel
theorem dX9_bind_151 : decode cX9_bind 151 = .ok (.iconst 5, 1) := by decide +kernel
theorem dX9_bind_152 : decode cX9_bind 152 = .ok (.if_icmp .ge 127, 3) := by decide +kernel
theorem dX9_bind_155 : decode cX9_bind 155 = .ok (.iload_n 2, 1) := by decide +kernel
theorem dX9_bind_156 : decode cX9_bind 156 = .ok (.iload_n 3, 1) := by decide +kernel
theorem dX9_bind_157 : decode cX9_bind 157 = .ok (.if_icmp .eq 19, 3) := by decide +kernel
theorem dX9_bind_160 : decode cX9_bind 160 = .ok (.iload 4, 2) := by decide +kernel
theorem dX9_bind_162 : decode cX9_bind 162 = .ok (.ifCond .eq 18, 3) := by decide +kernel
theorem dX9_bind_165 : decode cX9_bind 165 = .ok (.aload_n 0, 1) := by decide +kernel
theorem dX9_bind_166 : decode cX9_bind 166 = .ok (.iload_n 3, 1) := by decide +kernel
theorem dX9_bind_167 : decode cX9_bind 167 = .ok (.iload_n 2, 1) := by decide +kernel
theorem dX9_bind_168 : decode cX9_bind 168 = .ok (.bipush 6, 2) := by decide +kernel
theorem dX9_bind_170 : decode cX9_bind 170 = .ok (.invokevirtual 116, 3) := by decide +kernel
theorem dX9_bind_173 : decode cX9_bind 173 = .ok (.ifCond .eq 7, 3) := by decide +kernel
theorem dX9_bind_176 : decode cX9_bind 176 = .ok (.iconst 1, 1) := by decide +kernel
theorem dX9_bind_177 : decode cX9_bind 177 = .ok (.goto 4, 3) := by decide +kernel
theorem dX9_bind_180 : decode cX9_bind 180 = .ok (.iconst 0, 1) := by decide +kernel
theorem dX9_bind_181 : decode cX9_bind 181 = .ok (.istore 6, 2) := by decide +kernel
theorem dX9_bind_183 : decode cX9_bind 183 = .ok (.aload_n 0, 1) := by decide +kernel
theorem dX9_bind_184 : decode cX9_bind 184 = .ok (.getfield 28, 3) := by decide +kernel
theorem dX9_bind_187 : decode cX9_bind 187 = .ok (.iload_n 2, 1) := by decide +kernel
theorem dX9_bind_188 : decode cX9_bind 188 = .ok (.aaload, 1) := by decide +kernel
theorem dX9_bind_189 : decode cX9_bind 189 = .ok (.iload_n 3, 1) := by decide +kernel
theorem dX9_bind_190 : decode cX9_bind 190 = .ok (.baload, 1) := by decide +kernel
theorem dX9_bind_191 : decode cX9_bind 191 = .ok (.istore 8, 2) := by decide +kernel
theorem dX9_bind_193 : decode cX9_bind 193 = .ok (.iload 6, 2) := by decide +kernel
theorem dX9_bind_195 : decode cX9_bind 195 = .ok (.ifCond .ne 13, 3) := by decide +kernel
theorem dX9_bind_198 : decode cX9_bind 198 = .ok (.aload_n 0, 1) := by decide +kernel
theorem dX9_bind_199 : decode cX9_bind 199 = .ok (.getfield 28, 3) := by decide +kernel
theorem dX9_bind_202 : decode cX9_bind 202 = .ok (.iload_n 2, 1) := by decide +kernel
theorem dX9_bind_203 : decode cX9_bind 203 = .ok (.aaload, 1) := by decide +kernel
theorem dX9_bind_204 : decode cX9_bind 204 = .ok (.iload_n 3, 1) := by decide +kernel
theorem dX9_bind_205 : decode cX9_bind 205 = .ok (.iload 4, 2) := by decide +kernel
theorem dX9_bind_207 : decode cX9_bind 207 = .ok (.bastore, 1) := by decide +kernel
theorem dX9_bind_208 : decode cX9_bind 208 = .ok (.iload 6, 2) := by decide +kernel
theorem dX9_bind_210 : decode cX9_bind 210 = .ok (.ifCond .ne 19, 3) := by decide +kernel
theorem dX9_bind_213 : decode cX9_bind 213 = .ok (.iload 4, 2) := by decide +kernel
theorem dX9_bind_215 : decode cX9_bind 215 = .ok (.ifCond .eq 14, 3) := by decide +kernel
theorem dX9_bind_218 : decode cX9_bind 218 = .ok (.aload_n 0, 1) := by decide +kernel
theorem dX9_bind_219 : decode cX9_bind 219 = .ok (.invokevirtual 128, 3) := by decide +kernel
theorem dX9_bind_222 : decode cX9_bind 222 = .ok (.ifCond .eq 7, 3) := by decide +kernel
theorem dX9_bind_225 : decode cX9_bind 225 = .ok (.iconst 1, 1) := by decide +kernel
theorem dX9_bind_226 : decode cX9_bind 226 = .ok (.goto 4, 3) := by decide +kernel
theorem dX9_bind_229 : decode cX9_bind 229 = .ok (.iconst 0, 1) := by decide +kernel
theorem dX9_bind_230 : decode cX9_bind 230 = .ok (.istore 7, 2) := by decide +kernel
theorem dX9_bind_232 : decode cX9_bind 232 = .ok (.iload 7, 2) := by decide +kernel
theorem dX9_bind_234 : decode cX9_bind 234 = .ok (.ifCond .eq 13, 3) := by decide +kernel
theorem dX9_bind_237 : decode cX9_bind 237 = .ok (.aload_n 0, 1) := by decide +kernel
theorem dX9_bind_238 : decode cX9_bind 238 = .ok (.getfield 28, 3) := by decide +kernel
theorem dX9_bind_241 : decode cX9_bind 241 = .ok (.iload_n 2, 1) := by decide +kernel
theorem dX9_bind_242 : decode cX9_bind 242 = .ok (.aaload, 1) := by decide +kernel
theorem dX9_bind_243 : decode cX9_bind 243 = .ok (.iload_n 3, 1) := by decide +kernel
theorem dX9_bind_244 : decode cX9_bind 244 = .ok (.iload 8, 2) := by decide +kernel
theorem dX9_bind_246 : decode cX9_bind 246 = .ok (.bastore, 1) := by decide +kernel
theorem dX9_bind_247 : decode cX9_bind 247 = .ok (.aload_n 0, 1) := by decide +kernel
theorem dX9_bind_248 : decode cX9_bind 248 = .ok (.getfield 10, 3) := by decide +kernel
theorem dX9_bind_251 : decode cX9_bind 251 = .ok (.iload_n 2, 1) := by decide +kernel
theorem dX9_bind_252 : decode cX9_bind 252 = .ok (.iload_n 3, 1) := by decide +kernel
theorem dX9_bind_253 : decode cX9_bind 253 = .ok (.iload 4, 2) := by decide +kernel
theorem dX9_bind_255 : decode cX9_bind 255 = .ok (.invokevirtual 132, 3) := by decide +kernel
theorem dX9_bind_258 : decode cX9_bind 258 = .ok (.iload 8, 2) := by decide +kernel
theorem dX9_bind_260 : decode cX9_bind 260 = .ok (.if_icmp .ne 17, 3) := by decide +kernel
theorem dX9_bind_263 : decode cX9_bind 263 = .ok (.iload 6, 2) := by decide +kernel
theorem dX9_bind_265 : decode cX9_bind 265 = .ok (.ifCond .ne 12, 3) := by decide +kernel
theorem dX9_bind_268 : decode cX9_bind 268 = .ok (.iload 7, 2) := by decide +kernel
theorem dX9_bind_270 : decode cX9_bind 270 = .ok (.ifCond .ne 7, 3) := by decide +kernel
theorem dX9_bind_273 : decode cX9_bind 273 = .ok (.iconst 1, 1) := by decide +kernel
theorem dX9_bind_274 : decode cX9_bind 274 = .ok (.goto 4, 3) := by decide +kernel
theorem dX9_bind_277 : decode cX9_bind 277 = .ok (.iconst 0, 1) := by decide +kernel
theorem dX9_bind_278 : decode cX9_bind 278 = .ok (.ireturn, 1) := by decide +kernel
theorem dX9_bind_279 : decode cX9_bind 279 = .ok (.iload_n 2, 1) := by decide +kernel
theorem dX9_bind_280 : decode cX9_bind 280 = .ok (.iload_n 3, 1) := by decide +kernel
theorem dX9_bind_281 : decode cX9_bind 281 = .ok (.if_icmp .ne 7, 3) := by decide +kernel
theorem dX9_bind_284 : decode cX9_bind 284 = .ok (.iconst 1, 1) := by decide +kernel
theorem dX9_bind_285 : decode cX9_bind 285 = .ok (.goto 4, 3) := by decide +kernel
theorem dX9_bind_288 : decode cX9_bind 288 = .ok (.iconst 0, 1) := by decide +kernel
theorem dX9_bind_289 : decode cX9_bind 289 = .ok (.istore 6, 2) := by decide +kernel
theorem dX9_bind_291 : decode cX9_bind 291 = .ok (.iload 6, 2) := by decide +kernel
theorem dX9_bind_293 : decode cX9_bind 293 = .ok (.ifCond .ne 14, 3) := by decide +kernel
theorem dX9_bind_296 : decode cX9_bind 296 = .ok (.aload_n 0, 1) := by decide +kernel
theorem dX9_bind_297 : decode cX9_bind 297 = .ok (.getfield 31, 3) := by decide +kernel
theorem dX9_bind_300 : decode cX9_bind 300 = .ok (.iload_n 2, 1) := by decide +kernel
theorem dX9_bind_301 : decode cX9_bind 301 = .ok (.aaload, 1) := by decide +kernel
theorem dX9_bind_302 : decode cX9_bind 302 = .ok (.iload_n 3, 1) := by decide +kernel
theorem dX9_bind_303 : decode cX9_bind 303 = .ok (.baload, 1) := by decide +kernel
theorem dX9_bind_304 : decode cX9_bind 304 = .ok (.ifCond .eq 7, 3) := by decide +kernel
theorem dX9_bind_307 : decode cX9_bind 307 = .ok (.iconst 1, 1) := by decide +kernel
theorem dX9_bind_308 : decode cX9_bind 308 = .ok (.goto 4, 3) := by decide +kernel
theorem dX9_bind_311 : decode cX9_bind 311 = .ok (.iconst 0, 1) := by decide +kernel
theorem dX9_bind_312 : decode cX9_bind 312 = .ok (.istore 7, 2) := by decide +kernel
theorem dX9_bind_314 : decode cX9_bind 314 = .ok (.iload 7, 2) := by decide +kernel
theorem dX9_bind_316 : decode cX9_bind 316 = .ok (.ifCond .ne 63, 3) := by decide +kernel
theorem dX9_bind_319 : decode cX9_bind 319 = .ok (.aload_n 0, 1) := by decide +kernel
theorem dX9_bind_320 : decode cX9_bind 320 = .ok (.getfield 31, 3) := by decide +kernel
theorem dX9_bind_323 : decode cX9_bind 323 = .ok (.iload_n 2, 1) := by decide +kernel
theorem dX9_bind_324 : decode cX9_bind 324 = .ok (.aaload, 1) := by decide +kernel
theorem dX9_bind_325 : decode cX9_bind 325 = .ok (.iload_n 3, 1) := by decide +kernel
theorem dX9_bind_326 : decode cX9_bind 326 = .ok (.iconst 1, 1) := by decide +kernel
theorem dX9_bind_327 : decode cX9_bind 327 = .ok (.bastore, 1) := by decide +kernel
theorem dX9_bind_328 : decode cX9_bind 328 = .ok (.aload_n 0, 1) := by decide +kernel
theorem dX9_bind_329 : decode cX9_bind 329 = .ok (.getfield 31, 3) := by decide +kernel
theorem dX9_bind_332 : decode cX9_bind 332 = .ok (.iload_n 3, 1) := by decide +kernel
theorem dX9_bind_333 : decode cX9_bind 333 = .ok (.aaload, 1) := by decide +kernel
theorem dX9_bind_334 : decode cX9_bind 334 = .ok (.iload_n 2, 1) := by decide +kernel
theorem dX9_bind_335 : decode cX9_bind 335 = .ok (.iconst 1, 1) := by decide +kernel
theorem dX9_bind_336 : decode cX9_bind 336 = .ok (.bastore, 1) := by decide +kernel
theorem dX9_bind_337 : decode cX9_bind 337 = .ok (.aload_n 0, 1) := by decide +kernel
theorem dX9_bind_338 : decode cX9_bind 338 = .ok (.invokevirtual 128, 3) := by decide +kernel
theorem dX9_bind_341 : decode cX9_bind 341 = .ok (.istore 7, 2) := by decide +kernel
theorem dX9_bind_343 : decode cX9_bind 343 = .ok (.aload_n 0, 1) := by decide +kernel
theorem dX9_bind_344 : decode cX9_bind 344 = .ok (.getfield 31, 3) := by decide +kernel
theorem dX9_bind_347 : decode cX9_bind 347 = .ok (.iload_n 2, 1) := by decide +kernel
theorem dX9_bind_348 : decode cX9_bind 348 = .ok (.aaload, 1) := by decide +kernel
theorem dX9_bind_349 : decode cX9_bind 349 = .ok (.iload_n 3, 1) := by decide +kernel
theorem dX9_bind_350 : decode cX9_bind 350 = .ok (.iload 7, 2) := by decide +kernel
theorem dX9_bind_352 : decode cX9_bind 352 = .ok (.ifCond .ne 7, 3) := by decide +kernel
theorem dX9_bind_355 : decode cX9_bind 355 = .ok (.iconst 1, 1) := by decide +kernel
theorem dX9_bind_356 : decode cX9_bind 356 = .ok (.goto 4, 3) := by decide +kernel
theorem dX9_bind_359 : decode cX9_bind 359 = .ok (.iconst 0, 1) := by decide +kernel
theorem dX9_bind_360 : decode cX9_bind 360 = .ok (.bastore, 1) := by decide +kernel
theorem dX9_bind_361 : decode cX9_bind 361 = .ok (.aload_n 0, 1) := by decide +kernel
theorem dX9_bind_362 : decode cX9_bind 362 = .ok (.getfield 31, 3) := by decide +kernel
theorem dX9_bind_365 : decode cX9_bind 365 = .ok (.iload_n 3, 1) := by decide +kernel
theorem dX9_bind_366 : decode cX9_bind 366 = .ok (.aaload, 1) := by decide +kernel
theorem dX9_bind_367 : decode cX9_bind 367 = .ok (.iload_n 2, 1) := by decide +kernel
theorem dX9_bind_368 : decode cX9_bind 368 = .ok (.iload 7, 2) := by decide +kernel
theorem dX9_bind_370 : decode cX9_bind 370 = .ok (.ifCond .ne 7, 3) := by decide +kernel
theorem dX9_bind_373 : decode cX9_bind 373 = .ok (.iconst 1, 1) := by decide +kernel
theorem dX9_bind_374 : decode cX9_bind 374 = .ok (.goto 4, 3) := by decide +kernel
theorem dX9_bind_377 : decode cX9_bind 377 = .ok (.iconst 0, 1) := by decide +kernel
theorem dX9_bind_378 : decode cX9_bind 378 = .ok (.bastore, 1) := by decide +kernel
theorem dX9_bind_379 : decode cX9_bind 379 = .ok (.iconst 0, 1) := by decide +kernel
theorem dX9_bind_380 : decode cX9_bind 380 = .ok (.istore 8, 2) := by decide +kernel
theorem dX9_bind_382 : decode cX9_bind 382 = .ok (.iconst 0, 1) := by decide +kernel
theorem dX9_bind_383 : decode cX9_bind 383 = .ok (.istore 9, 2) := by decide +kernel
theorem dX9_bind_385 : decode cX9_bind 385 = .ok (.iload 9, 2) := by decide +kernel
theorem dX9_bind_387 : decode cX9_bind 387 = .ok (.aload_n 0, 1) := by decide +kernel
theorem dX9_bind_388 : decode cX9_bind 388 = .ok (.getfield 92, 3) := by decide +kernel
theorem dX9_bind_391 : decode cX9_bind 391 = .ok (.if_icmp .ge 48, 3) := by decide +kernel
theorem dX9_bind_394 : decode cX9_bind 394 = .ok (.iconst 0, 1) := by decide +kernel
theorem dX9_bind_395 : decode cX9_bind 395 = .ok (.istore 10, 2) := by decide +kernel
theorem dX9_bind_397 : decode cX9_bind 397 = .ok (.iload 10, 2) := by decide +kernel
theorem dX9_bind_399 : decode cX9_bind 399 = .ok (.iload 9, 2) := by decide +kernel
theorem dX9_bind_401 : decode cX9_bind 401 = .ok (.if_icmp .ge 32, 3) := by decide +kernel
theorem dX9_bind_404 : decode cX9_bind 404 = .ok (.iload 8, 2) := by decide +kernel
theorem dX9_bind_406 : decode cX9_bind 406 = .ok (.aload_n 0, 1) := by decide +kernel
theorem dX9_bind_407 : decode cX9_bind 407 = .ok (.getfield 31, 3) := by decide +kernel
theorem dX9_bind_410 : decode cX9_bind 410 = .ok (.iload 9, 2) := by decide +kernel
theorem dX9_bind_412 : decode cX9_bind 412 = .ok (.aaload, 1) := by decide +kernel
theorem dX9_bind_413 : decode cX9_bind 413 = .ok (.iload 10, 2) := by decide +kernel
theorem dX9_bind_415 : decode cX9_bind 415 = .ok (.baload, 1) := by decide +kernel
theorem dX9_bind_416 : decode cX9_bind 416 = .ok (.ifCond .eq 7, 3) := by decide +kernel
theorem dX9_bind_419 : decode cX9_bind 419 = .ok (.iconst 1, 1) := by decide +kernel
theorem dX9_bind_420 : decode cX9_bind 420 = .ok (.goto 4, 3) := by decide +kernel
theorem dX9_bind_423 : decode cX9_bind 423 = .ok (.iconst 0, 1) := by decide +kernel
theorem dX9_bind_424 : decode cX9_bind 424 = .ok (.iadd, 1) := by decide +kernel
theorem dX9_bind_425 : decode cX9_bind 425 = .ok (.istore 8, 2) := by decide +kernel
theorem dX9_bind_427 : decode cX9_bind 427 = .ok (.iinc 10 1, 3) := by decide +kernel
theorem dX9_bind_430 : decode cX9_bind 430 = .ok (.goto (-33), 3) := by decide +kernel
theorem dX9_bind_433 : decode cX9_bind 433 = .ok (.iinc 9 1, 3) := by decide +kernel
theorem dX9_bind_436 : decode cX9_bind 436 = .ok (.goto (-51), 3) := by decide +kernel
theorem dX9_bind_439 : decode cX9_bind 439 = .ok (.aload_n 0, 1) := by decide +kernel
theorem dX9_bind_440 : decode cX9_bind 440 = .ok (.getfield 10, 3) := by decide +kernel
theorem dX9_bind_443 : decode cX9_bind 443 = .ok (.iload_n 2, 1) := by decide +kernel
theorem dX9_bind_444 : decode cX9_bind 444 = .ok (.iload_n 3, 1) := by decide +kernel
theorem dX9_bind_445 : decode cX9_bind 445 = .ok (.invokevirtual 135, 3) := by decide +kernel
theorem dX9_bind_448 : decode cX9_bind 448 = .ok (.iload 8, 2) := by decide +kernel
theorem dX9_bind_450 : decode cX9_bind 450 = .ok (.if_icmp .ne 12, 3) := by decide +kernel
theorem dX9_bind_453 : decode cX9_bind 453 = .ok (.iload 7, 2) := by decide +kernel
theorem dX9_bind_455 : decode cX9_bind 455 = .ok (.ifCond .ne 7, 3) := by decide +kernel
theorem dX9_bind_458 : decode cX9_bind 458 = .ok (.iconst 1, 1) := by decide +kernel
theorem dX9_bind_459 : decode cX9_bind 459 = .ok (.goto 4, 3) := by decide +kernel
theorem dX9_bind_462 : decode cX9_bind 462 = .ok (.iconst 0, 1) := by decide +kernel
theorem dX9_bind_463 : decode cX9_bind 463 = .ok (.ireturn, 1) := by decide +kernel
theorem dX9_bind_464 : decode cX9_bind 464 = .ok (.astore 8, 2) := by decide +kernel
theorem dX9_bind_466 : decode cX9_bind 466 = .ok (.iload 6, 2) := by decide +kernel
theorem dX9_bind_468 : decode cX9_bind 468 = .ok (.ireturn, 1) := by decide +kernel
theorem dX9_bind_469 : decode cX9_bind 469 = .ok (.astore 8, 2) := by decide +kernel
theorem dX9_bind_471 : decode cX9_bind 471 = .ok (.iload 7, 2) := by decide +kernel
theorem dX9_bind_473 : decode cX9_bind 473 = .ok (.ifCond .eq 12, 3) := by decide +kernel
theorem dX9_bind_476 : decode cX9_bind 476 = .ok (.iload 6, 2) := by decide +kernel
theorem dX9_bind_478 : decode cX9_bind 478 = .ok (.ifCond .ne 7, 3) := by decide +kernel
theorem dX9_bind_481 : decode cX9_bind 481 = .ok (.iconst 1, 1) := by decide +kernel
theorem dX9_bind_482 : decode cX9_bind 482 = .ok (.goto 4, 3) := by decide +kernel
theorem dX9_bind_485 : decode cX9_bind 485 = .ok (.iconst 0, 1) := by decide +kernel
theorem dX9_bind_486 : decode cX9_bind 486 = .ok (.ireturn, 1) := by decide +kernel
theorem dX9_addRule_0 : decode cX9_addRule 0 = .ok (.bipush 9, 2) := by decide +kernel
theorem dX9_addRule_2 : decode cX9_addRule 2 = .ok (.newarray .int, 2) := by decide +kernel
theorem dX9_addRule_4 : decode cX9_addRule 4 = .ok (.dup, 1) := by decide +kernel
theorem dX9_addRule_5 : decode cX9_addRule 5 = .ok (.iconst 0, 1) := by decide +kernel
theorem dX9_addRule_6 : decode cX9_addRule 6 = .ok (.aload_n 0, 1) := by decide +kernel
theorem dX9_addRule_7 : decode cX9_addRule 7 = .ok (.iconst 3, 1) := by decide +kernel
theorem dX9_addRule_8 : decode cX9_addRule 8 = .ok (.invokevirtual 78, 3) := by decide +kernel
theorem dX9_addRule_11 : decode cX9_addRule 11 = .ok (.ifCond .ne 7, 3) := by decide +kernel
theorem dX9_addRule_14 : decode cX9_addRule 14 = .ok (.iconst 0, 1) := by decide +kernel
theorem dX9_addRule_15 : decode cX9_addRule 15 = .ok (.goto 4, 3) := by decide +kernel
theorem dX9_addRule_18 : decode cX9_addRule 18 = .ok (.iconst 1, 1) := by decide +kernel
theorem dX9_addRule_19 : decode cX9_addRule 19 = .ok (.iastore, 1) := by decide +kernel
theorem dX9_addRule_20 : decode cX9_addRule 20 = .ok (.dup, 1) := by decide +kernel
theorem dX9_addRule_21 : decode cX9_addRule 21 = .ok (.iconst 1, 1) := by decide +kernel
theorem dX9_addRule_22 : decode cX9_addRule 22 = .ok (.aload_n 0, 1) := by decide +kernel
theorem dX9_addRule_23 : decode cX9_addRule 23 = .ok (.iconst 2, 1) := by decide +kernel
theorem dX9_addRule_24 : decode cX9_addRule 24 = .ok (.invokevirtual 78, 3) := by decide +kernel
theorem dX9_addRule_27 : decode cX9_addRule 27 = .ok (.ifCond .ne 14, 3) := by decide +kernel
theorem dX9_addRule_30 : decode cX9_addRule 30 = .ok (.aload_n 0, 1) := by decide +kernel
theorem dX9_addRule_31 : decode cX9_addRule 31 = .ok (.aload_n 0, 1) := by decide +kernel
theorem dX9_addRule_32 : decode cX9_addRule 32 = .ok (.getfield 82, 3) := by decide +kernel
theorem dX9_addRule_35 : decode cX9_addRule 35 = .ok (.invokevirtual 78, 3) := by decide +kernel
theorem dX9_addRule_38 : decode cX9_addRule 38 = .ok (.goto 14, 3) := by decide +kernel
theorem dX9_addRule_41 : decode cX9_addRule 41 = .ok (.bipush 12, 2) := by decide +kernel
theorem dX9_addRule_43 : decode cX9_addRule 43 = .ok (.aload_n 0, 1) := by decide +kernel
theorem dX9_addRule_44 : decode cX9_addRule 44 = .ok (.aload_n 0, 1) := by decide +kernel
theorem dX9_addRule_45 : decode cX9_addRule 45 = .ok (.getfield 92, 3) := by decide +kernel
theorem dX9_addRule_48 : decode cX9_addRule 48 = .ok (.invokevirtual 78, 3) := by decide +kernel
theorem dX9_addRule_51 : decode cX9_addRule 51 = .ok (.iadd, 1) := by decide +kernel
theorem dX9_addRule_52 : decode cX9_addRule 52 = .ok (.iastore, 1) := by decide +kernel
theorem dX9_addRule_53 : decode cX9_addRule 53 = .ok (.dup, 1) := by decide +kernel
theorem dX9_addRule_54 : decode cX9_addRule 54 = .ok (.iconst 2, 1) := by decide +kernel
theorem dX9_addRule_55 : decode cX9_addRule 55 = .ok (.iconst 1, 1) := by decide +kernel
theorem dX9_addRule_56 : decode cX9_addRule 56 = .ok (.aload_n 0, 1) := by decide +kernel
theorem dX9_addRule_57 : decode cX9_addRule 57 = .ok (.bipush 31, 2) := by decide +kernel
theorem dX9_addRule_59 : decode cX9_addRule 59 = .ok (.invokevirtual 78, 3) := by decide +kernel
theorem dX9_addRule_62 : decode cX9_addRule 62 = .ok (.iadd, 1) := by decide +kernel
theorem dX9_addRule_63 : decode cX9_addRule 63 = .ok (.iastore, 1) := by decide +kernel
theorem dX9_addRule_64 : decode cX9_addRule 64 = .ok (.dup, 1) := by decide +kernel
theorem dX9_addRule_65 : decode cX9_addRule 65 = .ok (.iconst 3, 1) := by decide +kernel
theorem dX9_addRule_66 : decode cX9_addRule 66 = .ok (.aload_n 0, 1) := by decide +kernel
theorem dX9_addRule_67 : decode cX9_addRule 67 = .ok (.aload_n 0, 1) := by decide +kernel
theorem dX9_addRule_68 : decode cX9_addRule 68 = .ok (.getfield 34, 3) := by decide +kernel
theorem dX9_addRule_71 : decode cX9_addRule 71 = .ok (.invokevirtual 78, 3) := by decide +kernel
theorem dX9_addRule_74 : decode cX9_addRule 74 = .ok (.iastore, 1) := by decide +kernel
theorem dX9_addRule_75 : decode cX9_addRule 75 = .ok (.dup, 1) := by decide +kernel
theorem dX9_addRule_76 : decode cX9_addRule 76 = .ok (.iconst 4, 1) := by decide +kernel
theorem dX9_addRule_77 : decode cX9_addRule 77 = .ok (.aload_n 0, 1) := by decide +kernel
theorem dX9_addRule_78 : decode cX9_addRule 78 = .ok (.iconst 2, 1) := by decide +kernel
theorem dX9_addRule_79 : decode cX9_addRule 79 = .ok (.invokevirtual 78, 3) := by decide +kernel
theorem dX9_addRule_82 : decode cX9_addRule 82 = .ok (.iastore, 1) := by decide +kernel
theorem dX9_addRule_83 : decode cX9_addRule 83 = .ok (.dup, 1) := by decide +kernel
theorem dX9_addRule_84 : decode cX9_addRule 84 = .ok (.iconst 5, 1) := by decide +kernel
theorem dX9_addRule_85 : decode cX9_addRule 85 = .ok (.aload_n 0, 1) := by decide +kernel
theorem dX9_addRule_86 : decode cX9_addRule 86 = .ok (.iconst 4, 1) := by decide +kernel
theorem dX9_addRule_87 : decode cX9_addRule 87 = .ok (.invokevirtual 78, 3) := by decide +kernel
theorem dX9_addRule_90 : decode cX9_addRule 90 = .ok (.ifCond .ne 12, 3) := by decide +kernel
theorem dX9_addRule_93 : decode cX9_addRule 93 = .ok (.aload_n 0, 1) := by decide +kernel
theorem dX9_addRule_94 : decode cX9_addRule 94 = .ok (.bipush 10, 2) := by decide +kernel
theorem dX9_addRule_96 : decode cX9_addRule 96 = .ok (.invokevirtual 78, 3) := by decide +kernel
theorem dX9_addRule_99 : decode cX9_addRule 99 = .ok (.goto 8, 3) := by decide +kernel
theorem dX9_addRule_102 : decode cX9_addRule 102 = .ok (.aload_n 0, 1) := by decide +kernel
theorem dX9_addRule_103 : decode cX9_addRule 103 = .ok (.iconst 2, 1) := by decide +kernel
theorem dX9_addRule_104 : decode cX9_addRule 104 = .ok (.invokevirtual 78, 3) := by decide +kernel
theorem dX9_addRule_107 : decode cX9_addRule 107 = .ok (.iastore, 1) := by decide +kernel
theorem dX9_addRule_108 : decode cX9_addRule 108 = .ok (.dup, 1) := by decide +kernel
theorem dX9_addRule_109 : decode cX9_addRule 109 = .ok (.bipush 6, 2) := by decide +kernel
theorem dX9_addRule_111 : decode cX9_addRule 111 = .ok (.iconst 0, 1) := by decide +kernel
theorem dX9_addRule_112 : decode cX9_addRule 112 = .ok (.iastore, 1) := by decide +kernel
theorem dX9_addRule_113 : decode cX9_addRule 113 = .ok (.dup, 1) := by decide +kernel
theorem dX9_addRule_114 : decode cX9_addRule 114 = .ok (.bipush 7, 2) := by decide +kernel
theorem dX9_addRule_116 : decode cX9_addRule 116 = .ok (.iconst 0, 1) := by decide +kernel
theorem dX9_addRule_117 : decode cX9_addRule 117 = .ok (.iastore, 1) := by decide +kernel
theorem dX9_addRule_118 : decode cX9_addRule 118 = .ok (.dup, 1) := by decide +kernel
theorem dX9_addRule_119 : decode cX9_addRule 119 = .ok (.bipush 8, 2) := by decide +kernel
theorem dX9_addRule_121 : decode cX9_addRule 121 = .ok (.bipush 23, 2) := by decide +kernel
theorem dX9_addRule_123 : decode cX9_addRule 123 = .ok (.iastore, 1) := by decide +kernel
theorem dX9_addRule_124 : decode cX9_addRule 124 = .ok (.astore_n 1, 1) := by decide +kernel
theorem dX9_addRule_125 : decode cX9_addRule 125 = .ok (.aload_n 0, 1) := by decide +kernel
theorem dX9_addRule_126 : decode cX9_addRule 126 = .ok (.getfield 51, 3) := by decide +kernel
theorem dX9_addRule_129 : decode cX9_addRule 129 = .ok (.aload_n 0, 1) := by decide +kernel
theorem dX9_addRule_130 : decode cX9_addRule 130 = .ok (.getfield 142, 3) := by decide +kernel
theorem dX9_addRule_133 : decode cX9_addRule 133 = .ok (.aload_n 1, 1) := by decide +kernel
theorem dX9_addRule_134 : decode cX9_addRule 134 = .ok (.aastore, 1) := by decide +kernel
theorem dX9_addRule_135 : decode cX9_addRule 135 = .ok (.aload_n 0, 1) := by decide +kernel
theorem dX9_addRule_136 : decode cX9_addRule 136 = .ok (.getfield 10, 3) := by decide +kernel
theorem dX9_addRule_139 : decode cX9_addRule 139 = .ok (.aload_n 1, 1) := by decide +kernel
theorem dX9_addRule_140 : decode cX9_addRule 140 = .ok (.iconst 0, 1) := by decide +kernel
theorem dX9_addRule_141 : decode cX9_addRule 141 = .ok (.iaload, 1) := by decide +kernel
theorem dX9_addRule_142 : decode cX9_addRule 142 = .ok (.iconst 1, 1) := by decide +kernel
theorem dX9_addRule_143 : decode cX9_addRule 143 = .ok (.if_icmp .ne 7, 3) := by decide +kernel
theorem dX9_addRule_146 : decode cX9_addRule 146 = .ok (.iconst 1, 1) := by decide +kernel
theorem dX9_addRule_147 : decode cX9_addRule 147 = .ok (.goto 4, 3) := by decide +kernel
theorem dX9_addRule_150 : decode cX9_addRule 150 = .ok (.iconst 0, 1) := by decide +kernel
theorem dX9_addRule_151 : decode cX9_addRule 151 = .ok (.aload_n 1, 1) := by decide +kernel
theorem dX9_addRule_152 : decode cX9_addRule 152 = .ok (.iconst 1, 1) := by decide +kernel
theorem dX9_addRule_153 : decode cX9_addRule 153 = .ok (.iaload, 1) := by decide +kernel
theorem dX9_addRule_154 : decode cX9_addRule 154 = .ok (.aload_n 1, 1) := by decide +kernel
theorem dX9_addRule_155 : decode cX9_addRule 155 = .ok (.iconst 2, 1) := by decide +kernel
theorem dX9_addRule_156 : decode cX9_addRule 156 = .ok (.iaload, 1) := by decide +kernel
theorem dX9_addRule_157 : decode cX9_addRule 157 = .ok (.aload_n 1, 1) := by decide +kernel
theorem dX9_addRule_158 : decode cX9_addRule 158 = .ok (.iconst 3, 1) := by decide +kernel
theorem dX9_addRule_159 : decode cX9_addRule 159 = .ok (.iaload, 1) := by decide +kernel
theorem dX9_addRule_160 : decode cX9_addRule 160 = .ok (.invokevirtual 145, 3) := by decide +kernel
theorem dX9_addRule_163 : decode cX9_addRule 163 = .ok (.aload_n 0, 1) := by decide +kernel
theorem dX9_addRule_164 : decode cX9_addRule 164 = .ok (.dup, 1) := by decide +kernel
theorem dX9_addRule_165 : decode cX9_addRule 165 = .ok (.getfield 142, 3) := by decide +kernel
theorem dX9_addRule_168 : decode cX9_addRule 168 = .ok (.dup_x1, 1) := by decide +kernel
theorem dX9_addRule_169 : decode cX9_addRule 169 = .ok (.iconst 1, 1) := by decide +kernel
theorem dX9_addRule_170 : decode cX9_addRule 170 = .ok (.iadd, 1) := by decide +kernel
theorem dX9_addRule_171 : decode cX9_addRule 171 = .ok (.putfield 142, 3) := by decide +kernel
theorem dX9_addRule_174 : decode cX9_addRule 174 = .ok (.if_icmp .ne 34, 3) := by decide +kernel
theorem dX9_addRule_177 : decode cX9_addRule 177 = .ok (.aload_n 0, 1) := by decide +kernel
theorem dX9_addRule_178 : decode cX9_addRule 178 = .ok (.getfield 10, 3) := by decide +kernel
theorem dX9_addRule_181 : decode cX9_addRule 181 = .ok (.aload_n 0, 1) := by decide +kernel
theorem dX9_addRule_182 : decode cX9_addRule 182 = .ok (.getfield 142, 3) := by decide +kernel
theorem dX9_addRule_185 : decode cX9_addRule 185 = .ok (.iconst 1, 1) := by decide +kernel
theorem dX9_addRule_186 : decode cX9_addRule 186 = .ok (.isub, 1) := by decide +kernel
theorem dX9_addRule_187 : decode cX9_addRule 187 = .ok (.aload_n 1, 1) := by decide +kernel
theorem dX9_addRule_188 : decode cX9_addRule 188 = .ok (.iconst 4, 1) := by decide +kernel
theorem dX9_addRule_189 : decode cX9_addRule 189 = .ok (.iaload, 1) := by decide +kernel
theorem dX9_addRule_190 : decode cX9_addRule 190 = .ok (.iconst 1, 1) := by decide +kernel
theorem dX9_addRule_191 : decode cX9_addRule 191 = .ok (.if_icmp .ne 7, 3) := by decide +kernel
theorem dX9_addRule_194 : decode cX9_addRule 194 = .ok (.iconst 1, 1) := by decide +kernel
theorem dX9_addRule_195 : decode cX9_addRule 195 = .ok (.goto 4, 3) := by decide +kernel
theorem dX9_addRule_198 : decode cX9_addRule 198 = .ok (.iconst 0, 1) := by decide +kernel
theorem dX9_addRule_199 : decode cX9_addRule 199 = .ok (.aload_n 1, 1) := by decide +kernel
theorem dX9_addRule_200 : decode cX9_addRule 200 = .ok (.iconst 5, 1) := by decide +kernel
theorem dX9_addRule_201 : decode cX9_addRule 201 = .ok (.iaload, 1) := by decide +kernel
theorem dX9_addRule_202 : decode cX9_addRule 202 = .ok (.invokevirtual 149, 3) := by decide +kernel
theorem dX9_addRule_205 : decode cX9_addRule 205 = .ok (.ifCond .eq 5, 3) := by decide +kernel
theorem dX9_addRule_208 : decode cX9_addRule 208 = .ok (.iconst 0, 1) := by decide +kernel
theorem dX9_addRule_209 : decode cX9_addRule 209 = .ok (.ireturn, 1) := by decide +kernel
theorem dX9_addRule_210 : decode cX9_addRule 210 = .ok (.aload_n 0, 1) := by decide +kernel
theorem dX9_addRule_211 : decode cX9_addRule 211 = .ok (.iconst 3, 1) := by decide +kernel
theorem dX9_addRule_212 : decode cX9_addRule 212 = .ok (.invokevirtual 78, 3) := by decide +kernel
theorem dX9_addRule_215 : decode cX9_addRule 215 = .ok (.ifCond .le 5, 3) := by decide +kernel
theorem dX9_addRule_218 : decode cX9_addRule 218 = .ok (.iconst 1, 1) := by decide +kernel
theorem dX9_addRule_219 : decode cX9_addRule 219 = .ok (.ireturn, 1) := by decide +kernel
theorem dX9_addRule_220 : decode cX9_addRule 220 = .ok (.aload_n 1, 1) := by decide +kernel
theorem dX9_addRule_221 : decode cX9_addRule 221 = .ok (.bipush 6, 2) := by decide +kernel
theorem dX9_addRule_223 : decode cX9_addRule 223 = .ok (.aload_n 0, 1) := by decide +kernel
theorem dX9_addRule_224 : decode cX9_addRule 224 = .ok (.iconst 3, 1) := by decide +kernel
theorem dX9_addRule_225 : decode cX9_addRule 225 = .ok (.invokevirtual 78, 3) := by decide +kernel
theorem dX9_addRule_228 : decode cX9_addRule 228 = .ok (.ifCond .ne 12, 3) := by decide +kernel
theorem dX9_addRule_231 : decode cX9_addRule 231 = .ok (.aload_n 0, 1) := by decide +kernel
theorem dX9_addRule_232 : decode cX9_addRule 232 = .ok (.bipush 8, 2) := by decide +kernel
theorem dX9_addRule_234 : decode cX9_addRule 234 = .ok (.invokevirtual 78, 3) := by decide +kernel
theorem dX9_addRule_237 : decode cX9_addRule 237 = .ok (.goto 4, 3) := by decide +kernel
theorem dX9_addRule_240 : decode cX9_addRule 240 = .ok (.iconst 0, 1) := by decide +kernel
theorem dX9_addRule_241 : decode cX9_addRule 241 = .ok (.iastore, 1) := by decide +kernel
theorem dX9_addRule_242 : decode cX9_addRule 242 = .ok (.aload_n 1, 1) := by decide +kernel
theorem dX9_addRule_243 : decode cX9_addRule 243 = .ok (.bipush 7, 2) := by decide +kernel
theorem dX9_addRule_245 : decode cX9_addRule 245 = .ok (.aload_n 0, 1) := by decide +kernel
theorem dX9_addRule_246 : decode cX9_addRule 246 = .ok (.bipush 24, 2) := by decide +kernel
theorem dX9_addRule_248 : decode cX9_addRule 248 = .ok (.invokevirtual 78, 3) := by decide +kernel
theorem dX9_addRule_251 : decode cX9_addRule 251 = .ok (.iastore, 1) := by decide +kernel
theorem dX9_addRule_252 : decode cX9_addRule 252 = .ok (.aload_n 1, 1) := by decide +kernel
theorem dX9_addRule_253 : decode cX9_addRule 253 = .ok (.bipush 8, 2) := by decide +kernel
theorem dX9_addRule_255 : decode cX9_addRule 255 = .ok (.aload_n 0, 1) := by decide +kernel
theorem dX9_addRule_256 : decode cX9_addRule 256 = .ok (.bipush 24, 2) := by decide +kernel
theorem dX9_addRule_258 : decode cX9_addRule 258 = .ok (.invokevirtual 78, 3) := by decide +kernel
theorem dX9_addRule_261 : decode cX9_addRule 261 = .ok (.iastore, 1) := by decide +kernel
theorem dX9_addRule_262 : decode cX9_addRule 262 = .ok (.aload_n 0, 1) := by decide +kernel
theorem dX9_addRule_263 : decode cX9_addRule 263 = .ok (.getfield 10, 3) := by decide +kernel
theorem dX9_addRule_266 : decode cX9_addRule 266 = .ok (.aload_n 0, 1) := by decide +kernel
theorem dX9_addRule_267 : decode cX9_addRule 267 = .ok (.getfield 142, 3) := by decide +kernel
theorem dX9_addRule_270 : decode cX9_addRule 270 = .ok (.iconst 1, 1) := by decide +kernel
theorem dX9_addRule_271 : decode cX9_addRule 271 = .ok (.isub, 1) := by decide +kernel
theorem dX9_addRule_272 : decode cX9_addRule 272 = .ok (.aload_n 1, 1) := by decide +kernel
theorem dX9_addRule_273 : decode cX9_addRule 273 = .ok (.bipush 6, 2) := by decide +kernel
theorem dX9_addRule_275 : decode cX9_addRule 275 = .ok (.iaload, 1) := by decide +kernel
theorem dX9_addRule_276 : decode cX9_addRule 276 = .ok (.aload_n 1, 1) := by decide +kernel
theorem dX9_addRule_277 : decode cX9_addRule 277 = .ok (.bipush 7, 2) := by decide +kernel
theorem dX9_addRule_279 : decode cX9_addRule 279 = .ok (.iaload, 1) := by decide +kernel
theorem dX9_addRule_280 : decode cX9_addRule 280 = .ok (.aload_n 1, 1) := by decide +kernel
theorem dX9_addRule_281 : decode cX9_addRule 281 = .ok (.bipush 8, 2) := by decide +kernel
theorem dX9_addRule_283 : decode cX9_addRule 283 = .ok (.iaload, 1) := by decide +kernel
theorem dX9_addRule_284 : decode cX9_addRule 284 = .ok (.invokevirtual 153, 3) := by decide +kernel
theorem dX9_addRule_287 : decode cX9_addRule 287 = .ok (.ifCond .ne 7, 3) := by decide +kernel
theorem dX9_addRule_290 : decode cX9_addRule 290 = .ok (.iconst 1, 1) := by decide +kernel
theorem dX9_addRule_291 : decode cX9_addRule 291 = .ok (.goto 4, 3) := by decide +kernel
theorem dX9_addRule_294 : decode cX9_addRule 294 = .ok (.iconst 0, 1) := by decide +kernel
theorem dX9_addRule_295 : decode cX9_addRule 295 = .ok (.ireturn, 1) := by decide +kernel
theorem dX9_addGrant_0 : decode cX9_addGrant 0 = .ok (.aload_n 0, 1) := by decide +kernel
theorem dX9_addGrant_1 : decode cX9_addGrant 1 = .ok (.aload_n 0, 1) := by decide +kernel
theorem dX9_addGrant_2 : decode cX9_addGrant 2 = .ok (.getfield 82, 3) := by decide +kernel
theorem dX9_addGrant_5 : decode cX9_addGrant 5 = .ok (.invokevirtual 78, 3) := by decide +kernel
theorem dX9_addGrant_8 : decode cX9_addGrant 8 = .ok (.istore_n 1, 1) := by decide +kernel
theorem dX9_addGrant_9 : decode cX9_addGrant 9 = .ok (.bipush 6, 2) := by decide +kernel
theorem dX9_addGrant_11 : decode cX9_addGrant 11 = .ok (.newarray .int, 2) := by decide +kernel
theorem dX9_addGrant_13 : decode cX9_addGrant 13 = .ok (.dup, 1) := by decide +kernel
theorem dX9_addGrant_14 : decode cX9_addGrant 14 = .ok (.iconst 0, 1) := by decide +kernel
theorem dX9_addGrant_15 : decode cX9_addGrant 15 = .ok (.iload_n 1, 1) := by decide +kernel
theorem dX9_addGrant_16 : decode cX9_addGrant 16 = .ok (.iastore, 1) := by decide +kernel
theorem dX9_addGrant_17 : decode cX9_addGrant 17 = .ok (.dup, 1) := by decide +kernel
theorem dX9_addGrant_18 : decode cX9_addGrant 18 = .ok (.iconst 1, 1) := by decide +kernel
theorem dX9_addGrant_19 : decode cX9_addGrant 19 = .ok (.iload_n 1, 1) := by decide +kernel
theorem dX9_addGrant_20 : decode cX9_addGrant 20 = .ok (.iconst 1, 1) := by decide +kernel
theorem dX9_addGrant_21 : decode cX9_addGrant 21 = .ok (.iadd, 1) := by decide +kernel
theorem dX9_addGrant_22 : decode cX9_addGrant 22 = .ok (.aload_n 0, 1) := by decide +kernel
theorem dX9_addGrant_23 : decode cX9_addGrant 23 = .ok (.aload_n 0, 1) := by decide +kernel
theorem dX9_addGrant_24 : decode cX9_addGrant 24 = .ok (.getfield 82, 3) := by decide +kernel
theorem dX9_addGrant_27 : decode cX9_addGrant 27 = .ok (.iconst 1, 1) := by decide +kernel
theorem dX9_addGrant_28 : decode cX9_addGrant 28 = .ok (.isub, 1) := by decide +kernel
theorem dX9_addGrant_29 : decode cX9_addGrant 29 = .ok (.invokevirtual 78, 3) := by decide +kernel
theorem dX9_addGrant_32 : decode cX9_addGrant 32 = .ok (.iadd, 1) := by decide +kernel
theorem dX9_addGrant_33 : decode cX9_addGrant 33 = .ok (.aload_n 0, 1) := by decide +kernel
theorem dX9_addGrant_34 : decode cX9_addGrant 34 = .ok (.getfield 82, 3) := by decide +kernel
theorem dX9_addGrant_37 : decode cX9_addGrant 37 = .ok (.irem, 1) := by decide +kernel
theorem dX9_addGrant_38 : decode cX9_addGrant 38 = .ok (.iastore, 1) := by decide +kernel
theorem dX9_addGrant_39 : decode cX9_addGrant 39 = .ok (.dup, 1) := by decide +kernel
theorem dX9_addGrant_40 : decode cX9_addGrant 40 = .ok (.iconst 2, 1) := by decide +kernel
theorem dX9_addGrant_41 : decode cX9_addGrant 41 = .ok (.aload_n 0, 1) := by decide +kernel
theorem dX9_addGrant_42 : decode cX9_addGrant 42 = .ok (.iconst 5, 1) := by decide +kernel
theorem dX9_addGrant_43 : decode cX9_addGrant 43 = .ok (.invokevirtual 78, 3) := by decide +kernel
theorem dX9_addGrant_46 : decode cX9_addGrant 46 = .ok (.iastore, 1) := by decide +kernel
theorem dX9_addGrant_47 : decode cX9_addGrant 47 = .ok (.dup, 1) := by decide +kernel
theorem dX9_addGrant_48 : decode cX9_addGrant 48 = .ok (.iconst 3, 1) := by decide +kernel
theorem dX9_addGrant_49 : decode cX9_addGrant 49 = .ok (.aload_n 0, 1) := by decide +kernel
theorem dX9_addGrant_50 : decode cX9_addGrant 50 = .ok (.aload_n 0, 1) := by decide +kernel
theorem dX9_addGrant_51 : decode cX9_addGrant 51 = .ok (.getfield 34, 3) := by decide +kernel
theorem dX9_addGrant_54 : decode cX9_addGrant 54 = .ok (.invokevirtual 78, 3) := by decide +kernel
theorem dX9_addGrant_57 : decode cX9_addGrant 57 = .ok (.iastore, 1) := by decide +kernel
theorem dX9_addGrant_58 : decode cX9_addGrant 58 = .ok (.dup, 1) := by decide +kernel
theorem dX9_addGrant_59 : decode cX9_addGrant 59 = .ok (.iconst 4, 1) := by decide +kernel
theorem dX9_addGrant_60 : decode cX9_addGrant 60 = .ok (.aload_n 0, 1) := by decide +kernel
theorem dX9_addGrant_61 : decode cX9_addGrant 61 = .ok (.iconst 4, 1) := by decide +kernel
theorem dX9_addGrant_62 : decode cX9_addGrant 62 = .ok (.invokevirtual 78, 3) := by decide +kernel
theorem dX9_addGrant_65 : decode cX9_addGrant 65 = .ok (.iastore, 1) := by decide +kernel
theorem dX9_addGrant_66 : decode cX9_addGrant 66 = .ok (.dup, 1) := by decide +kernel
theorem dX9_addGrant_67 : decode cX9_addGrant 67 = .ok (.iconst 5, 1) := by decide +kernel
theorem dX9_addGrant_68 : decode cX9_addGrant 68 = .ok (.aload_n 0, 1) := by decide +kernel
theorem dX9_addGrant_69 : decode cX9_addGrant 69 = .ok (.getfield 163, 3) := by decide +kernel
theorem dX9_addGrant_72 : decode cX9_addGrant 72 = .ok (.iconst 1, 1) := by decide +kernel
theorem dX9_addGrant_73 : decode cX9_addGrant 73 = .ok (.iadd, 1) := by decide +kernel
theorem dX9_addGrant_74 : decode cX9_addGrant 74 = .ok (.aload_n 0, 1) := by decide +kernel
theorem dX9_addGrant_75 : decode cX9_addGrant 75 = .ok (.sipush 900, 3) := by decide +kernel
theorem dX9_addGrant_78 : decode cX9_addGrant 78 = .ok (.invokevirtual 78, 3) := by decide +kernel
theorem dX9_addGrant_81 : decode cX9_addGrant 81 = .ok (.iadd, 1) := by decide +kernel
theorem dX9_addGrant_82 : decode cX9_addGrant 82 = .ok (.iastore, 1) := by decide +kernel
theorem dX9_addGrant_83 : decode cX9_addGrant 83 = .ok (.astore_n 2, 1) := by decide +kernel
theorem dX9_addGrant_84 : decode cX9_addGrant 84 = .ok (.aload_n 0, 1) := by decide +kernel
theorem dX9_addGrant_85 : decode cX9_addGrant 85 = .ok (.getfield 55, 3) := by decide +kernel
theorem dX9_addGrant_88 : decode cX9_addGrant 88 = .ok (.aload_n 0, 1) := by decide +kernel
theorem dX9_addGrant_89 : decode cX9_addGrant 89 = .ok (.getfield 184, 3) := by decide +kernel
theorem dX9_addGrant_92 : decode cX9_addGrant 92 = .ok (.aload_n 2, 1) := by decide +kernel
theorem dX9_addGrant_93 : decode cX9_addGrant 93 = .ok (.aastore, 1) := by decide +kernel
theorem dX9_addGrant_94 : decode cX9_addGrant 94 = .ok (.aload_n 0, 1) := by decide +kernel
theorem dX9_addGrant_95 : decode cX9_addGrant 95 = .ok (.getfield 10, 3) := by decide +kernel
theorem dX9_addGrant_98 : decode cX9_addGrant 98 = .ok (.aload_n 2, 1) := by decide +kernel
theorem dX9_addGrant_99 : decode cX9_addGrant 99 = .ok (.iconst 0, 1) := by decide +kernel
theorem dX9_addGrant_100 : decode cX9_addGrant 100 = .ok (.iaload, 1) := by decide +kernel
theorem dX9_addGrant_101 : decode cX9_addGrant 101 = .ok (.aload_n 2, 1) := by decide +kernel
theorem dX9_addGrant_102 : decode cX9_addGrant 102 = .ok (.iconst 1, 1) := by decide +kernel
theorem dX9_addGrant_103 : decode cX9_addGrant 103 = .ok (.iaload, 1) := by decide +kernel
theorem dX9_addGrant_104 : decode cX9_addGrant 104 = .ok (.aload_n 2, 1) := by decide +kernel
theorem dX9_addGrant_105 : decode cX9_addGrant 105 = .ok (.iconst 2, 1) := by decide +kernel
theorem dX9_addGrant_106 : decode cX9_addGrant 106 = .ok (.iaload, 1) := by decide +kernel
theorem dX9_addGrant_107 : decode cX9_addGrant 107 = .ok (.aload_n 2, 1) := by decide +kernel
theorem dX9_addGrant_108 : decode cX9_addGrant 108 = .ok (.iconst 3, 1) := by decide +kernel
theorem dX9_addGrant_109 : decode cX9_addGrant 109 = .ok (.iaload, 1) := by decide +kernel
theorem dX9_addGrant_110 : decode cX9_addGrant 110 = .ok (.aload_n 2, 1) := by decide +kernel
theorem dX9_addGrant_111 : decode cX9_addGrant 111 = .ok (.iconst 4, 1) := by decide +kernel
theorem dX9_addGrant_112 : decode cX9_addGrant 112 = .ok (.iaload, 1) := by decide +kernel
theorem dX9_addGrant_113 : decode cX9_addGrant 113 = .ok (.aload_n 2, 1) := by decide +kernel
theorem dX9_addGrant_114 : decode cX9_addGrant 114 = .ok (.iconst 5, 1) := by decide +kernel
theorem dX9_addGrant_115 : decode cX9_addGrant 115 = .ok (.iaload, 1) := by decide +kernel
theorem dX9_addGrant_116 : decode cX9_addGrant 116 = .ok (.aload_n 0, 1) := by decide +kernel
theorem dX9_addGrant_117 : decode cX9_addGrant 117 = .ok (.getfield 163, 3) := by decide +kernel
theorem dX9_addGrant_120 : decode cX9_addGrant 120 = .ok (.isub, 1) := by decide +kernel
theorem dX9_addGrant_121 : decode cX9_addGrant 121 = .ok (.invokevirtual 193, 3) := by decide +kernel
theorem dX9_addGrant_124 : decode cX9_addGrant 124 = .ok (.aload_n 0, 1) := by decide +kernel
theorem dX9_addGrant_125 : decode cX9_addGrant 125 = .ok (.dup, 1) := by decide +kernel
theorem dX9_addGrant_126 : decode cX9_addGrant 126 = .ok (.getfield 184, 3) := by decide +kernel
theorem dX9_addGrant_129 : decode cX9_addGrant 129 = .ok (.dup_x1, 1) := by decide +kernel
theorem dX9_addGrant_130 : decode cX9_addGrant 130 = .ok (.iconst 1, 1) := by decide +kernel
theorem dX9_addGrant_131 : decode cX9_addGrant 131 = .ok (.iadd, 1) := by decide +kernel
theorem dX9_addGrant_132 : decode cX9_addGrant 132 = .ok (.putfield 184, 3) := by decide +kernel
theorem dX9_addGrant_135 : decode cX9_addGrant 135 = .ok (.if_icmp .ne 7, 3) := by decide +kernel
theorem dX9_addGrant_138 : decode cX9_addGrant 138 = .ok (.iconst 1, 1) := by decide +kernel
theorem dX9_addGrant_139 : decode cX9_addGrant 139 = .ok (.goto 4, 3) := by decide +kernel
theorem dX9_addGrant_142 : decode cX9_addGrant 142 = .ok (.iconst 0, 1) := by decide +kernel
theorem dX9_addGrant_143 : decode cX9_addGrant 143 = .ok (.ireturn, 1) := by decide +kernel
