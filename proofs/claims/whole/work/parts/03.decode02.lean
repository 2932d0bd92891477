set_option maxRecDepth 20000 in
theorem dX9_joined_101 : decode cX9_joined 101 = .ok (.ireturn, 1) := by decide +kernel
set_option maxRecDepth 20000 in
theorem dX9_joined_102 : decode cX9_joined 102 = .ok (.iload_n 1, 1) := by decide +kernel
set_option maxRecDepth 20000 in
theorem dX9_joined_103 : decode cX9_joined 103 = .ok (.ifCond .eq 11, 3) := by decide +kernel
set_option maxRecDepth 20000 in
theorem dX9_joined_106 : decode cX9_joined 106 = .ok (.iload_n 2, 1) := by decide +kernel
set_option maxRecDepth 20000 in
theorem dX9_joined_107 : decode cX9_joined 107 = .ok (.ifCond .eq 7, 3) := by decide +kernel
set_option maxRecDepth 20000 in
theorem dX9_joined_110 : decode cX9_joined 110 = .ok (.iconst 1, 1) := by decide +kernel
set_option maxRecDepth 20000 in
theorem dX9_joined_111 : decode cX9_joined 111 = .ok (.goto 4, 3) := by decide +kernel
set_option maxRecDepth 20000 in
theorem dX9_joined_114 : decode cX9_joined 114 = .ok (.iconst 0, 1) := by decide +kernel
set_option maxRecDepth 20000 in
theorem dX9_joined_115 : decode cX9_joined 115 = .ok (.ireturn, 1) := by decide +kernel
set_option maxRecDepth 20000 in
theorem dX9_joined_116 : decode cX9_joined 116 = .ok (.iload_n 1, 1) := by decide +kernel
set_option maxRecDepth 20000 in
theorem dX9_joined_117 : decode cX9_joined 117 = .ok (.ifCond .ne 7, 3) := by decide +kernel
set_option maxRecDepth 20000 in
theorem dX9_joined_120 : decode cX9_joined 120 = .ok (.iload_n 2, 1) := by decide +kernel
set_option maxRecDepth 20000 in
theorem dX9_joined_121 : decode cX9_joined 121 = .ok (.ifCond .eq 7, 3) := by decide +kernel
set_option maxRecDepth 20000 in
theorem dX9_joined_124 : decode cX9_joined 124 = .ok (.iconst 1, 1) := by decide +kernel
set_option maxRecDepth 20000 in
theorem dX9_joined_125 : decode cX9_joined 125 = .ok (.goto 4, 3) := by decide +kernel
set_option maxRecDepth 20000 in
theorem dX9_joined_128 : decode cX9_joined 128 = .ok (.iconst 0, 1) := by decide +kernel
set_option maxRecDepth 20000 in
theorem dX9_joined_129 : decode cX9_joined 129 = .ok (.ireturn, 1) := by decide +kernel
set_option maxRecDepth 20000 in
theorem dX9_joined_130 : decode cX9_joined 130 = .ok (.iconst 0, 1) := by decide +kernel
set_option maxRecDepth 20000 in
theorem dX9_joined_131 : decode cX9_joined 131 = .ok (.ireturn, 1) := by decide +kernel
set_option maxRecDepth 20000 in
theorem dX10_init_0 : decode cX10_init 0 = .ok (.aload_n 0, 1) := by decide +kernel
set_option maxRecDepth 20000 in
theorem dX10_init_1 : decode cX10_init 1 = .ok (.iload_n 1, 1) := by decide +kernel
set_option maxRecDepth 20000 in
theorem dX10_init_2 : decode cX10_init 2 = .ok (.iload_n 2, 1) := by decide +kernel
set_option maxRecDepth 20000 in
theorem dX10_init_3 : decode cX10_init 3 = .ok (.iload_n 3, 1) := by decide +kernel
set_option maxRecDepth 20000 in
theorem dX10_init_4 : decode cX10_init 4 = .ok (.iload 4, 2) := by decide +kernel
set_option maxRecDepth 20000 in
theorem dX10_init_6 : decode cX10_init 6 = .ok (.invokespecial 1, 3) := by decide +kernel
set_option maxRecDepth 20000 in
theorem dX10_init_9 : decode cX10_init 9 = .ok (.return_, 1) := by decide +kernel
set_option maxRecDepth 20000 in
theorem dX10_pays_0 : decode cX10_pays 0 = .ok (.aload_n 0, 1) := by decide +kernel
set_option maxRecDepth 20000 in
theorem dX10_pays_1 : decode cX10_pays 1 = .ok (.iload_n 1, 1) := by decide +kernel
set_option maxRecDepth 20000 in
theorem dX10_pays_2 : decode cX10_pays 2 = .ok (.iload_n 2, 1) := by decide +kernel
set_option maxRecDepth 20000 in
theorem dX10_pays_3 : decode cX10_pays 3 = .ok (.iload_n 3, 1) := by decide +kernel
set_option maxRecDepth 20000 in
theorem dX10_pays_4 : decode cX10_pays 4 = .ok (.invokespecial 7, 3) := by decide +kernel
set_option maxRecDepth 20000 in
theorem dX10_pays_7 : decode cX10_pays 7 = .ok (.ifCond .eq 11, 3) := by decide +kernel
set_option maxRecDepth 20000 in
theorem dX10_pays_10 : decode cX10_pays 10 = .ok (.iload_n 1, 1) := by decide +kernel
set_option maxRecDepth 20000 in
theorem dX10_pays_11 : decode cX10_pays 11 = .ok (.ifCond .lt 7, 3) := by decide +kernel
set_option maxRecDepth 20000 in
theorem dX10_pays_14 : decode cX10_pays 14 = .ok (.iconst 1, 1) := by decide +kernel
set_option maxRecDepth 20000 in
theorem dX10_pays_15 : decode cX10_pays 15 = .ok (.goto 4, 3) := by decide +kernel
set_option maxRecDepth 20000 in
theorem dX10_pays_18 : decode cX10_pays 18 = .ok (.iconst 0, 1) := by decide +kernel
set_option maxRecDepth 20000 in
theorem dX10_pays_19 : decode cX10_pays 19 = .ok (.ireturn, 1) := by decide +kernel
set_option maxRecDepth 20000 in
theorem dX10_gaffs_0 : decode cX10_gaffs 0 = .ok (.iconst 1, 1) := by decide +kernel
set_option maxRecDepth 20000 in
theorem dX10_gaffs_1 : decode cX10_gaffs 1 = .ok (.ireturn, 1) := by decide +kernel
set_option maxRecDepth 20000 in
theorem dX11_init_0 : decode cX11_init 0 = .ok (.aload_n 0, 1) := by decide +kernel
set_option maxRecDepth 20000 in
theorem dX11_init_1 : decode cX11_init 1 = .ok (.invokespecial 3, 3) := by decide +kernel
set_option maxRecDepth 20000 in
theorem dX11_init_4 : decode cX11_init 4 = .ok (.aload_n 0, 1) := by decide +kernel
set_option maxRecDepth 20000 in
theorem dX11_init_5 : decode cX11_init 5 = .ok (.new 9, 3) := by decide +kernel
set_option maxRecDepth 20000 in
theorem dX11_init_8 : decode cX11_init 8 = .ok (.dup, 1) := by decide +kernel
set_option maxRecDepth 20000 in
theorem dX11_init_9 : decode cX11_init 9 = .ok (.invokespecial 11, 3) := by decide +kernel
set_option maxRecDepth 20000 in
theorem dX11_init_12 : decode cX11_init 12 = .ok (.putfield 12, 3) := by decide +kernel
set_option maxRecDepth 20000 in
theorem dX11_init_15 : decode cX11_init 15 = .ok (.aload_n 0, 1) := by decide +kernel
set_option maxRecDepth 20000 in
theorem dX11_init_16 : decode cX11_init 16 = .ok (.new 9, 3) := by decide +kernel
set_option maxRecDepth 20000 in
theorem dX11_init_19 : decode cX11_init 19 = .ok (.dup, 1) := by decide +kernel
set_option maxRecDepth 20000 in
theorem dX11_init_20 : decode cX11_init 20 = .ok (.invokespecial 11, 3) := by decide +kernel
set_option maxRecDepth 20000 in
theorem dX11_init_23 : decode cX11_init 23 = .ok (.putfield 16, 3) := by decide +kernel
set_option maxRecDepth 20000 in
theorem dX11_init_26 : decode cX11_init 26 = .ok (.aload_n 0, 1) := by decide +kernel
set_option maxRecDepth 20000 in
theorem dX11_init_27 : decode cX11_init 27 = .ok (.new 9, 3) := by decide +kernel
set_option maxRecDepth 20000 in
theorem dX11_init_30 : decode cX11_init 30 = .ok (.dup, 1) := by decide +kernel
set_option maxRecDepth 20000 in
theorem dX11_init_31 : decode cX11_init 31 = .ok (.invokespecial 11, 3) := by decide +kernel
set_option maxRecDepth 20000 in
theorem dX11_init_34 : decode cX11_init 34 = .ok (.putfield 19, 3) := by decide +kernel
set_option maxRecDepth 20000 in
theorem dX11_init_37 : decode cX11_init 37 = .ok (.aload_n 0, 1) := by decide +kernel
set_option maxRecDepth 20000 in
theorem dX11_init_38 : decode cX11_init 38 = .ok (.iconst 0, 1) := by decide +kernel
set_option maxRecDepth 20000 in
theorem dX11_init_39 : decode cX11_init 39 = .ok (.putfield 22, 3) := by decide +kernel
set_option maxRecDepth 20000 in
theorem dX11_init_42 : decode cX11_init 42 = .ok (.aload_n 0, 1) := by decide +kernel
set_option maxRecDepth 20000 in
theorem dX11_init_43 : decode cX11_init 43 = .ok (.sipush 300, 3) := by decide +kernel
set_option maxRecDepth 20000 in
theorem dX11_init_46 : decode cX11_init 46 = .ok (.newarray .int, 2) := by decide +kernel
set_option maxRecDepth 20000 in
theorem dX11_init_48 : decode cX11_init 48 = .ok (.putfield 26, 3) := by decide +kernel
set_option maxRecDepth 20000 in
theorem dX11_init_51 : decode cX11_init 51 = .ok (.aload_n 0, 1) := by decide +kernel
set_option maxRecDepth 20000 in
theorem dX11_init_52 : decode cX11_init 52 = .ok (.iconst 0, 1) := by decide +kernel
set_option maxRecDepth 20000 in
theorem dX11_init_53 : decode cX11_init 53 = .ok (.putfield 30, 3) := by decide +kernel
set_option maxRecDepth 20000 in
theorem dX11_init_56 : decode cX11_init 56 = .ok (.aload_n 0, 1) := by decide +kernel
set_option maxRecDepth 20000 in
theorem dX11_init_57 : decode cX11_init 57 = .ok (.bipush 6, 2) := by decide +kernel
set_option maxRecDepth 20000 in
theorem dX11_init_59 : decode cX11_init 59 = .ok (.newarray .int, 2) := by decide +kernel
set_option maxRecDepth 20000 in
theorem dX11_init_61 : decode cX11_init 61 = .ok (.putfield 33, 3) := by decide +kernel
set_option maxRecDepth 20000 in
theorem dX11_init_64 : decode cX11_init 64 = .ok (.aload_n 0, 1) := by decide +kernel
set_option maxRecDepth 20000 in
theorem dX11_init_65 : decode cX11_init 65 = .ok (.bipush 6, 2) := by decide +kernel
set_option maxRecDepth 20000 in
theorem dX11_init_67 : decode cX11_init 67 = .ok (.newarray .int, 2) := by decide +kernel
set_option maxRecDepth 20000 in
theorem dX11_init_69 : decode cX11_init 69 = .ok (.putfield 36, 3) := by decide +kernel
set_option maxRecDepth 20000 in
theorem dX11_init_72 : decode cX11_init 72 = .ok (.aload_n 0, 1) := by decide +kernel
set_option maxRecDepth 20000 in
theorem dX11_init_73 : decode cX11_init 73 = .ok (.iconst 0, 1) := by decide +kernel
set_option maxRecDepth 20000 in
theorem dX11_init_74 : decode cX11_init 74 = .ok (.putfield 39, 3) := by decide +kernel
set_option maxRecDepth 20000 in
theorem dX11_init_77 : decode cX11_init 77 = .ok (.aload_n 0, 1) := by decide +kernel
set_option maxRecDepth 20000 in
theorem dX11_init_78 : decode cX11_init 78 = .ok (.new 42, 3) := by decide +kernel
set_option maxRecDepth 20000 in
theorem dX11_init_81 : decode cX11_init 81 = .ok (.dup, 1) := by decide +kernel
set_option maxRecDepth 20000 in
theorem dX11_init_82 : decode cX11_init 82 = .ok (.invokespecial 44, 3) := by decide +kernel
set_option maxRecDepth 20000 in
theorem dX11_init_85 : decode cX11_init 85 = .ok (.putfield 45, 3) := by decide +kernel
set_option maxRecDepth 20000 in
theorem dX11_init_88 : decode cX11_init 88 = .ok (.aload_n 0, 1) := by decide +kernel
set_option maxRecDepth 20000 in
theorem dX11_init_89 : decode cX11_init 89 = .ok (.new 49, 3) := by decide +kernel
set_option maxRecDepth 20000 in
theorem dX11_init_92 : decode cX11_init 92 = .ok (.dup, 1) := by decide +kernel
set_option maxRecDepth 20000 in
theorem dX11_init_93 : decode cX11_init 93 = .ok (.invokespecial 51, 3) := by decide +kernel
set_option maxRecDepth 20000 in
theorem dX11_init_96 : decode cX11_init 96 = .ok (.putfield 52, 3) := by decide +kernel
set_option maxRecDepth 20000 in
theorem dX11_init_99 : decode cX11_init 99 = .ok (.aload_n 0, 1) := by decide +kernel
set_option maxRecDepth 20000 in
theorem dX11_init_100 : decode cX11_init 100 = .ok (.iconst 4, 1) := by decide +kernel
set_option maxRecDepth 20000 in
theorem dX11_init_101 : decode cX11_init 101 = .ok (.anewarray 56, 3) := by decide +kernel
set_option maxRecDepth 20000 in
theorem dX11_init_104 : decode cX11_init 104 = .ok (.putfield 57, 3) := by decide +kernel
set_option maxRecDepth 20000 in
theorem dX11_init_107 : decode cX11_init 107 = .ok (.aload_n 0, 1) := by decide +kernel
set_option maxRecDepth 20000 in
theorem dX11_init_108 : decode cX11_init 108 = .ok (.iconst 4, 1) := by decide +kernel
set_option maxRecDepth 20000 in
theorem dX11_init_109 : decode cX11_init 109 = .ok (.newarray .int, 2) := by decide +kernel
set_option maxRecDepth 20000 in
theorem dX11_init_111 : decode cX11_init 111 = .ok (.putfield 61, 3) := by decide +kernel
set_option maxRecDepth 20000 in
theorem dX11_init_114 : decode cX11_init 114 = .ok (.aload_n 0, 1) := by decide +kernel
set_option maxRecDepth 20000 in
theorem dX11_init_115 : decode cX11_init 115 = .ok (.new 64, 3) := by decide +kernel
set_option maxRecDepth 20000 in
theorem dX11_init_118 : decode cX11_init 118 = .ok (.dup, 1) := by decide +kernel
set_option maxRecDepth 20000 in
theorem dX11_init_119 : decode cX11_init 119 = .ok (.invokespecial 66, 3) := by decide +kernel
set_option maxRecDepth 20000 in
theorem dX11_init_122 : decode cX11_init 122 = .ok (.putfield 67, 3) := by decide +kernel
set_option maxRecDepth 20000 in
theorem dX11_init_125 : decode cX11_init 125 = .ok (.aload_n 0, 1) := by decide +kernel
set_option maxRecDepth 20000 in
theorem dX11_init_126 : decode cX11_init 126 = .ok (.bipush 6, 2) := by decide +kernel
set_option maxRecDepth 20000 in
theorem dX11_init_128 : decode cX11_init 128 = .ok (.newarray .int, 2) := by decide +kernel
set_option maxRecDepth 20000 in
theorem dX11_init_130 : decode cX11_init 130 = .ok (.putfield 73, 3) := by decide +kernel
set_option maxRecDepth 20000 in
theorem dX11_init_133 : decode cX11_init 133 = .ok (.aload_n 0, 1) := by decide +kernel
set_option maxRecDepth 20000 in
theorem dX11_init_134 : decode cX11_init 134 = .ok (.iconst 4, 1) := by decide +kernel
set_option maxRecDepth 20000 in
theorem dX11_init_135 : decode cX11_init 135 = .ok (.newarray .int, 2) := by decide +kernel
set_option maxRecDepth 20000 in
theorem dX11_init_137 : decode cX11_init 137 = .ok (.putfield 76, 3) := by decide +kernel
set_option maxRecDepth 20000 in
theorem dX11_init_140 : decode cX11_init 140 = .ok (.aload_n 0, 1) := by decide +kernel
set_option maxRecDepth 20000 in
theorem dX11_init_141 : decode cX11_init 141 = .ok (.bipush 40, 2) := by decide +kernel
set_option maxRecDepth 20000 in
theorem dX11_init_143 : decode cX11_init 143 = .ok (.newarray .long, 2) := by decide +kernel
set_option maxRecDepth 20000 in
theorem dX11_init_145 : decode cX11_init 145 = .ok (.putfield 79, 3) := by decide +kernel
set_option maxRecDepth 20000 in
theorem dX11_init_148 : decode cX11_init 148 = .ok (.aload_n 0, 1) := by decide +kernel
set_option maxRecDepth 20000 in
theorem dX11_init_149 : decode cX11_init 149 = .ok (.bipush 40, 2) := by decide +kernel
set_option maxRecDepth 20000 in
theorem dX11_init_151 : decode cX11_init 151 = .ok (.newarray .long, 2) := by decide +kernel
set_option maxRecDepth 20000 in
theorem dX11_init_153 : decode cX11_init 153 = .ok (.putfield 83, 3) := by decide +kernel
set_option maxRecDepth 20000 in
theorem dX11_init_156 : decode cX11_init 156 = .ok (.aload_n 0, 1) := by decide +kernel
set_option maxRecDepth 20000 in
theorem dX11_init_157 : decode cX11_init 157 = .ok (.bipush 8, 2) := by decide +kernel
set_option maxRecDepth 20000 in
theorem dX11_init_159 : decode cX11_init 159 = .ok (.newarray .int, 2) := by decide +kernel
set_option maxRecDepth 20000 in
theorem dX11_init_161 : decode cX11_init 161 = .ok (.putfield 86, 3) := by decide +kernel
set_option maxRecDepth 20000 in
theorem dX11_init_164 : decode cX11_init 164 = .ok (.aload_n 0, 1) := by decide +kernel
set_option maxRecDepth 20000 in
theorem dX11_init_165 : decode cX11_init 165 = .ok (.sipush 201, 3) := by decide +kernel
set_option maxRecDepth 20000 in
theorem dX11_init_168 : decode cX11_init 168 = .ok (.newarray .int, 2) := by decide +kernel
set_option maxRecDepth 20000 in
theorem dX11_init_170 : decode cX11_init 170 = .ok (.putfield 89, 3) := by decide +kernel
set_option maxRecDepth 20000 in
theorem dX11_init_173 : decode cX11_init 173 = .ok (.aload_n 0, 1) := by decide +kernel
set_option maxRecDepth 20000 in
theorem dX11_init_174 : decode cX11_init 174 = .ok (.getfield 45, 3) := by decide +kernel
set_option maxRecDepth 20000 in
theorem dX11_init_177 : decode cX11_init 177 = .ok (.ldc 92, 2) := by decide +kernel
set_option maxRecDepth 20000 in
theorem dX11_init_179 : decode cX11_init 179 = .ok (.invokevirtual 94, 3) := by decide +kernel
set_option maxRecDepth 20000 in
theorem dX11_init_182 : decode cX11_init 182 = .ok (.aload_n 0, 1) := by decide +kernel
set_option maxRecDepth 20000 in
theorem dX11_init_183 : decode cX11_init 183 = .ok (.getfield 45, 3) := by decide +kernel
set_option maxRecDepth 20000 in
theorem dX11_init_186 : decode cX11_init 186 = .ok (.invokevirtual 98, 3) := by decide +kernel
set_option maxRecDepth 20000 in
theorem dX11_init_189 : decode cX11_init 189 = .ok (.astore_n 1, 1) := by decide +kernel
set_option maxRecDepth 20000 in
theorem dX11_init_190 : decode cX11_init 190 = .ok (.aload_n 1, 1) := by decide +kernel
set_option maxRecDepth 20000 in
theorem dX11_init_191 : decode cX11_init 191 = .ok (.ifnull 12, 3) := by decide +kernel
set_option maxRecDepth 20000 in
theorem dX11_init_194 : decode cX11_init 194 = .ok (.aload_n 0, 1) := by decide +kernel
set_option maxRecDepth 20000 in
theorem dX11_init_195 : decode cX11_init 195 = .ok (.getfield 19, 3) := by decide +kernel
set_option maxRecDepth 20000 in
theorem dX11_init_198 : decode cX11_init 198 = .ok (.aload_n 1, 1) := by decide +kernel
set_option maxRecDepth 20000 in
theorem dX11_init_199 : decode cX11_init 199 = .ok (.invokevirtual 102, 3) := by decide +kernel
set_option maxRecDepth 20000 in
theorem dX11_init_202 : decode cX11_init 202 = .ok (.pop, 1) := by decide +kernel
set_option maxRecDepth 20000 in
theorem dX11_init_203 : decode cX11_init 203 = .ok (.return_, 1) := by decide +kernel
set_option maxRecDepth 20000 in
theorem dX11_stall_0 : decode cX11_stall 0 = .ok (.iload_n 1, 1) := by decide +kernel
set_option maxRecDepth 20000 in
theorem dX11_stall_1 : decode cX11_stall 1 = .ok (.iconst 0, 1) := by decide +kernel
set_option maxRecDepth 20000 in
theorem dX11_stall_2 : decode cX11_stall 2 = .ok (.iconst 5, 1) := by decide +kernel
set_option maxRecDepth 20000 in
theorem dX11_stall_3 : decode cX11_stall 3 = .ok (.invokestatic 106, 3) := by decide +kernel
set_option maxRecDepth 20000 in
theorem dX11_stall_6 : decode cX11_stall 6 = .ok (.ifCond .eq 31, 3) := by decide +kernel
set_option maxRecDepth 20000 in
theorem dX11_stall_9 : decode cX11_stall 9 = .ok (.iload_n 2, 1) := by decide +kernel
set_option maxRecDepth 20000 in
theorem dX11_stall_10 : decode cX11_stall 10 = .ok (.invokestatic 110, 3) := by decide +kernel
set_option maxRecDepth 20000 in
theorem dX11_stall_13 : decode cX11_stall 13 = .ok (.ifCond .eq 24, 3) := by decide +kernel
set_option maxRecDepth 20000 in
theorem dX11_stall_16 : decode cX11_stall 16 = .ok (.iload_n 3, 1) := by decide +kernel
set_option maxRecDepth 20000 in
theorem dX11_stall_17 : decode cX11_stall 17 = .ok (.iconst 0, 1) := by decide +kernel
set_option maxRecDepth 20000 in
theorem dX11_stall_18 : decode cX11_stall 18 = .ok (.bipush 9, 2) := by decide +kernel
set_option maxRecDepth 20000 in
theorem dX11_stall_20 : decode cX11_stall 20 = .ok (.invokestatic 106, 3) := by decide +kernel
set_option maxRecDepth 20000 in
theorem dX11_stall_23 : decode cX11_stall 23 = .ok (.ifCond .eq 14, 3) := by decide +kernel
set_option maxRecDepth 20000 in
theorem dX11_stall_26 : decode cX11_stall 26 = .ok (.iload 4, 2) := by decide +kernel
set_option maxRecDepth 20000 in
theorem dX11_stall_28 : decode cX11_stall 28 = .ok (.iconst 1, 1) := by decide +kernel
set_option maxRecDepth 20000 in
theorem dX11_stall_29 : decode cX11_stall 29 = .ok (.bipush 99, 2) := by decide +kernel
set_option maxRecDepth 20000 in
theorem dX11_stall_31 : decode cX11_stall 31 = .ok (.invokestatic 106, 3) := by decide +kernel
set_option maxRecDepth 20000 in
theorem dX11_stall_34 : decode cX11_stall 34 = .ok (.ifCond .ne 6, 3) := by decide +kernel
set_option maxRecDepth 20000 in
theorem dX11_stall_37 : decode cX11_stall 37 = .ok (.bipush (-2), 2) := by decide +kernel
set_option maxRecDepth 20000 in
theorem dX11_stall_39 : decode cX11_stall 39 = .ok (.ireturn, 1) := by decide +kernel
set_option maxRecDepth 20000 in
theorem dX11_stall_40 : decode cX11_stall 40 = .ok (.aload_n 0, 1) := by decide +kernel
set_option maxRecDepth 20000 in
theorem dX11_stall_41 : decode cX11_stall 41 = .ok (.getfield 12, 3) := by decide +kernel
set_option maxRecDepth 20000 in
theorem dX11_stall_44 : decode cX11_stall 44 = .ok (.invokevirtual 114, 3) := by decide +kernel
set_option maxRecDepth 20000 in
theorem dX11_stall_47 : decode cX11_stall 47 = .ok (.bipush 8, 2) := by decide +kernel
set_option maxRecDepth 20000 in
theorem dX11_stall_49 : decode cX11_stall 49 = .ok (.if_icmp .lt 6, 3) := by decide +kernel
set_option maxRecDepth 20000 in
theorem dX11_stall_52 : decode cX11_stall 52 = .ok (.bipush (-4), 2) := by decide +kernel
set_option maxRecDepth 20000 in
theorem dX11_stall_54 : decode cX11_stall 54 = .ok (.ireturn, 1) := by decide +kernel
set_option maxRecDepth 20000 in
theorem dX11_stall_55 : decode cX11_stall 55 = .ok (.aload_n 0, 1) := by decide +kernel
set_option maxRecDepth 20000 in
theorem dX11_stall_56 : decode cX11_stall 56 = .ok (.getfield 12, 3) := by decide +kernel
set_option maxRecDepth 20000 in
theorem dX11_stall_59 : decode cX11_stall 59 = .ok (.iload_n 1, 1) := by decide +kernel
set_option maxRecDepth 20000 in
theorem dX11_stall_60 : decode cX11_stall 60 = .ok (.iload_n 2, 1) := by decide +kernel
set_option maxRecDepth 20000 in
theorem dX11_stall_61 : decode cX11_stall 61 = .ok (.iload_n 3, 1) := by decide +kernel
set_option maxRecDepth 20000 in
theorem dX11_stall_62 : decode cX11_stall 62 = .ok (.iload 4, 2) := by decide +kernel
set_option maxRecDepth 20000 in
theorem dX11_stall_64 : decode cX11_stall 64 = .ok (.invokestatic 118, 3) := by decide +kernel
set_option maxRecDepth 20000 in
theorem dX11_stall_67 : decode cX11_stall 67 = .ok (.invokevirtual 102, 3) := by decide +kernel
set_option maxRecDepth 20000 in
theorem dX11_stall_70 : decode cX11_stall 70 = .ok (.pop, 1) := by decide +kernel
set_option maxRecDepth 20000 in
theorem dX11_stall_71 : decode cX11_stall 71 = .ok (.aload_n 0, 1) := by decide +kernel
set_option maxRecDepth 20000 in
theorem dX11_stall_72 : decode cX11_stall 72 = .ok (.getfield 12, 3) := by decide +kernel
set_option maxRecDepth 20000 in
theorem dX11_stall_75 : decode cX11_stall 75 = .ok (.invokevirtual 114, 3) := by decide +kernel
set_option maxRecDepth 20000 in
theorem dX11_stall_78 : decode cX11_stall 78 = .ok (.iconst 1, 1) := by decide +kernel
set_option maxRecDepth 20000 in
theorem dX11_stall_79 : decode cX11_stall 79 = .ok (.isub, 1) := by decide +kernel
set_option maxRecDepth 20000 in
theorem dX11_stall_80 : decode cX11_stall 80 = .ok (.ireturn, 1) := by decide +kernel
set_option maxRecDepth 20000 in
theorem dX11_set_0 : decode cX11_set 0 = .ok (.aload_n 0, 1) := by decide +kernel
set_option maxRecDepth 20000 in
theorem dX11_set_1 : decode cX11_set 1 = .ok (.iload_n 1, 1) := by decide +kernel
set_option maxRecDepth 20000 in
theorem dX11_set_2 : decode cX11_set 2 = .ok (.invokevirtual 122, 3) := by decide +kernel
set_option maxRecDepth 20000 in
theorem dX11_set_5 : decode cX11_set 5 = .ok (.astore 4, 2) := by decide +kernel
set_option maxRecDepth 20000 in
theorem dX11_set_7 : decode cX11_set 7 = .ok (.aload 4, 2) := by decide +kernel
set_option maxRecDepth 20000 in
theorem dX11_set_9 : decode cX11_set 9 = .ok (.ifnull 11, 3) := by decide +kernel
set_option maxRecDepth 20000 in
theorem dX11_set_12 : decode cX11_set 12 = .ok (.iload_n 2, 1) := by decide +kernel
set_option maxRecDepth 20000 in
theorem dX11_set_13 : decode cX11_set 13 = .ok (.iload_n 3, 1) := by decide +kernel
set_option maxRecDepth 20000 in
theorem dX11_set_14 : decode cX11_set 14 = .ok (.invokestatic 126, 3) := by decide +kernel
set_option maxRecDepth 20000 in
theorem dX11_set_17 : decode cX11_set 17 = .ok (.ifCond .ne 6, 3) := by decide +kernel
set_option maxRecDepth 20000 in
theorem dX11_set_20 : decode cX11_set 20 = .ok (.bipush (-5), 2) := by decide +kernel
set_option maxRecDepth 20000 in
theorem dX11_set_22 : decode cX11_set 22 = .ok (.ireturn, 1) := by decide +kernel
set_option maxRecDepth 20000 in
theorem dX11_set_23 : decode cX11_set 23 = .ok (.aload 4, 2) := by decide +kernel
set_option maxRecDepth 20000 in
theorem dX11_set_25 : decode cX11_set 25 = .ok (.iload_n 2, 1) := by decide +kernel
set_option maxRecDepth 20000 in
theorem dX11_set_26 : decode cX11_set 26 = .ok (.invokevirtual 130, 3) := by decide +kernel
set_option maxRecDepth 20000 in
theorem dX11_set_29 : decode cX11_set 29 = .ok (.istore 5, 2) := by decide +kernel
set_option maxRecDepth 20000 in
theorem dX11_set_31 : decode cX11_set 31 = .ok (.aload 4, 2) := by decide +kernel
set_option maxRecDepth 20000 in
theorem dX11_set_33 : decode cX11_set 33 = .ok (.iload_n 2, 1) := by decide +kernel
set_option maxRecDepth 20000 in
theorem dX11_set_34 : decode cX11_set 34 = .ok (.iload_n 3, 1) := by decide +kernel
set_option maxRecDepth 20000 in
theorem dX11_set_35 : decode cX11_set 35 = .ok (.invokevirtual 136, 3) := by decide +kernel
set_option maxRecDepth 20000 in
theorem dX11_set_38 : decode cX11_set 38 = .ok (.iload 5, 2) := by decide +kernel
set_option maxRecDepth 20000 in
theorem dX11_set_40 : decode cX11_set 40 = .ok (.ireturn, 1) := by decide +kernel
set_option maxRecDepth 20000 in
theorem dX11_told_0 : decode cX11_told 0 = .ok (.aload_n 0, 1) := by decide +kernel
set_option maxRecDepth 20000 in
theorem dX11_told_1 : decode cX11_told 1 = .ok (.iload_n 1, 1) := by decide +kernel
set_option maxRecDepth 20000 in
theorem dX11_told_2 : decode cX11_told 2 = .ok (.invokevirtual 122, 3) := by decide +kernel
set_option maxRecDepth 20000 in
theorem dX11_told_5 : decode cX11_told 5 = .ok (.astore_n 3, 1) := by decide +kernel
set_option maxRecDepth 20000 in
theorem dX11_told_6 : decode cX11_told 6 = .ok (.aload_n 3, 1) := by decide +kernel
set_option maxRecDepth 20000 in
theorem dX11_told_7 : decode cX11_told 7 = .ok (.ifnonnull 6, 3) := by decide +kernel
set_option maxRecDepth 20000 in
theorem dX11_told_10 : decode cX11_told 10 = .ok (.bipush (-5), 2) := by decide +kernel
set_option maxRecDepth 20000 in
theorem dX11_told_12 : decode cX11_told 12 = .ok (.ireturn, 1) := by decide +kernel
set_option maxRecDepth 20000 in
theorem dX11_told_13 : decode cX11_told 13 = .ok (.iload_n 2, 1) := by decide +kernel
set_option maxRecDepth 20000 in
theorem dX11_told_14 : decode cX11_told 14 = .ok (.tableswitch 104 0 8 #[50, 55, 68, 73, 78, 83, 88, 93, 98], 50) := by decide +kernel
set_option maxRecDepth 20000 in
theorem dX11_told_64 : decode cX11_told 64 = .ok (.aload_n 3, 1) := by decide +kernel
set_option maxRecDepth 20000 in
theorem dX11_told_65 : decode cX11_told 65 = .ok (.getfield 140, 3) := by decide +kernel
set_option maxRecDepth 20000 in
theorem dX11_told_68 : decode cX11_told 68 = .ok (.ireturn, 1) := by decide +kernel
set_option maxRecDepth 20000 in
theorem dX11_told_69 : decode cX11_told 69 = .ok (.bipush 100, 2) := by decide +kernel
set_option maxRecDepth 20000 in
theorem dX11_told_71 : decode cX11_told 71 = .ok (.aload_n 3, 1) := by decide +kernel
set_option maxRecDepth 20000 in
theorem dX11_told_72 : decode cX11_told 72 = .ok (.getfield 143, 3) := by decide +kernel
set_option maxRecDepth 20000 in
theorem dX11_told_75 : decode cX11_told 75 = .ok (.imul, 1) := by decide +kernel
set_option maxRecDepth 20000 in
theorem dX11_told_76 : decode cX11_told 76 = .ok (.aload_n 3, 1) := by decide +kernel
set_option maxRecDepth 20000 in
theorem dX11_told_77 : decode cX11_told 77 = .ok (.getfield 146, 3) := by decide +kernel
set_option maxRecDepth 20000 in
theorem dX11_told_80 : decode cX11_told 80 = .ok (.iadd, 1) := by decide +kernel
set_option maxRecDepth 20000 in
theorem dX11_told_81 : decode cX11_told 81 = .ok (.ireturn, 1) := by decide +kernel
set_option maxRecDepth 20000 in
theorem dX11_told_82 : decode cX11_told 82 = .ok (.aload_n 3, 1) := by decide +kernel
set_option maxRecDepth 20000 in
theorem dX11_told_83 : decode cX11_told 83 = .ok (.getfield 149, 3) := by decide +kernel
set_option maxRecDepth 20000 in
theorem dX11_told_86 : decode cX11_told 86 = .ok (.ireturn, 1) := by decide +kernel
set_option maxRecDepth 20000 in
theorem dX11_told_87 : decode cX11_told 87 = .ok (.aload_n 3, 1) := by decide +kernel
set_option maxRecDepth 20000 in
theorem dX11_told_88 : decode cX11_told 88 = .ok (.getfield 151, 3) := by decide +kernel
set_option maxRecDepth 20000 in
theorem dX11_told_91 : decode cX11_told 91 = .ok (.ireturn, 1) := by decide +kernel
set_option maxRecDepth 20000 in
theorem dX11_told_92 : decode cX11_told 92 = .ok (.aload_n 3, 1) := by decide +kernel
set_option maxRecDepth 20000 in
theorem dX11_told_93 : decode cX11_told 93 = .ok (.getfield 154, 3) := by decide +kernel
set_option maxRecDepth 20000 in
theorem dX11_told_96 : decode cX11_told 96 = .ok (.ireturn, 1) := by decide +kernel
set_option maxRecDepth 20000 in
theorem dX11_told_97 : decode cX11_told 97 = .ok (.aload_n 3, 1) := by decide +kernel
set_option maxRecDepth 20000 in
theorem dX11_told_98 : decode cX11_told 98 = .ok (.getfield 157, 3) := by decide +kernel
set_option maxRecDepth 20000 in
theorem dX11_told_101 : decode cX11_told 101 = .ok (.ireturn, 1) := by decide +kernel
set_option maxRecDepth 20000 in
theorem dX11_told_102 : decode cX11_told 102 = .ok (.aload_n 3, 1) := by decide +kernel
set_option maxRecDepth 20000 in
theorem dX11_told_103 : decode cX11_told 103 = .ok (.getfield 160, 3) := by decide +kernel
set_option maxRecDepth 20000 in
theorem dX11_told_106 : decode cX11_told 106 = .ok (.ireturn, 1) := by decide +kernel
set_option maxRecDepth 20000 in
theorem dX11_told_107 : decode cX11_told 107 = .ok (.aload_n 3, 1) := by decide +kernel
set_option maxRecDepth 20000 in
theorem dX11_told_108 : decode cX11_told 108 = .ok (.invokevirtual 163, 3) := by decide +kernel
set_option maxRecDepth 20000 in
theorem dX11_told_111 : decode cX11_told 111 = .ok (.ireturn, 1) := by decide +kernel
set_option maxRecDepth 20000 in
theorem dX11_told_112 : decode cX11_told 112 = .ok (.aload_n 0, 1) := by decide +kernel
set_option maxRecDepth 20000 in
theorem dX11_told_113 : decode cX11_told 113 = .ok (.aload_n 3, 1) := by decide +kernel
set_option maxRecDepth 20000 in
theorem dX11_told_114 : decode cX11_told 114 = .ok (.invokevirtual 166, 3) := by decide +kernel
set_option maxRecDepth 20000 in
theorem dX11_told_117 : decode cX11_told 117 = .ok (.ireturn, 1) := by decide +kernel
set_option maxRecDepth 20000 in
theorem dX11_told_118 : decode cX11_told 118 = .ok (.bipush (-5), 2) := by decide +kernel
set_option maxRecDepth 20000 in
theorem dX11_told_120 : decode cX11_told 120 = .ok (.ireturn, 1) := by decide +kernel
set_option maxRecDepth 20000 in
theorem dX11_wins_0 : decode cX11_wins 0 = .ok (.aload_n 0, 1) := by decide +kernel
set_option maxRecDepth 20000 in
theorem dX11_wins_1 : decode cX11_wins 1 = .ok (.iload_n 1, 1) := by decide +kernel
set_option maxRecDepth 20000 in
theorem dX11_wins_2 : decode cX11_wins 2 = .ok (.invokevirtual 122, 3) := by decide +kernel
set_option maxRecDepth 20000 in
theorem dX11_wins_5 : decode cX11_wins 5 = .ok (.astore 4, 2) := by decide +kernel
set_option maxRecDepth 20000 in
theorem dX11_wins_7 : decode cX11_wins 7 = .ok (.aload 4, 2) := by decide +kernel
set_option maxRecDepth 20000 in
theorem dX11_wins_9 : decode cX11_wins 9 = .ok (.ifnull 25, 3) := by decide +kernel
set_option maxRecDepth 20000 in
theorem dX11_wins_12 : decode cX11_wins 12 = .ok (.iload_n 2, 1) := by decide +kernel
set_option maxRecDepth 20000 in
theorem dX11_wins_13 : decode cX11_wins 13 = .ok (.bipush (-40), 2) := by decide +kernel
set_option maxRecDepth 20000 in
theorem dX11_wins_15 : decode cX11_wins 15 = .ok (.bipush 40, 2) := by decide +kernel
set_option maxRecDepth 20000 in
theorem dX11_wins_17 : decode cX11_wins 17 = .ok (.invokestatic 106, 3) := by decide +kernel
set_option maxRecDepth 20000 in
theorem dX11_wins_20 : decode cX11_wins 20 = .ok (.ifCond .eq 14, 3) := by decide +kernel
set_option maxRecDepth 20000 in
theorem dX11_wins_23 : decode cX11_wins 23 = .ok (.iload_n 3, 1) := by decide +kernel
set_option maxRecDepth 20000 in
theorem dX11_wins_24 : decode cX11_wins 24 = .ok (.bipush (-40), 2) := by decide +kernel
set_option maxRecDepth 20000 in
theorem dX11_wins_26 : decode cX11_wins 26 = .ok (.bipush 40, 2) := by decide +kernel
set_option maxRecDepth 20000 in
theorem dX11_wins_28 : decode cX11_wins 28 = .ok (.invokestatic 106, 3) := by decide +kernel
set_option maxRecDepth 20000 in
theorem dX11_wins_31 : decode cX11_wins 31 = .ok (.ifCond .ne 6, 3) := by decide +kernel
set_option maxRecDepth 20000 in
theorem dX11_wins_34 : decode cX11_wins 34 = .ok (.bipush (-2), 2) := by decide +kernel
set_option maxRecDepth 20000 in
theorem dX11_wins_36 : decode cX11_wins 36 = .ok (.ireturn, 1) := by decide +kernel
set_option maxRecDepth 20000 in
theorem dX11_wins_37 : decode cX11_wins 37 = .ok (.aload 4, 2) := by decide +kernel
set_option maxRecDepth 20000 in
theorem dX11_wins_39 : decode cX11_wins 39 = .ok (.iload_n 2, 1) := by decide +kernel
set_option maxRecDepth 20000 in
theorem dX11_wins_40 : decode cX11_wins 40 = .ok (.iload_n 3, 1) := by decide +kernel
set_option maxRecDepth 20000 in
theorem dX11_wins_41 : decode cX11_wins 41 = .ok (.aload 4, 2) := by decide +kernel
set_option maxRecDepth 20000 in
theorem dX11_wins_43 : decode cX11_wins 43 = .ok (.getfield 160, 3) := by decide +kernel
set_option maxRecDepth 20000 in
theorem dX11_wins_46 : decode cX11_wins 46 = .ok (.invokevirtual 170, 3) := by decide +kernel
set_option maxRecDepth 20000 in
theorem dX11_wins_49 : decode cX11_wins 49 = .ok (.invokestatic 173, 3) := by decide +kernel
set_option maxRecDepth 20000 in
theorem dX11_wins_52 : decode cX11_wins 52 = .ok (.ireturn, 1) := by decide +kernel
set_option maxRecDepth 20000 in
theorem dX11_hand_0 : decode cX11_hand 0 = .ok (.iload_n 1, 1) := by decide +kernel
set_option maxRecDepth 20000 in
theorem dX11_hand_1 : decode cX11_hand 1 = .ok (.bipush (-5), 2) := by decide +kernel
set_option maxRecDepth 20000 in
theorem dX11_hand_3 : decode cX11_hand 3 = .ok (.iconst 5, 1) := by decide +kernel
set_option maxRecDepth 20000 in
theorem dX11_hand_4 : decode cX11_hand 4 = .ok (.invokestatic 106, 3) := by decide +kernel
set_option maxRecDepth 20000 in
theorem dX11_hand_7 : decode cX11_hand 7 = .ok (.ifCond .eq 22, 3) := by decide +kernel
set_option maxRecDepth 20000 in
theorem dX11_hand_10 : decode cX11_hand 10 = .ok (.iload_n 2, 1) := by decide +kernel
set_option maxRecDepth 20000 in
theorem dX11_hand_11 : decode cX11_hand 11 = .ok (.bipush (-5), 2) := by decide +kernel
set_option maxRecDepth 20000 in
theorem dX11_hand_13 : decode cX11_hand 13 = .ok (.iconst 5, 1) := by decide +kernel
set_option maxRecDepth 20000 in
theorem dX11_hand_14 : decode cX11_hand 14 = .ok (.invokestatic 106, 3) := by decide +kernel
set_option maxRecDepth 20000 in
theorem dX11_hand_17 : decode cX11_hand 17 = .ok (.ifCond .eq 12, 3) := by decide +kernel
set_option maxRecDepth 20000 in
theorem dX11_hand_20 : decode cX11_hand 20 = .ok (.iload_n 3, 1) := by decide +kernel
set_option maxRecDepth 20000 in
theorem dX11_hand_21 : decode cX11_hand 21 = .ok (.iconst 0, 1) := by decide +kernel
set_option maxRecDepth 20000 in
theorem dX11_hand_22 : decode cX11_hand 22 = .ok (.iconst 5, 1) := by decide +kernel
set_option maxRecDepth 20000 in
theorem dX11_hand_23 : decode cX11_hand 23 = .ok (.invokestatic 106, 3) := by decide +kernel
set_option maxRecDepth 20000 in
theorem dX11_hand_26 : decode cX11_hand 26 = .ok (.ifCond .ne 6, 3) := by decide +kernel
set_option maxRecDepth 20000 in
theorem dX11_hand_29 : decode cX11_hand 29 = .ok (.bipush (-2), 2) := by decide +kernel
set_option maxRecDepth 20000 in
theorem dX11_hand_31 : decode cX11_hand 31 = .ok (.ireturn, 1) := by decide +kernel
set_option maxRecDepth 20000 in
theorem dX11_hand_32 : decode cX11_hand 32 = .ok (.aload_n 0, 1) := by decide +kernel
set_option maxRecDepth 20000 in
theorem dX11_hand_33 : decode cX11_hand 33 = .ok (.getfield 16, 3) := by decide +kernel
set_option maxRecDepth 20000 in
theorem dX11_hand_36 : decode cX11_hand 36 = .ok (.invokevirtual 114, 3) := by decide +kernel
set_option maxRecDepth 20000 in
theorem dX11_hand_39 : decode cX11_hand 39 = .ok (.bipush 6, 2) := by decide +kernel
set_option maxRecDepth 20000 in
theorem dX11_hand_41 : decode cX11_hand 41 = .ok (.if_icmp .lt 6, 3) := by decide +kernel
set_option maxRecDepth 20000 in
theorem dX11_hand_44 : decode cX11_hand 44 = .ok (.bipush (-4), 2) := by decide +kernel
set_option maxRecDepth 20000 in
theorem dX11_hand_46 : decode cX11_hand 46 = .ok (.ireturn, 1) := by decide +kernel
set_option maxRecDepth 20000 in
theorem dX11_hand_47 : decode cX11_hand 47 = .ok (.aload_n 0, 1) := by decide +kernel
set_option maxRecDepth 20000 in
theorem dX11_hand_48 : decode cX11_hand 48 = .ok (.getfield 16, 3) := by decide +kernel
set_option maxRecDepth 20000 in
theorem dX11_hand_51 : decode cX11_hand 51 = .ok (.new 177, 3) := by decide +kernel
set_option maxRecDepth 20000 in
theorem dX11_hand_54 : decode cX11_hand 54 = .ok (.dup, 1) := by decide +kernel
set_option maxRecDepth 20000 in
theorem dX11_hand_55 : decode cX11_hand 55 = .ok (.iload_n 1, 1) := by decide +kernel
set_option maxRecDepth 20000 in
theorem dX11_hand_56 : decode cX11_hand 56 = .ok (.iload_n 2, 1) := by decide +kernel
set_option maxRecDepth 20000 in
theorem dX11_hand_57 : decode cX11_hand 57 = .ok (.iload_n 3, 1) := by decide +kernel
set_option maxRecDepth 20000 in
theorem dX11_hand_58 : decode cX11_hand 58 = .ok (.invokespecial 179, 3) := by decide +kernel
set_option maxRecDepth 20000 in
theorem dX11_hand_61 : decode cX11_hand 61 = .ok (.invokevirtual 102, 3) := by decide +kernel
set_option maxRecDepth 20000 in
theorem dX11_hand_64 : decode cX11_hand 64 = .ok (.pop, 1) := by decide +kernel
set_option maxRecDepth 20000 in
theorem dX11_hand_65 : decode cX11_hand 65 = .ok (.aload_n 0, 1) := by decide +kernel
set_option maxRecDepth 20000 in
theorem dX11_hand_66 : decode cX11_hand 66 = .ok (.getfield 16, 3) := by decide +kernel
set_option maxRecDepth 20000 in
theorem dX11_hand_69 : decode cX11_hand 69 = .ok (.invokevirtual 114, 3) := by decide +kernel
set_option maxRecDepth 20000 in
theorem dX11_hand_72 : decode cX11_hand 72 = .ok (.iconst 1, 1) := by decide +kernel
set_option maxRecDepth 20000 in
theorem dX11_hand_73 : decode cX11_hand 73 = .ok (.isub, 1) := by decide +kernel
set_option maxRecDepth 20000 in
theorem dX11_hand_74 : decode cX11_hand 74 = .ok (.ireturn, 1) := by decide +kernel
set_option maxRecDepth 20000 in
theorem dX11_odds_0 : decode cX11_odds 0 = .ok (.aload_n 0, 1) := by decide +kernel
set_option maxRecDepth 20000 in
theorem dX11_odds_1 : decode cX11_odds 1 = .ok (.iload_n 1, 1) := by decide +kernel
set_option maxRecDepth 20000 in
theorem dX11_odds_2 : decode cX11_odds 2 = .ok (.invokevirtual 122, 3) := by decide +kernel
set_option maxRecDepth 20000 in
theorem dX11_odds_5 : decode cX11_odds 5 = .ok (.astore 5, 2) := by decide +kernel
set_option maxRecDepth 20000 in
theorem dX11_odds_7 : decode cX11_odds 7 = .ok (.aload_n 0, 1) := by decide +kernel
set_option maxRecDepth 20000 in
theorem dX11_odds_8 : decode cX11_odds 8 = .ok (.iload_n 2, 1) := by decide +kernel
set_option maxRecDepth 20000 in
theorem dX11_odds_9 : decode cX11_odds 9 = .ok (.invokevirtual 182, 3) := by decide +kernel
set_option maxRecDepth 20000 in
theorem dX11_odds_12 : decode cX11_odds 12 = .ok (.astore 6, 2) := by decide +kernel
set_option maxRecDepth 20000 in
theorem dX11_odds_14 : decode cX11_odds 14 = .ok (.aload 5, 2) := by decide +kernel
set_option maxRecDepth 20000 in
theorem dX11_odds_16 : decode cX11_odds 16 = .ok (.ifnull 23, 3) := by decide +kernel
set_option maxRecDepth 20000 in
theorem dX11_odds_19 : decode cX11_odds 19 = .ok (.aload 6, 2) := by decide +kernel
set_option maxRecDepth 20000 in
theorem dX11_odds_21 : decode cX11_odds 21 = .ok (.ifnull 18, 3) := by decide +kernel
set_option maxRecDepth 20000 in
theorem dX11_odds_24 : decode cX11_odds 24 = .ok (.iload_n 3, 1) := by decide +kernel
set_option maxRecDepth 20000 in
theorem dX11_odds_25 : decode cX11_odds 25 = .ok (.invokestatic 110, 3) := by decide +kernel
set_option maxRecDepth 20000 in
theorem dX11_odds_28 : decode cX11_odds 28 = .ok (.ifCond .eq 11, 3) := by decide +kernel
set_option maxRecDepth 20000 in
theorem dX11_odds_31 : decode cX11_odds 31 = .ok (.iload 4, 2) := by decide +kernel
set_option maxRecDepth 20000 in
theorem dX11_odds_33 : decode cX11_odds 33 = .ok (.invokestatic 186, 3) := by decide +kernel
set_option maxRecDepth 20000 in
theorem dX11_odds_36 : decode cX11_odds 36 = .ok (.ifCond .ne 7, 3) := by decide +kernel
set_option maxRecDepth 20000 in
theorem dX11_odds_39 : decode cX11_odds 39 = .ok (.ldc2_w 189, 3) := by decide +kernel
set_option maxRecDepth 20000 in
theorem dX11_odds_42 : decode cX11_odds 42 = .ok (.lreturn, 1) := by decide +kernel
set_option maxRecDepth 20000 in
theorem dX11_odds_43 : decode cX11_odds 43 = .ok (.aload_n 0, 1) := by decide +kernel
set_option maxRecDepth 20000 in
theorem dX11_odds_44 : decode cX11_odds 44 = .ok (.getfield 67, 3) := by decide +kernel
set_option maxRecDepth 20000 in
theorem dX11_odds_47 : decode cX11_odds 47 = .ok (.aload 5, 2) := by decide +kernel
set_option maxRecDepth 20000 in
theorem dX11_odds_49 : decode cX11_odds 49 = .ok (.aload 5, 2) := by decide +kernel
set_option maxRecDepth 20000 in
theorem dX11_odds_51 : decode cX11_odds 51 = .ok (.getfield 160, 3) := by decide +kernel
set_option maxRecDepth 20000 in
theorem dX11_odds_54 : decode cX11_odds 54 = .ok (.invokevirtual 191, 3) := by decide +kernel
set_option maxRecDepth 20000 in
theorem dX11_odds_57 : decode cX11_odds 57 = .ok (.aload_n 0, 1) := by decide +kernel
set_option maxRecDepth 20000 in
theorem dX11_odds_58 : decode cX11_odds 58 = .ok (.getfield 67, 3) := by decide +kernel
set_option maxRecDepth 20000 in
theorem dX11_odds_61 : decode cX11_odds 61 = .ok (.aload 6, 2) := by decide +kernel
set_option maxRecDepth 20000 in
theorem dX11_odds_63 : decode cX11_odds 63 = .ok (.iload_n 3, 1) := by decide +kernel
set_option maxRecDepth 20000 in
theorem dX11_odds_64 : decode cX11_odds 64 = .ok (.invokevirtual 195, 3) := by decide +kernel
set_option maxRecDepth 20000 in
theorem dX11_odds_67 : decode cX11_odds 67 = .ok (.i2l, 1) := by decide +kernel
set_option maxRecDepth 20000 in
theorem dX11_odds_68 : decode cX11_odds 68 = .ok (.aload 6, 2) := by decide +kernel
set_option maxRecDepth 20000 in
theorem dX11_odds_70 : decode cX11_odds 70 = .ok (.getfield 199, 3) := by decide +kernel
set_option maxRecDepth 20000 in
theorem dX11_odds_73 : decode cX11_odds 73 = .ok (.i2l, 1) := by decide +kernel
set_option maxRecDepth 20000 in
theorem dX11_odds_74 : decode cX11_odds 74 = .ok (.iload 4, 2) := by decide +kernel
set_option maxRecDepth 20000 in
theorem dX11_odds_76 : decode cX11_odds 76 = .ok (.invokestatic 202, 3) := by decide +kernel
set_option maxRecDepth 20000 in
theorem dX11_odds_79 : decode cX11_odds 79 = .ok (.lreturn, 1) := by decide +kernel
set_option maxRecDepth 20000 in
theorem dX11_best_0 : decode cX11_best 0 = .ok (.aload_n 0, 1) := by decide +kernel
set_option maxRecDepth 20000 in
theorem dX11_best_1 : decode cX11_best 1 = .ok (.iload_n 1, 1) := by decide +kernel
set_option maxRecDepth 20000 in
theorem dX11_best_2 : decode cX11_best 2 = .ok (.invokevirtual 122, 3) := by decide +kernel
set_option maxRecDepth 20000 in
theorem dX11_best_5 : decode cX11_best 5 = .ok (.astore 4, 2) := by decide +kernel
set_option maxRecDepth 20000 in
theorem dX11_best_7 : decode cX11_best 7 = .ok (.aload_n 0, 1) := by decide +kernel
set_option maxRecDepth 20000 in
theorem dX11_best_8 : decode cX11_best 8 = .ok (.iload_n 2, 1) := by decide +kernel
set_option maxRecDepth 20000 in
theorem dX11_best_9 : decode cX11_best 9 = .ok (.invokevirtual 182, 3) := by decide +kernel
set_option maxRecDepth 20000 in
theorem dX11_best_12 : decode cX11_best 12 = .ok (.astore 5, 2) := by decide +kernel
set_option maxRecDepth 20000 in
theorem dX11_best_14 : decode cX11_best 14 = .ok (.aload 4, 2) := by decide +kernel
set_option maxRecDepth 20000 in
theorem dX11_best_16 : decode cX11_best 16 = .ok (.ifnull 17, 3) := by decide +kernel
set_option maxRecDepth 20000 in
theorem dX11_best_19 : decode cX11_best 19 = .ok (.aload 5, 2) := by decide +kernel
set_option maxRecDepth 20000 in
theorem dX11_best_21 : decode cX11_best 21 = .ok (.ifnull 12, 3) := by decide +kernel
set_option maxRecDepth 20000 in
theorem dX11_best_24 : decode cX11_best 24 = .ok (.iload_n 3, 1) := by decide +kernel
set_option maxRecDepth 20000 in
theorem dX11_best_25 : decode cX11_best 25 = .ok (.iconst 0, 1) := by decide +kernel
set_option maxRecDepth 20000 in
theorem dX11_best_26 : decode cX11_best 26 = .ok (.iconst 2, 1) := by decide +kernel
set_option maxRecDepth 20000 in
theorem dX11_best_27 : decode cX11_best 27 = .ok (.invokestatic 106, 3) := by decide +kernel
set_option maxRecDepth 20000 in
theorem dX11_best_30 : decode cX11_best 30 = .ok (.ifCond .ne 7, 3) := by decide +kernel
set_option maxRecDepth 20000 in
theorem dX11_best_33 : decode cX11_best 33 = .ok (.ldc2_w 189, 3) := by decide +kernel
set_option maxRecDepth 20000 in
theorem dX11_best_36 : decode cX11_best 36 = .ok (.lreturn, 1) := by decide +kernel
set_option maxRecDepth 20000 in
theorem dX11_best_37 : decode cX11_best 37 = .ok (.aload_n 0, 1) := by decide +kernel
set_option maxRecDepth 20000 in
theorem dX11_best_38 : decode cX11_best 38 = .ok (.getfield 67, 3) := by decide +kernel
set_option maxRecDepth 20000 in
theorem dX11_best_41 : decode cX11_best 41 = .ok (.aload 4, 2) := by decide +kernel
set_option maxRecDepth 20000 in
theorem dX11_best_43 : decode cX11_best 43 = .ok (.aload 4, 2) := by decide +kernel
set_option maxRecDepth 20000 in
theorem dX11_best_45 : decode cX11_best 45 = .ok (.getfield 160, 3) := by decide +kernel
set_option maxRecDepth 20000 in
theorem dX11_best_48 : decode cX11_best 48 = .ok (.invokevirtual 191, 3) := by decide +kernel
set_option maxRecDepth 20000 in
theorem dX11_best_51 : decode cX11_best 51 = .ok (.aload_n 0, 1) := by decide +kernel
set_option maxRecDepth 20000 in
theorem dX11_best_52 : decode cX11_best 52 = .ok (.getfield 67, 3) := by decide +kernel
set_option maxRecDepth 20000 in
theorem dX11_best_55 : decode cX11_best 55 = .ok (.aload 5, 2) := by decide +kernel
set_option maxRecDepth 20000 in
theorem dX11_best_57 : decode cX11_best 57 = .ok (.invokevirtual 206, 3) := by decide +kernel
set_option maxRecDepth 20000 in
theorem dX11_best_60 : decode cX11_best 60 = .ok (.istore 6, 2) := by decide +kernel
set_option maxRecDepth 20000 in
theorem dX11_best_62 : decode cX11_best 62 = .ok (.iload_n 3, 1) := by decide +kernel
set_option maxRecDepth 20000 in
theorem dX11_best_63 : decode cX11_best 63 = .ok (.ifCond .ne 7, 3) := by decide +kernel
set_option maxRecDepth 20000 in
theorem dX11_best_66 : decode cX11_best 66 = .ok (.iload 6, 2) := by decide +kernel
set_option maxRecDepth 20000 in
theorem dX11_best_68 : decode cX11_best 68 = .ok (.i2l, 1) := by decide +kernel
set_option maxRecDepth 20000 in
theorem dX11_best_69 : decode cX11_best 69 = .ok (.lreturn, 1) := by decide +kernel
set_option maxRecDepth 20000 in
theorem dX11_best_70 : decode cX11_best 70 = .ok (.aload_n 0, 1) := by decide +kernel
set_option maxRecDepth 20000 in
theorem dX11_best_71 : decode cX11_best 71 = .ok (.getfield 67, 3) := by decide +kernel
set_option maxRecDepth 20000 in
theorem dX11_best_74 : decode cX11_best 74 = .ok (.aload 5, 2) := by decide +kernel
set_option maxRecDepth 20000 in
theorem dX11_best_76 : decode cX11_best 76 = .ok (.iload 6, 2) := by decide +kernel
set_option maxRecDepth 20000 in
theorem dX11_best_78 : decode cX11_best 78 = .ok (.invokevirtual 195, 3) := by decide +kernel
set_option maxRecDepth 20000 in
theorem dX11_best_81 : decode cX11_best 81 = .ok (.i2l, 1) := by decide +kernel
set_option maxRecDepth 20000 in
theorem dX11_best_82 : decode cX11_best 82 = .ok (.aload 5, 2) := by decide +kernel
set_option maxRecDepth 20000 in
theorem dX11_best_84 : decode cX11_best 84 = .ok (.getfield 199, 3) := by decide +kernel
set_option maxRecDepth 20000 in
theorem dX11_best_87 : decode cX11_best 87 = .ok (.i2l, 1) := by decide +kernel
set_option maxRecDepth 20000 in
theorem dX11_best_88 : decode cX11_best 88 = .ok (.iload_n 3, 1) := by decide +kernel
set_option maxRecDepth 20000 in
theorem dX11_best_89 : decode cX11_best 89 = .ok (.iconst 1, 1) := by decide +kernel
set_option maxRecDepth 20000 in
theorem dX11_best_90 : decode cX11_best 90 = .ok (.isub, 1) := by decide +kernel
set_option maxRecDepth 20000 in
theorem dX11_best_91 : decode cX11_best 91 = .ok (.invokestatic 202, 3) := by decide +kernel
set_option maxRecDepth 20000 in
theorem dX11_best_94 : decode cX11_best 94 = .ok (.lreturn, 1) := by decide +kernel
set_option maxRecDepth 20000 in
theorem dX11_newStall_0 : decode cX11_newStall 0 = .ok (.iload_n 0, 1) := by decide +kernel
set_option maxRecDepth 20000 in
theorem dX11_newStall_1 : decode cX11_newStall 1 = .ok (.tableswitch 95 1 5 #[35, 47, 59, 71, 83], 35) := by decide +kernel
set_option maxRecDepth 20000 in
theorem dX11_newStall_36 : decode cX11_newStall 36 = .ok (.new 210, 3) := by decide +kernel
set_option maxRecDepth 20000 in
theorem dX11_newStall_39 : decode cX11_newStall 39 = .ok (.dup, 1) := by decide +kernel
set_option maxRecDepth 20000 in
theorem dX11_newStall_40 : decode cX11_newStall 40 = .ok (.iload_n 0, 1) := by decide +kernel
set_option maxRecDepth 20000 in
theorem dX11_newStall_41 : decode cX11_newStall 41 = .ok (.iload_n 1, 1) := by decide +kernel
set_option maxRecDepth 20000 in
theorem dX11_newStall_42 : decode cX11_newStall 42 = .ok (.iload_n 2, 1) := by decide +kernel
set_option maxRecDepth 20000 in
theorem dX11_newStall_43 : decode cX11_newStall 43 = .ok (.iload_n 3, 1) := by decide +kernel
set_option maxRecDepth 20000 in
theorem dX11_newStall_44 : decode cX11_newStall 44 = .ok (.invokespecial 212, 3) := by decide +kernel
set_option maxRecDepth 20000 in
theorem dX11_newStall_47 : decode cX11_newStall 47 = .ok (.areturn, 1) := by decide +kernel
set_option maxRecDepth 20000 in
theorem dX11_newStall_48 : decode cX11_newStall 48 = .ok (.new 215, 3) := by decide +kernel
set_option maxRecDepth 20000 in
theorem dX11_newStall_51 : decode cX11_newStall 51 = .ok (.dup, 1) := by decide +kernel
set_option maxRecDepth 20000 in
theorem dX11_newStall_52 : decode cX11_newStall 52 = .ok (.iload_n 0, 1) := by decide +kernel
set_option maxRecDepth 20000 in
theorem dX11_newStall_53 : decode cX11_newStall 53 = .ok (.iload_n 1, 1) := by decide +kernel
set_option maxRecDepth 20000 in
theorem dX11_newStall_54 : decode cX11_newStall 54 = .ok (.iload_n 2, 1) := by decide +kernel
set_option maxRecDepth 20000 in
theorem dX11_newStall_55 : decode cX11_newStall 55 = .ok (.iload_n 3, 1) := by decide +kernel
set_option maxRecDepth 20000 in
theorem dX11_newStall_56 : decode cX11_newStall 56 = .ok (.invokespecial 217, 3) := by decide +kernel
set_option maxRecDepth 20000 in
theorem dX11_newStall_59 : decode cX11_newStall 59 = .ok (.areturn, 1) := by decide +kernel
set_option maxRecDepth 20000 in
theorem dX11_newStall_60 : decode cX11_newStall 60 = .ok (.new 218, 3) := by decide +kernel
set_option maxRecDepth 20000 in
theorem dX11_newStall_63 : decode cX11_newStall 63 = .ok (.dup, 1) := by decide +kernel
set_option maxRecDepth 20000 in
theorem dX11_newStall_64 : decode cX11_newStall 64 = .ok (.iload_n 0, 1) := by decide +kernel
set_option maxRecDepth 20000 in
theorem dX11_newStall_65 : decode cX11_newStall 65 = .ok (.iload_n 1, 1) := by decide +kernel
set_option maxRecDepth 20000 in
theorem dX11_newStall_66 : decode cX11_newStall 66 = .ok (.iload_n 2, 1) := by decide +kernel
set_option maxRecDepth 20000 in
theorem dX11_newStall_67 : decode cX11_newStall 67 = .ok (.iload_n 3, 1) := by decide +kernel
set_option maxRecDepth 20000 in
theorem dX11_newStall_68 : decode cX11_newStall 68 = .ok (.invokespecial 220, 3) := by decide +kernel
set_option maxRecDepth 20000 in
theorem dX11_newStall_71 : decode cX11_newStall 71 = .ok (.areturn, 1) := by decide +kernel
set_option maxRecDepth 20000 in
theorem dX11_newStall_72 : decode cX11_newStall 72 = .ok (.new 221, 3) := by decide +kernel
set_option maxRecDepth 20000 in
theorem dX11_newStall_75 : decode cX11_newStall 75 = .ok (.dup, 1) := by decide +kernel
set_option maxRecDepth 20000 in
theorem dX11_newStall_76 : decode cX11_newStall 76 = .ok (.iload_n 0, 1) := by decide +kernel
set_option maxRecDepth 20000 in
theorem dX11_newStall_77 : decode cX11_newStall 77 = .ok (.iload_n 1, 1) := by decide +kernel
set_option maxRecDepth 20000 in
theorem dX11_newStall_78 : decode cX11_newStall 78 = .ok (.iload_n 2, 1) := by decide +kernel
set_option maxRecDepth 20000 in
theorem dX11_newStall_79 : decode cX11_newStall 79 = .ok (.iload_n 3, 1) := by decide +kernel
set_option maxRecDepth 20000 in
theorem dX11_newStall_80 : decode cX11_newStall 80 = .ok (.invokespecial 223, 3) := by decide +kernel
set_option maxRecDepth 20000 in
theorem dX11_newStall_83 : decode cX11_newStall 83 = .ok (.areturn, 1) := by decide +kernel
set_option maxRecDepth 20000 in
theorem dX11_newStall_84 : decode cX11_newStall 84 = .ok (.new 224, 3) := by decide +kernel
set_option maxRecDepth 20000 in
theorem dX11_newStall_87 : decode cX11_newStall 87 = .ok (.dup, 1) := by decide +kernel
set_option maxRecDepth 20000 in
theorem dX11_newStall_88 : decode cX11_newStall 88 = .ok (.iload_n 0, 1) := by decide +kernel
set_option maxRecDepth 20000 in
theorem dX11_newStall_89 : decode cX11_newStall 89 = .ok (.iload_n 1, 1) := by decide +kernel
set_option maxRecDepth 20000 in
theorem dX11_newStall_90 : decode cX11_newStall 90 = .ok (.iload_n 2, 1) := by decide +kernel
set_option maxRecDepth 20000 in
theorem dX11_newStall_91 : decode cX11_newStall 91 = .ok (.iload_n 3, 1) := by decide +kernel
set_option maxRecDepth 20000 in
theorem dX11_newStall_92 : decode cX11_newStall 92 = .ok (.invokespecial 226, 3) := by decide +kernel
set_option maxRecDepth 20000 in
theorem dX11_newStall_95 : decode cX11_newStall 95 = .ok (.areturn, 1) := by decide +kernel
set_option maxRecDepth 20000 in
theorem dX11_newStall_96 : decode cX11_newStall 96 = .ok (.new 131, 3) := by decide +kernel
set_option maxRecDepth 20000 in
theorem dX11_newStall_99 : decode cX11_newStall 99 = .ok (.dup, 1) := by decide +kernel
set_option maxRecDepth 20000 in
theorem dX11_newStall_100 : decode cX11_newStall 100 = .ok (.iload_n 0, 1) := by decide +kernel
set_option maxRecDepth 20000 in
theorem dX11_newStall_101 : decode cX11_newStall 101 = .ok (.iload_n 1, 1) := by decide +kernel
set_option maxRecDepth 20000 in
theorem dX11_newStall_102 : decode cX11_newStall 102 = .ok (.iload_n 2, 1) := by decide +kernel
set_option maxRecDepth 20000 in
theorem dX11_newStall_103 : decode cX11_newStall 103 = .ok (.iload_n 3, 1) := by decide +kernel
set_option maxRecDepth 20000 in
theorem dX11_newStall_104 : decode cX11_newStall 104 = .ok (.invokespecial 227, 3) := by decide +kernel
set_option maxRecDepth 20000 in
theorem dX11_newStall_107 : decode cX11_newStall 107 = .ok (.areturn, 1) := by decide +kernel
set_option maxRecDepth 20000 in
theorem dX11_isSettable_0 : decode cX11_isSettable 0 = .ok (.iload_n 0, 1) := by decide +kernel
set_option maxRecDepth 20000 in
theorem dX11_isSettable_1 : decode cX11_isSettable 1 = .ok (.tableswitch 62 0 3 #[31, 39, 48, 57], 31) := by decide +kernel
set_option maxRecDepth 20000 in
theorem dX11_isSettable_32 : decode cX11_isSettable 32 = .ok (.iload_n 1, 1) := by decide +kernel
set_option maxRecDepth 20000 in
theorem dX11_isSettable_33 : decode cX11_isSettable 33 = .ok (.iconst 1, 1) := by decide +kernel
set_option maxRecDepth 20000 in
theorem dX11_isSettable_34 : decode cX11_isSettable 34 = .ok (.bipush 99, 2) := by decide +kernel
set_option maxRecDepth 20000 in
theorem dX11_isSettable_36 : decode cX11_isSettable 36 = .ok (.invokestatic 106, 3) := by decide +kernel
set_option maxRecDepth 20000 in
theorem dX11_isSettable_39 : decode cX11_isSettable 39 = .ok (.ireturn, 1) := by decide +kernel
set_option maxRecDepth 20000 in
theorem dX11_isSettable_40 : decode cX11_isSettable 40 = .ok (.iload_n 1, 1) := by decide +kernel
set_option maxRecDepth 20000 in
theorem dX11_isSettable_41 : decode cX11_isSettable 41 = .ok (.iconst 0, 1) := by decide +kernel
set_option maxRecDepth 20000 in
theorem dX11_isSettable_42 : decode cX11_isSettable 42 = .ok (.sipush 999, 3) := by decide +kernel
set_option maxRecDepth 20000 in
theorem dX11_isSettable_45 : decode cX11_isSettable 45 = .ok (.invokestatic 106, 3) := by decide +kernel
set_option maxRecDepth 20000 in
theorem dX11_isSettable_48 : decode cX11_isSettable 48 = .ok (.ireturn, 1) := by decide +kernel
set_option maxRecDepth 20000 in
theorem dX11_isSettable_49 : decode cX11_isSettable 49 = .ok (.iload_n 1, 1) := by decide +kernel
set_option maxRecDepth 20000 in
theorem dX11_isSettable_50 : decode cX11_isSettable 50 = .ok (.iconst 0, 1) := by decide +kernel
set_option maxRecDepth 20000 in
theorem dX11_isSettable_51 : decode cX11_isSettable 51 = .ok (.sipush 999, 3) := by decide +kernel
set_option maxRecDepth 20000 in
theorem dX11_isSettable_54 : decode cX11_isSettable 54 = .ok (.invokestatic 106, 3) := by decide +kernel
set_option maxRecDepth 20000 in
theorem dX11_isSettable_57 : decode cX11_isSettable 57 = .ok (.ireturn, 1) := by decide +kernel
set_option maxRecDepth 20000 in
theorem dX11_isSettable_58 : decode cX11_isSettable 58 = .ok (.iload_n 1, 1) := by decide +kernel
set_option maxRecDepth 20000 in
theorem dX11_isSettable_59 : decode cX11_isSettable 59 = .ok (.invokestatic 186, 3) := by decide +kernel
set_option maxRecDepth 20000 in
theorem dX11_isSettable_62 : decode cX11_isSettable 62 = .ok (.ireturn, 1) := by decide +kernel
set_option maxRecDepth 20000 in
theorem dX11_isSettable_63 : decode cX11_isSettable 63 = .ok (.iconst 0, 1) := by decide +kernel
set_option maxRecDepth 20000 in
theorem dX11_isSettable_64 : decode cX11_isSettable 64 = .ok (.ireturn, 1) := by decide +kernel
set_option maxRecDepth 20000 in
theorem dX11_tried_0 : decode cX11_tried 0 = .ok (.aload_n 0, 1) := by decide +kernel
set_option maxRecDepth 20000 in
theorem dX11_tried_1 : decode cX11_tried 1 = .ok (.iload_n 1, 1) := by decide +kernel
set_option maxRecDepth 20000 in
theorem dX11_tried_2 : decode cX11_tried 2 = .ok (.invokevirtual 122, 3) := by decide +kernel
set_option maxRecDepth 20000 in
theorem dX11_tried_5 : decode cX11_tried 5 = .ok (.astore 5, 2) := by decide +kernel
set_option maxRecDepth 20000 in
theorem dX11_tried_7 : decode cX11_tried 7 = .ok (.aload_n 0, 1) := by decide +kernel
set_option maxRecDepth 20000 in
theorem dX11_tried_8 : decode cX11_tried 8 = .ok (.iload_n 2, 1) := by decide +kernel
set_option maxRecDepth 20000 in
theorem dX11_tried_9 : decode cX11_tried 9 = .ok (.invokevirtual 182, 3) := by decide +kernel
set_option maxRecDepth 20000 in
theorem dX11_tried_12 : decode cX11_tried 12 = .ok (.astore 6, 2) := by decide +kernel
set_option maxRecDepth 20000 in
theorem dX11_tried_14 : decode cX11_tried 14 = .ok (.aload 5, 2) := by decide +kernel
set_option maxRecDepth 20000 in
theorem dX11_tried_16 : decode cX11_tried 16 = .ok (.ifnull 23, 3) := by decide +kernel
set_option maxRecDepth 20000 in
theorem dX11_tried_19 : decode cX11_tried 19 = .ok (.aload 6, 2) := by decide +kernel
set_option maxRecDepth 20000 in
theorem dX11_tried_21 : decode cX11_tried 21 = .ok (.ifnull 18, 3) := by decide +kernel
set_option maxRecDepth 20000 in
theorem dX11_tried_24 : decode cX11_tried 24 = .ok (.iload_n 3, 1) := by decide +kernel
set_option maxRecDepth 20000 in
theorem dX11_tried_25 : decode cX11_tried 25 = .ok (.invokestatic 110, 3) := by decide +kernel
set_option maxRecDepth 20000 in
theorem dX11_tried_28 : decode cX11_tried 28 = .ok (.ifCond .eq 11, 3) := by decide +kernel
set_option maxRecDepth 20000 in
theorem dX11_tried_31 : decode cX11_tried 31 = .ok (.iload 4, 2) := by decide +kernel
set_option maxRecDepth 20000 in
theorem dX11_tried_33 : decode cX11_tried 33 = .ok (.invokestatic 228, 3) := by decide +kernel
set_option maxRecDepth 20000 in
theorem dX11_tried_36 : decode cX11_tried 36 = .ok (.ifCond .ne 6, 3) := by decide +kernel
set_option maxRecDepth 20000 in
theorem dX11_tried_39 : decode cX11_tried 39 = .ok (.bipush (-2), 2) := by decide +kernel
set_option maxRecDepth 20000 in
theorem dX11_tried_41 : decode cX11_tried 41 = .ok (.ireturn, 1) := by decide +kernel
set_option maxRecDepth 20000 in
theorem dX11_tried_42 : decode cX11_tried 42 = .ok (.aload_n 0, 1) := by decide +kernel
set_option maxRecDepth 20000 in
theorem dX11_tried_43 : decode cX11_tried 43 = .ok (.getfield 30, 3) := by decide +kernel
set_option maxRecDepth 20000 in
theorem dX11_tried_46 : decode cX11_tried 46 = .ok (.bipush 60, 2) := by decide +kernel
set_option maxRecDepth 20000 in
theorem dX11_tried_48 : decode cX11_tried 48 = .ok (.if_icmp .lt 6, 3) := by decide +kernel
set_option maxRecDepth 20000 in
theorem dX11_tried_51 : decode cX11_tried 51 = .ok (.bipush (-4), 2) := by decide +kernel
set_option maxRecDepth 20000 in
theorem dX11_tried_53 : decode cX11_tried 53 = .ok (.ireturn, 1) := by decide +kernel
set_option maxRecDepth 20000 in
theorem dX11_tried_54 : decode cX11_tried 54 = .ok (.aload 5, 2) := by decide +kernel
set_option maxRecDepth 20000 in
theorem dX11_tried_56 : decode cX11_tried 56 = .ok (.aload 6, 2) := by decide +kernel
set_option maxRecDepth 20000 in
theorem dX11_tried_58 : decode cX11_tried 58 = .ok (.iload_n 3, 1) := by decide +kernel
set_option maxRecDepth 20000 in
theorem dX11_tried_59 : decode cX11_tried 59 = .ok (.iload 4, 2) := by decide +kernel
set_option maxRecDepth 20000 in
theorem dX11_tried_61 : decode cX11_tried 61 = .ok (.invokestatic 231, 3) := by decide +kernel
set_option maxRecDepth 20000 in
theorem dX11_tried_64 : decode cX11_tried 64 = .ok (.invokestatic 235, 3) := by decide +kernel
set_option maxRecDepth 20000 in
theorem dX11_tried_67 : decode cX11_tried 67 = .ok (.invokestatic 173, 3) := by decide +kernel
set_option maxRecDepth 20000 in
theorem dX11_tried_70 : decode cX11_tried 70 = .ok (.istore 7, 2) := by decide +kernel
set_option maxRecDepth 20000 in
theorem dX11_tried_72 : decode cX11_tried 72 = .ok (.aload_n 0, 1) := by decide +kernel
set_option maxRecDepth 20000 in
theorem dX11_tried_73 : decode cX11_tried 73 = .ok (.iload_n 1, 1) := by decide +kernel
set_option maxRecDepth 20000 in
theorem dX11_tried_74 : decode cX11_tried 74 = .ok (.iload_n 2, 1) := by decide +kernel
set_option maxRecDepth 20000 in
theorem dX11_tried_75 : decode cX11_tried 75 = .ok (.iload_n 3, 1) := by decide +kernel
set_option maxRecDepth 20000 in
theorem dX11_tried_76 : decode cX11_tried 76 = .ok (.iload 7, 2) := by decide +kernel
set_option maxRecDepth 20000 in
theorem dX11_tried_78 : decode cX11_tried 78 = .ok (.invokevirtual 239, 3) := by decide +kernel
set_option maxRecDepth 20000 in
theorem dX11_tried_81 : decode cX11_tried 81 = .ok (.iload 7, 2) := by decide +kernel
set_option maxRecDepth 20000 in
theorem dX11_tried_83 : decode cX11_tried 83 = .ok (.ireturn, 1) := by decide +kernel
set_option maxRecDepth 20000 in
theorem dX11_shown_0 : decode cX11_shown 0 = .ok (.aload_n 0, 1) := by decide +kernel
set_option maxRecDepth 20000 in
theorem dX11_shown_1 : decode cX11_shown 1 = .ok (.iload_n 1, 1) := by decide +kernel
set_option maxRecDepth 20000 in
theorem dX11_shown_2 : decode cX11_shown 2 = .ok (.iload_n 2, 1) := by decide +kernel
set_option maxRecDepth 20000 in
theorem dX11_shown_3 : decode cX11_shown 3 = .ok (.iload_n 3, 1) := by decide +kernel
set_option maxRecDepth 20000 in
theorem dX11_shown_4 : decode cX11_shown 4 = .ok (.iload 4, 2) := by decide +kernel
set_option maxRecDepth 20000 in
theorem dX11_shown_6 : decode cX11_shown 6 = .ok (.invokevirtual 242, 3) := by decide +kernel
set_option maxRecDepth 20000 in
theorem dX11_shown_9 : decode cX11_shown 9 = .ok (.ifCond .ne 6, 3) := by decide +kernel
set_option maxRecDepth 20000 in
theorem dX11_shown_12 : decode cX11_shown 12 = .ok (.bipush (-2), 2) := by decide +kernel
set_option maxRecDepth 20000 in
theorem dX11_shown_14 : decode cX11_shown 14 = .ok (.ireturn, 1) := by decide +kernel
set_option maxRecDepth 20000 in
theorem dX11_shown_15 : decode cX11_shown 15 = .ok (.aload_n 0, 1) := by decide +kernel
set_option maxRecDepth 20000 in
theorem dX11_shown_16 : decode cX11_shown 16 = .ok (.getfield 30, 3) := by decide +kernel
set_option maxRecDepth 20000 in
theorem dX11_shown_19 : decode cX11_shown 19 = .ok (.bipush 60, 2) := by decide +kernel
set_option maxRecDepth 20000 in
theorem dX11_shown_21 : decode cX11_shown 21 = .ok (.if_icmp .lt 6, 3) := by decide +kernel
set_option maxRecDepth 20000 in
theorem dX11_shown_24 : decode cX11_shown 24 = .ok (.bipush (-4), 2) := by decide +kernel
set_option maxRecDepth 20000 in
theorem dX11_shown_26 : decode cX11_shown 26 = .ok (.ireturn, 1) := by decide +kernel
set_option maxRecDepth 20000 in
theorem dX11_shown_27 : decode cX11_shown 27 = .ok (.aload_n 0, 1) := by decide +kernel
set_option maxRecDepth 20000 in
theorem dX11_shown_28 : decode cX11_shown 28 = .ok (.iload_n 1, 1) := by decide +kernel
set_option maxRecDepth 20000 in
theorem dX11_shown_29 : decode cX11_shown 29 = .ok (.iload_n 2, 1) := by decide +kernel
set_option maxRecDepth 20000 in
theorem dX11_shown_30 : decode cX11_shown 30 = .ok (.iload_n 3, 1) := by decide +kernel
set_option maxRecDepth 20000 in
theorem dX11_shown_31 : decode cX11_shown 31 = .ok (.iload 4, 2) := by decide +kernel
set_option maxRecDepth 20000 in
theorem dX11_shown_33 : decode cX11_shown 33 = .ok (.invokevirtual 239, 3) := by decide +kernel
set_option maxRecDepth 20000 in
theorem dX11_shown_36 : decode cX11_shown 36 = .ok (.aload_n 0, 1) := by decide +kernel
set_option maxRecDepth 20000 in
theorem dX11_shown_37 : decode cX11_shown 37 = .ok (.getfield 30, 3) := by decide +kernel
set_option maxRecDepth 20000 in
theorem dX11_shown_40 : decode cX11_shown 40 = .ok (.iconst 1, 1) := by decide +kernel
set_option maxRecDepth 20000 in
theorem dX11_shown_41 : decode cX11_shown 41 = .ok (.isub, 1) := by decide +kernel
set_option maxRecDepth 20000 in
theorem dX11_shown_42 : decode cX11_shown 42 = .ok (.ireturn, 1) := by decide +kernel
set_option maxRecDepth 20000 in
theorem dX11_tryTold_0 : decode cX11_tryTold 0 = .ok (.iload_n 1, 1) := by decide +kernel
set_option maxRecDepth 20000 in
theorem dX11_tryTold_1 : decode cX11_tryTold 1 = .ok (.iconst 0, 1) := by decide +kernel
set_option maxRecDepth 20000 in
theorem dX11_tryTold_2 : decode cX11_tryTold 2 = .ok (.aload_n 0, 1) := by decide +kernel
set_option maxRecDepth 20000 in
theorem dX11_tryTold_3 : decode cX11_tryTold 3 = .ok (.getfield 30, 3) := by decide +kernel
set_option maxRecDepth 20000 in
theorem dX11_tryTold_6 : decode cX11_tryTold 6 = .ok (.iconst 1, 1) := by decide +kernel
set_option maxRecDepth 20000 in
theorem dX11_tryTold_7 : decode cX11_tryTold 7 = .ok (.isub, 1) := by decide +kernel
set_option maxRecDepth 20000 in
theorem dX11_tryTold_8 : decode cX11_tryTold 8 = .ok (.invokestatic 106, 3) := by decide +kernel
set_option maxRecDepth 20000 in
theorem dX11_tryTold_11 : decode cX11_tryTold 11 = .ok (.ifCond .eq 12, 3) := by decide +kernel
set_option maxRecDepth 20000 in
theorem dX11_tryTold_14 : decode cX11_tryTold 14 = .ok (.iload_n 2, 1) := by decide +kernel
set_option maxRecDepth 20000 in
theorem dX11_tryTold_15 : decode cX11_tryTold 15 = .ok (.iconst 0, 1) := by decide +kernel
set_option maxRecDepth 20000 in
theorem dX11_tryTold_16 : decode cX11_tryTold 16 = .ok (.iconst 4, 1) := by decide +kernel
set_option maxRecDepth 20000 in
theorem dX11_tryTold_17 : decode cX11_tryTold 17 = .ok (.invokestatic 106, 3) := by decide +kernel
set_option maxRecDepth 20000 in
theorem dX11_tryTold_20 : decode cX11_tryTold 20 = .ok (.ifCond .ne 5, 3) := by decide +kernel
set_option maxRecDepth 20000 in
theorem dX11_tryTold_23 : decode cX11_tryTold 23 = .ok (.iconst (-1), 1) := by decide +kernel
set_option maxRecDepth 20000 in
theorem dX11_tryTold_24 : decode cX11_tryTold 24 = .ok (.ireturn, 1) := by decide +kernel
set_option maxRecDepth 20000 in
theorem dX11_tryTold_25 : decode cX11_tryTold 25 = .ok (.aload_n 0, 1) := by decide +kernel
set_option maxRecDepth 20000 in
theorem dX11_tryTold_26 : decode cX11_tryTold 26 = .ok (.iload_n 1, 1) := by decide +kernel
set_option maxRecDepth 20000 in
theorem dX11_tryTold_27 : decode cX11_tryTold 27 = .ok (.iload_n 2, 1) := by decide +kernel
set_option maxRecDepth 20000 in
theorem dX11_tryTold_28 : decode cX11_tryTold 28 = .ok (.invokevirtual 246, 3) := by decide +kernel
set_option maxRecDepth 20000 in
theorem dX11_tryTold_31 : decode cX11_tryTold 31 = .ok (.ireturn, 1) := by decide +kernel
set_option maxRecDepth 20000 in
theorem dX11_setAll_0 : decode cX11_setAll 0 = .ok (.aload_n 0, 1) := by decide +kernel
set_option maxRecDepth 20000 in
theorem dX11_setAll_1 : decode cX11_setAll 1 = .ok (.iload_n 1, 1) := by decide +kernel
set_option maxRecDepth 20000 in
theorem dX11_setAll_2 : decode cX11_setAll 2 = .ok (.invokevirtual 122, 3) := by decide +kernel
set_option maxRecDepth 20000 in
theorem dX11_setAll_5 : decode cX11_setAll 5 = .ok (.astore 4, 2) := by decide +kernel
set_option maxRecDepth 20000 in
theorem dX11_setAll_7 : decode cX11_setAll 7 = .ok (.aload 4, 2) := by decide +kernel
set_option maxRecDepth 20000 in
theorem dX11_setAll_9 : decode cX11_setAll 9 = .ok (.ifnull 20, 3) := by decide +kernel
set_option maxRecDepth 20000 in
theorem dX11_setAll_12 : decode cX11_setAll 12 = .ok (.iload_n 2, 1) := by decide +kernel
set_option maxRecDepth 20000 in
theorem dX11_setAll_13 : decode cX11_setAll 13 = .ok (.iconst 1, 1) := by decide +kernel
set_option maxRecDepth 20000 in
theorem dX11_setAll_14 : decode cX11_setAll 14 = .ok (.bipush 8, 2) := by decide +kernel
set_option maxRecDepth 20000 in
theorem dX11_setAll_16 : decode cX11_setAll 16 = .ok (.invokestatic 106, 3) := by decide +kernel
set_option maxRecDepth 20000 in
theorem dX11_setAll_19 : decode cX11_setAll 19 = .ok (.ifCond .eq 10, 3) := by decide +kernel
set_option maxRecDepth 20000 in
theorem dX11_setAll_22 : decode cX11_setAll 22 = .ok (.iload_n 3, 1) := by decide +kernel
set_option maxRecDepth 20000 in
theorem dX11_setAll_23 : decode cX11_setAll 23 = .ok (.invokestatic 186, 3) := by decide +kernel
set_option maxRecDepth 20000 in
theorem dX11_setAll_26 : decode cX11_setAll 26 = .ok (.ifCond .ne 7, 3) := by decide +kernel
set_option maxRecDepth 20000 in
theorem dX11_setAll_29 : decode cX11_setAll 29 = .ok (.ldc2_w 189, 3) := by decide +kernel
set_option maxRecDepth 20000 in
theorem dX11_setAll_32 : decode cX11_setAll 32 = .ok (.lreturn, 1) := by decide +kernel
set_option maxRecDepth 20000 in
theorem dX11_setAll_33 : decode cX11_setAll 33 = .ok (.aload_n 0, 1) := by decide +kernel
set_option maxRecDepth 20000 in
theorem dX11_setAll_34 : decode cX11_setAll 34 = .ok (.getfield 67, 3) := by decide +kernel
set_option maxRecDepth 20000 in
theorem dX11_setAll_37 : decode cX11_setAll 37 = .ok (.aload 4, 2) := by decide +kernel
set_option maxRecDepth 20000 in
theorem dX11_setAll_39 : decode cX11_setAll 39 = .ok (.iconst 1, 1) := by decide +kernel
set_option maxRecDepth 20000 in
theorem dX11_setAll_40 : decode cX11_setAll 40 = .ok (.iload_n 3, 1) := by decide +kernel
set_option maxRecDepth 20000 in
theorem dX11_setAll_41 : decode cX11_setAll 41 = .ok (.isub, 1) := by decide +kernel
set_option maxRecDepth 20000 in
theorem dX11_setAll_42 : decode cX11_setAll 42 = .ok (.invokevirtual 191, 3) := by decide +kernel
set_option maxRecDepth 20000 in
theorem dX11_setAll_45 : decode cX11_setAll 45 = .ok (.lconst 1, 1) := by decide +kernel
set_option maxRecDepth 20000 in
theorem dX11_setAll_46 : decode cX11_setAll 46 = .ok (.lstore 5, 2) := by decide +kernel
set_option maxRecDepth 20000 in
theorem dX11_setAll_48 : decode cX11_setAll 48 = .ok (.iload_n 2, 1) := by decide +kernel
set_option maxRecDepth 20000 in
theorem dX11_setAll_49 : decode cX11_setAll 49 = .ok (.istore 7, 2) := by decide +kernel
set_option maxRecDepth 20000 in
theorem dX11_setAll_51 : decode cX11_setAll 51 = .ok (.aload_n 0, 1) := by decide +kernel
set_option maxRecDepth 20000 in
theorem dX11_setAll_52 : decode cX11_setAll 52 = .ok (.getfield 30, 3) := by decide +kernel
set_option maxRecDepth 20000 in
theorem dX11_setAll_55 : decode cX11_setAll 55 = .ok (.iconst 1, 1) := by decide +kernel
set_option maxRecDepth 20000 in
theorem dX11_setAll_56 : decode cX11_setAll 56 = .ok (.isub, 1) := by decide +kernel
set_option maxRecDepth 20000 in
theorem dX11_setAll_57 : decode cX11_setAll 57 = .ok (.istore 8, 2) := by decide +kernel
set_option maxRecDepth 20000 in
theorem dX11_setAll_59 : decode cX11_setAll 59 = .ok (.iload 8, 2) := by decide +kernel
set_option maxRecDepth 20000 in
theorem dX11_setAll_61 : decode cX11_setAll 61 = .ok (.ifCond .lt 40, 3) := by decide +kernel
set_option maxRecDepth 20000 in
theorem dX11_setAll_64 : decode cX11_setAll 64 = .ok (.iload 7, 2) := by decide +kernel
set_option maxRecDepth 20000 in
theorem dX11_setAll_66 : decode cX11_setAll 66 = .ok (.ifCond .le 35, 3) := by decide +kernel
set_option maxRecDepth 20000 in
theorem dX11_setAll_69 : decode cX11_setAll 69 = .ok (.aload_n 0, 1) := by decide +kernel
set_option maxRecDepth 20000 in
theorem dX11_setAll_70 : decode cX11_setAll 70 = .ok (.iload 8, 2) := by decide +kernel
set_option maxRecDepth 20000 in
theorem dX11_setAll_72 : decode cX11_setAll 72 = .ok (.iconst 0, 1) := by decide +kernel
set_option maxRecDepth 20000 in
theorem dX11_setAll_73 : decode cX11_setAll 73 = .ok (.invokevirtual 246, 3) := by decide +kernel
set_option maxRecDepth 20000 in
theorem dX11_setAll_76 : decode cX11_setAll 76 = .ok (.iload_n 1, 1) := by decide +kernel
set_option maxRecDepth 20000 in
theorem dX11_setAll_77 : decode cX11_setAll 77 = .ok (.if_icmp .ne 18, 3) := by decide +kernel
set_option maxRecDepth 20000 in
theorem dX11_setAll_80 : decode cX11_setAll 80 = .ok (.lload 5, 2) := by decide +kernel
set_option maxRecDepth 20000 in
theorem dX11_setAll_82 : decode cX11_setAll 82 = .ok (.aload_n 0, 1) := by decide +kernel
set_option maxRecDepth 20000 in
theorem dX11_setAll_83 : decode cX11_setAll 83 = .ok (.iload 8, 2) := by decide +kernel
set_option maxRecDepth 20000 in
theorem dX11_setAll_85 : decode cX11_setAll 85 = .ok (.invokevirtual 250, 3) := by decide +kernel
set_option maxRecDepth 20000 in
theorem dX11_setAll_88 : decode cX11_setAll 88 = .ok (.i2l, 1) := by decide +kernel
set_option maxRecDepth 20000 in
theorem dX11_setAll_89 : decode cX11_setAll 89 = .ok (.lmul, 1) := by decide +kernel
set_option maxRecDepth 20000 in
theorem dX11_setAll_90 : decode cX11_setAll 90 = .ok (.lstore 5, 2) := by decide +kernel
set_option maxRecDepth 20000 in
theorem dX11_setAll_92 : decode cX11_setAll 92 = .ok (.iinc 7 (-1), 3) := by decide +kernel
set_option maxRecDepth 20000 in
theorem dX11_setAll_95 : decode cX11_setAll 95 = .ok (.iinc 8 (-1), 3) := by decide +kernel
set_option maxRecDepth 20000 in
theorem dX11_setAll_98 : decode cX11_setAll 98 = .ok (.goto (-39), 3) := by decide +kernel
set_option maxRecDepth 20000 in
theorem dX11_setAll_101 : decode cX11_setAll 101 = .ok (.lload 5, 2) := by decide +kernel
set_option maxRecDepth 20000 in
theorem dX11_setAll_103 : decode cX11_setAll 103 = .ok (.lreturn, 1) := by decide +kernel
set_option maxRecDepth 20000 in
theorem dX11_isTry_0 : decode cX11_isTry 0 = .ok (.aload_n 0, 1) := by decide +kernel
set_option maxRecDepth 20000 in
theorem dX11_isTry_1 : decode cX11_isTry 1 = .ok (.iload_n 1, 1) := by decide +kernel
set_option maxRecDepth 20000 in
theorem dX11_isTry_2 : decode cX11_isTry 2 = .ok (.invokevirtual 122, 3) := by decide +kernel
set_option maxRecDepth 20000 in
theorem dX11_isTry_5 : decode cX11_isTry 5 = .ok (.ifnull 30, 3) := by decide +kernel
set_option maxRecDepth 20000 in
theorem dX11_isTry_8 : decode cX11_isTry 8 = .ok (.aload_n 0, 1) := by decide +kernel
set_option maxRecDepth 20000 in
theorem dX11_isTry_9 : decode cX11_isTry 9 = .ok (.iload_n 2, 1) := by decide +kernel
set_option maxRecDepth 20000 in
theorem dX11_isTry_10 : decode cX11_isTry 10 = .ok (.invokevirtual 182, 3) := by decide +kernel
set_option maxRecDepth 20000 in
theorem dX11_isTry_13 : decode cX11_isTry 13 = .ok (.ifnull 22, 3) := by decide +kernel
set_option maxRecDepth 20000 in
theorem dX11_isTry_16 : decode cX11_isTry 16 = .ok (.iload_n 3, 1) := by decide +kernel
set_option maxRecDepth 20000 in
theorem dX11_isTry_17 : decode cX11_isTry 17 = .ok (.invokestatic 110, 3) := by decide +kernel
set_option maxRecDepth 20000 in
theorem dX11_isTry_20 : decode cX11_isTry 20 = .ok (.ifCond .eq 15, 3) := by decide +kernel
set_option maxRecDepth 20000 in
theorem dX11_isTry_23 : decode cX11_isTry 23 = .ok (.iload 4, 2) := by decide +kernel
set_option maxRecDepth 20000 in
theorem dX11_isTry_25 : decode cX11_isTry 25 = .ok (.invokestatic 186, 3) := by decide +kernel
set_option maxRecDepth 20000 in
theorem dX11_isTry_28 : decode cX11_isTry 28 = .ok (.ifCond .eq 7, 3) := by decide +kernel
set_option maxRecDepth 20000 in
theorem dX11_isTry_31 : decode cX11_isTry 31 = .ok (.iconst 1, 1) := by decide +kernel
set_option maxRecDepth 20000 in
theorem dX11_isTry_32 : decode cX11_isTry 32 = .ok (.goto 4, 3) := by decide +kernel
set_option maxRecDepth 20000 in
theorem dX11_isTry_35 : decode cX11_isTry 35 = .ok (.iconst 0, 1) := by decide +kernel
set_option maxRecDepth 20000 in
theorem dX11_isTry_36 : decode cX11_isTry 36 = .ok (.ireturn, 1) := by decide +kernel
set_option maxRecDepth 20000 in
theorem dX11_keepTry_0 : decode cX11_keepTry 0 = .ok (.aload_n 0, 1) := by decide +kernel
set_option maxRecDepth 20000 in
theorem dX11_keepTry_1 : decode cX11_keepTry 1 = .ok (.iload_n 1, 1) := by decide +kernel
set_option maxRecDepth 20000 in
theorem dX11_keepTry_2 : decode cX11_keepTry 2 = .ok (.invokevirtual 122, 3) := by decide +kernel
set_option maxRecDepth 20000 in
theorem dX11_keepTry_5 : decode cX11_keepTry 5 = .ok (.astore 5, 2) := by decide +kernel
set_option maxRecDepth 20000 in
theorem dX11_keepTry_7 : decode cX11_keepTry 7 = .ok (.aload_n 0, 1) := by decide +kernel
set_option maxRecDepth 20000 in
theorem dX11_keepTry_8 : decode cX11_keepTry 8 = .ok (.getfield 30, 3) := by decide +kernel
set_option maxRecDepth 20000 in
theorem dX11_keepTry_11 : decode cX11_keepTry 11 = .ok (.iconst 5, 1) := by decide +kernel
set_option maxRecDepth 20000 in
theorem dX11_keepTry_12 : decode cX11_keepTry 12 = .ok (.imul, 1) := by decide +kernel
set_option maxRecDepth 20000 in
theorem dX11_keepTry_13 : decode cX11_keepTry 13 = .ok (.istore 6, 2) := by decide +kernel
set_option maxRecDepth 20000 in
theorem dX11_keepTry_15 : decode cX11_keepTry 15 = .ok (.aload 5, 2) := by decide +kernel
set_option maxRecDepth 20000 in
theorem dX11_keepTry_17 : decode cX11_keepTry 17 = .ok (.ifnull 19, 3) := by decide +kernel
set_option maxRecDepth 20000 in
theorem dX11_keepTry_20 : decode cX11_keepTry 20 = .ok (.iload 6, 2) := by decide +kernel
set_option maxRecDepth 20000 in
theorem dX11_keepTry_22 : decode cX11_keepTry 22 = .ok (.iconst 0, 1) := by decide +kernel
set_option maxRecDepth 20000 in
theorem dX11_keepTry_23 : decode cX11_keepTry 23 = .ok (.aload_n 0, 1) := by decide +kernel
set_option maxRecDepth 20000 in
theorem dX11_keepTry_24 : decode cX11_keepTry 24 = .ok (.getfield 26, 3) := by decide +kernel
set_option maxRecDepth 20000 in
theorem dX11_keepTry_27 : decode cX11_keepTry 27 = .ok (.arraylength, 1) := by decide +kernel
set_option maxRecDepth 20000 in
theorem dX11_keepTry_28 : decode cX11_keepTry 28 = .ok (.iconst 5, 1) := by decide +kernel
set_option maxRecDepth 20000 in
theorem dX11_keepTry_29 : decode cX11_keepTry 29 = .ok (.isub, 1) := by decide +kernel
set_option maxRecDepth 20000 in
theorem dX11_keepTry_30 : decode cX11_keepTry 30 = .ok (.invokestatic 106, 3) := by decide +kernel
set_option maxRecDepth 20000 in
theorem dX11_keepTry_33 : decode cX11_keepTry 33 = .ok (.ifCond .ne 4, 3) := by decide +kernel
set_option maxRecDepth 20000 in
theorem dX11_keepTry_36 : decode cX11_keepTry 36 = .ok (.return_, 1) := by decide +kernel
set_option maxRecDepth 20000 in
theorem dX11_keepTry_37 : decode cX11_keepTry 37 = .ok (.aload_n 0, 1) := by decide +kernel
set_option maxRecDepth 20000 in
theorem dX11_keepTry_38 : decode cX11_keepTry 38 = .ok (.getfield 26, 3) := by decide +kernel
set_option maxRecDepth 20000 in
theorem dX11_keepTry_41 : decode cX11_keepTry 41 = .ok (.iload 6, 2) := by decide +kernel
set_option maxRecDepth 20000 in
theorem dX11_keepTry_43 : decode cX11_keepTry 43 = .ok (.iconst 0, 1) := by decide +kernel
set_option maxRecDepth 20000 in
theorem dX11_keepTry_44 : decode cX11_keepTry 44 = .ok (.iadd, 1) := by decide +kernel
set_option maxRecDepth 20000 in
theorem dX11_keepTry_45 : decode cX11_keepTry 45 = .ok (.iload_n 1, 1) := by decide +kernel
set_option maxRecDepth 20000 in
theorem dX11_keepTry_46 : decode cX11_keepTry 46 = .ok (.iastore, 1) := by decide +kernel
set_option maxRecDepth 20000 in
theorem dX11_keepTry_47 : decode cX11_keepTry 47 = .ok (.aload_n 0, 1) := by decide +kernel
set_option maxRecDepth 20000 in
theorem dX11_keepTry_48 : decode cX11_keepTry 48 = .ok (.getfield 26, 3) := by decide +kernel
set_option maxRecDepth 20000 in
theorem dX11_keepTry_51 : decode cX11_keepTry 51 = .ok (.iload 6, 2) := by decide +kernel
set_option maxRecDepth 20000 in
theorem dX11_keepTry_53 : decode cX11_keepTry 53 = .ok (.iconst 1, 1) := by decide +kernel
set_option maxRecDepth 20000 in
theorem dX11_keepTry_54 : decode cX11_keepTry 54 = .ok (.iadd, 1) := by decide +kernel
set_option maxRecDepth 20000 in
theorem dX11_keepTry_55 : decode cX11_keepTry 55 = .ok (.iload_n 2, 1) := by decide +kernel
set_option maxRecDepth 20000 in
theorem dX11_keepTry_56 : decode cX11_keepTry 56 = .ok (.iastore, 1) := by decide +kernel
set_option maxRecDepth 20000 in
theorem dX11_keepTry_57 : decode cX11_keepTry 57 = .ok (.aload_n 0, 1) := by decide +kernel
set_option maxRecDepth 20000 in
theorem dX11_keepTry_58 : decode cX11_keepTry 58 = .ok (.getfield 26, 3) := by decide +kernel
set_option maxRecDepth 20000 in
theorem dX11_keepTry_61 : decode cX11_keepTry 61 = .ok (.iload 6, 2) := by decide +kernel
set_option maxRecDepth 20000 in
theorem dX11_keepTry_63 : decode cX11_keepTry 63 = .ok (.iconst 2, 1) := by decide +kernel
set_option maxRecDepth 20000 in
theorem dX11_keepTry_64 : decode cX11_keepTry 64 = .ok (.iadd, 1) := by decide +kernel
set_option maxRecDepth 20000 in
theorem dX11_keepTry_65 : decode cX11_keepTry 65 = .ok (.iload_n 3, 1) := by decide +kernel
set_option maxRecDepth 20000 in
theorem dX11_keepTry_66 : decode cX11_keepTry 66 = .ok (.iastore, 1) := by decide +kernel
set_option maxRecDepth 20000 in
theorem dX11_keepTry_67 : decode cX11_keepTry 67 = .ok (.aload_n 0, 1) := by decide +kernel
set_option maxRecDepth 20000 in
theorem dX11_keepTry_68 : decode cX11_keepTry 68 = .ok (.getfield 26, 3) := by decide +kernel
set_option maxRecDepth 20000 in
theorem dX11_keepTry_71 : decode cX11_keepTry 71 = .ok (.iload 6, 2) := by decide +kernel
set_option maxRecDepth 20000 in
theorem dX11_keepTry_73 : decode cX11_keepTry 73 = .ok (.iconst 3, 1) := by decide +kernel
set_option maxRecDepth 20000 in
theorem dX11_keepTry_74 : decode cX11_keepTry 74 = .ok (.iadd, 1) := by decide +kernel
set_option maxRecDepth 20000 in
theorem dX11_keepTry_75 : decode cX11_keepTry 75 = .ok (.iload 4, 2) := by decide +kernel
set_option maxRecDepth 20000 in
theorem dX11_keepTry_77 : decode cX11_keepTry 77 = .ok (.iastore, 1) := by decide +kernel
set_option maxRecDepth 20000 in
theorem dX11_keepTry_78 : decode cX11_keepTry 78 = .ok (.aload_n 0, 1) := by decide +kernel
set_option maxRecDepth 20000 in
theorem dX11_keepTry_79 : decode cX11_keepTry 79 = .ok (.getfield 26, 3) := by decide +kernel
set_option maxRecDepth 20000 in
theorem dX11_keepTry_82 : decode cX11_keepTry 82 = .ok (.iload 6, 2) := by decide +kernel
set_option maxRecDepth 20000 in
theorem dX11_keepTry_84 : decode cX11_keepTry 84 = .ok (.iconst 4, 1) := by decide +kernel
set_option maxRecDepth 20000 in
theorem dX11_keepTry_85 : decode cX11_keepTry 85 = .ok (.iadd, 1) := by decide +kernel
set_option maxRecDepth 20000 in
theorem dX11_keepTry_86 : decode cX11_keepTry 86 = .ok (.aload 5, 2) := by decide +kernel
set_option maxRecDepth 20000 in
theorem dX11_keepTry_88 : decode cX11_keepTry 88 = .ok (.getfield 160, 3) := by decide +kernel
set_option maxRecDepth 20000 in
theorem dX11_keepTry_91 : decode cX11_keepTry 91 = .ok (.iastore, 1) := by decide +kernel
set_option maxRecDepth 20000 in
theorem dX11_keepTry_92 : decode cX11_keepTry 92 = .ok (.aload_n 0, 1) := by decide +kernel
set_option maxRecDepth 20000 in
theorem dX11_keepTry_93 : decode cX11_keepTry 93 = .ok (.dup, 1) := by decide +kernel
set_option maxRecDepth 20000 in
theorem dX11_keepTry_94 : decode cX11_keepTry 94 = .ok (.getfield 30, 3) := by decide +kernel
set_option maxRecDepth 20000 in
theorem dX11_keepTry_97 : decode cX11_keepTry 97 = .ok (.iconst 1, 1) := by decide +kernel
set_option maxRecDepth 20000 in
theorem dX11_keepTry_98 : decode cX11_keepTry 98 = .ok (.iadd, 1) := by decide +kernel
set_option maxRecDepth 20000 in
theorem dX11_keepTry_99 : decode cX11_keepTry 99 = .ok (.putfield 30, 3) := by decide +kernel
set_option maxRecDepth 20000 in
theorem dX11_keepTry_102 : decode cX11_keepTry 102 = .ok (.return_, 1) := by decide +kernel
set_option maxRecDepth 20000 in
theorem dX11_tryField_0 : decode cX11_tryField 0 = .ok (.iload_n 1, 1) := by decide +kernel
set_option maxRecDepth 20000 in
theorem dX11_tryField_1 : decode cX11_tryField 1 = .ok (.iconst 5, 1) := by decide +kernel
set_option maxRecDepth 20000 in
theorem dX11_tryField_2 : decode cX11_tryField 2 = .ok (.imul, 1) := by decide +kernel
set_option maxRecDepth 20000 in
theorem dX11_tryField_3 : decode cX11_tryField 3 = .ok (.iload_n 2, 1) := by decide +kernel
set_option maxRecDepth 20000 in
theorem dX11_tryField_4 : decode cX11_tryField 4 = .ok (.iadd, 1) := by decide +kernel
set_option maxRecDepth 20000 in
theorem dX11_tryField_5 : decode cX11_tryField 5 = .ok (.istore_n 3, 1) := by decide +kernel
set_option maxRecDepth 20000 in
theorem dX11_tryField_6 : decode cX11_tryField 6 = .ok (.iload_n 3, 1) := by decide +kernel
set_option maxRecDepth 20000 in
theorem dX11_tryField_7 : decode cX11_tryField 7 = .ok (.iconst 0, 1) := by decide +kernel
set_option maxRecDepth 20000 in
theorem dX11_tryField_8 : decode cX11_tryField 8 = .ok (.aload_n 0, 1) := by decide +kernel
set_option maxRecDepth 20000 in
theorem dX11_tryField_9 : decode cX11_tryField 9 = .ok (.getfield 26, 3) := by decide +kernel
set_option maxRecDepth 20000 in
theorem dX11_tryField_12 : decode cX11_tryField 12 = .ok (.arraylength, 1) := by decide +kernel
set_option maxRecDepth 20000 in
theorem dX11_tryField_13 : decode cX11_tryField 13 = .ok (.iconst 1, 1) := by decide +kernel
set_option maxRecDepth 20000 in
theorem dX11_tryField_14 : decode cX11_tryField 14 = .ok (.isub, 1) := by decide +kernel
set_option maxRecDepth 20000 in
theorem dX11_tryField_15 : decode cX11_tryField 15 = .ok (.invokestatic 106, 3) := by decide +kernel
set_option maxRecDepth 20000 in
theorem dX11_tryField_18 : decode cX11_tryField 18 = .ok (.ifCond .eq 12, 3) := by decide +kernel
set_option maxRecDepth 20000 in
theorem dX11_tryField_21 : decode cX11_tryField 21 = .ok (.aload_n 0, 1) := by decide +kernel
set_option maxRecDepth 20000 in
theorem dX11_tryField_22 : decode cX11_tryField 22 = .ok (.getfield 26, 3) := by decide +kernel
set_option maxRecDepth 20000 in
theorem dX11_tryField_25 : decode cX11_tryField 25 = .ok (.iload_n 3, 1) := by decide +kernel
set_option maxRecDepth 20000 in
theorem dX11_tryField_26 : decode cX11_tryField 26 = .ok (.iaload, 1) := by decide +kernel
set_option maxRecDepth 20000 in
theorem dX11_tryField_27 : decode cX11_tryField 27 = .ok (.goto 4, 3) := by decide +kernel
set_option maxRecDepth 20000 in
theorem dX11_tryField_30 : decode cX11_tryField 30 = .ok (.iconst (-1), 1) := by decide +kernel
set_option maxRecDepth 20000 in
theorem dX11_tryField_31 : decode cX11_tryField 31 = .ok (.ireturn, 1) := by decide +kernel
set_option maxRecDepth 20000 in
theorem dX11_waysOfTry_0 : decode cX11_waysOfTry 0 = .ok (.aload_n 0, 1) := by decide +kernel
set_option maxRecDepth 20000 in
theorem dX11_waysOfTry_1 : decode cX11_waysOfTry 1 = .ok (.aload_n 0, 1) := by decide +kernel
set_option maxRecDepth 20000 in
theorem dX11_waysOfTry_2 : decode cX11_waysOfTry 2 = .ok (.iload_n 1, 1) := by decide +kernel
set_option maxRecDepth 20000 in
theorem dX11_waysOfTry_3 : decode cX11_waysOfTry 3 = .ok (.iconst 1, 1) := by decide +kernel
set_option maxRecDepth 20000 in
theorem dX11_waysOfTry_4 : decode cX11_waysOfTry 4 = .ok (.invokevirtual 246, 3) := by decide +kernel
set_option maxRecDepth 20000 in
theorem dX11_waysOfTry_7 : decode cX11_waysOfTry 7 = .ok (.invokevirtual 182, 3) := by decide +kernel
set_option maxRecDepth 20000 in
theorem dX11_waysOfTry_10 : decode cX11_waysOfTry 10 = .ok (.astore_n 2, 1) := by decide +kernel
set_option maxRecDepth 20000 in
theorem dX11_waysOfTry_11 : decode cX11_waysOfTry 11 = .ok (.aload_n 2, 1) := by decide +kernel
set_option maxRecDepth 20000 in
theorem dX11_waysOfTry_12 : decode cX11_waysOfTry 12 = .ok (.ifnonnull 5, 3) := by decide +kernel
set_option maxRecDepth 20000 in
theorem dX11_waysOfTry_15 : decode cX11_waysOfTry 15 = .ok (.iconst 1, 1) := by decide +kernel
set_option maxRecDepth 20000 in
theorem dX11_waysOfTry_16 : decode cX11_waysOfTry 16 = .ok (.ireturn, 1) := by decide +kernel
set_option maxRecDepth 20000 in
theorem dX11_waysOfTry_17 : decode cX11_waysOfTry 17 = .ok (.aload_n 0, 1) := by decide +kernel
set_option maxRecDepth 20000 in
theorem dX11_waysOfTry_18 : decode cX11_waysOfTry 18 = .ok (.getfield 67, 3) := by decide +kernel
set_option maxRecDepth 20000 in
theorem dX11_waysOfTry_21 : decode cX11_waysOfTry 21 = .ok (.aload_n 2, 1) := by decide +kernel
set_option maxRecDepth 20000 in
theorem dX11_waysOfTry_22 : decode cX11_waysOfTry 22 = .ok (.aload_n 0, 1) := by decide +kernel
set_option maxRecDepth 20000 in
theorem dX11_waysOfTry_23 : decode cX11_waysOfTry 23 = .ok (.iload_n 1, 1) := by decide +kernel
set_option maxRecDepth 20000 in
theorem dX11_waysOfTry_24 : decode cX11_waysOfTry 24 = .ok (.iconst 2, 1) := by decide +kernel
set_option maxRecDepth 20000 in
theorem dX11_waysOfTry_25 : decode cX11_waysOfTry 25 = .ok (.invokevirtual 246, 3) := by decide +kernel
set_option maxRecDepth 20000 in
theorem dX11_waysOfTry_28 : decode cX11_waysOfTry 28 = .ok (.invokevirtual 195, 3) := by decide +kernel
set_option maxRecDepth 20000 in
theorem dX11_waysOfTry_31 : decode cX11_waysOfTry 31 = .ok (.istore_n 3, 1) := by decide +kernel
set_option maxRecDepth 20000 in
theorem dX11_waysOfTry_32 : decode cX11_waysOfTry 32 = .ok (.aload_n 0, 1) := by decide +kernel
set_option maxRecDepth 20000 in
theorem dX11_waysOfTry_33 : decode cX11_waysOfTry 33 = .ok (.iload_n 1, 1) := by decide +kernel
set_option maxRecDepth 20000 in
theorem dX11_waysOfTry_34 : decode cX11_waysOfTry 34 = .ok (.iconst 3, 1) := by decide +kernel
set_option maxRecDepth 20000 in
theorem dX11_waysOfTry_35 : decode cX11_waysOfTry 35 = .ok (.invokevirtual 246, 3) := by decide +kernel
set_option maxRecDepth 20000 in
theorem dX11_waysOfTry_38 : decode cX11_waysOfTry 38 = .ok (.iconst 1, 1) := by decide +kernel
set_option maxRecDepth 20000 in
theorem dX11_waysOfTry_39 : decode cX11_waysOfTry 39 = .ok (.if_icmp .ne 7, 3) := by decide +kernel
set_option maxRecDepth 20000 in
theorem dX11_waysOfTry_42 : decode cX11_waysOfTry 42 = .ok (.iload_n 3, 1) := by decide +kernel
set_option maxRecDepth 20000 in
theorem dX11_waysOfTry_43 : decode cX11_waysOfTry 43 = .ok (.goto 9, 3) := by decide +kernel
set_option maxRecDepth 20000 in
theorem dX11_waysOfTry_46 : decode cX11_waysOfTry 46 = .ok (.aload_n 2, 1) := by decide +kernel
set_option maxRecDepth 20000 in
theorem dX11_waysOfTry_47 : decode cX11_waysOfTry 47 = .ok (.getfield 199, 3) := by decide +kernel
set_option maxRecDepth 20000 in
theorem dX11_waysOfTry_50 : decode cX11_waysOfTry 50 = .ok (.iload_n 3, 1) := by decide +kernel
set_option maxRecDepth 20000 in
theorem dX11_waysOfTry_51 : decode cX11_waysOfTry 51 = .ok (.isub, 1) := by decide +kernel
set_option maxRecDepth 20000 in
theorem dX11_waysOfTry_52 : decode cX11_waysOfTry 52 = .ok (.ireturn, 1) := by decide +kernel
set_option maxRecDepth 20000 in
theorem dX11_firstLot_0 : decode cX11_firstLot 0 = .ok (.iload_n 0, 1) := by decide +kernel
set_option maxRecDepth 20000 in
theorem dX11_firstLot_1 : decode cX11_firstLot 1 = .ok (.i2l, 1) := by decide +kernel
set_option maxRecDepth 20000 in
theorem dX11_firstLot_2 : decode cX11_firstLot 2 = .ok (.lconst 1, 1) := by decide +kernel
set_option maxRecDepth 20000 in
theorem dX11_firstLot_3 : decode cX11_firstLot 3 = .ok (.ladd, 1) := by decide +kernel
set_option maxRecDepth 20000 in
theorem dX11_firstLot_4 : decode cX11_firstLot 4 = .ok (.ldc2_w 253, 3) := by decide +kernel
set_option maxRecDepth 20000 in
theorem dX11_firstLot_7 : decode cX11_firstLot 7 = .ok (.lmul, 1) := by decide +kernel
set_option maxRecDepth 20000 in
theorem dX11_firstLot_8 : decode cX11_firstLot 8 = .ok (.ldc2_w 255, 3) := by decide +kernel
set_option maxRecDepth 20000 in
theorem dX11_firstLot_11 : decode cX11_firstLot 11 = .ok (.lrem, 1) := by decide +kernel
set_option maxRecDepth 20000 in
theorem dX11_firstLot_12 : decode cX11_firstLot 12 = .ok (.lreturn, 1) := by decide +kernel
set_option maxRecDepth 20000 in
theorem dX11_nextLot_0 : decode cX11_nextLot 0 = .ok (.lload_n 0, 1) := by decide +kernel
set_option maxRecDepth 20000 in
theorem dX11_nextLot_1 : decode cX11_nextLot 1 = .ok (.ldc2_w 253, 3) := by decide +kernel
set_option maxRecDepth 20000 in
theorem dX11_nextLot_4 : decode cX11_nextLot 4 = .ok (.lmul, 1) := by decide +kernel
set_option maxRecDepth 20000 in
theorem dX11_nextLot_5 : decode cX11_nextLot 5 = .ok (.ldc2_w 255, 3) := by decide +kernel
set_option maxRecDepth 20000 in
theorem dX11_nextLot_8 : decode cX11_nextLot 8 = .ok (.lrem, 1) := by decide +kernel
set_option maxRecDepth 20000 in
theorem dX11_nextLot_9 : decode cX11_nextLot 9 = .ok (.lreturn, 1) := by decide +kernel
set_option maxRecDepth 20000 in
theorem dX11_lands_0 : decode cX11_lands 0 = .ok (.lload_n 3, 1) := by decide +kernel
set_option maxRecDepth 20000 in
theorem dX11_lands_1 : decode cX11_lands 1 = .ok (.aload_n 1, 1) := by decide +kernel
set_option maxRecDepth 20000 in
theorem dX11_lands_2 : decode cX11_lands 2 = .ok (.getfield 257, 3) := by decide +kernel
set_option maxRecDepth 20000 in
theorem dX11_lands_5 : decode cX11_lands 5 = .ok (.i2l, 1) := by decide +kernel
set_option maxRecDepth 20000 in
theorem dX11_lands_6 : decode cX11_lands 6 = .ok (.invokestatic 260, 3) := by decide +kernel
set_option maxRecDepth 20000 in
theorem dX11_lands_9 : decode cX11_lands 9 = .ok (.aload_n 1, 1) := by decide +kernel
set_option maxRecDepth 20000 in
theorem dX11_lands_10 : decode cX11_lands 10 = .ok (.getfield 264, 3) := by decide +kernel
set_option maxRecDepth 20000 in
theorem dX11_lands_13 : decode cX11_lands 13 = .ok (.i2l, 1) := by decide +kernel
set_option maxRecDepth 20000 in
theorem dX11_lands_14 : decode cX11_lands 14 = .ok (.lsub, 1) := by decide +kernel
set_option maxRecDepth 20000 in
theorem dX11_lands_15 : decode cX11_lands 15 = .ok (.lstore 5, 2) := by decide +kernel
set_option maxRecDepth 20000 in
theorem dX11_lands_17 : decode cX11_lands 17 = .ok (.lload_n 3, 1) := by decide +kernel
set_option maxRecDepth 20000 in
theorem dX11_lands_18 : decode cX11_lands 18 = .ok (.aload_n 1, 1) := by decide +kernel
set_option maxRecDepth 20000 in
theorem dX11_lands_19 : decode cX11_lands 19 = .ok (.getfield 257, 3) := by decide +kernel
set_option maxRecDepth 20000 in
theorem dX11_lands_22 : decode cX11_lands 22 = .ok (.i2l, 1) := by decide +kernel
set_option maxRecDepth 20000 in
theorem dX11_lands_23 : decode cX11_lands 23 = .ok (.invokestatic 267, 3) := by decide +kernel
set_option maxRecDepth 20000 in
theorem dX11_lands_26 : decode cX11_lands 26 = .ok (.aload_n 1, 1) := by decide +kernel
set_option maxRecDepth 20000 in
theorem dX11_lands_27 : decode cX11_lands 27 = .ok (.getfield 257, 3) := by decide +kernel
set_option maxRecDepth 20000 in
theorem dX11_lands_30 : decode cX11_lands 30 = .ok (.i2l, 1) := by decide +kernel
set_option maxRecDepth 20000 in
theorem dX11_lands_31 : decode cX11_lands 31 = .ok (.invokestatic 260, 3) := by decide +kernel
set_option maxRecDepth 20000 in
theorem dX11_lands_34 : decode cX11_lands 34 = .ok (.aload_n 1, 1) := by decide +kernel
set_option maxRecDepth 20000 in
theorem dX11_lands_35 : decode cX11_lands 35 = .ok (.getfield 264, 3) := by decide +kernel
set_option maxRecDepth 20000 in
theorem dX11_lands_38 : decode cX11_lands 38 = .ok (.i2l, 1) := by decide +kernel
set_option maxRecDepth 20000 in
theorem dX11_lands_39 : decode cX11_lands 39 = .ok (.lsub, 1) := by decide +kernel
set_option maxRecDepth 20000 in
theorem dX11_lands_40 : decode cX11_lands 40 = .ok (.lstore 7, 2) := by decide +kernel
set_option maxRecDepth 20000 in
theorem dX11_lands_42 : decode cX11_lands 42 = .ok (.iload_n 2, 1) := by decide +kernel
set_option maxRecDepth 20000 in
theorem dX11_lands_43 : decode cX11_lands 43 = .ok (.bipush 100, 2) := by decide +kernel
set_option maxRecDepth 20000 in
theorem dX11_lands_45 : decode cX11_lands 45 = .ok (.idiv, 1) := by decide +kernel
set_option maxRecDepth 20000 in
theorem dX11_lands_46 : decode cX11_lands 46 = .ok (.aload_n 1, 1) := by decide +kernel
set_option maxRecDepth 20000 in
theorem dX11_lands_47 : decode cX11_lands 47 = .ok (.getfield 270, 3) := by decide +kernel
set_option maxRecDepth 20000 in
theorem dX11_lands_50 : decode cX11_lands 50 = .ok (.iadd, 1) := by decide +kernel
set_option maxRecDepth 20000 in
theorem dX11_lands_51 : decode cX11_lands 51 = .ok (.lload 5, 2) := by decide +kernel
set_option maxRecDepth 20000 in
theorem dX11_lands_53 : decode cX11_lands 53 = .ok (.l2i, 1) := by decide +kernel
set_option maxRecDepth 20000 in
theorem dX11_lands_54 : decode cX11_lands 54 = .ok (.iadd, 1) := by decide +kernel
set_option maxRecDepth 20000 in
theorem dX11_lands_55 : decode cX11_lands 55 = .ok (.aload_n 0, 1) := by decide +kernel
set_option maxRecDepth 20000 in
theorem dX11_lands_56 : decode cX11_lands 56 = .ok (.getfield 143, 3) := by decide +kernel
set_option maxRecDepth 20000 in
theorem dX11_lands_59 : decode cX11_lands 59 = .ok (.isub, 1) := by decide +kernel
set_option maxRecDepth 20000 in
theorem dX11_lands_60 : decode cX11_lands 60 = .ok (.istore 9, 2) := by decide +kernel
set_option maxRecDepth 20000 in
theorem dX11_lands_62 : decode cX11_lands 62 = .ok (.iload_n 2, 1) := by decide +kernel
set_option maxRecDepth 20000 in
theorem dX11_lands_63 : decode cX11_lands 63 = .ok (.bipush 100, 2) := by decide +kernel
set_option maxRecDepth 20000 in
theorem dX11_lands_65 : decode cX11_lands 65 = .ok (.irem, 1) := by decide +kernel
set_option maxRecDepth 20000 in
theorem dX11_lands_66 : decode cX11_lands 66 = .ok (.aload_n 1, 1) := by decide +kernel
set_option maxRecDepth 20000 in
theorem dX11_lands_67 : decode cX11_lands 67 = .ok (.getfield 273, 3) := by decide +kernel
set_option maxRecDepth 20000 in
theorem dX11_lands_70 : decode cX11_lands 70 = .ok (.iadd, 1) := by decide +kernel
set_option maxRecDepth 20000 in
theorem dX11_lands_71 : decode cX11_lands 71 = .ok (.lload 7, 2) := by decide +kernel
set_option maxRecDepth 20000 in
theorem dX11_lands_73 : decode cX11_lands 73 = .ok (.l2i, 1) := by decide +kernel
set_option maxRecDepth 20000 in
theorem dX11_lands_74 : decode cX11_lands 74 = .ok (.iadd, 1) := by decide +kernel
set_option maxRecDepth 20000 in
theorem dX11_lands_75 : decode cX11_lands 75 = .ok (.aload_n 0, 1) := by decide +kernel
set_option maxRecDepth 20000 in
theorem dX11_lands_76 : decode cX11_lands 76 = .ok (.getfield 146, 3) := by decide +kernel
set_option maxRecDepth 20000 in
theorem dX11_lands_79 : decode cX11_lands 79 = .ok (.isub, 1) := by decide +kernel
set_option maxRecDepth 20000 in
theorem dX11_lands_80 : decode cX11_lands 80 = .ok (.istore 10, 2) := by decide +kernel
set_option maxRecDepth 20000 in
theorem dX11_lands_82 : decode cX11_lands 82 = .ok (.aload_n 0, 1) := by decide +kernel
set_option maxRecDepth 20000 in
theorem dX11_lands_83 : decode cX11_lands 83 = .ok (.iload 9, 2) := by decide +kernel
set_option maxRecDepth 20000 in
theorem dX11_lands_85 : decode cX11_lands 85 = .ok (.iload 10, 2) := by decide +kernel
set_option maxRecDepth 20000 in
theorem dX11_lands_87 : decode cX11_lands 87 = .ok (.aload_n 0, 1) := by decide +kernel
set_option maxRecDepth 20000 in
theorem dX11_lands_88 : decode cX11_lands 88 = .ok (.getfield 160, 3) := by decide +kernel
set_option maxRecDepth 20000 in
theorem dX11_lands_91 : decode cX11_lands 91 = .ok (.invokevirtual 170, 3) := by decide +kernel
set_option maxRecDepth 20000 in
theorem dX11_lands_94 : decode cX11_lands 94 = .ok (.ireturn, 1) := by decide +kernel
set_option maxRecDepth 20000 in
theorem dX11_worth_0 : decode cX11_worth 0 = .ok (.aload_n 0, 1) := by decide +kernel
set_option maxRecDepth 20000 in
theorem dX11_worth_1 : decode cX11_worth 1 = .ok (.iload_n 1, 1) := by decide +kernel
set_option maxRecDepth 20000 in
theorem dX11_worth_2 : decode cX11_worth 2 = .ok (.invokevirtual 122, 3) := by decide +kernel
set_option maxRecDepth 20000 in
theorem dX11_worth_5 : decode cX11_worth 5 = .ok (.astore 6, 2) := by decide +kernel
set_option maxRecDepth 20000 in
theorem dX11_worth_7 : decode cX11_worth 7 = .ok (.aload_n 0, 1) := by decide +kernel
set_option maxRecDepth 20000 in
theorem dX11_worth_8 : decode cX11_worth 8 = .ok (.iload_n 2, 1) := by decide +kernel
set_option maxRecDepth 20000 in
theorem dX11_worth_9 : decode cX11_worth 9 = .ok (.invokevirtual 182, 3) := by decide +kernel
set_option maxRecDepth 20000 in
theorem dX11_worth_12 : decode cX11_worth 12 = .ok (.astore 7, 2) := by decide +kernel
set_option maxRecDepth 20000 in
theorem dX11_worth_14 : decode cX11_worth 14 = .ok (.aload 6, 2) := by decide +kernel
set_option maxRecDepth 20000 in
theorem dX11_worth_16 : decode cX11_worth 16 = .ok (.ifnull 31, 3) := by decide +kernel
set_option maxRecDepth 20000 in
theorem dX11_worth_19 : decode cX11_worth 19 = .ok (.aload 7, 2) := by decide +kernel
set_option maxRecDepth 20000 in
theorem dX11_worth_21 : decode cX11_worth 21 = .ok (.ifnull 26, 3) := by decide +kernel
set_option maxRecDepth 20000 in
theorem dX11_worth_24 : decode cX11_worth 24 = .ok (.iload_n 3, 1) := by decide +kernel
set_option maxRecDepth 20000 in
theorem dX11_worth_25 : decode cX11_worth 25 = .ok (.invokestatic 110, 3) := by decide +kernel
set_option maxRecDepth 20000 in
theorem dX11_worth_28 : decode cX11_worth 28 = .ok (.ifCond .eq 19, 3) := by decide +kernel
set_option maxRecDepth 20000 in
theorem dX11_worth_31 : decode cX11_worth 31 = .ok (.iload 4, 2) := by decide +kernel
set_option maxRecDepth 20000 in
theorem dX11_worth_33 : decode cX11_worth 33 = .ok (.invokestatic 186, 3) := by decide +kernel
set_option maxRecDepth 20000 in
theorem dX11_worth_36 : decode cX11_worth 36 = .ok (.ifCond .eq 11, 3) := by decide +kernel
set_option maxRecDepth 20000 in
theorem dX11_worth_39 : decode cX11_worth 39 = .ok (.iload 5, 2) := by decide +kernel
set_option maxRecDepth 20000 in
theorem dX11_worth_41 : decode cX11_worth 41 = .ok (.invokestatic 186, 3) := by decide +kernel
set_option maxRecDepth 20000 in
theorem dX11_worth_44 : decode cX11_worth 44 = .ok (.ifCond .ne 7, 3) := by decide +kernel
set_option maxRecDepth 20000 in
theorem dX11_worth_47 : decode cX11_worth 47 = .ok (.ldc2_w 189, 3) := by decide +kernel
set_option maxRecDepth 20000 in
theorem dX11_worth_50 : decode cX11_worth 50 = .ok (.lreturn, 1) := by decide +kernel
set_option maxRecDepth 20000 in
theorem dX11_worth_51 : decode cX11_worth 51 = .ok (.aload_n 0, 1) := by decide +kernel
set_option maxRecDepth 20000 in
theorem dX11_worth_52 : decode cX11_worth 52 = .ok (.getfield 67, 3) := by decide +kernel
set_option maxRecDepth 20000 in
theorem dX11_worth_55 : decode cX11_worth 55 = .ok (.aload 6, 2) := by decide +kernel
set_option maxRecDepth 20000 in
theorem dX11_worth_57 : decode cX11_worth 57 = .ok (.aload 6, 2) := by decide +kernel
set_option maxRecDepth 20000 in
theorem dX11_worth_59 : decode cX11_worth 59 = .ok (.getfield 160, 3) := by decide +kernel
set_option maxRecDepth 20000 in
theorem dX11_worth_62 : decode cX11_worth 62 = .ok (.invokevirtual 191, 3) := by decide +kernel
set_option maxRecDepth 20000 in
theorem dX11_worth_65 : decode cX11_worth 65 = .ok (.iload 4, 2) := by decide +kernel
set_option maxRecDepth 20000 in
theorem dX11_worth_67 : decode cX11_worth 67 = .ok (.ifCond .ne 11, 3) := by decide +kernel
set_option maxRecDepth 20000 in
theorem dX11_worth_70 : decode cX11_worth 70 = .ok (.aload 6, 2) := by decide +kernel
set_option maxRecDepth 20000 in
theorem dX11_worth_72 : decode cX11_worth 72 = .ok (.getfield 154, 3) := by decide +kernel
set_option maxRecDepth 20000 in
theorem dX11_worth_75 : decode cX11_worth 75 = .ok (.goto 8, 3) := by decide +kernel
set_option maxRecDepth 20000 in
theorem dX11_worth_78 : decode cX11_worth 78 = .ok (.aload 6, 2) := by decide +kernel
set_option maxRecDepth 20000 in
theorem dX11_worth_80 : decode cX11_worth 80 = .ok (.getfield 157, 3) := by decide +kernel
set_option maxRecDepth 20000 in
theorem dX11_worth_83 : decode cX11_worth 83 = .ok (.istore 8, 2) := by decide +kernel
set_option maxRecDepth 20000 in
theorem dX11_worth_85 : decode cX11_worth 85 = .ok (.aload_n 0, 1) := by decide +kernel
set_option maxRecDepth 20000 in
theorem dX11_worth_86 : decode cX11_worth 86 = .ok (.getfield 67, 3) := by decide +kernel
set_option maxRecDepth 20000 in
theorem dX11_worth_89 : decode cX11_worth 89 = .ok (.aload 7, 2) := by decide +kernel
set_option maxRecDepth 20000 in
theorem dX11_worth_91 : decode cX11_worth 91 = .ok (.iload_n 3, 1) := by decide +kernel
set_option maxRecDepth 20000 in
theorem dX11_worth_92 : decode cX11_worth 92 = .ok (.invokevirtual 195, 3) := by decide +kernel
set_option maxRecDepth 20000 in
theorem dX11_worth_95 : decode cX11_worth 95 = .ok (.iload 8, 2) := by decide +kernel
set_option maxRecDepth 20000 in
theorem dX11_worth_97 : decode cX11_worth 97 = .ok (.imul, 1) := by decide +kernel
set_option maxRecDepth 20000 in
theorem dX11_worth_98 : decode cX11_worth 98 = .ok (.aload 6, 2) := by decide +kernel
set_option maxRecDepth 20000 in
theorem dX11_worth_100 : decode cX11_worth 100 = .ok (.getfield 151, 3) := by decide +kernel
set_option maxRecDepth 20000 in
theorem dX11_worth_103 : decode cX11_worth 103 = .ok (.aload 7, 2) := by decide +kernel
set_option maxRecDepth 20000 in
theorem dX11_worth_105 : decode cX11_worth 105 = .ok (.getfield 199, 3) := by decide +kernel
set_option maxRecDepth 20000 in
theorem dX11_worth_108 : decode cX11_worth 108 = .ok (.imul, 1) := by decide +kernel
set_option maxRecDepth 20000 in
theorem dX11_worth_109 : decode cX11_worth 109 = .ok (.isub, 1) := by decide +kernel
set_option maxRecDepth 20000 in
theorem dX11_worth_110 : decode cX11_worth 110 = .ok (.i2l, 1) := by decide +kernel
set_option maxRecDepth 20000 in
theorem dX11_worth_111 : decode cX11_worth 111 = .ok (.aload 7, 2) := by decide +kernel
set_option maxRecDepth 20000 in
theorem dX11_worth_113 : decode cX11_worth 113 = .ok (.getfield 199, 3) := by decide +kernel
set_option maxRecDepth 20000 in
theorem dX11_worth_116 : decode cX11_worth 116 = .ok (.i2l, 1) := by decide +kernel
set_option maxRecDepth 20000 in
theorem dX11_worth_117 : decode cX11_worth 117 = .ok (.iload 5, 2) := by decide +kernel
set_option maxRecDepth 20000 in
theorem dX11_worth_119 : decode cX11_worth 119 = .ok (.invokestatic 202, 3) := by decide +kernel
set_option maxRecDepth 20000 in
theorem dX11_worth_122 : decode cX11_worth 122 = .ok (.lreturn, 1) := by decide +kernel
set_option maxRecDepth 20000 in
theorem dX11_leaves_0 : decode cX11_leaves 0 = .ok (.aload_n 0, 1) := by decide +kernel
set_option maxRecDepth 20000 in
theorem dX11_leaves_1 : decode cX11_leaves 1 = .ok (.iload_n 1, 1) := by decide +kernel
set_option maxRecDepth 20000 in
theorem dX11_leaves_2 : decode cX11_leaves 2 = .ok (.invokevirtual 182, 3) := by decide +kernel
set_option maxRecDepth 20000 in
theorem dX11_leaves_5 : decode cX11_leaves 5 = .ok (.astore_n 3, 1) := by decide +kernel
set_option maxRecDepth 20000 in
theorem dX11_leaves_6 : decode cX11_leaves 6 = .ok (.aload_n 3, 1) := by decide +kernel
set_option maxRecDepth 20000 in
theorem dX11_leaves_7 : decode cX11_leaves 7 = .ok (.ifnull 10, 3) := by decide +kernel
set_option maxRecDepth 20000 in
theorem dX11_leaves_10 : decode cX11_leaves 10 = .ok (.iload_n 2, 1) := by decide +kernel
set_option maxRecDepth 20000 in
theorem dX11_leaves_11 : decode cX11_leaves 11 = .ok (.invokestatic 186, 3) := by decide +kernel
set_option maxRecDepth 20000 in
theorem dX11_leaves_14 : decode cX11_leaves 14 = .ok (.ifCond .ne 7, 3) := by decide +kernel
set_option maxRecDepth 20000 in
theorem dX11_leaves_17 : decode cX11_leaves 17 = .ok (.ldc2_w 189, 3) := by decide +kernel
set_option maxRecDepth 20000 in
theorem dX11_leaves_20 : decode cX11_leaves 20 = .ok (.lreturn, 1) := by decide +kernel
set_option maxRecDepth 20000 in
theorem dX11_leaves_21 : decode cX11_leaves 21 = .ok (.lconst 0, 1) := by decide +kernel
set_option maxRecDepth 20000 in
theorem dX11_leaves_22 : decode cX11_leaves 22 = .ok (.lstore 4, 2) := by decide +kernel
set_option maxRecDepth 20000 in
theorem dX11_leaves_24 : decode cX11_leaves 24 = .ok (.iconst 0, 1) := by decide +kernel
set_option maxRecDepth 20000 in
theorem dX11_leaves_25 : decode cX11_leaves 25 = .ok (.istore 6, 2) := by decide +kernel
set_option maxRecDepth 20000 in
theorem dX11_leaves_27 : decode cX11_leaves 27 = .ok (.iload 6, 2) := by decide +kernel
set_option maxRecDepth 20000 in
theorem dX11_leaves_29 : decode cX11_leaves 29 = .ok (.aload_n 0, 1) := by decide +kernel
set_option maxRecDepth 20000 in
theorem dX11_leaves_30 : decode cX11_leaves 30 = .ok (.getfield 12, 3) := by decide +kernel
set_option maxRecDepth 20000 in
theorem dX11_leaves_33 : decode cX11_leaves 33 = .ok (.invokevirtual 114, 3) := by decide +kernel
set_option maxRecDepth 20000 in
theorem dX11_leaves_36 : decode cX11_leaves 36 = .ok (.if_icmp .ge 53, 3) := by decide +kernel
set_option maxRecDepth 20000 in
theorem dX11_leaves_39 : decode cX11_leaves 39 = .ok (.aload_n 0, 1) := by decide +kernel
set_option maxRecDepth 20000 in
theorem dX11_leaves_40 : decode cX11_leaves 40 = .ok (.getfield 12, 3) := by decide +kernel
set_option maxRecDepth 20000 in
theorem dX11_leaves_43 : decode cX11_leaves 43 = .ok (.iload 6, 2) := by decide +kernel
set_option maxRecDepth 20000 in
theorem dX11_leaves_45 : decode cX11_leaves 45 = .ok (.invokevirtual 276, 3) := by decide +kernel
set_option maxRecDepth 20000 in
theorem dX11_leaves_48 : decode cX11_leaves 48 = .ok (.checkcast 131, 3) := by decide +kernel
set_option maxRecDepth 20000 in
theorem dX11_leaves_51 : decode cX11_leaves 51 = .ok (.astore 7, 2) := by decide +kernel
set_option maxRecDepth 20000 in
theorem dX11_leaves_53 : decode cX11_leaves 53 = .ok (.lload 4, 2) := by decide +kernel
set_option maxRecDepth 20000 in
theorem dX11_leaves_55 : decode cX11_leaves 55 = .ok (.aload 7, 2) := by decide +kernel
set_option maxRecDepth 20000 in
theorem dX11_leaves_57 : decode cX11_leaves 57 = .ok (.getfield 151, 3) := by decide +kernel
set_option maxRecDepth 20000 in
theorem dX11_leaves_60 : decode cX11_leaves 60 = .ok (.aload_n 3, 1) := by decide +kernel
set_option maxRecDepth 20000 in
theorem dX11_leaves_61 : decode cX11_leaves 61 = .ok (.getfield 199, 3) := by decide +kernel
set_option maxRecDepth 20000 in
theorem dX11_leaves_64 : decode cX11_leaves 64 = .ok (.imul, 1) := by decide +kernel
set_option maxRecDepth 20000 in
theorem dX11_leaves_65 : decode cX11_leaves 65 = .ok (.aload_n 0, 1) := by decide +kernel
set_option maxRecDepth 20000 in
theorem dX11_leaves_66 : decode cX11_leaves 66 = .ok (.aload 7, 2) := by decide +kernel
set_option maxRecDepth 20000 in
theorem dX11_leaves_68 : decode cX11_leaves 68 = .ok (.aload_n 3, 1) := by decide +kernel
set_option maxRecDepth 20000 in
theorem dX11_leaves_69 : decode cX11_leaves 69 = .ok (.invokevirtual 280, 3) := by decide +kernel
set_option maxRecDepth 20000 in
theorem dX11_leaves_72 : decode cX11_leaves 72 = .ok (.aload 7, 2) := by decide +kernel
set_option maxRecDepth 20000 in
theorem dX11_leaves_74 : decode cX11_leaves 74 = .ok (.getfield 154, 3) := by decide +kernel
set_option maxRecDepth 20000 in
theorem dX11_leaves_77 : decode cX11_leaves 77 = .ok (.imul, 1) := by decide +kernel
set_option maxRecDepth 20000 in
theorem dX11_leaves_78 : decode cX11_leaves 78 = .ok (.isub, 1) := by decide +kernel
set_option maxRecDepth 20000 in
theorem dX11_leaves_79 : decode cX11_leaves 79 = .ok (.i2l, 1) := by decide +kernel
set_option maxRecDepth 20000 in
theorem dX11_leaves_80 : decode cX11_leaves 80 = .ok (.ladd, 1) := by decide +kernel
set_option maxRecDepth 20000 in
theorem dX11_leaves_81 : decode cX11_leaves 81 = .ok (.lstore 4, 2) := by decide +kernel
set_option maxRecDepth 20000 in
theorem dX11_leaves_83 : decode cX11_leaves 83 = .ok (.iinc 6 1, 3) := by decide +kernel
set_option maxRecDepth 20000 in
theorem dX11_leaves_86 : decode cX11_leaves 86 = .ok (.goto (-59), 3) := by decide +kernel
set_option maxRecDepth 20000 in
theorem dX11_leaves_89 : decode cX11_leaves 89 = .ok (.lload 4, 2) := by decide +kernel
set_option maxRecDepth 20000 in
theorem dX11_leaves_91 : decode cX11_leaves 91 = .ok (.aload_n 3, 1) := by decide +kernel
set_option maxRecDepth 20000 in
theorem dX11_leaves_92 : decode cX11_leaves 92 = .ok (.getfield 199, 3) := by decide +kernel
set_option maxRecDepth 20000 in
theorem dX11_leaves_95 : decode cX11_leaves 95 = .ok (.i2l, 1) := by decide +kernel
set_option maxRecDepth 20000 in
theorem dX11_leaves_96 : decode cX11_leaves 96 = .ok (.iload_n 2, 1) := by decide +kernel
set_option maxRecDepth 20000 in
theorem dX11_leaves_97 : decode cX11_leaves 97 = .ok (.invokestatic 202, 3) := by decide +kernel
set_option maxRecDepth 20000 in
theorem dX11_leaves_100 : decode cX11_leaves 100 = .ok (.lreturn, 1) := by decide +kernel
set_option maxRecDepth 20000 in
theorem dX11_feed_0 : decode cX11_feed 0 = .ok (.iload_n 1, 1) := by decide +kernel
set_option maxRecDepth 20000 in
theorem dX11_feed_1 : decode cX11_feed 1 = .ok (.iconst 1, 1) := by decide +kernel
set_option maxRecDepth 20000 in
theorem dX11_feed_2 : decode cX11_feed 2 = .ok (.bipush 8, 2) := by decide +kernel
set_option maxRecDepth 20000 in
theorem dX11_feed_4 : decode cX11_feed 4 = .ok (.invokestatic 106, 3) := by decide +kernel
set_option maxRecDepth 20000 in
theorem dX11_feed_7 : decode cX11_feed 7 = .ok (.ifCond .ne 6, 3) := by decide +kernel
set_option maxRecDepth 20000 in
theorem dX11_feed_10 : decode cX11_feed 10 = .ok (.bipush (-2), 2) := by decide +kernel
set_option maxRecDepth 20000 in
theorem dX11_feed_12 : decode cX11_feed 12 = .ok (.ireturn, 1) := by decide +kernel
set_option maxRecDepth 20000 in
theorem dX11_feed_13 : decode cX11_feed 13 = .ok (.aload_n 0, 1) := by decide +kernel
set_option maxRecDepth 20000 in
theorem dX11_feed_14 : decode cX11_feed 14 = .ok (.getfield 45, 3) := by decide +kernel
set_option maxRecDepth 20000 in
theorem dX11_feed_17 : decode cX11_feed 17 = .ok (.getfield 284, 3) := by decide +kernel
set_option maxRecDepth 20000 in
theorem dX11_feed_20 : decode cX11_feed 20 = .ok (.iload_n 1, 1) := by decide +kernel
set_option maxRecDepth 20000 in
theorem dX11_feed_21 : decode cX11_feed 21 = .ok (.iadd, 1) := by decide +kernel
set_option maxRecDepth 20000 in
theorem dX11_feed_22 : decode cX11_feed 22 = .ok (.sipush 160, 3) := by decide +kernel
set_option maxRecDepth 20000 in
theorem dX11_feed_25 : decode cX11_feed 25 = .ok (.if_icmp .le 6, 3) := by decide +kernel
set_option maxRecDepth 20000 in
theorem dX11_feed_28 : decode cX11_feed 28 = .ok (.bipush (-4), 2) := by decide +kernel
set_option maxRecDepth 20000 in
theorem dX11_feed_30 : decode cX11_feed 30 = .ok (.ireturn, 1) := by decide +kernel
set_option maxRecDepth 20000 in
theorem dX11_feed_31 : decode cX11_feed 31 = .ok (.iconst 0, 1) := by decide +kernel
set_option maxRecDepth 20000 in
theorem dX11_feed_32 : decode cX11_feed 32 = .ok (.istore 4, 2) := by decide +kernel
set_option maxRecDepth 20000 in
theorem dX11_feed_34 : decode cX11_feed 34 = .ok (.iload 4, 2) := by decide +kernel
set_option maxRecDepth 20000 in
theorem dX11_feed_36 : decode cX11_feed 36 = .ok (.iload_n 1, 1) := by decide +kernel
set_option maxRecDepth 20000 in
theorem dX11_feed_37 : decode cX11_feed 37 = .ok (.if_icmp .ge 28, 3) := by decide +kernel
set_option maxRecDepth 20000 in
theorem dX11_feed_40 : decode cX11_feed 40 = .ok (.aload_n 0, 1) := by decide +kernel
set_option maxRecDepth 20000 in
theorem dX11_feed_41 : decode cX11_feed 41 = .ok (.getfield 45, 3) := by decide +kernel
set_option maxRecDepth 20000 in
theorem dX11_feed_44 : decode cX11_feed 44 = .ok (.lload_n 2, 1) := by decide +kernel
set_option maxRecDepth 20000 in
theorem dX11_feed_45 : decode cX11_feed 45 = .ok (.bipush 8, 2) := by decide +kernel
set_option maxRecDepth 20000 in
theorem dX11_feed_47 : decode cX11_feed 47 = .ok (.iload 4, 2) := by decide +kernel
set_option maxRecDepth 20000 in
theorem dX11_feed_49 : decode cX11_feed 49 = .ok (.imul, 1) := by decide +kernel
set_option maxRecDepth 20000 in
theorem dX11_feed_50 : decode cX11_feed 50 = .ok (.lshr, 1) := by decide +kernel
set_option maxRecDepth 20000 in
theorem dX11_feed_51 : decode cX11_feed 51 = .ok (.l2i, 1) := by decide +kernel
set_option maxRecDepth 20000 in
theorem dX11_feed_52 : decode cX11_feed 52 = .ok (.sipush 255, 3) := by decide +kernel
set_option maxRecDepth 20000 in
theorem dX11_feed_55 : decode cX11_feed 55 = .ok (.iand, 1) := by decide +kernel
set_option maxRecDepth 20000 in
theorem dX11_feed_56 : decode cX11_feed 56 = .ok (.invokevirtual 285, 3) := by decide +kernel
set_option maxRecDepth 20000 in
theorem dX11_feed_59 : decode cX11_feed 59 = .ok (.iinc 4 1, 3) := by decide +kernel
set_option maxRecDepth 20000 in
theorem dX11_feed_62 : decode cX11_feed 62 = .ok (.goto (-28), 3) := by decide +kernel
set_option maxRecDepth 20000 in
theorem dX11_feed_65 : decode cX11_feed 65 = .ok (.aload_n 0, 1) := by decide +kernel
set_option maxRecDepth 20000 in
theorem dX11_feed_66 : decode cX11_feed 66 = .ok (.getfield 45, 3) := by decide +kernel
set_option maxRecDepth 20000 in
theorem dX11_feed_69 : decode cX11_feed 69 = .ok (.getfield 284, 3) := by decide +kernel
set_option maxRecDepth 20000 in
theorem dX11_feed_72 : decode cX11_feed 72 = .ok (.ireturn, 1) := by decide +kernel
set_option maxRecDepth 20000 in
theorem dX11_text_0 : decode cX11_text 0 = .ok (.aload_n 0, 1) := by decide +kernel
set_option maxRecDepth 20000 in
theorem dX11_text_1 : decode cX11_text 1 = .ok (.getfield 19, 3) := by decide +kernel
set_option maxRecDepth 20000 in
theorem dX11_text_4 : decode cX11_text 4 = .ok (.invokevirtual 114, 3) := by decide +kernel
set_option maxRecDepth 20000 in
theorem dX11_text_7 : decode cX11_text 7 = .ok (.bipush 6, 2) := by decide +kernel
set_option maxRecDepth 20000 in
theorem dX11_text_9 : decode cX11_text 9 = .ok (.if_icmp .lt 6, 3) := by decide +kernel
set_option maxRecDepth 20000 in
theorem dX11_text_12 : decode cX11_text 12 = .ok (.bipush (-4), 2) := by decide +kernel
set_option maxRecDepth 20000 in
theorem dX11_text_14 : decode cX11_text 14 = .ok (.ireturn, 1) := by decide +kernel
set_option maxRecDepth 20000 in
theorem dX11_text_15 : decode cX11_text 15 = .ok (.aload_n 0, 1) := by decide +kernel
set_option maxRecDepth 20000 in
theorem dX11_text_16 : decode cX11_text 16 = .ok (.getfield 45, 3) := by decide +kernel
set_option maxRecDepth 20000 in
theorem dX11_text_19 : decode cX11_text 19 = .ok (.invokevirtual 98, 3) := by decide +kernel
set_option maxRecDepth 20000 in
theorem dX11_text_22 : decode cX11_text 22 = .ok (.astore_n 1, 1) := by decide +kernel
set_option maxRecDepth 20000 in
theorem dX11_text_23 : decode cX11_text 23 = .ok (.aload_n 1, 1) := by decide +kernel
set_option maxRecDepth 20000 in
theorem dX11_text_24 : decode cX11_text 24 = .ok (.ifnonnull 14, 3) := by decide +kernel
set_option maxRecDepth 20000 in
theorem dX11_text_27 : decode cX11_text 27 = .ok (.bipush (-100), 2) := by decide +kernel
set_option maxRecDepth 20000 in
theorem dX11_text_29 : decode cX11_text 29 = .ok (.aload_n 0, 1) := by decide +kernel
set_option maxRecDepth 20000 in
theorem dX11_text_30 : decode cX11_text 30 = .ok (.getfield 45, 3) := by decide +kernel
set_option maxRecDepth 20000 in
theorem dX11_text_33 : decode cX11_text 33 = .ok (.getfield 289, 3) := by decide +kernel
set_option maxRecDepth 20000 in
theorem dX11_text_36 : decode cX11_text 36 = .ok (.isub, 1) := by decide +kernel
set_option maxRecDepth 20000 in
theorem dX11_text_37 : decode cX11_text 37 = .ok (.ireturn, 1) := by decide +kernel
set_option maxRecDepth 20000 in
theorem dX11_text_38 : decode cX11_text 38 = .ok (.aload_n 0, 1) := by decide +kernel
set_option maxRecDepth 20000 in
theorem dX11_text_39 : decode cX11_text 39 = .ok (.getfield 19, 3) := by decide +kernel
set_option maxRecDepth 20000 in
theorem dX11_text_42 : decode cX11_text 42 = .ok (.aload_n 1, 1) := by decide +kernel
set_option maxRecDepth 20000 in
theorem dX11_text_43 : decode cX11_text 43 = .ok (.invokevirtual 102, 3) := by decide +kernel
set_option maxRecDepth 20000 in
theorem dX11_text_46 : decode cX11_text 46 = .ok (.pop, 1) := by decide +kernel
set_option maxRecDepth 20000 in
theorem dX11_text_47 : decode cX11_text 47 = .ok (.aload_n 0, 1) := by decide +kernel
set_option maxRecDepth 20000 in
theorem dX11_text_48 : decode cX11_text 48 = .ok (.getfield 19, 3) := by decide +kernel
set_option maxRecDepth 20000 in
theorem dX11_text_51 : decode cX11_text 51 = .ok (.invokevirtual 114, 3) := by decide +kernel
set_option maxRecDepth 20000 in
theorem dX11_text_54 : decode cX11_text 54 = .ok (.iconst 1, 1) := by decide +kernel
set_option maxRecDepth 20000 in
theorem dX11_text_55 : decode cX11_text 55 = .ok (.isub, 1) := by decide +kernel
set_option maxRecDepth 20000 in
theorem dX11_text_56 : decode cX11_text 56 = .ok (.ireturn, 1) := by decide +kernel
set_option maxRecDepth 20000 in
theorem dX11_force_0 : decode cX11_force 0 = .ok (.iload_n 1, 1) := by decide +kernel
set_option maxRecDepth 20000 in
theorem dX11_force_1 : decode cX11_force 1 = .ok (.iconst 0, 1) := by decide +kernel
set_option maxRecDepth 20000 in
theorem dX11_force_2 : decode cX11_force 2 = .ok (.aload_n 0, 1) := by decide +kernel
set_option maxRecDepth 20000 in
theorem dX11_force_3 : decode cX11_force 3 = .ok (.getfield 19, 3) := by decide +kernel
set_option maxRecDepth 20000 in
theorem dX11_force_6 : decode cX11_force 6 = .ok (.invokevirtual 114, 3) := by decide +kernel
set_option maxRecDepth 20000 in
theorem dX11_force_9 : decode cX11_force 9 = .ok (.iconst 1, 1) := by decide +kernel
set_option maxRecDepth 20000 in
theorem dX11_force_10 : decode cX11_force 10 = .ok (.isub, 1) := by decide +kernel
set_option maxRecDepth 20000 in
theorem dX11_force_11 : decode cX11_force 11 = .ok (.invokestatic 106, 3) := by decide +kernel
set_option maxRecDepth 20000 in
theorem dX11_force_14 : decode cX11_force 14 = .ok (.ifCond .ne 6, 3) := by decide +kernel
set_option maxRecDepth 20000 in
theorem dX11_force_17 : decode cX11_force 17 = .ok (.bipush (-2), 2) := by decide +kernel
set_option maxRecDepth 20000 in
theorem dX11_force_19 : decode cX11_force 19 = .ok (.ireturn, 1) := by decide +kernel
set_option maxRecDepth 20000 in
theorem dX11_force_20 : decode cX11_force 20 = .ok (.aload_n 0, 1) := by decide +kernel
set_option maxRecDepth 20000 in
theorem dX11_force_21 : decode cX11_force 21 = .ok (.getfield 22, 3) := by decide +kernel
set_option maxRecDepth 20000 in
theorem dX11_force_24 : decode cX11_force 24 = .ok (.istore_n 2, 1) := by decide +kernel
set_option maxRecDepth 20000 in
theorem dX11_force_25 : decode cX11_force 25 = .ok (.aload_n 0, 1) := by decide +kernel
set_option maxRecDepth 20000 in
theorem dX11_force_26 : decode cX11_force 26 = .ok (.iload_n 1, 1) := by decide +kernel
set_option maxRecDepth 20000 in
theorem dX11_force_27 : decode cX11_force 27 = .ok (.putfield 22, 3) := by decide +kernel
set_option maxRecDepth 20000 in
theorem dX11_force_30 : decode cX11_force 30 = .ok (.iload_n 2, 1) := by decide +kernel
set_option maxRecDepth 20000 in
theorem dX11_force_31 : decode cX11_force 31 = .ok (.ireturn, 1) := by decide +kernel
set_option maxRecDepth 20000 in
theorem dX11_says_0 : decode cX11_says 0 = .ok (.aload_n 0, 1) := by decide +kernel
set_option maxRecDepth 20000 in
theorem dX11_says_1 : decode cX11_says 1 = .ok (.iload_n 1, 1) := by decide +kernel
set_option maxRecDepth 20000 in
theorem dX11_says_2 : decode cX11_says 2 = .ok (.invokevirtual 122, 3) := by decide +kernel
set_option maxRecDepth 20000 in
theorem dX11_says_5 : decode cX11_says 5 = .ok (.astore 6, 2) := by decide +kernel
set_option maxRecDepth 20000 in
theorem dX11_says_7 : decode cX11_says 7 = .ok (.aload_n 0, 1) := by decide +kernel
set_option maxRecDepth 20000 in
theorem dX11_says_8 : decode cX11_says 8 = .ok (.iload_n 2, 1) := by decide +kernel
set_option maxRecDepth 20000 in
theorem dX11_says_9 : decode cX11_says 9 = .ok (.invokevirtual 182, 3) := by decide +kernel
set_option maxRecDepth 20000 in
theorem dX11_says_12 : decode cX11_says 12 = .ok (.astore 7, 2) := by decide +kernel
set_option maxRecDepth 20000 in
theorem dX11_says_14 : decode cX11_says 14 = .ok (.aload 6, 2) := by decide +kernel
set_option maxRecDepth 20000 in
theorem dX11_says_16 : decode cX11_says 16 = .ok (.ifnull 35, 3) := by decide +kernel
set_option maxRecDepth 20000 in
theorem dX11_says_19 : decode cX11_says 19 = .ok (.aload 7, 2) := by decide +kernel
set_option maxRecDepth 20000 in
theorem dX11_says_21 : decode cX11_says 21 = .ok (.ifnull 30, 3) := by decide +kernel
set_option maxRecDepth 20000 in
theorem dX11_says_24 : decode cX11_says 24 = .ok (.iload_n 3, 1) := by decide +kernel
set_option maxRecDepth 20000 in
theorem dX11_says_25 : decode cX11_says 25 = .ok (.invokestatic 110, 3) := by decide +kernel
set_option maxRecDepth 20000 in
theorem dX11_says_28 : decode cX11_says 28 = .ok (.ifCond .eq 23, 3) := by decide +kernel
set_option maxRecDepth 20000 in
theorem dX11_says_31 : decode cX11_says 31 = .ok (.iload 4, 2) := by decide +kernel
set_option maxRecDepth 20000 in
theorem dX11_says_33 : decode cX11_says 33 = .ok (.invokestatic 186, 3) := by decide +kernel
set_option maxRecDepth 20000 in
theorem dX11_says_36 : decode cX11_says 36 = .ok (.ifCond .eq 15, 3) := by decide +kernel
set_option maxRecDepth 20000 in
theorem dX11_says_39 : decode cX11_says 39 = .ok (.iload 5, 2) := by decide +kernel
set_option maxRecDepth 20000 in
theorem dX11_says_41 : decode cX11_says 41 = .ok (.iconst 0, 1) := by decide +kernel
set_option maxRecDepth 20000 in
theorem dX11_says_42 : decode cX11_says 42 = .ok (.sipush 9999, 3) := by decide +kernel
set_option maxRecDepth 20000 in
theorem dX11_says_45 : decode cX11_says 45 = .ok (.invokestatic 106, 3) := by decide +kernel
set_option maxRecDepth 20000 in
theorem dX11_says_48 : decode cX11_says 48 = .ok (.ifCond .ne 7, 3) := by decide +kernel
set_option maxRecDepth 20000 in
theorem dX11_says_51 : decode cX11_says 51 = .ok (.ldc2_w 189, 3) := by decide +kernel
set_option maxRecDepth 20000 in
theorem dX11_says_54 : decode cX11_says 54 = .ok (.lreturn, 1) := by decide +kernel
set_option maxRecDepth 20000 in
theorem dX11_says_55 : decode cX11_says 55 = .ok (.aload_n 0, 1) := by decide +kernel
set_option maxRecDepth 20000 in
theorem dX11_says_56 : decode cX11_says 56 = .ok (.aload 6, 2) := by decide +kernel
set_option maxRecDepth 20000 in
theorem dX11_says_58 : decode cX11_says 58 = .ok (.aload_n 0, 1) := by decide +kernel
set_option maxRecDepth 20000 in
theorem dX11_says_59 : decode cX11_says 59 = .ok (.aload 6, 2) := by decide +kernel
set_option maxRecDepth 20000 in
theorem dX11_says_61 : decode cX11_says 61 = .ok (.aload 7, 2) := by decide +kernel
set_option maxRecDepth 20000 in
theorem dX11_says_63 : decode cX11_says 63 = .ok (.iload_n 3, 1) := by decide +kernel
set_option maxRecDepth 20000 in
theorem dX11_says_64 : decode cX11_says 64 = .ok (.invokevirtual 292, 3) := by decide +kernel
set_option maxRecDepth 20000 in
theorem dX11_says_67 : decode cX11_says 67 = .ok (.invokevirtual 296, 3) := by decide +kernel
set_option maxRecDepth 20000 in
theorem dX11_says_70 : decode cX11_says 70 = .ok (.iload 4, 2) := by decide +kernel
set_option maxRecDepth 20000 in
theorem dX11_says_72 : decode cX11_says 72 = .ok (.iconst 1, 1) := by decide +kernel
set_option maxRecDepth 20000 in
theorem dX11_says_73 : decode cX11_says 73 = .ok (.if_icmp .ne 12, 3) := by decide +kernel
set_option maxRecDepth 20000 in
theorem dX11_says_76 : decode cX11_says 76 = .ok (.aload_n 0, 1) := by decide +kernel
set_option maxRecDepth 20000 in
theorem dX11_says_77 : decode cX11_says 77 = .ok (.iconst 1, 1) := by decide +kernel
set_option maxRecDepth 20000 in
theorem dX11_says_78 : decode cX11_says 78 = .ok (.iconst 0, 1) := by decide +kernel
set_option maxRecDepth 20000 in
theorem dX11_says_79 : decode cX11_says 79 = .ok (.iconst 0, 1) := by decide +kernel
set_option maxRecDepth 20000 in
theorem dX11_says_80 : decode cX11_says 80 = .ok (.invokevirtual 299, 3) := by decide +kernel
set_option maxRecDepth 20000 in
theorem dX11_says_83 : decode cX11_says 83 = .ok (.i2l, 1) := by decide +kernel
set_option maxRecDepth 20000 in
theorem dX11_says_84 : decode cX11_says 84 = .ok (.lreturn, 1) := by decide +kernel
set_option maxRecDepth 20000 in
theorem dX11_says_85 : decode cX11_says 85 = .ok (.aload_n 0, 1) := by decide +kernel
set_option maxRecDepth 20000 in
theorem dX11_says_86 : decode cX11_says 86 = .ok (.iconst 0, 1) := by decide +kernel
set_option maxRecDepth 20000 in
theorem dX11_says_87 : decode cX11_says 87 = .ok (.iload 5, 2) := by decide +kernel
set_option maxRecDepth 20000 in
theorem dX11_says_89 : decode cX11_says 89 = .ok (.bipush 100, 2) := by decide +kernel
set_option maxRecDepth 20000 in
theorem dX11_says_91 : decode cX11_says 91 = .ok (.idiv, 1) := by decide +kernel
set_option maxRecDepth 20000 in
theorem dX11_says_92 : decode cX11_says 92 = .ok (.iload 5, 2) := by decide +kernel
set_option maxRecDepth 20000 in
theorem dX11_says_94 : decode cX11_says 94 = .ok (.bipush 100, 2) := by decide +kernel
set_option maxRecDepth 20000 in
theorem dX11_says_96 : decode cX11_says 96 = .ok (.irem, 1) := by decide +kernel
set_option maxRecDepth 20000 in
theorem dX11_says_97 : decode cX11_says 97 = .ok (.invokevirtual 299, 3) := by decide +kernel
set_option maxRecDepth 20000 in
theorem dX11_says_100 : decode cX11_says 100 = .ok (.i2l, 1) := by decide +kernel
set_option maxRecDepth 20000 in
theorem dX11_says_101 : decode cX11_says 101 = .ok (.lreturn, 1) := by decide +kernel
set_option maxRecDepth 20000 in
theorem dX11_player_0 : decode cX11_player 0 = .ok (.aload_n 0, 1) := by decide +kernel
set_option maxRecDepth 20000 in
theorem dX11_player_1 : decode cX11_player 1 = .ok (.iload_n 1, 1) := by decide +kernel
set_option maxRecDepth 20000 in
theorem dX11_player_2 : decode cX11_player 2 = .ok (.iload_n 2, 1) := by decide +kernel
set_option maxRecDepth 20000 in
theorem dX11_player_3 : decode cX11_player 3 = .ok (.iload_n 3, 1) := by decide +kernel
set_option maxRecDepth 20000 in
theorem dX11_player_4 : decode cX11_player 4 = .ok (.iload 4, 2) := by decide +kernel
set_option maxRecDepth 20000 in
theorem dX11_player_6 : decode cX11_player 6 = .ok (.invokevirtual 303, 3) := by decide +kernel
set_option maxRecDepth 20000 in
theorem dX11_player_9 : decode cX11_player 9 = .ok (.ifCond .eq 15, 3) := by decide +kernel
set_option maxRecDepth 20000 in
theorem dX11_player_12 : decode cX11_player 12 = .ok (.iload 5, 2) := by decide +kernel
set_option maxRecDepth 20000 in
theorem dX11_player_14 : decode cX11_player 14 = .ok (.iconst 0, 1) := by decide +kernel
set_option maxRecDepth 20000 in
theorem dX11_player_15 : decode cX11_player 15 = .ok (.sipush 639, 3) := by decide +kernel
set_option maxRecDepth 20000 in
theorem dX11_player_18 : decode cX11_player 18 = .ok (.invokestatic 106, 3) := by decide +kernel
set_option maxRecDepth 20000 in
theorem dX11_player_21 : decode cX11_player 21 = .ok (.ifCond .ne 7, 3) := by decide +kernel
set_option maxRecDepth 20000 in
theorem dX11_player_24 : decode cX11_player 24 = .ok (.ldc2_w 189, 3) := by decide +kernel
set_option maxRecDepth 20000 in
theorem dX11_player_27 : decode cX11_player 27 = .ok (.lreturn, 1) := by decide +kernel
set_option maxRecDepth 20000 in
theorem dX11_player_28 : decode cX11_player 28 = .ok (.iload 5, 2) := by decide +kernel
set_option maxRecDepth 20000 in
theorem dX11_player_30 : decode cX11_player 30 = .ok (.bipush 10, 2) := by decide +kernel
set_option maxRecDepth 20000 in
theorem dX11_player_32 : decode cX11_player 32 = .ok (.irem, 1) := by decide +kernel
set_option maxRecDepth 20000 in
theorem dX11_player_33 : decode cX11_player 33 = .ok (.istore 6, 2) := by decide +kernel
set_option maxRecDepth 20000 in
theorem dX11_player_35 : decode cX11_player 35 = .ok (.aload_n 0, 1) := by decide +kernel
set_option maxRecDepth 20000 in
theorem dX11_player_36 : decode cX11_player 36 = .ok (.iload_n 1, 1) := by decide +kernel
set_option maxRecDepth 20000 in
theorem dX11_player_37 : decode cX11_player 37 = .ok (.bipush 10, 2) := by decide +kernel
set_option maxRecDepth 20000 in
theorem dX11_player_39 : decode cX11_player 39 = .ok (.idiv, 1) := by decide +kernel
set_option maxRecDepth 20000 in
theorem dX11_player_40 : decode cX11_player 40 = .ok (.invokevirtual 122, 3) := by decide +kernel
set_option maxRecDepth 20000 in
theorem dX11_player_43 : decode cX11_player 43 = .ok (.astore 7, 2) := by decide +kernel
set_option maxRecDepth 20000 in
theorem dX11_player_45 : decode cX11_player 45 = .ok (.aload_n 0, 1) := by decide +kernel
set_option maxRecDepth 20000 in
theorem dX11_player_46 : decode cX11_player 46 = .ok (.iload_n 1, 1) := by decide +kernel
set_option maxRecDepth 20000 in
theorem dX11_player_47 : decode cX11_player 47 = .ok (.bipush 10, 2) := by decide +kernel
set_option maxRecDepth 20000 in
theorem dX11_player_49 : decode cX11_player 49 = .ok (.irem, 1) := by decide +kernel
set_option maxRecDepth 20000 in
theorem dX11_player_50 : decode cX11_player 50 = .ok (.invokevirtual 182, 3) := by decide +kernel
set_option maxRecDepth 20000 in
theorem dX11_player_53 : decode cX11_player 53 = .ok (.astore 8, 2) := by decide +kernel
set_option maxRecDepth 20000 in
theorem dX11_player_55 : decode cX11_player 55 = .ok (.aload 7, 2) := by decide +kernel
set_option maxRecDepth 20000 in
theorem dX11_player_57 : decode cX11_player 57 = .ok (.ifnull 18, 3) := by decide +kernel
set_option maxRecDepth 20000 in
theorem dX11_player_60 : decode cX11_player 60 = .ok (.aload 8, 2) := by decide +kernel
set_option maxRecDepth 20000 in
theorem dX11_player_62 : decode cX11_player 62 = .ok (.ifnull 13, 3) := by decide +kernel
set_option maxRecDepth 20000 in
theorem dX11_player_65 : decode cX11_player 65 = .ok (.iload 6, 2) := by decide +kernel
set_option maxRecDepth 20000 in
theorem dX11_player_67 : decode cX11_player 67 = .ok (.aload_n 0, 1) := by decide +kernel
set_option maxRecDepth 20000 in
theorem dX11_player_68 : decode cX11_player 68 = .ok (.getfield 76, 3) := by decide +kernel
set_option maxRecDepth 20000 in
theorem dX11_player_71 : decode cX11_player 71 = .ok (.arraylength, 1) := by decide +kernel
set_option maxRecDepth 20000 in
theorem dX11_player_72 : decode cX11_player 72 = .ok (.if_icmp .lt 7, 3) := by decide +kernel
set_option maxRecDepth 20000 in
theorem dX11_player_75 : decode cX11_player 75 = .ok (.ldc2_w 189, 3) := by decide +kernel
set_option maxRecDepth 20000 in
theorem dX11_player_78 : decode cX11_player 78 = .ok (.lreturn, 1) := by decide +kernel
set_option maxRecDepth 20000 in
theorem dX11_player_79 : decode cX11_player 79 = .ok (.aload_n 0, 1) := by decide +kernel
set_option maxRecDepth 20000 in
theorem dX11_player_80 : decode cX11_player 80 = .ok (.aload 7, 2) := by decide +kernel
set_option maxRecDepth 20000 in
theorem dX11_player_82 : decode cX11_player 82 = .ok (.aload 8, 2) := by decide +kernel
set_option maxRecDepth 20000 in
theorem dX11_player_84 : decode cX11_player 84 = .ok (.iload_n 2, 1) := by decide +kernel
set_option maxRecDepth 20000 in
theorem dX11_player_85 : decode cX11_player 85 = .ok (.invokevirtual 306, 3) := by decide +kernel
set_option maxRecDepth 20000 in
theorem dX11_player_88 : decode cX11_player 88 = .ok (.aload_n 0, 1) := by decide +kernel
set_option maxRecDepth 20000 in
theorem dX11_player_89 : decode cX11_player 89 = .ok (.aload 7, 2) := by decide +kernel
set_option maxRecDepth 20000 in
theorem dX11_player_91 : decode cX11_player 91 = .ok (.iload 4, 2) := by decide +kernel
set_option maxRecDepth 20000 in
theorem dX11_player_93 : decode cX11_player 93 = .ok (.aload 7, 2) := by decide +kernel
set_option maxRecDepth 20000 in
theorem dX11_player_95 : decode cX11_player 95 = .ok (.aload 8, 2) := by decide +kernel
set_option maxRecDepth 20000 in
theorem dX11_player_97 : decode cX11_player 97 = .ok (.iload_n 2, 1) := by decide +kernel
set_option maxRecDepth 20000 in
theorem dX11_player_98 : decode cX11_player 98 = .ok (.iload_n 3, 1) := by decide +kernel
set_option maxRecDepth 20000 in
theorem dX11_player_99 : decode cX11_player 99 = .ok (.invokestatic 310, 3) := by decide +kernel
set_option maxRecDepth 20000 in
theorem dX11_player_102 : decode cX11_player 102 = .ok (.iload 5, 2) := by decide +kernel
set_option maxRecDepth 20000 in
theorem dX11_player_104 : decode cX11_player 104 = .ok (.bipush 10, 2) := by decide +kernel
set_option maxRecDepth 20000 in
theorem dX11_player_106 : decode cX11_player 106 = .ok (.idiv, 1) := by decide +kernel
set_option maxRecDepth 20000 in
theorem dX11_player_107 : decode cX11_player 107 = .ok (.i2l, 1) := by decide +kernel
set_option maxRecDepth 20000 in
theorem dX11_player_108 : decode cX11_player 108 = .ok (.lor, 1) := by decide +kernel
set_option maxRecDepth 20000 in
theorem dX11_player_109 : decode cX11_player 109 = .ok (.invokevirtual 314, 3) := by decide +kernel
set_option maxRecDepth 20000 in
theorem dX11_player_112 : decode cX11_player 112 = .ok (.aload_n 0, 1) := by decide +kernel
set_option maxRecDepth 20000 in
theorem dX11_player_113 : decode cX11_player 113 = .ok (.getfield 76, 3) := by decide +kernel
set_option maxRecDepth 20000 in
theorem dX11_player_116 : decode cX11_player 116 = .ok (.iload 6, 2) := by decide +kernel
set_option maxRecDepth 20000 in
theorem dX11_player_118 : decode cX11_player 118 = .ok (.iaload, 1) := by decide +kernel
set_option maxRecDepth 20000 in
theorem dX11_player_119 : decode cX11_player 119 = .ok (.i2l, 1) := by decide +kernel
set_option maxRecDepth 20000 in
theorem dX11_player_120 : decode cX11_player 120 = .ok (.lreturn, 1) := by decide +kernel
set_option maxRecDepth 20000 in
theorem dX11_most_0 : decode cX11_most 0 = .ok (.aload_n 0, 1) := by decide +kernel
set_option maxRecDepth 20000 in
theorem dX11_most_1 : decode cX11_most 1 = .ok (.iload_n 1, 1) := by decide +kernel
set_option maxRecDepth 20000 in
theorem dX11_most_2 : decode cX11_most 2 = .ok (.iload_n 2, 1) := by decide +kernel
set_option maxRecDepth 20000 in
theorem dX11_most_3 : decode cX11_most 3 = .ok (.iload_n 3, 1) := by decide +kernel
set_option maxRecDepth 20000 in
theorem dX11_most_4 : decode cX11_most 4 = .ok (.iload 4, 2) := by decide +kernel
set_option maxRecDepth 20000 in
theorem dX11_most_6 : decode cX11_most 6 = .ok (.invokevirtual 303, 3) := by decide +kernel
set_option maxRecDepth 20000 in
theorem dX11_most_9 : decode cX11_most 9 = .ok (.ifCond .eq 14, 3) := by decide +kernel
set_option maxRecDepth 20000 in
theorem dX11_most_12 : decode cX11_most 12 = .ok (.iload 5, 2) := by decide +kernel
set_option maxRecDepth 20000 in
theorem dX11_most_14 : decode cX11_most 14 = .ok (.iconst 0, 1) := by decide +kernel
set_option maxRecDepth 20000 in
theorem dX11_most_15 : decode cX11_most 15 = .ok (.bipush 6, 2) := by decide +kernel
set_option maxRecDepth 20000 in
theorem dX11_most_17 : decode cX11_most 17 = .ok (.invokestatic 106, 3) := by decide +kernel
set_option maxRecDepth 20000 in
theorem dX11_most_20 : decode cX11_most 20 = .ok (.ifCond .ne 6, 3) := by decide +kernel
set_option maxRecDepth 20000 in
theorem dX11_most_23 : decode cX11_most 23 = .ok (.bipush (-2), 2) := by decide +kernel
set_option maxRecDepth 20000 in
theorem dX11_most_25 : decode cX11_most 25 = .ok (.ireturn, 1) := by decide +kernel
set_option maxRecDepth 20000 in
theorem dX11_most_26 : decode cX11_most 26 = .ok (.aload_n 0, 1) := by decide +kernel
set_option maxRecDepth 20000 in
theorem dX11_most_27 : decode cX11_most 27 = .ok (.iload_n 1, 1) := by decide +kernel
set_option maxRecDepth 20000 in
theorem dX11_most_28 : decode cX11_most 28 = .ok (.bipush 10, 2) := by decide +kernel
set_option maxRecDepth 20000 in
theorem dX11_most_30 : decode cX11_most 30 = .ok (.idiv, 1) := by decide +kernel
set_option maxRecDepth 20000 in
theorem dX11_most_31 : decode cX11_most 31 = .ok (.invokevirtual 122, 3) := by decide +kernel
set_option maxRecDepth 20000 in
theorem dX11_most_34 : decode cX11_most 34 = .ok (.astore 6, 2) := by decide +kernel
set_option maxRecDepth 20000 in
theorem dX11_most_36 : decode cX11_most 36 = .ok (.aload_n 0, 1) := by decide +kernel
set_option maxRecDepth 20000 in
theorem dX11_most_37 : decode cX11_most 37 = .ok (.iload_n 1, 1) := by decide +kernel
set_option maxRecDepth 20000 in
theorem dX11_most_38 : decode cX11_most 38 = .ok (.bipush 10, 2) := by decide +kernel
set_option maxRecDepth 20000 in
theorem dX11_most_40 : decode cX11_most 40 = .ok (.irem, 1) := by decide +kernel
set_option maxRecDepth 20000 in
theorem dX11_most_41 : decode cX11_most 41 = .ok (.invokevirtual 182, 3) := by decide +kernel
set_option maxRecDepth 20000 in
theorem dX11_most_44 : decode cX11_most 44 = .ok (.astore 7, 2) := by decide +kernel
set_option maxRecDepth 20000 in
theorem dX11_most_46 : decode cX11_most 46 = .ok (.aload 6, 2) := by decide +kernel
set_option maxRecDepth 20000 in
theorem dX11_most_48 : decode cX11_most 48 = .ok (.ifnull 8, 3) := by decide +kernel
set_option maxRecDepth 20000 in
theorem dX11_most_51 : decode cX11_most 51 = .ok (.aload 7, 2) := by decide +kernel
set_option maxRecDepth 20000 in
theorem dX11_most_53 : decode cX11_most 53 = .ok (.ifnonnull 6, 3) := by decide +kernel
set_option maxRecDepth 20000 in
theorem dX11_most_56 : decode cX11_most 56 = .ok (.bipush (-2), 2) := by decide +kernel
set_option maxRecDepth 20000 in
theorem dX11_most_58 : decode cX11_most 58 = .ok (.ireturn, 1) := by decide +kernel
set_option maxRecDepth 20000 in
theorem dX11_most_59 : decode cX11_most 59 = .ok (.aload_n 0, 1) := by decide +kernel
set_option maxRecDepth 20000 in
theorem dX11_most_60 : decode cX11_most 60 = .ok (.aload 6, 2) := by decide +kernel
set_option maxRecDepth 20000 in
theorem dX11_most_62 : decode cX11_most 62 = .ok (.aload 7, 2) := by decide +kernel
set_option maxRecDepth 20000 in
theorem dX11_most_64 : decode cX11_most 64 = .ok (.iload_n 2, 1) := by decide +kernel
set_option maxRecDepth 20000 in
theorem dX11_most_65 : decode cX11_most 65 = .ok (.invokevirtual 306, 3) := by decide +kernel
set_option maxRecDepth 20000 in
theorem dX11_most_68 : decode cX11_most 68 = .ok (.aload 6, 2) := by decide +kernel
set_option maxRecDepth 20000 in
theorem dX11_most_70 : decode cX11_most 70 = .ok (.aload 7, 2) := by decide +kernel
set_option maxRecDepth 20000 in
theorem dX11_most_72 : decode cX11_most 72 = .ok (.iload_n 2, 1) := by decide +kernel
set_option maxRecDepth 20000 in
theorem dX11_most_73 : decode cX11_most 73 = .ok (.iload_n 3, 1) := by decide +kernel
set_option maxRecDepth 20000 in
theorem dX11_most_74 : decode cX11_most 74 = .ok (.invokestatic 310, 3) := by decide +kernel
set_option maxRecDepth 20000 in
theorem dX11_most_77 : decode cX11_most 77 = .ok (.lstore 8, 2) := by decide +kernel
set_option maxRecDepth 20000 in
theorem dX11_most_79 : decode cX11_most 79 = .ok (.iconst (-1), 1) := by decide +kernel
set_option maxRecDepth 20000 in
theorem dX11_most_80 : decode cX11_most 80 = .ok (.istore 10, 2) := by decide +kernel
set_option maxRecDepth 20000 in
theorem dX11_most_82 : decode cX11_most 82 = .ok (.iconst 0, 1) := by decide +kernel
set_option maxRecDepth 20000 in
theorem dX11_most_83 : decode cX11_most 83 = .ok (.istore 11, 2) := by decide +kernel
set_option maxRecDepth 20000 in
theorem dX11_most_85 : decode cX11_most 85 = .ok (.iconst 0, 1) := by decide +kernel
set_option maxRecDepth 20000 in
theorem dX11_most_86 : decode cX11_most 86 = .ok (.istore 12, 2) := by decide +kernel
set_option maxRecDepth 20000 in
theorem dX11_most_88 : decode cX11_most 88 = .ok (.iload 12, 2) := by decide +kernel
set_option maxRecDepth 20000 in
theorem dX11_most_90 : decode cX11_most 90 = .ok (.bipush 64, 2) := by decide +kernel
set_option maxRecDepth 20000 in
theorem dX11_most_92 : decode cX11_most 92 = .ok (.if_icmp .ge 56, 3) := by decide +kernel
set_option maxRecDepth 20000 in
theorem dX11_most_95 : decode cX11_most 95 = .ok (.iload 12, 2) := by decide +kernel
set_option maxRecDepth 20000 in
theorem dX11_most_97 : decode cX11_most 97 = .ok (.invokestatic 318, 3) := by decide +kernel
set_option maxRecDepth 20000 in
theorem dX11_most_100 : decode cX11_most 100 = .ok (.iload 5, 2) := by decide +kernel
set_option maxRecDepth 20000 in
theorem dX11_most_102 : decode cX11_most 102 = .ok (.if_icmp .gt 40, 3) := by decide +kernel
set_option maxRecDepth 20000 in
theorem dX11_most_105 : decode cX11_most 105 = .ok (.aload_n 0, 1) := by decide +kernel
set_option maxRecDepth 20000 in
theorem dX11_most_106 : decode cX11_most 106 = .ok (.aload 6, 2) := by decide +kernel
set_option maxRecDepth 20000 in
theorem dX11_most_108 : decode cX11_most 108 = .ok (.iload 4, 2) := by decide +kernel
set_option maxRecDepth 20000 in
theorem dX11_most_110 : decode cX11_most 110 = .ok (.lload 8, 2) := by decide +kernel
set_option maxRecDepth 20000 in
theorem dX11_most_112 : decode cX11_most 112 = .ok (.iload 12, 2) := by decide +kernel
set_option maxRecDepth 20000 in
theorem dX11_most_114 : decode cX11_most 114 = .ok (.i2l, 1) := by decide +kernel
set_option maxRecDepth 20000 in
theorem dX11_most_115 : decode cX11_most 115 = .ok (.lor, 1) := by decide +kernel
set_option maxRecDepth 20000 in
theorem dX11_most_116 : decode cX11_most 116 = .ok (.invokevirtual 314, 3) := by decide +kernel
set_option maxRecDepth 20000 in
theorem dX11_most_119 : decode cX11_most 119 = .ok (.aload_n 0, 1) := by decide +kernel
set_option maxRecDepth 20000 in
theorem dX11_most_120 : decode cX11_most 120 = .ok (.getfield 76, 3) := by decide +kernel
set_option maxRecDepth 20000 in
theorem dX11_most_123 : decode cX11_most 123 = .ok (.iconst 0, 1) := by decide +kernel
set_option maxRecDepth 20000 in
theorem dX11_most_124 : decode cX11_most 124 = .ok (.iaload, 1) := by decide +kernel
set_option maxRecDepth 20000 in
theorem dX11_most_125 : decode cX11_most 125 = .ok (.iload 10, 2) := by decide +kernel
set_option maxRecDepth 20000 in
theorem dX11_most_127 : decode cX11_most 127 = .ok (.if_icmp .le 15, 3) := by decide +kernel
set_option maxRecDepth 20000 in
theorem dX11_most_130 : decode cX11_most 130 = .ok (.aload_n 0, 1) := by decide +kernel
set_option maxRecDepth 20000 in
theorem dX11_most_131 : decode cX11_most 131 = .ok (.getfield 76, 3) := by decide +kernel
set_option maxRecDepth 20000 in
theorem dX11_most_134 : decode cX11_most 134 = .ok (.iconst 0, 1) := by decide +kernel
set_option maxRecDepth 20000 in
theorem dX11_most_135 : decode cX11_most 135 = .ok (.iaload, 1) := by decide +kernel
set_option maxRecDepth 20000 in
theorem dX11_most_136 : decode cX11_most 136 = .ok (.istore 10, 2) := by decide +kernel
set_option maxRecDepth 20000 in
theorem dX11_most_138 : decode cX11_most 138 = .ok (.iload 12, 2) := by decide +kernel
set_option maxRecDepth 20000 in
theorem dX11_most_140 : decode cX11_most 140 = .ok (.istore 11, 2) := by decide +kernel
set_option maxRecDepth 20000 in
theorem dX11_most_142 : decode cX11_most 142 = .ok (.iinc 12 1, 3) := by decide +kernel
set_option maxRecDepth 20000 in
theorem dX11_most_145 : decode cX11_most 145 = .ok (.goto (-57), 3) := by decide +kernel
set_option maxRecDepth 20000 in
theorem dX11_most_148 : decode cX11_most 148 = .ok (.iload 11, 2) := by decide +kernel
set_option maxRecDepth 20000 in
theorem dX11_most_150 : decode cX11_most 150 = .ok (.ireturn, 1) := by decide +kernel
set_option maxRecDepth 20000 in
theorem dX11_isPlayer_0 : decode cX11_isPlayer 0 = .ok (.iload_n 1, 1) := by decide +kernel
set_option maxRecDepth 20000 in
theorem dX11_isPlayer_1 : decode cX11_isPlayer 1 = .ok (.ifCond .lt 55, 3) := by decide +kernel
set_option maxRecDepth 20000 in
theorem dX11_isPlayer_4 : decode cX11_isPlayer 4 = .ok (.aload_n 0, 1) := by decide +kernel
set_option maxRecDepth 20000 in
theorem dX11_isPlayer_5 : decode cX11_isPlayer 5 = .ok (.iload_n 1, 1) := by decide +kernel
set_option maxRecDepth 20000 in
theorem dX11_isPlayer_6 : decode cX11_isPlayer 6 = .ok (.bipush 10, 2) := by decide +kernel
set_option maxRecDepth 20000 in
theorem dX11_isPlayer_8 : decode cX11_isPlayer 8 = .ok (.idiv, 1) := by decide +kernel
set_option maxRecDepth 20000 in
theorem dX11_isPlayer_9 : decode cX11_isPlayer 9 = .ok (.invokevirtual 122, 3) := by decide +kernel
set_option maxRecDepth 20000 in
theorem dX11_isPlayer_12 : decode cX11_isPlayer 12 = .ok (.ifnull 44, 3) := by decide +kernel
set_option maxRecDepth 20000 in
theorem dX11_isPlayer_15 : decode cX11_isPlayer 15 = .ok (.aload_n 0, 1) := by decide +kernel
set_option maxRecDepth 20000 in
theorem dX11_isPlayer_16 : decode cX11_isPlayer 16 = .ok (.iload_n 1, 1) := by decide +kernel
set_option maxRecDepth 20000 in
theorem dX11_isPlayer_17 : decode cX11_isPlayer 17 = .ok (.bipush 10, 2) := by decide +kernel
set_option maxRecDepth 20000 in
theorem dX11_isPlayer_19 : decode cX11_isPlayer 19 = .ok (.irem, 1) := by decide +kernel
set_option maxRecDepth 20000 in
theorem dX11_isPlayer_20 : decode cX11_isPlayer 20 = .ok (.invokevirtual 182, 3) := by decide +kernel
set_option maxRecDepth 20000 in
theorem dX11_isPlayer_23 : decode cX11_isPlayer 23 = .ok (.ifnull 33, 3) := by decide +kernel
set_option maxRecDepth 20000 in
theorem dX11_isPlayer_26 : decode cX11_isPlayer 26 = .ok (.iload_n 2, 1) := by decide +kernel
set_option maxRecDepth 20000 in
theorem dX11_isPlayer_27 : decode cX11_isPlayer 27 = .ok (.invokestatic 110, 3) := by decide +kernel
set_option maxRecDepth 20000 in
theorem dX11_isPlayer_30 : decode cX11_isPlayer 30 = .ok (.ifCond .eq 26, 3) := by decide +kernel
set_option maxRecDepth 20000 in
theorem dX11_isPlayer_33 : decode cX11_isPlayer 33 = .ok (.iload_n 3, 1) := by decide +kernel
set_option maxRecDepth 20000 in
theorem dX11_isPlayer_34 : decode cX11_isPlayer 34 = .ok (.invokestatic 228, 3) := by decide +kernel
set_option maxRecDepth 20000 in
theorem dX11_isPlayer_37 : decode cX11_isPlayer 37 = .ok (.ifCond .eq 19, 3) := by decide +kernel
set_option maxRecDepth 20000 in
theorem dX11_isPlayer_40 : decode cX11_isPlayer 40 = .ok (.iload 4, 2) := by decide +kernel
set_option maxRecDepth 20000 in
theorem dX11_isPlayer_42 : decode cX11_isPlayer 42 = .ok (.iconst 0, 1) := by decide +kernel
set_option maxRecDepth 20000 in
theorem dX11_isPlayer_43 : decode cX11_isPlayer 43 = .ok (.sipush 9999, 3) := by decide +kernel
set_option maxRecDepth 20000 in
theorem dX11_isPlayer_46 : decode cX11_isPlayer 46 = .ok (.invokestatic 106, 3) := by decide +kernel
set_option maxRecDepth 20000 in
theorem dX11_isPlayer_49 : decode cX11_isPlayer 49 = .ok (.ifCond .eq 7, 3) := by decide +kernel
set_option maxRecDepth 20000 in
theorem dX11_isPlayer_52 : decode cX11_isPlayer 52 = .ok (.iconst 1, 1) := by decide +kernel
set_option maxRecDepth 20000 in
theorem dX11_isPlayer_53 : decode cX11_isPlayer 53 = .ok (.goto 4, 3) := by decide +kernel
set_option maxRecDepth 20000 in
theorem dX11_isPlayer_56 : decode cX11_isPlayer 56 = .ok (.iconst 0, 1) := by decide +kernel
set_option maxRecDepth 20000 in
theorem dX11_isPlayer_57 : decode cX11_isPlayer 57 = .ok (.ireturn, 1) := by decide +kernel
set_option maxRecDepth 20000 in
theorem dX11_askPlayer_0 : decode cX11_askPlayer 0 = .ok (.aload_n 0, 1) := by decide +kernel
set_option maxRecDepth 20000 in
theorem dX11_askPlayer_1 : decode cX11_askPlayer 1 = .ok (.aload_n 1, 1) := by decide +kernel
set_option maxRecDepth 20000 in
theorem dX11_askPlayer_2 : decode cX11_askPlayer 2 = .ok (.aload_n 0, 1) := by decide +kernel
set_option maxRecDepth 20000 in
theorem dX11_askPlayer_3 : decode cX11_askPlayer 3 = .ok (.aload_n 1, 1) := by decide +kernel
set_option maxRecDepth 20000 in
theorem dX11_askPlayer_4 : decode cX11_askPlayer 4 = .ok (.aload_n 2, 1) := by decide +kernel
set_option maxRecDepth 20000 in
theorem dX11_askPlayer_5 : decode cX11_askPlayer 5 = .ok (.iload_n 3, 1) := by decide +kernel
set_option maxRecDepth 20000 in
theorem dX11_askPlayer_6 : decode cX11_askPlayer 6 = .ok (.invokevirtual 292, 3) := by decide +kernel
set_option maxRecDepth 20000 in
theorem dX11_askPlayer_9 : decode cX11_askPlayer 9 = .ok (.invokevirtual 296, 3) := by decide +kernel
set_option maxRecDepth 20000 in
theorem dX11_askPlayer_12 : decode cX11_askPlayer 12 = .ok (.aload_n 0, 1) := by decide +kernel
set_option maxRecDepth 20000 in
theorem dX11_askPlayer_13 : decode cX11_askPlayer 13 = .ok (.getfield 79, 3) := by decide +kernel
set_option maxRecDepth 20000 in
theorem dX11_askPlayer_16 : decode cX11_askPlayer 16 = .ok (.lconst 0, 1) := by decide +kernel
set_option maxRecDepth 20000 in
theorem dX11_askPlayer_17 : decode cX11_askPlayer 17 = .ok (.invokestatic 323, 3) := by decide +kernel
set_option maxRecDepth 20000 in
theorem dX11_askPlayer_20 : decode cX11_askPlayer 20 = .ok (.aload_n 0, 1) := by decide +kernel
set_option maxRecDepth 20000 in
theorem dX11_askPlayer_21 : decode cX11_askPlayer 21 = .ok (.getfield 83, 3) := by decide +kernel
set_option maxRecDepth 20000 in
theorem dX11_askPlayer_24 : decode cX11_askPlayer 24 = .ok (.lconst 0, 1) := by decide +kernel
set_option maxRecDepth 20000 in
theorem dX11_askPlayer_25 : decode cX11_askPlayer 25 = .ok (.invokestatic 323, 3) := by decide +kernel
set_option maxRecDepth 20000 in
theorem dX11_askPlayer_28 : decode cX11_askPlayer 28 = .ok (.return_, 1) := by decide +kernel
set_option maxRecDepth 20000 in
theorem dX11_winningThrows_0 : decode cX11_winningThrows 0 = .ok (.lconst 0, 1) := by decide +kernel
set_option maxRecDepth 20000 in
theorem dX11_winningThrows_1 : decode cX11_winningThrows 1 = .ok (.lstore 4, 2) := by decide +kernel
set_option maxRecDepth 20000 in
theorem dX11_winningThrows_3 : decode cX11_winningThrows 3 = .ok (.iload_n 3, 1) := by decide +kernel
set_option maxRecDepth 20000 in
theorem dX11_winningThrows_4 : decode cX11_winningThrows 4 = .ok (.invokestatic 231, 3) := by decide +kernel
set_option maxRecDepth 20000 in
theorem dX11_winningThrows_7 : decode cX11_winningThrows 7 = .ok (.lstore 6, 2) := by decide +kernel
set_option maxRecDepth 20000 in
theorem dX11_winningThrows_9 : decode cX11_winningThrows 9 = .ok (.iconst 0, 1) := by decide +kernel
set_option maxRecDepth 20000 in
theorem dX11_winningThrows_10 : decode cX11_winningThrows 10 = .ok (.istore 8, 2) := by decide +kernel
set_option maxRecDepth 20000 in
theorem dX11_winningThrows_12 : decode cX11_winningThrows 12 = .ok (.iload 8, 2) := by decide +kernel
set_option maxRecDepth 20000 in
theorem dX11_winningThrows_14 : decode cX11_winningThrows 14 = .ok (.bipush 40, 2) := by decide +kernel
set_option maxRecDepth 20000 in
theorem dX11_winningThrows_16 : decode cX11_winningThrows 16 = .ok (.if_icmp .ge 36, 3) := by decide +kernel
set_option maxRecDepth 20000 in
theorem dX11_winningThrows_19 : decode cX11_winningThrows 19 = .ok (.aload_n 0, 1) := by decide +kernel
set_option maxRecDepth 20000 in
theorem dX11_winningThrows_20 : decode cX11_winningThrows 20 = .ok (.aload_n 1, 1) := by decide +kernel
set_option maxRecDepth 20000 in
theorem dX11_winningThrows_21 : decode cX11_winningThrows 21 = .ok (.iload_n 2, 1) := by decide +kernel
set_option maxRecDepth 20000 in
theorem dX11_winningThrows_22 : decode cX11_winningThrows 22 = .ok (.lload 6, 2) := by decide +kernel
set_option maxRecDepth 20000 in
theorem dX11_winningThrows_24 : decode cX11_winningThrows 24 = .ok (.invokestatic 235, 3) := by decide +kernel
set_option maxRecDepth 20000 in
theorem dX11_winningThrows_27 : decode cX11_winningThrows 27 = .ok (.ifCond .eq 12, 3) := by decide +kernel
set_option maxRecDepth 20000 in
theorem dX11_winningThrows_30 : decode cX11_winningThrows 30 = .ok (.lload 4, 2) := by decide +kernel
set_option maxRecDepth 20000 in
theorem dX11_winningThrows_32 : decode cX11_winningThrows 32 = .ok (.lconst 1, 1) := by decide +kernel
set_option maxRecDepth 20000 in
theorem dX11_winningThrows_33 : decode cX11_winningThrows 33 = .ok (.iload 8, 2) := by decide +kernel
set_option maxRecDepth 20000 in
theorem dX11_winningThrows_35 : decode cX11_winningThrows 35 = .ok (.lshl, 1) := by decide +kernel
set_option maxRecDepth 20000 in
theorem dX11_winningThrows_36 : decode cX11_winningThrows 36 = .ok (.lor, 1) := by decide +kernel
set_option maxRecDepth 20000 in
theorem dX11_winningThrows_37 : decode cX11_winningThrows 37 = .ok (.lstore 4, 2) := by decide +kernel
set_option maxRecDepth 20000 in
theorem dX11_winningThrows_39 : decode cX11_winningThrows 39 = .ok (.lload 6, 2) := by decide +kernel
set_option maxRecDepth 20000 in
theorem dX11_winningThrows_41 : decode cX11_winningThrows 41 = .ok (.invokestatic 328, 3) := by decide +kernel
set_option maxRecDepth 20000 in
theorem dX11_winningThrows_44 : decode cX11_winningThrows 44 = .ok (.lstore 6, 2) := by decide +kernel
set_option maxRecDepth 20000 in
theorem dX11_winningThrows_46 : decode cX11_winningThrows 46 = .ok (.iinc 8 1, 3) := by decide +kernel
set_option maxRecDepth 20000 in
theorem dX11_winningThrows_49 : decode cX11_winningThrows 49 = .ok (.goto (-37), 3) := by decide +kernel
set_option maxRecDepth 20000 in
theorem dX11_winningThrows_52 : decode cX11_winningThrows 52 = .ok (.lload 4, 2) := by decide +kernel
set_option maxRecDepth 20000 in
theorem dX11_winningThrows_54 : decode cX11_winningThrows 54 = .ok (.lreturn, 1) := by decide +kernel
set_option maxRecDepth 20000 in
theorem dX11_playOut_0 : decode cX11_playOut 0 = .ok (.iconst 0, 1) := by decide +kernel
set_option maxRecDepth 20000 in
theorem dX11_playOut_1 : decode cX11_playOut 1 = .ok (.istore 5, 2) := by decide +kernel
set_option maxRecDepth 20000 in
theorem dX11_playOut_3 : decode cX11_playOut 3 = .ok (.iconst 0, 1) := by decide +kernel
set_option maxRecDepth 20000 in
theorem dX11_playOut_4 : decode cX11_playOut 4 = .ok (.istore 6, 2) := by decide +kernel
set_option maxRecDepth 20000 in
theorem dX11_playOut_6 : decode cX11_playOut 6 = .ok (.iload_n 2, 1) := by decide +kernel
set_option maxRecDepth 20000 in
theorem dX11_playOut_7 : decode cX11_playOut 7 = .ok (.istore 7, 2) := by decide +kernel
set_option maxRecDepth 20000 in
theorem dX11_playOut_9 : decode cX11_playOut 9 = .ok (.iload 5, 2) := by decide +kernel
set_option maxRecDepth 20000 in
theorem dX11_playOut_11 : decode cX11_playOut 11 = .ok (.bipush 40, 2) := by decide +kernel
set_option maxRecDepth 20000 in
theorem dX11_playOut_13 : decode cX11_playOut 13 = .ok (.if_icmp .ge 59, 3) := by decide +kernel
set_option maxRecDepth 20000 in
theorem dX11_playOut_16 : decode cX11_playOut 16 = .ok (.iload 7, 2) := by decide +kernel
set_option maxRecDepth 20000 in
theorem dX11_playOut_18 : decode cX11_playOut 18 = .ok (.aload_n 1, 1) := by decide +kernel
set_option maxRecDepth 20000 in
theorem dX11_playOut_19 : decode cX11_playOut 19 = .ok (.getfield 151, 3) := by decide +kernel
set_option maxRecDepth 20000 in
theorem dX11_playOut_22 : decode cX11_playOut 22 = .ok (.if_icmp .lt 50, 3) := by decide +kernel
set_option maxRecDepth 20000 in
theorem dX11_playOut_25 : decode cX11_playOut 25 = .ok (.aload_n 0, 1) := by decide +kernel
set_option maxRecDepth 20000 in
theorem dX11_playOut_26 : decode cX11_playOut 26 = .ok (.iload 6, 2) := by decide +kernel
set_option maxRecDepth 20000 in
theorem dX11_playOut_28 : decode cX11_playOut 28 = .ok (.iload 5, 2) := by decide +kernel
set_option maxRecDepth 20000 in
theorem dX11_playOut_30 : decode cX11_playOut 30 = .ok (.invokevirtual 332, 3) := by decide +kernel
set_option maxRecDepth 20000 in
theorem dX11_playOut_33 : decode cX11_playOut 33 = .ok (.ifCond .eq 39, 3) := by decide +kernel
set_option maxRecDepth 20000 in
theorem dX11_playOut_36 : decode cX11_playOut 36 = .ok (.iload 6, 2) := by decide +kernel
set_option maxRecDepth 20000 in
theorem dX11_playOut_38 : decode cX11_playOut 38 = .ok (.lload_n 3, 1) := by decide +kernel
set_option maxRecDepth 20000 in
theorem dX11_playOut_39 : decode cX11_playOut 39 = .ok (.iload 5, 2) := by decide +kernel
set_option maxRecDepth 20000 in
theorem dX11_playOut_41 : decode cX11_playOut 41 = .ok (.lshr, 1) := by decide +kernel
set_option maxRecDepth 20000 in
theorem dX11_playOut_42 : decode cX11_playOut 42 = .ok (.lconst 1, 1) := by decide +kernel
set_option maxRecDepth 20000 in
theorem dX11_playOut_43 : decode cX11_playOut 43 = .ok (.land, 1) := by decide +kernel
set_option maxRecDepth 20000 in
theorem dX11_playOut_44 : decode cX11_playOut 44 = .ok (.lconst 1, 1) := by decide +kernel
set_option maxRecDepth 20000 in
theorem dX11_playOut_45 : decode cX11_playOut 45 = .ok (.lcmp, 1) := by decide +kernel
set_option maxRecDepth 20000 in
theorem dX11_playOut_46 : decode cX11_playOut 46 = .ok (.ifCond .ne 7, 3) := by decide +kernel
set_option maxRecDepth 20000 in
theorem dX11_playOut_49 : decode cX11_playOut 49 = .ok (.iconst 1, 1) := by decide +kernel
set_option maxRecDepth 20000 in
theorem dX11_playOut_50 : decode cX11_playOut 50 = .ok (.goto 4, 3) := by decide +kernel
set_option maxRecDepth 20000 in
theorem dX11_playOut_53 : decode cX11_playOut 53 = .ok (.iconst 0, 1) := by decide +kernel
set_option maxRecDepth 20000 in
theorem dX11_playOut_54 : decode cX11_playOut 54 = .ok (.iadd, 1) := by decide +kernel
set_option maxRecDepth 20000 in
theorem dX11_playOut_55 : decode cX11_playOut 55 = .ok (.istore 6, 2) := by decide +kernel
set_option maxRecDepth 20000 in
theorem dX11_playOut_57 : decode cX11_playOut 57 = .ok (.iload 7, 2) := by decide +kernel
set_option maxRecDepth 20000 in
theorem dX11_playOut_59 : decode cX11_playOut 59 = .ok (.aload_n 1, 1) := by decide +kernel
set_option maxRecDepth 20000 in
theorem dX11_playOut_60 : decode cX11_playOut 60 = .ok (.getfield 151, 3) := by decide +kernel
set_option maxRecDepth 20000 in
theorem dX11_playOut_63 : decode cX11_playOut 63 = .ok (.isub, 1) := by decide +kernel
set_option maxRecDepth 20000 in
theorem dX11_playOut_64 : decode cX11_playOut 64 = .ok (.istore 7, 2) := by decide +kernel
set_option maxRecDepth 20000 in
theorem dX11_playOut_66 : decode cX11_playOut 66 = .ok (.iinc 5 1, 3) := by decide +kernel
set_option maxRecDepth 20000 in
theorem dX11_playOut_69 : decode cX11_playOut 69 = .ok (.goto (-60), 3) := by decide +kernel
set_option maxRecDepth 20000 in
theorem dX11_playOut_72 : decode cX11_playOut 72 = .ok (.aload_n 0, 1) := by decide +kernel
set_option maxRecDepth 20000 in
theorem dX11_playOut_73 : decode cX11_playOut 73 = .ok (.getfield 76, 3) := by decide +kernel
set_option maxRecDepth 20000 in
theorem dX11_playOut_76 : decode cX11_playOut 76 = .ok (.iconst 0, 1) := by decide +kernel
set_option maxRecDepth 20000 in
theorem dX11_playOut_77 : decode cX11_playOut 77 = .ok (.iload 5, 2) := by decide +kernel
set_option maxRecDepth 20000 in
theorem dX11_playOut_79 : decode cX11_playOut 79 = .ok (.iastore, 1) := by decide +kernel
set_option maxRecDepth 20000 in
theorem dX11_playOut_80 : decode cX11_playOut 80 = .ok (.aload_n 0, 1) := by decide +kernel
set_option maxRecDepth 20000 in
theorem dX11_playOut_81 : decode cX11_playOut 81 = .ok (.getfield 76, 3) := by decide +kernel
set_option maxRecDepth 20000 in
theorem dX11_playOut_84 : decode cX11_playOut 84 = .ok (.iconst 1, 1) := by decide +kernel
set_option maxRecDepth 20000 in
theorem dX11_playOut_85 : decode cX11_playOut 85 = .ok (.iload 6, 2) := by decide +kernel
set_option maxRecDepth 20000 in
theorem dX11_playOut_87 : decode cX11_playOut 87 = .ok (.iastore, 1) := by decide +kernel
set_option maxRecDepth 20000 in
theorem dX11_playOut_88 : decode cX11_playOut 88 = .ok (.aload_n 0, 1) := by decide +kernel
set_option maxRecDepth 20000 in
theorem dX11_playOut_89 : decode cX11_playOut 89 = .ok (.getfield 76, 3) := by decide +kernel
set_option maxRecDepth 20000 in
theorem dX11_playOut_92 : decode cX11_playOut 92 = .ok (.iconst 2, 1) := by decide +kernel
set_option maxRecDepth 20000 in
theorem dX11_playOut_93 : decode cX11_playOut 93 = .ok (.iload 7, 2) := by decide +kernel
set_option maxRecDepth 20000 in
theorem dX11_playOut_95 : decode cX11_playOut 95 = .ok (.iastore, 1) := by decide +kernel
set_option maxRecDepth 20000 in
theorem dX11_playOut_96 : decode cX11_playOut 96 = .ok (.aload_n 0, 1) := by decide +kernel
set_option maxRecDepth 20000 in
theorem dX11_playOut_97 : decode cX11_playOut 97 = .ok (.getfield 76, 3) := by decide +kernel
set_option maxRecDepth 20000 in
theorem dX11_playOut_100 : decode cX11_playOut 100 = .ok (.iconst 3, 1) := by decide +kernel
set_option maxRecDepth 20000 in
theorem dX11_playOut_101 : decode cX11_playOut 101 = .ok (.iload 5, 2) := by decide +kernel
set_option maxRecDepth 20000 in
theorem dX11_playOut_103 : decode cX11_playOut 103 = .ok (.aload_n 1, 1) := by decide +kernel
set_option maxRecDepth 20000 in
theorem dX11_playOut_104 : decode cX11_playOut 104 = .ok (.getfield 151, 3) := by decide +kernel
set_option maxRecDepth 20000 in
theorem dX11_playOut_107 : decode cX11_playOut 107 = .ok (.imul, 1) := by decide +kernel
set_option maxRecDepth 20000 in
theorem dX11_playOut_108 : decode cX11_playOut 108 = .ok (.iload 6, 2) := by decide +kernel
set_option maxRecDepth 20000 in
theorem dX11_playOut_110 : decode cX11_playOut 110 = .ok (.aload_n 1, 1) := by decide +kernel
set_option maxRecDepth 20000 in
theorem dX11_playOut_111 : decode cX11_playOut 111 = .ok (.getfield 154, 3) := by decide +kernel
set_option maxRecDepth 20000 in
theorem dX11_playOut_114 : decode cX11_playOut 114 = .ok (.imul, 1) := by decide +kernel
set_option maxRecDepth 20000 in
theorem dX11_playOut_115 : decode cX11_playOut 115 = .ok (.isub, 1) := by decide +kernel
set_option maxRecDepth 20000 in
theorem dX11_playOut_116 : decode cX11_playOut 116 = .ok (.iastore, 1) := by decide +kernel
set_option maxRecDepth 20000 in
theorem dX11_playOut_117 : decode cX11_playOut 117 = .ok (.return_, 1) := by decide +kernel
set_option maxRecDepth 20000 in
theorem dX11_goesOn_0 : decode cX11_goesOn 0 = .ok (.iload_n 2, 1) := by decide +kernel
set_option maxRecDepth 20000 in
theorem dX11_goesOn_1 : decode cX11_goesOn 1 = .ok (.iconst 0, 1) := by decide +kernel
set_option maxRecDepth 20000 in
theorem dX11_goesOn_2 : decode cX11_goesOn 2 = .ok (.bipush 39, 2) := by decide +kernel
set_option maxRecDepth 20000 in
theorem dX11_goesOn_4 : decode cX11_goesOn 4 = .ok (.invokestatic 106, 3) := by decide +kernel
set_option maxRecDepth 20000 in
theorem dX11_goesOn_7 : decode cX11_goesOn 7 = .ok (.ifCond .ne 5, 3) := by decide +kernel
set_option maxRecDepth 20000 in
theorem dX11_goesOn_10 : decode cX11_goesOn 10 = .ok (.iconst 0, 1) := by decide +kernel
set_option maxRecDepth 20000 in
theorem dX11_goesOn_11 : decode cX11_goesOn 11 = .ok (.ireturn, 1) := by decide +kernel
set_option maxRecDepth 20000 in
theorem dX11_goesOn_12 : decode cX11_goesOn 12 = .ok (.lconst 1, 1) := by decide +kernel
set_option maxRecDepth 20000 in
theorem dX11_goesOn_13 : decode cX11_goesOn 13 = .ok (.iload_n 1, 1) := by decide +kernel
set_option maxRecDepth 20000 in
theorem dX11_goesOn_14 : decode cX11_goesOn 14 = .ok (.lshl, 1) := by decide +kernel
set_option maxRecDepth 20000 in
theorem dX11_goesOn_15 : decode cX11_goesOn 15 = .ok (.lstore_n 3, 1) := by decide +kernel
set_option maxRecDepth 20000 in
theorem dX11_goesOn_16 : decode cX11_goesOn 16 = .ok (.aload_n 0, 1) := by decide +kernel
set_option maxRecDepth 20000 in
theorem dX11_goesOn_17 : decode cX11_goesOn 17 = .ok (.getfield 79, 3) := by decide +kernel
set_option maxRecDepth 20000 in
theorem dX11_goesOn_20 : decode cX11_goesOn 20 = .ok (.iload_n 2, 1) := by decide +kernel
set_option maxRecDepth 20000 in
theorem dX11_goesOn_21 : decode cX11_goesOn 21 = .ok (.laload, 1) := by decide +kernel
set_option maxRecDepth 20000 in
theorem dX11_goesOn_22 : decode cX11_goesOn 22 = .ok (.lload_n 3, 1) := by decide +kernel
set_option maxRecDepth 20000 in
theorem dX11_goesOn_23 : decode cX11_goesOn 23 = .ok (.land, 1) := by decide +kernel
set_option maxRecDepth 20000 in
theorem dX11_goesOn_24 : decode cX11_goesOn 24 = .ok (.lconst 0, 1) := by decide +kernel
set_option maxRecDepth 20000 in
theorem dX11_goesOn_25 : decode cX11_goesOn 25 = .ok (.lcmp, 1) := by decide +kernel
set_option maxRecDepth 20000 in
theorem dX11_goesOn_26 : decode cX11_goesOn 26 = .ok (.ifCond .ne 37, 3) := by decide +kernel
set_option maxRecDepth 20000 in
theorem dX11_goesOn_29 : decode cX11_goesOn 29 = .ok (.aload_n 0, 1) := by decide +kernel
set_option maxRecDepth 20000 in
theorem dX11_goesOn_30 : decode cX11_goesOn 30 = .ok (.getfield 79, 3) := by decide +kernel
set_option maxRecDepth 20000 in
theorem dX11_goesOn_33 : decode cX11_goesOn 33 = .ok (.iload_n 2, 1) := by decide +kernel
set_option maxRecDepth 20000 in
theorem dX11_goesOn_34 : decode cX11_goesOn 34 = .ok (.dup2, 1) := by decide +kernel
set_option maxRecDepth 20000 in
theorem dX11_goesOn_35 : decode cX11_goesOn 35 = .ok (.laload, 1) := by decide +kernel
set_option maxRecDepth 20000 in
theorem dX11_goesOn_36 : decode cX11_goesOn 36 = .ok (.lload_n 3, 1) := by decide +kernel
set_option maxRecDepth 20000 in
theorem dX11_goesOn_37 : decode cX11_goesOn 37 = .ok (.lor, 1) := by decide +kernel
set_option maxRecDepth 20000 in
theorem dX11_goesOn_38 : decode cX11_goesOn 38 = .ok (.lastore, 1) := by decide +kernel
set_option maxRecDepth 20000 in
theorem dX11_goesOn_39 : decode cX11_goesOn 39 = .ok (.aload_n 0, 1) := by decide +kernel
set_option maxRecDepth 20000 in
theorem dX11_goesOn_40 : decode cX11_goesOn 40 = .ok (.getfield 83, 3) := by decide +kernel
set_option maxRecDepth 20000 in
theorem dX11_goesOn_43 : decode cX11_goesOn 43 = .ok (.iload_n 2, 1) := by decide +kernel
set_option maxRecDepth 20000 in
theorem dX11_goesOn_44 : decode cX11_goesOn 44 = .ok (.dup2, 1) := by decide +kernel
set_option maxRecDepth 20000 in
theorem dX11_goesOn_45 : decode cX11_goesOn 45 = .ok (.laload, 1) := by decide +kernel
set_option maxRecDepth 20000 in
theorem dX11_goesOn_46 : decode cX11_goesOn 46 = .ok (.aload_n 0, 1) := by decide +kernel
set_option maxRecDepth 20000 in
theorem dX11_goesOn_47 : decode cX11_goesOn 47 = .ok (.iconst 0, 1) := by decide +kernel
set_option maxRecDepth 20000 in
theorem dX11_goesOn_48 : decode cX11_goesOn 48 = .ok (.iload_n 1, 1) := by decide +kernel
set_option maxRecDepth 20000 in
theorem dX11_goesOn_49 : decode cX11_goesOn 49 = .ok (.iload_n 2, 1) := by decide +kernel
set_option maxRecDepth 20000 in
theorem dX11_goesOn_50 : decode cX11_goesOn 50 = .ok (.invokevirtual 299, 3) := by decide +kernel
set_option maxRecDepth 20000 in
theorem dX11_goesOn_53 : decode cX11_goesOn 53 = .ok (.ifCond .eq 7, 3) := by decide +kernel
set_option maxRecDepth 20000 in
theorem dX11_goesOn_56 : decode cX11_goesOn 56 = .ok (.lload_n 3, 1) := by decide +kernel
set_option maxRecDepth 20000 in
theorem dX11_goesOn_57 : decode cX11_goesOn 57 = .ok (.goto 4, 3) := by decide +kernel
set_option maxRecDepth 20000 in
theorem dX11_goesOn_60 : decode cX11_goesOn 60 = .ok (.lconst 0, 1) := by decide +kernel
set_option maxRecDepth 20000 in
theorem dX11_goesOn_61 : decode cX11_goesOn 61 = .ok (.lor, 1) := by decide +kernel
set_option maxRecDepth 20000 in
theorem dX11_goesOn_62 : decode cX11_goesOn 62 = .ok (.lastore, 1) := by decide +kernel
set_option maxRecDepth 20000 in
theorem dX11_goesOn_63 : decode cX11_goesOn 63 = .ok (.aload_n 0, 1) := by decide +kernel
set_option maxRecDepth 20000 in
theorem dX11_goesOn_64 : decode cX11_goesOn 64 = .ok (.getfield 83, 3) := by decide +kernel
set_option maxRecDepth 20000 in
theorem dX11_goesOn_67 : decode cX11_goesOn 67 = .ok (.iload_n 2, 1) := by decide +kernel
set_option maxRecDepth 20000 in
theorem dX11_goesOn_68 : decode cX11_goesOn 68 = .ok (.laload, 1) := by decide +kernel
set_option maxRecDepth 20000 in
theorem dX11_goesOn_69 : decode cX11_goesOn 69 = .ok (.lload_n 3, 1) := by decide +kernel
set_option maxRecDepth 20000 in
theorem dX11_goesOn_70 : decode cX11_goesOn 70 = .ok (.land, 1) := by decide +kernel
set_option maxRecDepth 20000 in
theorem dX11_goesOn_71 : decode cX11_goesOn 71 = .ok (.lconst 0, 1) := by decide +kernel
set_option maxRecDepth 20000 in
theorem dX11_goesOn_72 : decode cX11_goesOn 72 = .ok (.lcmp, 1) := by decide +kernel
set_option maxRecDepth 20000 in
theorem dX11_goesOn_73 : decode cX11_goesOn 73 = .ok (.ifCond .eq 7, 3) := by decide +kernel
set_option maxRecDepth 20000 in
theorem dX11_goesOn_76 : decode cX11_goesOn 76 = .ok (.iconst 1, 1) := by decide +kernel
set_option maxRecDepth 20000 in
theorem dX11_goesOn_77 : decode cX11_goesOn 77 = .ok (.goto 4, 3) := by decide +kernel
set_option maxRecDepth 20000 in
theorem dX11_goesOn_80 : decode cX11_goesOn 80 = .ok (.iconst 0, 1) := by decide +kernel
set_option maxRecDepth 20000 in
theorem dX11_goesOn_81 : decode cX11_goesOn 81 = .ok (.ireturn, 1) := by decide +kernel
set_option maxRecDepth 20000 in
theorem dX11_thousandths_0 : decode cX11_thousandths 0 = .ok (.aload_n 0, 1) := by decide +kernel
set_option maxRecDepth 20000 in
theorem dX11_thousandths_1 : decode cX11_thousandths 1 = .ok (.getfield 67, 3) := by decide +kernel
set_option maxRecDepth 20000 in
theorem dX11_thousandths_4 : decode cX11_thousandths 4 = .ok (.aload_n 1, 1) := by decide +kernel
set_option maxRecDepth 20000 in
theorem dX11_thousandths_5 : decode cX11_thousandths 5 = .ok (.aload_n 1, 1) := by decide +kernel
set_option maxRecDepth 20000 in
theorem dX11_thousandths_6 : decode cX11_thousandths 6 = .ok (.getfield 160, 3) := by decide +kernel
set_option maxRecDepth 20000 in
theorem dX11_thousandths_9 : decode cX11_thousandths 9 = .ok (.invokevirtual 191, 3) := by decide +kernel
set_option maxRecDepth 20000 in
theorem dX11_thousandths_12 : decode cX11_thousandths 12 = .ok (.ldc2_w 335, 3) := by decide +kernel
set_option maxRecDepth 20000 in
theorem dX11_thousandths_15 : decode cX11_thousandths 15 = .ok (.aload_n 0, 1) := by decide +kernel
set_option maxRecDepth 20000 in
theorem dX11_thousandths_16 : decode cX11_thousandths 16 = .ok (.getfield 67, 3) := by decide +kernel
set_option maxRecDepth 20000 in
theorem dX11_thousandths_19 : decode cX11_thousandths 19 = .ok (.aload_n 2, 1) := by decide +kernel
set_option maxRecDepth 20000 in
theorem dX11_thousandths_20 : decode cX11_thousandths 20 = .ok (.iload_n 3, 1) := by decide +kernel
set_option maxRecDepth 20000 in
theorem dX11_thousandths_21 : decode cX11_thousandths 21 = .ok (.invokevirtual 195, 3) := by decide +kernel
set_option maxRecDepth 20000 in
theorem dX11_thousandths_24 : decode cX11_thousandths 24 = .ok (.i2l, 1) := by decide +kernel
set_option maxRecDepth 20000 in
theorem dX11_thousandths_25 : decode cX11_thousandths 25 = .ok (.lmul, 1) := by decide +kernel
set_option maxRecDepth 20000 in
theorem dX11_thousandths_26 : decode cX11_thousandths 26 = .ok (.aload_n 2, 1) := by decide +kernel
set_option maxRecDepth 20000 in
theorem dX11_thousandths_27 : decode cX11_thousandths 27 = .ok (.getfield 199, 3) := by decide +kernel
set_option maxRecDepth 20000 in
theorem dX11_thousandths_30 : decode cX11_thousandths 30 = .ok (.i2l, 1) := by decide +kernel
set_option maxRecDepth 20000 in
theorem dX11_thousandths_31 : decode cX11_thousandths 31 = .ok (.invokestatic 267, 3) := by decide +kernel
set_option maxRecDepth 20000 in
theorem dX11_thousandths_34 : decode cX11_thousandths 34 = .ok (.l2i, 1) := by decide +kernel
set_option maxRecDepth 20000 in
theorem dX11_thousandths_35 : decode cX11_thousandths 35 = .ok (.ireturn, 1) := by decide +kernel
set_option maxRecDepth 20000 in
theorem dX11_mostWinning_0 : decode cX11_mostWinning 0 = .ok (.aload_n 0, 1) := by decide +kernel
set_option maxRecDepth 20000 in
theorem dX11_mostWinning_1 : decode cX11_mostWinning 1 = .ok (.getfield 67, 3) := by decide +kernel
set_option maxRecDepth 20000 in
theorem dX11_mostWinning_4 : decode cX11_mostWinning 4 = .ok (.aload_n 1, 1) := by decide +kernel
set_option maxRecDepth 20000 in
theorem dX11_mostWinning_5 : decode cX11_mostWinning 5 = .ok (.aload_n 1, 1) := by decide +kernel
set_option maxRecDepth 20000 in
theorem dX11_mostWinning_6 : decode cX11_mostWinning 6 = .ok (.getfield 160, 3) := by decide +kernel
set_option maxRecDepth 20000 in
theorem dX11_mostWinning_9 : decode cX11_mostWinning 9 = .ok (.invokevirtual 191, 3) := by decide +kernel
set_option maxRecDepth 20000 in
theorem dX11_mostWinning_12 : decode cX11_mostWinning 12 = .ok (.aload_n 0, 1) := by decide +kernel
set_option maxRecDepth 20000 in
theorem dX11_mostWinning_13 : decode cX11_mostWinning 13 = .ok (.getfield 67, 3) := by decide +kernel
set_option maxRecDepth 20000 in
theorem dX11_mostWinning_16 : decode cX11_mostWinning 16 = .ok (.aload_n 2, 1) := by decide +kernel
set_option maxRecDepth 20000 in
theorem dX11_mostWinning_17 : decode cX11_mostWinning 17 = .ok (.aload_n 0, 1) := by decide +kernel
set_option maxRecDepth 20000 in
theorem dX11_mostWinning_18 : decode cX11_mostWinning 18 = .ok (.getfield 67, 3) := by decide +kernel
set_option maxRecDepth 20000 in
theorem dX11_mostWinning_21 : decode cX11_mostWinning 21 = .ok (.aload_n 2, 1) := by decide +kernel
set_option maxRecDepth 20000 in
theorem dX11_mostWinning_22 : decode cX11_mostWinning 22 = .ok (.invokevirtual 206, 3) := by decide +kernel
set_option maxRecDepth 20000 in
theorem dX11_mostWinning_25 : decode cX11_mostWinning 25 = .ok (.invokevirtual 195, 3) := by decide +kernel
set_option maxRecDepth 20000 in
theorem dX11_mostWinning_28 : decode cX11_mostWinning 28 = .ok (.ireturn, 1) := by decide +kernel
set_option maxRecDepth 20000 in
theorem dX11_tellValues_0 : decode cX11_tellValues 0 = .ok (.aload_n 0, 1) := by decide +kernel
set_option maxRecDepth 20000 in
theorem dX11_tellValues_1 : decode cX11_tellValues 1 = .ok (.getfield 73, 3) := by decide +kernel
set_option maxRecDepth 20000 in
theorem dX11_tellValues_4 : decode cX11_tellValues 4 = .ok (.iconst 0, 1) := by decide +kernel
set_option maxRecDepth 20000 in
theorem dX11_tellValues_5 : decode cX11_tellValues 5 = .ok (.iload_n 2, 1) := by decide +kernel
set_option maxRecDepth 20000 in
theorem dX11_tellValues_6 : decode cX11_tellValues 6 = .ok (.iastore, 1) := by decide +kernel
set_option maxRecDepth 20000 in
theorem dX11_tellValues_7 : decode cX11_tellValues 7 = .ok (.aload_n 0, 1) := by decide +kernel
set_option maxRecDepth 20000 in
theorem dX11_tellValues_8 : decode cX11_tellValues 8 = .ok (.getfield 73, 3) := by decide +kernel
set_option maxRecDepth 20000 in
theorem dX11_tellValues_11 : decode cX11_tellValues 11 = .ok (.iconst 1, 1) := by decide +kernel
set_option maxRecDepth 20000 in
theorem dX11_tellValues_12 : decode cX11_tellValues 12 = .ok (.aload_n 1, 1) := by decide +kernel
set_option maxRecDepth 20000 in
theorem dX11_tellValues_13 : decode cX11_tellValues 13 = .ok (.getfield 151, 3) := by decide +kernel
set_option maxRecDepth 20000 in
theorem dX11_tellValues_16 : decode cX11_tellValues 16 = .ok (.iastore, 1) := by decide +kernel
set_option maxRecDepth 20000 in
theorem dX11_tellValues_17 : decode cX11_tellValues 17 = .ok (.aload_n 0, 1) := by decide +kernel
set_option maxRecDepth 20000 in
theorem dX11_tellValues_18 : decode cX11_tellValues 18 = .ok (.getfield 73, 3) := by decide +kernel
set_option maxRecDepth 20000 in
theorem dX11_tellValues_21 : decode cX11_tellValues 21 = .ok (.iconst 2, 1) := by decide +kernel
set_option maxRecDepth 20000 in
theorem dX11_tellValues_22 : decode cX11_tellValues 22 = .ok (.aload_n 1, 1) := by decide +kernel
set_option maxRecDepth 20000 in
theorem dX11_tellValues_23 : decode cX11_tellValues 23 = .ok (.getfield 154, 3) := by decide +kernel
set_option maxRecDepth 20000 in
theorem dX11_tellValues_26 : decode cX11_tellValues 26 = .ok (.iastore, 1) := by decide +kernel
set_option maxRecDepth 20000 in
theorem dX11_tellValues_27 : decode cX11_tellValues 27 = .ok (.aload_n 0, 1) := by decide +kernel
set_option maxRecDepth 20000 in
theorem dX11_tellValues_28 : decode cX11_tellValues 28 = .ok (.getfield 73, 3) := by decide +kernel
set_option maxRecDepth 20000 in
theorem dX11_tellValues_31 : decode cX11_tellValues 31 = .ok (.iconst 3, 1) := by decide +kernel
set_option maxRecDepth 20000 in
theorem dX11_tellValues_32 : decode cX11_tellValues 32 = .ok (.aload_n 1, 1) := by decide +kernel
set_option maxRecDepth 20000 in
theorem dX11_tellValues_33 : decode cX11_tellValues 33 = .ok (.getfield 157, 3) := by decide +kernel
set_option maxRecDepth 20000 in
theorem dX11_tellValues_36 : decode cX11_tellValues 36 = .ok (.iastore, 1) := by decide +kernel
set_option maxRecDepth 20000 in
theorem dX11_tellValues_37 : decode cX11_tellValues 37 = .ok (.return_, 1) := by decide +kernel
set_option maxRecDepth 20000 in
theorem dX11_ruleSays_0 : decode cX11_ruleSays 0 = .ok (.aload_n 0, 1) := by decide +kernel
set_option maxRecDepth 20000 in
theorem dX11_ruleSays_1 : decode cX11_ruleSays 1 = .ok (.getfield 22, 3) := by decide +kernel
set_option maxRecDepth 20000 in
theorem dX11_ruleSays_4 : decode cX11_ruleSays 4 = .ok (.iconst 0, 1) := by decide +kernel
set_option maxRecDepth 20000 in
theorem dX11_ruleSays_5 : decode cX11_ruleSays 5 = .ok (.aload_n 0, 1) := by decide +kernel
set_option maxRecDepth 20000 in
theorem dX11_ruleSays_6 : decode cX11_ruleSays 6 = .ok (.getfield 19, 3) := by decide +kernel
set_option maxRecDepth 20000 in
theorem dX11_ruleSays_9 : decode cX11_ruleSays 9 = .ok (.invokevirtual 114, 3) := by decide +kernel
set_option maxRecDepth 20000 in
theorem dX11_ruleSays_12 : decode cX11_ruleSays 12 = .ok (.iconst 1, 1) := by decide +kernel
set_option maxRecDepth 20000 in
theorem dX11_ruleSays_13 : decode cX11_ruleSays 13 = .ok (.isub, 1) := by decide +kernel
set_option maxRecDepth 20000 in
theorem dX11_ruleSays_14 : decode cX11_ruleSays 14 = .ok (.invokestatic 106, 3) := by decide +kernel
set_option maxRecDepth 20000 in
theorem dX11_ruleSays_17 : decode cX11_ruleSays 17 = .ok (.ifCond .ne 5, 3) := by decide +kernel
set_option maxRecDepth 20000 in
theorem dX11_ruleSays_20 : decode cX11_ruleSays 20 = .ok (.iconst 0, 1) := by decide +kernel
set_option maxRecDepth 20000 in
theorem dX11_ruleSays_21 : decode cX11_ruleSays 21 = .ok (.ireturn, 1) := by decide +kernel
set_option maxRecDepth 20000 in
theorem dX11_ruleSays_22 : decode cX11_ruleSays 22 = .ok (.aload_n 0, 1) := by decide +kernel
set_option maxRecDepth 20000 in
theorem dX11_ruleSays_23 : decode cX11_ruleSays 23 = .ok (.getfield 73, 3) := by decide +kernel
set_option maxRecDepth 20000 in
theorem dX11_ruleSays_26 : decode cX11_ruleSays 26 = .ok (.iconst 4, 1) := by decide +kernel
set_option maxRecDepth 20000 in
theorem dX11_ruleSays_27 : decode cX11_ruleSays 27 = .ok (.iload_n 2, 1) := by decide +kernel
set_option maxRecDepth 20000 in
theorem dX11_ruleSays_28 : decode cX11_ruleSays 28 = .ok (.iastore, 1) := by decide +kernel
set_option maxRecDepth 20000 in
theorem dX11_ruleSays_29 : decode cX11_ruleSays 29 = .ok (.aload_n 0, 1) := by decide +kernel
