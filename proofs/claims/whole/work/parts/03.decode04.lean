set_option maxRecDepth 20000 in
theorem dX12_spell_15 : decode cX12_spell 15 = .ok (.iload 4, 2) := by decide +kernel
set_option maxRecDepth 20000 in
theorem dX12_spell_17 : decode cX12_spell 17 = .ok (.iadd, 1) := by decide +kernel
set_option maxRecDepth 20000 in
theorem dX12_spell_18 : decode cX12_spell 18 = .ok (.lload_n 2, 1) := by decide +kernel
set_option maxRecDepth 20000 in
theorem dX12_spell_19 : decode cX12_spell 19 = .ok (.bipush 56, 2) := by decide +kernel
set_option maxRecDepth 20000 in
theorem dX12_spell_21 : decode cX12_spell 21 = .ok (.bipush 8, 2) := by decide +kernel
set_option maxRecDepth 20000 in
theorem dX12_spell_23 : decode cX12_spell 23 = .ok (.iload 4, 2) := by decide +kernel
set_option maxRecDepth 20000 in
theorem dX12_spell_25 : decode cX12_spell 25 = .ok (.imul, 1) := by decide +kernel
set_option maxRecDepth 20000 in
theorem dX12_spell_26 : decode cX12_spell 26 = .ok (.isub, 1) := by decide +kernel
set_option maxRecDepth 20000 in
theorem dX12_spell_27 : decode cX12_spell 27 = .ok (.lshr, 1) := by decide +kernel
set_option maxRecDepth 20000 in
theorem dX12_spell_28 : decode cX12_spell 28 = .ok (.ldc2_w 120, 3) := by decide +kernel
set_option maxRecDepth 20000 in
theorem dX12_spell_31 : decode cX12_spell 31 = .ok (.land, 1) := by decide +kernel
set_option maxRecDepth 20000 in
theorem dX12_spell_32 : decode cX12_spell 32 = .ok (.l2i, 1) := by decide +kernel
set_option maxRecDepth 20000 in
theorem dX12_spell_33 : decode cX12_spell 33 = .ok (.iastore, 1) := by decide +kernel
set_option maxRecDepth 20000 in
theorem dX12_spell_34 : decode cX12_spell 34 = .ok (.iinc 4 1, 3) := by decide +kernel
set_option maxRecDepth 20000 in
theorem dX12_spell_37 : decode cX12_spell 37 = .ok (.goto (-34), 3) := by decide +kernel
set_option maxRecDepth 20000 in
theorem dX12_spell_40 : decode cX12_spell 40 = .ok (.return_, 1) := by decide +kernel
set_option maxRecDepth 20000 in
theorem dX12_isStall_0 : decode cX12_isStall 0 = .ok (.iload_n 1, 1) := by decide +kernel
set_option maxRecDepth 20000 in
theorem dX12_isStall_1 : decode cX12_isStall 1 = .ok (.i2l, 1) := by decide +kernel
set_option maxRecDepth 20000 in
theorem dX12_isStall_2 : decode cX12_isStall 2 = .ok (.lconst 0, 1) := by decide +kernel
set_option maxRecDepth 20000 in
theorem dX12_isStall_3 : decode cX12_isStall 3 = .ok (.aload_n 0, 1) := by decide +kernel
set_option maxRecDepth 20000 in
theorem dX12_isStall_4 : decode cX12_isStall 4 = .ok (.getfield 122, 3) := by decide +kernel
set_option maxRecDepth 20000 in
theorem dX12_isStall_7 : decode cX12_isStall 7 = .ok (.iconst 1, 1) := by decide +kernel
set_option maxRecDepth 20000 in
theorem dX12_isStall_8 : decode cX12_isStall 8 = .ok (.isub, 1) := by decide +kernel
set_option maxRecDepth 20000 in
theorem dX12_isStall_9 : decode cX12_isStall 9 = .ok (.i2l, 1) := by decide +kernel
set_option maxRecDepth 20000 in
theorem dX12_isStall_10 : decode cX12_isStall 10 = .ok (.invokestatic 125, 3) := by decide +kernel
set_option maxRecDepth 20000 in
theorem dX12_isStall_13 : decode cX12_isStall 13 = .ok (.ireturn, 1) := by decide +kernel
set_option maxRecDepth 20000 in
theorem dX12_isHand_0 : decode cX12_isHand 0 = .ok (.iload_n 1, 1) := by decide +kernel
set_option maxRecDepth 20000 in
theorem dX12_isHand_1 : decode cX12_isHand 1 = .ok (.i2l, 1) := by decide +kernel
set_option maxRecDepth 20000 in
theorem dX12_isHand_2 : decode cX12_isHand 2 = .ok (.lconst 0, 1) := by decide +kernel
set_option maxRecDepth 20000 in
theorem dX12_isHand_3 : decode cX12_isHand 3 = .ok (.aload_n 0, 1) := by decide +kernel
set_option maxRecDepth 20000 in
theorem dX12_isHand_4 : decode cX12_isHand 4 = .ok (.getfield 129, 3) := by decide +kernel
set_option maxRecDepth 20000 in
theorem dX12_isHand_7 : decode cX12_isHand 7 = .ok (.iconst 1, 1) := by decide +kernel
set_option maxRecDepth 20000 in
theorem dX12_isHand_8 : decode cX12_isHand 8 = .ok (.isub, 1) := by decide +kernel
set_option maxRecDepth 20000 in
theorem dX12_isHand_9 : decode cX12_isHand 9 = .ok (.i2l, 1) := by decide +kernel
set_option maxRecDepth 20000 in
theorem dX12_isHand_10 : decode cX12_isHand 10 = .ok (.invokestatic 125, 3) := by decide +kernel
set_option maxRecDepth 20000 in
theorem dX12_isHand_13 : decode cX12_isHand 13 = .ok (.ireturn, 1) := by decide +kernel
set_option maxRecDepth 20000 in
theorem dX12_isPlace_0 : decode cX12_isPlace 0 = .ok (.iload_n 0, 1) := by decide +kernel
set_option maxRecDepth 20000 in
theorem dX12_isPlace_1 : decode cX12_isPlace 1 = .ok (.ifCond .lt 25, 3) := by decide +kernel
set_option maxRecDepth 20000 in
theorem dX12_isPlace_4 : decode cX12_isPlace 4 = .ok (.iload_n 0, 1) := by decide +kernel
set_option maxRecDepth 20000 in
theorem dX12_isPlace_5 : decode cX12_isPlace 5 = .ok (.bipush 100, 2) := by decide +kernel
set_option maxRecDepth 20000 in
theorem dX12_isPlace_7 : decode cX12_isPlace 7 = .ok (.idiv, 1) := by decide +kernel
set_option maxRecDepth 20000 in
theorem dX12_isPlace_8 : decode cX12_isPlace 8 = .ok (.bipush 20, 2) := by decide +kernel
set_option maxRecDepth 20000 in
theorem dX12_isPlace_10 : decode cX12_isPlace 10 = .ok (.if_icmp .ge 16, 3) := by decide +kernel
set_option maxRecDepth 20000 in
theorem dX12_isPlace_13 : decode cX12_isPlace 13 = .ok (.iload_n 0, 1) := by decide +kernel
set_option maxRecDepth 20000 in
theorem dX12_isPlace_14 : decode cX12_isPlace 14 = .ok (.bipush 100, 2) := by decide +kernel
set_option maxRecDepth 20000 in
theorem dX12_isPlace_16 : decode cX12_isPlace 16 = .ok (.irem, 1) := by decide +kernel
set_option maxRecDepth 20000 in
theorem dX12_isPlace_17 : decode cX12_isPlace 17 = .ok (.bipush 20, 2) := by decide +kernel
set_option maxRecDepth 20000 in
theorem dX12_isPlace_19 : decode cX12_isPlace 19 = .ok (.if_icmp .ge 7, 3) := by decide +kernel
set_option maxRecDepth 20000 in
theorem dX12_isPlace_22 : decode cX12_isPlace 22 = .ok (.iconst 1, 1) := by decide +kernel
set_option maxRecDepth 20000 in
theorem dX12_isPlace_23 : decode cX12_isPlace 23 = .ok (.goto 4, 3) := by decide +kernel
set_option maxRecDepth 20000 in
theorem dX12_isPlace_26 : decode cX12_isPlace 26 = .ok (.iconst 0, 1) := by decide +kernel
set_option maxRecDepth 20000 in
theorem dX12_isPlace_27 : decode cX12_isPlace 27 = .ok (.ireturn, 1) := by decide +kernel
set_option maxRecDepth 20000 in
theorem dX12_stall_0 : decode cX12_stall 0 = .ok (.iload_n 1, 1) := by decide +kernel
set_option maxRecDepth 20000 in
theorem dX12_stall_1 : decode cX12_stall 1 = .ok (.i2l, 1) := by decide +kernel
set_option maxRecDepth 20000 in
theorem dX12_stall_2 : decode cX12_stall 2 = .ok (.lconst 0, 1) := by decide +kernel
set_option maxRecDepth 20000 in
theorem dX12_stall_3 : decode cX12_stall 3 = .ok (.ldc2_w 132, 3) := by decide +kernel
set_option maxRecDepth 20000 in
theorem dX12_stall_6 : decode cX12_stall 6 = .ok (.invokestatic 125, 3) := by decide +kernel
set_option maxRecDepth 20000 in
theorem dX12_stall_9 : decode cX12_stall 9 = .ok (.ifCond .eq 35, 3) := by decide +kernel
set_option maxRecDepth 20000 in
theorem dX12_stall_12 : decode cX12_stall 12 = .ok (.iload_n 2, 1) := by decide +kernel
set_option maxRecDepth 20000 in
theorem dX12_stall_13 : decode cX12_stall 13 = .ok (.invokestatic 134, 3) := by decide +kernel
set_option maxRecDepth 20000 in
theorem dX12_stall_16 : decode cX12_stall 16 = .ok (.ifCond .eq 28, 3) := by decide +kernel
set_option maxRecDepth 20000 in
theorem dX12_stall_19 : decode cX12_stall 19 = .ok (.iload_n 3, 1) := by decide +kernel
set_option maxRecDepth 20000 in
theorem dX12_stall_20 : decode cX12_stall 20 = .ok (.i2l, 1) := by decide +kernel
set_option maxRecDepth 20000 in
theorem dX12_stall_21 : decode cX12_stall 21 = .ok (.lconst 0, 1) := by decide +kernel
set_option maxRecDepth 20000 in
theorem dX12_stall_22 : decode cX12_stall 22 = .ok (.ldc2_w 138, 3) := by decide +kernel
set_option maxRecDepth 20000 in
theorem dX12_stall_25 : decode cX12_stall 25 = .ok (.invokestatic 125, 3) := by decide +kernel
set_option maxRecDepth 20000 in
theorem dX12_stall_28 : decode cX12_stall 28 = .ok (.ifCond .eq 16, 3) := by decide +kernel
set_option maxRecDepth 20000 in
theorem dX12_stall_31 : decode cX12_stall 31 = .ok (.iload 4, 2) := by decide +kernel
set_option maxRecDepth 20000 in
theorem dX12_stall_33 : decode cX12_stall 33 = .ok (.i2l, 1) := by decide +kernel
set_option maxRecDepth 20000 in
theorem dX12_stall_34 : decode cX12_stall 34 = .ok (.lconst 1, 1) := by decide +kernel
set_option maxRecDepth 20000 in
theorem dX12_stall_35 : decode cX12_stall 35 = .ok (.ldc2_w 140, 3) := by decide +kernel
set_option maxRecDepth 20000 in
theorem dX12_stall_38 : decode cX12_stall 38 = .ok (.invokestatic 125, 3) := by decide +kernel
set_option maxRecDepth 20000 in
theorem dX12_stall_41 : decode cX12_stall 41 = .ok (.ifCond .ne 6, 3) := by decide +kernel
set_option maxRecDepth 20000 in
theorem dX12_stall_44 : decode cX12_stall 44 = .ok (.bipush (-2), 2) := by decide +kernel
set_option maxRecDepth 20000 in
theorem dX12_stall_46 : decode cX12_stall 46 = .ok (.ireturn, 1) := by decide +kernel
set_option maxRecDepth 20000 in
theorem dX12_stall_47 : decode cX12_stall 47 = .ok (.aload_n 0, 1) := by decide +kernel
set_option maxRecDepth 20000 in
theorem dX12_stall_48 : decode cX12_stall 48 = .ok (.getfield 122, 3) := by decide +kernel
set_option maxRecDepth 20000 in
theorem dX12_stall_51 : decode cX12_stall 51 = .ok (.bipush 8, 2) := by decide +kernel
set_option maxRecDepth 20000 in
theorem dX12_stall_53 : decode cX12_stall 53 = .ok (.if_icmp .ne 6, 3) := by decide +kernel
set_option maxRecDepth 20000 in
theorem dX12_stall_56 : decode cX12_stall 56 = .ok (.bipush (-4), 2) := by decide +kernel
set_option maxRecDepth 20000 in
theorem dX12_stall_58 : decode cX12_stall 58 = .ok (.ireturn, 1) := by decide +kernel
set_option maxRecDepth 20000 in
theorem dX12_stall_59 : decode cX12_stall 59 = .ok (.aload_n 0, 1) := by decide +kernel
set_option maxRecDepth 20000 in
theorem dX12_stall_60 : decode cX12_stall 60 = .ok (.getfield 23, 3) := by decide +kernel
set_option maxRecDepth 20000 in
theorem dX12_stall_63 : decode cX12_stall 63 = .ok (.aload_n 0, 1) := by decide +kernel
set_option maxRecDepth 20000 in
theorem dX12_stall_64 : decode cX12_stall 64 = .ok (.getfield 122, 3) := by decide +kernel
set_option maxRecDepth 20000 in
theorem dX12_stall_67 : decode cX12_stall 67 = .ok (.iload_n 1, 1) := by decide +kernel
set_option maxRecDepth 20000 in
theorem dX12_stall_68 : decode cX12_stall 68 = .ok (.iastore, 1) := by decide +kernel
set_option maxRecDepth 20000 in
theorem dX12_stall_69 : decode cX12_stall 69 = .ok (.aload_n 0, 1) := by decide +kernel
set_option maxRecDepth 20000 in
theorem dX12_stall_70 : decode cX12_stall 70 = .ok (.getfield 26, 3) := by decide +kernel
set_option maxRecDepth 20000 in
theorem dX12_stall_73 : decode cX12_stall 73 = .ok (.aload_n 0, 1) := by decide +kernel
set_option maxRecDepth 20000 in
theorem dX12_stall_74 : decode cX12_stall 74 = .ok (.getfield 122, 3) := by decide +kernel
set_option maxRecDepth 20000 in
theorem dX12_stall_77 : decode cX12_stall 77 = .ok (.iload_n 2, 1) := by decide +kernel
set_option maxRecDepth 20000 in
theorem dX12_stall_78 : decode cX12_stall 78 = .ok (.iastore, 1) := by decide +kernel
set_option maxRecDepth 20000 in
theorem dX12_stall_79 : decode cX12_stall 79 = .ok (.aload_n 0, 1) := by decide +kernel
set_option maxRecDepth 20000 in
theorem dX12_stall_80 : decode cX12_stall 80 = .ok (.getfield 29, 3) := by decide +kernel
set_option maxRecDepth 20000 in
theorem dX12_stall_83 : decode cX12_stall 83 = .ok (.aload_n 0, 1) := by decide +kernel
set_option maxRecDepth 20000 in
theorem dX12_stall_84 : decode cX12_stall 84 = .ok (.getfield 122, 3) := by decide +kernel
set_option maxRecDepth 20000 in
theorem dX12_stall_87 : decode cX12_stall 87 = .ok (.iload_n 3, 1) := by decide +kernel
set_option maxRecDepth 20000 in
theorem dX12_stall_88 : decode cX12_stall 88 = .ok (.iastore, 1) := by decide +kernel
set_option maxRecDepth 20000 in
theorem dX12_stall_89 : decode cX12_stall 89 = .ok (.aload_n 0, 1) := by decide +kernel
set_option maxRecDepth 20000 in
theorem dX12_stall_90 : decode cX12_stall 90 = .ok (.getfield 32, 3) := by decide +kernel
set_option maxRecDepth 20000 in
theorem dX12_stall_93 : decode cX12_stall 93 = .ok (.aload_n 0, 1) := by decide +kernel
set_option maxRecDepth 20000 in
theorem dX12_stall_94 : decode cX12_stall 94 = .ok (.getfield 122, 3) := by decide +kernel
set_option maxRecDepth 20000 in
theorem dX12_stall_97 : decode cX12_stall 97 = .ok (.iload 4, 2) := by decide +kernel
set_option maxRecDepth 20000 in
theorem dX12_stall_99 : decode cX12_stall 99 = .ok (.iastore, 1) := by decide +kernel
set_option maxRecDepth 20000 in
theorem dX12_stall_100 : decode cX12_stall 100 = .ok (.aload_n 0, 1) := by decide +kernel
set_option maxRecDepth 20000 in
theorem dX12_stall_101 : decode cX12_stall 101 = .ok (.getfield 35, 3) := by decide +kernel
set_option maxRecDepth 20000 in
theorem dX12_stall_104 : decode cX12_stall 104 = .ok (.aload_n 0, 1) := by decide +kernel
set_option maxRecDepth 20000 in
theorem dX12_stall_105 : decode cX12_stall 105 = .ok (.getfield 122, 3) := by decide +kernel
set_option maxRecDepth 20000 in
theorem dX12_stall_108 : decode cX12_stall 108 = .ok (.iconst 0, 1) := by decide +kernel
set_option maxRecDepth 20000 in
theorem dX12_stall_109 : decode cX12_stall 109 = .ok (.iastore, 1) := by decide +kernel
set_option maxRecDepth 20000 in
theorem dX12_stall_110 : decode cX12_stall 110 = .ok (.aload_n 0, 1) := by decide +kernel
set_option maxRecDepth 20000 in
theorem dX12_stall_111 : decode cX12_stall 111 = .ok (.getfield 38, 3) := by decide +kernel
set_option maxRecDepth 20000 in
theorem dX12_stall_114 : decode cX12_stall 114 = .ok (.aload_n 0, 1) := by decide +kernel
set_option maxRecDepth 20000 in
theorem dX12_stall_115 : decode cX12_stall 115 = .ok (.getfield 122, 3) := by decide +kernel
set_option maxRecDepth 20000 in
theorem dX12_stall_118 : decode cX12_stall 118 = .ok (.iconst 0, 1) := by decide +kernel
set_option maxRecDepth 20000 in
theorem dX12_stall_119 : decode cX12_stall 119 = .ok (.iastore, 1) := by decide +kernel
set_option maxRecDepth 20000 in
theorem dX12_stall_120 : decode cX12_stall 120 = .ok (.aload_n 0, 1) := by decide +kernel
set_option maxRecDepth 20000 in
theorem dX12_stall_121 : decode cX12_stall 121 = .ok (.getfield 41, 3) := by decide +kernel
set_option maxRecDepth 20000 in
theorem dX12_stall_124 : decode cX12_stall 124 = .ok (.aload_n 0, 1) := by decide +kernel
set_option maxRecDepth 20000 in
theorem dX12_stall_125 : decode cX12_stall 125 = .ok (.getfield 122, 3) := by decide +kernel
set_option maxRecDepth 20000 in
theorem dX12_stall_128 : decode cX12_stall 128 = .ok (.iconst 0, 1) := by decide +kernel
set_option maxRecDepth 20000 in
theorem dX12_stall_129 : decode cX12_stall 129 = .ok (.iastore, 1) := by decide +kernel
set_option maxRecDepth 20000 in
theorem dX12_stall_130 : decode cX12_stall 130 = .ok (.aload_n 0, 1) := by decide +kernel
set_option maxRecDepth 20000 in
theorem dX12_stall_131 : decode cX12_stall 131 = .ok (.dup, 1) := by decide +kernel
set_option maxRecDepth 20000 in
theorem dX12_stall_132 : decode cX12_stall 132 = .ok (.getfield 122, 3) := by decide +kernel
set_option maxRecDepth 20000 in
theorem dX12_stall_135 : decode cX12_stall 135 = .ok (.iconst 1, 1) := by decide +kernel
set_option maxRecDepth 20000 in
theorem dX12_stall_136 : decode cX12_stall 136 = .ok (.iadd, 1) := by decide +kernel
set_option maxRecDepth 20000 in
theorem dX12_stall_137 : decode cX12_stall 137 = .ok (.putfield 122, 3) := by decide +kernel
set_option maxRecDepth 20000 in
theorem dX12_stall_140 : decode cX12_stall 140 = .ok (.aload_n 0, 1) := by decide +kernel
set_option maxRecDepth 20000 in
theorem dX12_stall_141 : decode cX12_stall 141 = .ok (.getfield 122, 3) := by decide +kernel
set_option maxRecDepth 20000 in
theorem dX12_stall_144 : decode cX12_stall 144 = .ok (.iconst 1, 1) := by decide +kernel
set_option maxRecDepth 20000 in
theorem dX12_stall_145 : decode cX12_stall 145 = .ok (.isub, 1) := by decide +kernel
set_option maxRecDepth 20000 in
theorem dX12_stall_146 : decode cX12_stall 146 = .ok (.ireturn, 1) := by decide +kernel
set_option maxRecDepth 20000 in
theorem dX12_set_0 : decode cX12_set 0 = .ok (.aload_n 0, 1) := by decide +kernel
set_option maxRecDepth 20000 in
theorem dX12_set_1 : decode cX12_set 1 = .ok (.iload_n 1, 1) := by decide +kernel
set_option maxRecDepth 20000 in
theorem dX12_set_2 : decode cX12_set 2 = .ok (.invokevirtual 142, 3) := by decide +kernel
set_option maxRecDepth 20000 in
theorem dX12_set_5 : decode cX12_set 5 = .ok (.ifCond .eq 54, 3) := by decide +kernel
set_option maxRecDepth 20000 in
theorem dX12_set_8 : decode cX12_set 8 = .ok (.iload_n 2, 1) := by decide +kernel
set_option maxRecDepth 20000 in
theorem dX12_set_9 : decode cX12_set 9 = .ok (.i2l, 1) := by decide +kernel
set_option maxRecDepth 20000 in
theorem dX12_set_10 : decode cX12_set 10 = .ok (.lconst 0, 1) := by decide +kernel
set_option maxRecDepth 20000 in
theorem dX12_set_11 : decode cX12_set 11 = .ok (.ldc2_w 145, 3) := by decide +kernel
set_option maxRecDepth 20000 in
theorem dX12_set_14 : decode cX12_set 14 = .ok (.invokestatic 125, 3) := by decide +kernel
set_option maxRecDepth 20000 in
theorem dX12_set_17 : decode cX12_set 17 = .ok (.ifCond .eq 42, 3) := by decide +kernel
set_option maxRecDepth 20000 in
theorem dX12_set_20 : decode cX12_set 20 = .ok (.iload_n 3, 1) := by decide +kernel
set_option maxRecDepth 20000 in
theorem dX12_set_21 : decode cX12_set 21 = .ok (.i2l, 1) := by decide +kernel
set_option maxRecDepth 20000 in
theorem dX12_set_22 : decode cX12_set 22 = .ok (.iload_n 2, 1) := by decide +kernel
set_option maxRecDepth 20000 in
theorem dX12_set_23 : decode cX12_set 23 = .ok (.ifCond .ne 7, 3) := by decide +kernel
set_option maxRecDepth 20000 in
theorem dX12_set_26 : decode cX12_set 26 = .ok (.lconst 1, 1) := by decide +kernel
set_option maxRecDepth 20000 in
theorem dX12_set_27 : decode cX12_set 27 = .ok (.goto 4, 3) := by decide +kernel
set_option maxRecDepth 20000 in
theorem dX12_set_30 : decode cX12_set 30 = .ok (.lconst 0, 1) := by decide +kernel
set_option maxRecDepth 20000 in
theorem dX12_set_31 : decode cX12_set 31 = .ok (.iload_n 2, 1) := by decide +kernel
set_option maxRecDepth 20000 in
theorem dX12_set_32 : decode cX12_set 32 = .ok (.ifCond .ne 9, 3) := by decide +kernel
set_option maxRecDepth 20000 in
theorem dX12_set_35 : decode cX12_set 35 = .ok (.ldc2_w 140, 3) := by decide +kernel
set_option maxRecDepth 20000 in
theorem dX12_set_38 : decode cX12_set 38 = .ok (.goto 15, 3) := by decide +kernel
set_option maxRecDepth 20000 in
theorem dX12_set_41 : decode cX12_set 41 = .ok (.iload_n 2, 1) := by decide +kernel
set_option maxRecDepth 20000 in
theorem dX12_set_42 : decode cX12_set 42 = .ok (.iconst 3, 1) := by decide +kernel
set_option maxRecDepth 20000 in
theorem dX12_set_43 : decode cX12_set 43 = .ok (.if_icmp .ne 7, 3) := by decide +kernel
set_option maxRecDepth 20000 in
theorem dX12_set_46 : decode cX12_set 46 = .ok (.lconst 1, 1) := by decide +kernel
set_option maxRecDepth 20000 in
theorem dX12_set_47 : decode cX12_set 47 = .ok (.goto 6, 3) := by decide +kernel
set_option maxRecDepth 20000 in
theorem dX12_set_50 : decode cX12_set 50 = .ok (.ldc2_w 147, 3) := by decide +kernel
set_option maxRecDepth 20000 in
theorem dX12_set_53 : decode cX12_set 53 = .ok (.invokestatic 125, 3) := by decide +kernel
set_option maxRecDepth 20000 in
theorem dX12_set_56 : decode cX12_set 56 = .ok (.ifCond .ne 6, 3) := by decide +kernel
set_option maxRecDepth 20000 in
theorem dX12_set_59 : decode cX12_set 59 = .ok (.bipush (-5), 2) := by decide +kernel
set_option maxRecDepth 20000 in
theorem dX12_set_61 : decode cX12_set 61 = .ok (.ireturn, 1) := by decide +kernel
set_option maxRecDepth 20000 in
theorem dX12_set_62 : decode cX12_set 62 = .ok (.iload_n 2, 1) := by decide +kernel
set_option maxRecDepth 20000 in
theorem dX12_set_63 : decode cX12_set 63 = .ok (.ifCond .ne 12, 3) := by decide +kernel
set_option maxRecDepth 20000 in
theorem dX12_set_66 : decode cX12_set 66 = .ok (.aload_n 0, 1) := by decide +kernel
set_option maxRecDepth 20000 in
theorem dX12_set_67 : decode cX12_set 67 = .ok (.getfield 32, 3) := by decide +kernel
set_option maxRecDepth 20000 in
theorem dX12_set_70 : decode cX12_set 70 = .ok (.iload_n 1, 1) := by decide +kernel
set_option maxRecDepth 20000 in
theorem dX12_set_71 : decode cX12_set 71 = .ok (.iaload, 1) := by decide +kernel
set_option maxRecDepth 20000 in
theorem dX12_set_72 : decode cX12_set 72 = .ok (.goto 37, 3) := by decide +kernel
set_option maxRecDepth 20000 in
theorem dX12_set_75 : decode cX12_set 75 = .ok (.iload_n 2, 1) := by decide +kernel
set_option maxRecDepth 20000 in
theorem dX12_set_76 : decode cX12_set 76 = .ok (.iconst 1, 1) := by decide +kernel
set_option maxRecDepth 20000 in
theorem dX12_set_77 : decode cX12_set 77 = .ok (.if_icmp .ne 12, 3) := by decide +kernel
set_option maxRecDepth 20000 in
theorem dX12_set_80 : decode cX12_set 80 = .ok (.aload_n 0, 1) := by decide +kernel
set_option maxRecDepth 20000 in
theorem dX12_set_81 : decode cX12_set 81 = .ok (.getfield 35, 3) := by decide +kernel
set_option maxRecDepth 20000 in
theorem dX12_set_84 : decode cX12_set 84 = .ok (.iload_n 1, 1) := by decide +kernel
set_option maxRecDepth 20000 in
theorem dX12_set_85 : decode cX12_set 85 = .ok (.iaload, 1) := by decide +kernel
set_option maxRecDepth 20000 in
theorem dX12_set_86 : decode cX12_set 86 = .ok (.goto 23, 3) := by decide +kernel
set_option maxRecDepth 20000 in
theorem dX12_set_89 : decode cX12_set 89 = .ok (.iload_n 2, 1) := by decide +kernel
set_option maxRecDepth 20000 in
theorem dX12_set_90 : decode cX12_set 90 = .ok (.iconst 2, 1) := by decide +kernel
set_option maxRecDepth 20000 in
theorem dX12_set_91 : decode cX12_set 91 = .ok (.if_icmp .ne 12, 3) := by decide +kernel
set_option maxRecDepth 20000 in
theorem dX12_set_94 : decode cX12_set 94 = .ok (.aload_n 0, 1) := by decide +kernel
set_option maxRecDepth 20000 in
theorem dX12_set_95 : decode cX12_set 95 = .ok (.getfield 38, 3) := by decide +kernel
set_option maxRecDepth 20000 in
theorem dX12_set_98 : decode cX12_set 98 = .ok (.iload_n 1, 1) := by decide +kernel
set_option maxRecDepth 20000 in
theorem dX12_set_99 : decode cX12_set 99 = .ok (.iaload, 1) := by decide +kernel
set_option maxRecDepth 20000 in
theorem dX12_set_100 : decode cX12_set 100 = .ok (.goto 9, 3) := by decide +kernel
set_option maxRecDepth 20000 in
theorem dX12_set_103 : decode cX12_set 103 = .ok (.aload_n 0, 1) := by decide +kernel
set_option maxRecDepth 20000 in
theorem dX12_set_104 : decode cX12_set 104 = .ok (.getfield 41, 3) := by decide +kernel
set_option maxRecDepth 20000 in
theorem dX12_set_107 : decode cX12_set 107 = .ok (.iload_n 1, 1) := by decide +kernel
set_option maxRecDepth 20000 in
theorem dX12_set_108 : decode cX12_set 108 = .ok (.iaload, 1) := by decide +kernel
set_option maxRecDepth 20000 in
theorem dX12_set_109 : decode cX12_set 109 = .ok (.istore 4, 2) := by decide +kernel
set_option maxRecDepth 20000 in
theorem dX12_set_111 : decode cX12_set 111 = .ok (.iload_n 2, 1) := by decide +kernel
set_option maxRecDepth 20000 in
theorem dX12_set_112 : decode cX12_set 112 = .ok (.ifCond .ne 10, 3) := by decide +kernel
set_option maxRecDepth 20000 in
theorem dX12_set_115 : decode cX12_set 115 = .ok (.aload_n 0, 1) := by decide +kernel
set_option maxRecDepth 20000 in
theorem dX12_set_116 : decode cX12_set 116 = .ok (.getfield 32, 3) := by decide +kernel
set_option maxRecDepth 20000 in
theorem dX12_set_119 : decode cX12_set 119 = .ok (.iload_n 1, 1) := by decide +kernel
set_option maxRecDepth 20000 in
theorem dX12_set_120 : decode cX12_set 120 = .ok (.iload_n 3, 1) := by decide +kernel
set_option maxRecDepth 20000 in
theorem dX12_set_121 : decode cX12_set 121 = .ok (.iastore, 1) := by decide +kernel
set_option maxRecDepth 20000 in
theorem dX12_set_122 : decode cX12_set 122 = .ok (.iload_n 2, 1) := by decide +kernel
set_option maxRecDepth 20000 in
theorem dX12_set_123 : decode cX12_set 123 = .ok (.iconst 1, 1) := by decide +kernel
set_option maxRecDepth 20000 in
theorem dX12_set_124 : decode cX12_set 124 = .ok (.if_icmp .ne 10, 3) := by decide +kernel
set_option maxRecDepth 20000 in
theorem dX12_set_127 : decode cX12_set 127 = .ok (.aload_n 0, 1) := by decide +kernel
set_option maxRecDepth 20000 in
theorem dX12_set_128 : decode cX12_set 128 = .ok (.getfield 35, 3) := by decide +kernel
set_option maxRecDepth 20000 in
theorem dX12_set_131 : decode cX12_set 131 = .ok (.iload_n 1, 1) := by decide +kernel
set_option maxRecDepth 20000 in
theorem dX12_set_132 : decode cX12_set 132 = .ok (.iload_n 3, 1) := by decide +kernel
set_option maxRecDepth 20000 in
theorem dX12_set_133 : decode cX12_set 133 = .ok (.iastore, 1) := by decide +kernel
set_option maxRecDepth 20000 in
theorem dX12_set_134 : decode cX12_set 134 = .ok (.iload_n 2, 1) := by decide +kernel
set_option maxRecDepth 20000 in
theorem dX12_set_135 : decode cX12_set 135 = .ok (.iconst 2, 1) := by decide +kernel
set_option maxRecDepth 20000 in
theorem dX12_set_136 : decode cX12_set 136 = .ok (.if_icmp .ne 10, 3) := by decide +kernel
set_option maxRecDepth 20000 in
theorem dX12_set_139 : decode cX12_set 139 = .ok (.aload_n 0, 1) := by decide +kernel
set_option maxRecDepth 20000 in
theorem dX12_set_140 : decode cX12_set 140 = .ok (.getfield 38, 3) := by decide +kernel
set_option maxRecDepth 20000 in
theorem dX12_set_143 : decode cX12_set 143 = .ok (.iload_n 1, 1) := by decide +kernel
set_option maxRecDepth 20000 in
theorem dX12_set_144 : decode cX12_set 144 = .ok (.iload_n 3, 1) := by decide +kernel
set_option maxRecDepth 20000 in
theorem dX12_set_145 : decode cX12_set 145 = .ok (.iastore, 1) := by decide +kernel
set_option maxRecDepth 20000 in
theorem dX12_set_146 : decode cX12_set 146 = .ok (.iload_n 2, 1) := by decide +kernel
set_option maxRecDepth 20000 in
theorem dX12_set_147 : decode cX12_set 147 = .ok (.iconst 3, 1) := by decide +kernel
set_option maxRecDepth 20000 in
theorem dX12_set_148 : decode cX12_set 148 = .ok (.if_icmp .ne 10, 3) := by decide +kernel
set_option maxRecDepth 20000 in
theorem dX12_set_151 : decode cX12_set 151 = .ok (.aload_n 0, 1) := by decide +kernel
set_option maxRecDepth 20000 in
theorem dX12_set_152 : decode cX12_set 152 = .ok (.getfield 41, 3) := by decide +kernel
set_option maxRecDepth 20000 in
theorem dX12_set_155 : decode cX12_set 155 = .ok (.iload_n 1, 1) := by decide +kernel
set_option maxRecDepth 20000 in
theorem dX12_set_156 : decode cX12_set 156 = .ok (.iload_n 3, 1) := by decide +kernel
set_option maxRecDepth 20000 in
theorem dX12_set_157 : decode cX12_set 157 = .ok (.iastore, 1) := by decide +kernel
set_option maxRecDepth 20000 in
theorem dX12_set_158 : decode cX12_set 158 = .ok (.iload 4, 2) := by decide +kernel
set_option maxRecDepth 20000 in
theorem dX12_set_160 : decode cX12_set 160 = .ok (.ireturn, 1) := by decide +kernel
set_option maxRecDepth 20000 in
theorem dX12_seenOf_0 : decode cX12_seenOf 0 = .ok (.aload_n 0, 1) := by decide +kernel
set_option maxRecDepth 20000 in
theorem dX12_seenOf_1 : decode cX12_seenOf 1 = .ok (.getfield 23, 3) := by decide +kernel
set_option maxRecDepth 20000 in
theorem dX12_seenOf_4 : decode cX12_seenOf 4 = .ok (.iload_n 1, 1) := by decide +kernel
set_option maxRecDepth 20000 in
theorem dX12_seenOf_5 : decode cX12_seenOf 5 = .ok (.iaload, 1) := by decide +kernel
set_option maxRecDepth 20000 in
theorem dX12_seenOf_6 : decode cX12_seenOf 6 = .ok (.lookupswitch 47 #[(0, 34), (3, 36), (5, 38)], 34) := by decide +kernel
set_option maxRecDepth 20000 in
theorem dX12_seenOf_40 : decode cX12_seenOf 40 = .ok (.iconst 0, 1) := by decide +kernel
set_option maxRecDepth 20000 in
theorem dX12_seenOf_41 : decode cX12_seenOf 41 = .ok (.ireturn, 1) := by decide +kernel
set_option maxRecDepth 20000 in
theorem dX12_seenOf_42 : decode cX12_seenOf 42 = .ok (.iconst 2, 1) := by decide +kernel
set_option maxRecDepth 20000 in
theorem dX12_seenOf_43 : decode cX12_seenOf 43 = .ok (.ireturn, 1) := by decide +kernel
set_option maxRecDepth 20000 in
theorem dX12_seenOf_44 : decode cX12_seenOf 44 = .ok (.iconst 2, 1) := by decide +kernel
set_option maxRecDepth 20000 in
theorem dX12_seenOf_45 : decode cX12_seenOf 45 = .ok (.aload_n 0, 1) := by decide +kernel
set_option maxRecDepth 20000 in
theorem dX12_seenOf_46 : decode cX12_seenOf 46 = .ok (.getfield 41, 3) := by decide +kernel
set_option maxRecDepth 20000 in
theorem dX12_seenOf_49 : decode cX12_seenOf 49 = .ok (.iload_n 1, 1) := by decide +kernel
set_option maxRecDepth 20000 in
theorem dX12_seenOf_50 : decode cX12_seenOf 50 = .ok (.iaload, 1) := by decide +kernel
set_option maxRecDepth 20000 in
theorem dX12_seenOf_51 : decode cX12_seenOf 51 = .ok (.iadd, 1) := by decide +kernel
set_option maxRecDepth 20000 in
theorem dX12_seenOf_52 : decode cX12_seenOf 52 = .ok (.ireturn, 1) := by decide +kernel
set_option maxRecDepth 20000 in
theorem dX12_seenOf_53 : decode cX12_seenOf 53 = .ok (.iconst 1, 1) := by decide +kernel
set_option maxRecDepth 20000 in
theorem dX12_seenOf_54 : decode cX12_seenOf 54 = .ok (.ireturn, 1) := by decide +kernel
set_option maxRecDepth 20000 in
theorem dX12_hoursOf_0 : decode cX12_hoursOf 0 = .ok (.aload_n 0, 1) := by decide +kernel
set_option maxRecDepth 20000 in
theorem dX12_hoursOf_1 : decode cX12_hoursOf 1 = .ok (.aload_n 0, 1) := by decide +kernel
set_option maxRecDepth 20000 in
theorem dX12_hoursOf_2 : decode cX12_hoursOf 2 = .ok (.getfield 149, 3) := by decide +kernel
set_option maxRecDepth 20000 in
theorem dX12_hoursOf_5 : decode cX12_hoursOf 5 = .ok (.iload_n 1, 1) := by decide +kernel
set_option maxRecDepth 20000 in
theorem dX12_hoursOf_6 : decode cX12_hoursOf 6 = .ok (.iconst 0, 1) := by decide +kernel
set_option maxRecDepth 20000 in
theorem dX12_hoursOf_7 : decode cX12_hoursOf 7 = .ok (.iconst 0, 1) := by decide +kernel
set_option maxRecDepth 20000 in
theorem dX12_hoursOf_8 : decode cX12_hoursOf 8 = .ok (.iconst 0, 1) := by decide +kernel
set_option maxRecDepth 20000 in
theorem dX12_hoursOf_9 : decode cX12_hoursOf 9 = .ok (.iconst 2, 1) := by decide +kernel
set_option maxRecDepth 20000 in
theorem dX12_hoursOf_10 : decode cX12_hoursOf 10 = .ok (.invokevirtual 152, 3) := by decide +kernel
set_option maxRecDepth 20000 in
theorem dX12_hoursOf_13 : decode cX12_hoursOf 13 = .ok (.istore_n 2, 1) := by decide +kernel
set_option maxRecDepth 20000 in
theorem dX12_hoursOf_14 : decode cX12_hoursOf 14 = .ok (.iload_n 2, 1) := by decide +kernel
set_option maxRecDepth 20000 in
theorem dX12_hoursOf_15 : decode cX12_hoursOf 15 = .ok (.iconst 1, 1) := by decide +kernel
set_option maxRecDepth 20000 in
theorem dX12_hoursOf_16 : decode cX12_hoursOf 16 = .ok (.if_icmp .ge 7, 3) := by decide +kernel
set_option maxRecDepth 20000 in
theorem dX12_hoursOf_19 : decode cX12_hoursOf 19 = .ok (.iconst 1, 1) := by decide +kernel
set_option maxRecDepth 20000 in
theorem dX12_hoursOf_20 : decode cX12_hoursOf 20 = .ok (.goto 15, 3) := by decide +kernel
set_option maxRecDepth 20000 in
theorem dX12_hoursOf_23 : decode cX12_hoursOf 23 = .ok (.iload_n 2, 1) := by decide +kernel
set_option maxRecDepth 20000 in
theorem dX12_hoursOf_24 : decode cX12_hoursOf 24 = .ok (.bipush 99, 2) := by decide +kernel
set_option maxRecDepth 20000 in
theorem dX12_hoursOf_26 : decode cX12_hoursOf 26 = .ok (.if_icmp .le 8, 3) := by decide +kernel
set_option maxRecDepth 20000 in
theorem dX12_hoursOf_29 : decode cX12_hoursOf 29 = .ok (.bipush 99, 2) := by decide +kernel
set_option maxRecDepth 20000 in
theorem dX12_hoursOf_31 : decode cX12_hoursOf 31 = .ok (.goto 4, 3) := by decide +kernel
set_option maxRecDepth 20000 in
theorem dX12_hoursOf_34 : decode cX12_hoursOf 34 = .ok (.iload_n 2, 1) := by decide +kernel
set_option maxRecDepth 20000 in
theorem dX12_hoursOf_35 : decode cX12_hoursOf 35 = .ok (.ireturn, 1) := by decide +kernel
set_option maxRecDepth 20000 in
theorem dX12_told_0 : decode cX12_told 0 = .ok (.aload_n 0, 1) := by decide +kernel
set_option maxRecDepth 20000 in
theorem dX12_told_1 : decode cX12_told 1 = .ok (.iload_n 1, 1) := by decide +kernel
set_option maxRecDepth 20000 in
theorem dX12_told_2 : decode cX12_told 2 = .ok (.invokevirtual 142, 3) := by decide +kernel
set_option maxRecDepth 20000 in
theorem dX12_told_5 : decode cX12_told 5 = .ok (.ifCond .ne 6, 3) := by decide +kernel
set_option maxRecDepth 20000 in
theorem dX12_told_8 : decode cX12_told 8 = .ok (.bipush (-5), 2) := by decide +kernel
set_option maxRecDepth 20000 in
theorem dX12_told_10 : decode cX12_told 10 = .ok (.ireturn, 1) := by decide +kernel
set_option maxRecDepth 20000 in
theorem dX12_told_11 : decode cX12_told 11 = .ok (.iload_n 2, 1) := by decide +kernel
set_option maxRecDepth 20000 in
theorem dX12_told_12 : decode cX12_told 12 = .ok (.tableswitch 113 0 8 #[52, 59, 66, 73, 80, 87, 94, 101, 107], 52) := by decide +kernel
set_option maxRecDepth 20000 in
theorem dX12_told_64 : decode cX12_told 64 = .ok (.aload_n 0, 1) := by decide +kernel
set_option maxRecDepth 20000 in
theorem dX12_told_65 : decode cX12_told 65 = .ok (.getfield 23, 3) := by decide +kernel
set_option maxRecDepth 20000 in
theorem dX12_told_68 : decode cX12_told 68 = .ok (.iload_n 1, 1) := by decide +kernel
set_option maxRecDepth 20000 in
theorem dX12_told_69 : decode cX12_told 69 = .ok (.iaload, 1) := by decide +kernel
set_option maxRecDepth 20000 in
theorem dX12_told_70 : decode cX12_told 70 = .ok (.ireturn, 1) := by decide +kernel
set_option maxRecDepth 20000 in
theorem dX12_told_71 : decode cX12_told 71 = .ok (.aload_n 0, 1) := by decide +kernel
set_option maxRecDepth 20000 in
theorem dX12_told_72 : decode cX12_told 72 = .ok (.getfield 26, 3) := by decide +kernel
set_option maxRecDepth 20000 in
theorem dX12_told_75 : decode cX12_told 75 = .ok (.iload_n 1, 1) := by decide +kernel
set_option maxRecDepth 20000 in
theorem dX12_told_76 : decode cX12_told 76 = .ok (.iaload, 1) := by decide +kernel
set_option maxRecDepth 20000 in
theorem dX12_told_77 : decode cX12_told 77 = .ok (.ireturn, 1) := by decide +kernel
set_option maxRecDepth 20000 in
theorem dX12_told_78 : decode cX12_told 78 = .ok (.aload_n 0, 1) := by decide +kernel
set_option maxRecDepth 20000 in
theorem dX12_told_79 : decode cX12_told 79 = .ok (.getfield 29, 3) := by decide +kernel
set_option maxRecDepth 20000 in
theorem dX12_told_82 : decode cX12_told 82 = .ok (.iload_n 1, 1) := by decide +kernel
set_option maxRecDepth 20000 in
theorem dX12_told_83 : decode cX12_told 83 = .ok (.iaload, 1) := by decide +kernel
set_option maxRecDepth 20000 in
theorem dX12_told_84 : decode cX12_told 84 = .ok (.ireturn, 1) := by decide +kernel
set_option maxRecDepth 20000 in
theorem dX12_told_85 : decode cX12_told 85 = .ok (.aload_n 0, 1) := by decide +kernel
set_option maxRecDepth 20000 in
theorem dX12_told_86 : decode cX12_told 86 = .ok (.getfield 32, 3) := by decide +kernel
set_option maxRecDepth 20000 in
theorem dX12_told_89 : decode cX12_told 89 = .ok (.iload_n 1, 1) := by decide +kernel
set_option maxRecDepth 20000 in
theorem dX12_told_90 : decode cX12_told 90 = .ok (.iaload, 1) := by decide +kernel
set_option maxRecDepth 20000 in
theorem dX12_told_91 : decode cX12_told 91 = .ok (.ireturn, 1) := by decide +kernel
set_option maxRecDepth 20000 in
theorem dX12_told_92 : decode cX12_told 92 = .ok (.aload_n 0, 1) := by decide +kernel
set_option maxRecDepth 20000 in
theorem dX12_told_93 : decode cX12_told 93 = .ok (.getfield 35, 3) := by decide +kernel
set_option maxRecDepth 20000 in
theorem dX12_told_96 : decode cX12_told 96 = .ok (.iload_n 1, 1) := by decide +kernel
set_option maxRecDepth 20000 in
theorem dX12_told_97 : decode cX12_told 97 = .ok (.iaload, 1) := by decide +kernel
set_option maxRecDepth 20000 in
theorem dX12_told_98 : decode cX12_told 98 = .ok (.ireturn, 1) := by decide +kernel
set_option maxRecDepth 20000 in
theorem dX12_told_99 : decode cX12_told 99 = .ok (.aload_n 0, 1) := by decide +kernel
set_option maxRecDepth 20000 in
theorem dX12_told_100 : decode cX12_told 100 = .ok (.getfield 38, 3) := by decide +kernel
set_option maxRecDepth 20000 in
theorem dX12_told_103 : decode cX12_told 103 = .ok (.iload_n 1, 1) := by decide +kernel
set_option maxRecDepth 20000 in
theorem dX12_told_104 : decode cX12_told 104 = .ok (.iaload, 1) := by decide +kernel
set_option maxRecDepth 20000 in
theorem dX12_told_105 : decode cX12_told 105 = .ok (.ireturn, 1) := by decide +kernel
set_option maxRecDepth 20000 in
theorem dX12_told_106 : decode cX12_told 106 = .ok (.aload_n 0, 1) := by decide +kernel
set_option maxRecDepth 20000 in
theorem dX12_told_107 : decode cX12_told 107 = .ok (.getfield 41, 3) := by decide +kernel
set_option maxRecDepth 20000 in
theorem dX12_told_110 : decode cX12_told 110 = .ok (.iload_n 1, 1) := by decide +kernel
set_option maxRecDepth 20000 in
theorem dX12_told_111 : decode cX12_told 111 = .ok (.iaload, 1) := by decide +kernel
set_option maxRecDepth 20000 in
theorem dX12_told_112 : decode cX12_told 112 = .ok (.ireturn, 1) := by decide +kernel
set_option maxRecDepth 20000 in
theorem dX12_told_113 : decode cX12_told 113 = .ok (.aload_n 0, 1) := by decide +kernel
set_option maxRecDepth 20000 in
theorem dX12_told_114 : decode cX12_told 114 = .ok (.iload_n 1, 1) := by decide +kernel
set_option maxRecDepth 20000 in
theorem dX12_told_115 : decode cX12_told 115 = .ok (.invokevirtual 156, 3) := by decide +kernel
set_option maxRecDepth 20000 in
theorem dX12_told_118 : decode cX12_told 118 = .ok (.ireturn, 1) := by decide +kernel
set_option maxRecDepth 20000 in
theorem dX12_told_119 : decode cX12_told 119 = .ok (.aload_n 0, 1) := by decide +kernel
set_option maxRecDepth 20000 in
theorem dX12_told_120 : decode cX12_told 120 = .ok (.iload_n 1, 1) := by decide +kernel
set_option maxRecDepth 20000 in
theorem dX12_told_121 : decode cX12_told 121 = .ok (.invokevirtual 160, 3) := by decide +kernel
set_option maxRecDepth 20000 in
theorem dX12_told_124 : decode cX12_told 124 = .ok (.ireturn, 1) := by decide +kernel
set_option maxRecDepth 20000 in
theorem dX12_told_125 : decode cX12_told 125 = .ok (.bipush (-5), 2) := by decide +kernel
set_option maxRecDepth 20000 in
theorem dX12_told_127 : decode cX12_told 127 = .ok (.ireturn, 1) := by decide +kernel
set_option maxRecDepth 20000 in
theorem dX12_plain_0 : decode cX12_plain 0 = .ok (.iload_n 0, 1) := by decide +kernel
set_option maxRecDepth 20000 in
theorem dX12_plain_1 : decode cX12_plain 1 = .ok (.ifCond .ge 8, 3) := by decide +kernel
set_option maxRecDepth 20000 in
theorem dX12_plain_4 : decode cX12_plain 4 = .ok (.iload_n 0, 1) := by decide +kernel
set_option maxRecDepth 20000 in
theorem dX12_plain_5 : decode cX12_plain 5 = .ok (.ineg, 1) := by decide +kernel
set_option maxRecDepth 20000 in
theorem dX12_plain_6 : decode cX12_plain 6 = .ok (.goto 4, 3) := by decide +kernel
set_option maxRecDepth 20000 in
theorem dX12_plain_9 : decode cX12_plain 9 = .ok (.iload_n 0, 1) := by decide +kernel
set_option maxRecDepth 20000 in
theorem dX12_plain_10 : decode cX12_plain 10 = .ok (.ireturn, 1) := by decide +kernel
set_option maxRecDepth 20000 in
theorem dX12_isIn_0 : decode cX12_isIn 0 = .ok (.iload_n 1, 1) := by decide +kernel
set_option maxRecDepth 20000 in
theorem dX12_isIn_1 : decode cX12_isIn 1 = .ok (.invokestatic 163, 3) := by decide +kernel
set_option maxRecDepth 20000 in
theorem dX12_isIn_4 : decode cX12_isIn 4 = .ok (.iload_n 0, 1) := by decide +kernel
set_option maxRecDepth 20000 in
theorem dX12_isIn_5 : decode cX12_isIn 5 = .ok (.if_icmp .gt 15, 3) := by decide +kernel
set_option maxRecDepth 20000 in
theorem dX12_isIn_8 : decode cX12_isIn 8 = .ok (.iload_n 2, 1) := by decide +kernel
set_option maxRecDepth 20000 in
theorem dX12_isIn_9 : decode cX12_isIn 9 = .ok (.invokestatic 163, 3) := by decide +kernel
set_option maxRecDepth 20000 in
theorem dX12_isIn_12 : decode cX12_isIn 12 = .ok (.iload_n 0, 1) := by decide +kernel
set_option maxRecDepth 20000 in
theorem dX12_isIn_13 : decode cX12_isIn 13 = .ok (.if_icmp .gt 7, 3) := by decide +kernel
set_option maxRecDepth 20000 in
theorem dX12_isIn_16 : decode cX12_isIn 16 = .ok (.iconst 1, 1) := by decide +kernel
set_option maxRecDepth 20000 in
theorem dX12_isIn_17 : decode cX12_isIn 17 = .ok (.goto 4, 3) := by decide +kernel
set_option maxRecDepth 20000 in
theorem dX12_isIn_20 : decode cX12_isIn 20 = .ok (.iconst 0, 1) := by decide +kernel
set_option maxRecDepth 20000 in
theorem dX12_isIn_21 : decode cX12_isIn 21 = .ok (.ireturn, 1) := by decide +kernel
set_option maxRecDepth 20000 in
theorem dX12_isWon_0 : decode cX12_isWon 0 = .ok (.iload_n 0, 1) := by decide +kernel
set_option maxRecDepth 20000 in
theorem dX12_isWon_1 : decode cX12_isWon 1 = .ok (.tableswitch 177 1 5 #[35, 45, 65, 111, 140], 35) := by decide +kernel
set_option maxRecDepth 20000 in
theorem dX12_isWon_36 : decode cX12_isWon 36 = .ok (.iload_n 1, 1) := by decide +kernel
set_option maxRecDepth 20000 in
theorem dX12_isWon_37 : decode cX12_isWon 37 = .ok (.iconst 2, 1) := by decide +kernel
set_option maxRecDepth 20000 in
theorem dX12_isWon_38 : decode cX12_isWon 38 = .ok (.idiv, 1) := by decide +kernel
set_option maxRecDepth 20000 in
theorem dX12_isWon_39 : decode cX12_isWon 39 = .ok (.iload_n 3, 1) := by decide +kernel
set_option maxRecDepth 20000 in
theorem dX12_isWon_40 : decode cX12_isWon 40 = .ok (.iload 4, 2) := by decide +kernel
set_option maxRecDepth 20000 in
theorem dX12_isWon_42 : decode cX12_isWon 42 = .ok (.invokestatic 166, 3) := by decide +kernel
set_option maxRecDepth 20000 in
theorem dX12_isWon_45 : decode cX12_isWon 45 = .ok (.ireturn, 1) := by decide +kernel
set_option maxRecDepth 20000 in
theorem dX12_isWon_46 : decode cX12_isWon 46 = .ok (.iload_n 1, 1) := by decide +kernel
set_option maxRecDepth 20000 in
theorem dX12_isWon_47 : decode cX12_isWon 47 = .ok (.iload_n 3, 1) := by decide +kernel
set_option maxRecDepth 20000 in
theorem dX12_isWon_48 : decode cX12_isWon 48 = .ok (.iload 4, 2) := by decide +kernel
set_option maxRecDepth 20000 in
theorem dX12_isWon_50 : decode cX12_isWon 50 = .ok (.invokestatic 166, 3) := by decide +kernel
set_option maxRecDepth 20000 in
theorem dX12_isWon_53 : decode cX12_isWon 53 = .ok (.ifCond .eq 11, 3) := by decide +kernel
set_option maxRecDepth 20000 in
theorem dX12_isWon_56 : decode cX12_isWon 56 = .ok (.iload_n 3, 1) := by decide +kernel
set_option maxRecDepth 20000 in
theorem dX12_isWon_57 : decode cX12_isWon 57 = .ok (.ifCond .lt 7, 3) := by decide +kernel
set_option maxRecDepth 20000 in
theorem dX12_isWon_60 : decode cX12_isWon 60 = .ok (.iconst 1, 1) := by decide +kernel
set_option maxRecDepth 20000 in
theorem dX12_isWon_61 : decode cX12_isWon 61 = .ok (.goto 4, 3) := by decide +kernel
set_option maxRecDepth 20000 in
theorem dX12_isWon_64 : decode cX12_isWon 64 = .ok (.iconst 0, 1) := by decide +kernel
set_option maxRecDepth 20000 in
theorem dX12_isWon_65 : decode cX12_isWon 65 = .ok (.ireturn, 1) := by decide +kernel
set_option maxRecDepth 20000 in
theorem dX12_isWon_66 : decode cX12_isWon 66 = .ok (.iload_n 1, 1) := by decide +kernel
set_option maxRecDepth 20000 in
theorem dX12_isWon_67 : decode cX12_isWon 67 = .ok (.iload_n 3, 1) := by decide +kernel
set_option maxRecDepth 20000 in
theorem dX12_isWon_68 : decode cX12_isWon 68 = .ok (.iload 4, 2) := by decide +kernel
set_option maxRecDepth 20000 in
theorem dX12_isWon_70 : decode cX12_isWon 70 = .ok (.invokestatic 166, 3) := by decide +kernel
set_option maxRecDepth 20000 in
theorem dX12_isWon_73 : decode cX12_isWon 73 = .ok (.ifCond .eq 37, 3) := by decide +kernel
set_option maxRecDepth 20000 in
theorem dX12_isWon_76 : decode cX12_isWon 76 = .ok (.iload_n 3, 1) := by decide +kernel
set_option maxRecDepth 20000 in
theorem dX12_isWon_77 : decode cX12_isWon 77 = .ok (.ifCond .lt 33, 3) := by decide +kernel
set_option maxRecDepth 20000 in
theorem dX12_isWon_80 : decode cX12_isWon 80 = .ok (.iload_n 2, 1) := by decide +kernel
set_option maxRecDepth 20000 in
theorem dX12_isWon_81 : decode cX12_isWon 81 = .ok (.iconst 1, 1) := by decide +kernel
set_option maxRecDepth 20000 in
theorem dX12_isWon_82 : decode cX12_isWon 82 = .ok (.if_icmp .ne 15, 3) := by decide +kernel
set_option maxRecDepth 20000 in
theorem dX12_isWon_85 : decode cX12_isWon 85 = .ok (.iload_n 3, 1) := by decide +kernel
set_option maxRecDepth 20000 in
theorem dX12_isWon_86 : decode cX12_isWon 86 = .ok (.ifCond .eq 24, 3) := by decide +kernel
set_option maxRecDepth 20000 in
theorem dX12_isWon_89 : decode cX12_isWon 89 = .ok (.iload 4, 2) := by decide +kernel
set_option maxRecDepth 20000 in
theorem dX12_isWon_91 : decode cX12_isWon 91 = .ok (.ifCond .eq 19, 3) := by decide +kernel
set_option maxRecDepth 20000 in
theorem dX12_isWon_94 : decode cX12_isWon 94 = .ok (.goto 12, 3) := by decide +kernel
set_option maxRecDepth 20000 in
theorem dX12_isWon_97 : decode cX12_isWon 97 = .ok (.iload_n 3, 1) := by decide +kernel
set_option maxRecDepth 20000 in
theorem dX12_isWon_98 : decode cX12_isWon 98 = .ok (.ifCond .ne 8, 3) := by decide +kernel
set_option maxRecDepth 20000 in
theorem dX12_isWon_101 : decode cX12_isWon 101 = .ok (.iload 4, 2) := by decide +kernel
set_option maxRecDepth 20000 in
theorem dX12_isWon_103 : decode cX12_isWon 103 = .ok (.ifCond .eq 7, 3) := by decide +kernel
set_option maxRecDepth 20000 in
theorem dX12_isWon_106 : decode cX12_isWon 106 = .ok (.iconst 1, 1) := by decide +kernel
set_option maxRecDepth 20000 in
theorem dX12_isWon_107 : decode cX12_isWon 107 = .ok (.goto 4, 3) := by decide +kernel
set_option maxRecDepth 20000 in
theorem dX12_isWon_110 : decode cX12_isWon 110 = .ok (.iconst 0, 1) := by decide +kernel
set_option maxRecDepth 20000 in
theorem dX12_isWon_111 : decode cX12_isWon 111 = .ok (.ireturn, 1) := by decide +kernel
set_option maxRecDepth 20000 in
theorem dX12_isWon_112 : decode cX12_isWon 112 = .ok (.iload_n 1, 1) := by decide +kernel
set_option maxRecDepth 20000 in
theorem dX12_isWon_113 : decode cX12_isWon 113 = .ok (.iload_n 3, 1) := by decide +kernel
set_option maxRecDepth 20000 in
theorem dX12_isWon_114 : decode cX12_isWon 114 = .ok (.iload 4, 2) := by decide +kernel
set_option maxRecDepth 20000 in
theorem dX12_isWon_116 : decode cX12_isWon 116 = .ok (.invokestatic 166, 3) := by decide +kernel
set_option maxRecDepth 20000 in
theorem dX12_isWon_119 : decode cX12_isWon 119 = .ok (.ifCond .eq 20, 3) := by decide +kernel
set_option maxRecDepth 20000 in
theorem dX12_isWon_122 : decode cX12_isWon 122 = .ok (.iload_n 3, 1) := by decide +kernel
set_option maxRecDepth 20000 in
theorem dX12_isWon_123 : decode cX12_isWon 123 = .ok (.iconst 2, 1) := by decide +kernel
set_option maxRecDepth 20000 in
theorem dX12_isWon_124 : decode cX12_isWon 124 = .ok (.iload 4, 2) := by decide +kernel
set_option maxRecDepth 20000 in
theorem dX12_isWon_126 : decode cX12_isWon 126 = .ok (.imul, 1) := by decide +kernel
set_option maxRecDepth 20000 in
theorem dX12_isWon_127 : decode cX12_isWon 127 = .ok (.iadd, 1) := by decide +kernel
set_option maxRecDepth 20000 in
theorem dX12_isWon_128 : decode cX12_isWon 128 = .ok (.iload_n 2, 1) := by decide +kernel
set_option maxRecDepth 20000 in
theorem dX12_isWon_129 : decode cX12_isWon 129 = .ok (.iadd, 1) := by decide +kernel
set_option maxRecDepth 20000 in
theorem dX12_isWon_130 : decode cX12_isWon 130 = .ok (.iconst 3, 1) := by decide +kernel
set_option maxRecDepth 20000 in
theorem dX12_isWon_131 : decode cX12_isWon 131 = .ok (.irem, 1) := by decide +kernel
set_option maxRecDepth 20000 in
theorem dX12_isWon_132 : decode cX12_isWon 132 = .ok (.ifCond .ne 7, 3) := by decide +kernel
set_option maxRecDepth 20000 in
theorem dX12_isWon_135 : decode cX12_isWon 135 = .ok (.iconst 1, 1) := by decide +kernel
set_option maxRecDepth 20000 in
theorem dX12_isWon_136 : decode cX12_isWon 136 = .ok (.goto 4, 3) := by decide +kernel
set_option maxRecDepth 20000 in
theorem dX12_isWon_139 : decode cX12_isWon 139 = .ok (.iconst 0, 1) := by decide +kernel
set_option maxRecDepth 20000 in
theorem dX12_isWon_140 : decode cX12_isWon 140 = .ok (.ireturn, 1) := by decide +kernel
set_option maxRecDepth 20000 in
theorem dX12_isWon_141 : decode cX12_isWon 141 = .ok (.iload_n 2, 1) := by decide +kernel
set_option maxRecDepth 20000 in
theorem dX12_isWon_142 : decode cX12_isWon 142 = .ok (.iconst 1, 1) := by decide +kernel
set_option maxRecDepth 20000 in
theorem dX12_isWon_143 : decode cX12_isWon 143 = .ok (.if_icmp .ne 27, 3) := by decide +kernel
set_option maxRecDepth 20000 in
theorem dX12_isWon_146 : decode cX12_isWon 146 = .ok (.iload_n 1, 1) := by decide +kernel
set_option maxRecDepth 20000 in
theorem dX12_isWon_147 : decode cX12_isWon 147 = .ok (.iconst 2, 1) := by decide +kernel
set_option maxRecDepth 20000 in
theorem dX12_isWon_148 : decode cX12_isWon 148 = .ok (.idiv, 1) := by decide +kernel
set_option maxRecDepth 20000 in
theorem dX12_isWon_149 : decode cX12_isWon 149 = .ok (.iload_n 3, 1) := by decide +kernel
set_option maxRecDepth 20000 in
theorem dX12_isWon_150 : decode cX12_isWon 150 = .ok (.iload 4, 2) := by decide +kernel
set_option maxRecDepth 20000 in
theorem dX12_isWon_152 : decode cX12_isWon 152 = .ok (.invokestatic 166, 3) := by decide +kernel
set_option maxRecDepth 20000 in
theorem dX12_isWon_155 : decode cX12_isWon 155 = .ok (.ifCond .eq 11, 3) := by decide +kernel
set_option maxRecDepth 20000 in
theorem dX12_isWon_158 : decode cX12_isWon 158 = .ok (.iload_n 3, 1) := by decide +kernel
set_option maxRecDepth 20000 in
theorem dX12_isWon_159 : decode cX12_isWon 159 = .ok (.ifCond .ne 7, 3) := by decide +kernel
set_option maxRecDepth 20000 in
theorem dX12_isWon_162 : decode cX12_isWon 162 = .ok (.iconst 1, 1) := by decide +kernel
set_option maxRecDepth 20000 in
theorem dX12_isWon_163 : decode cX12_isWon 163 = .ok (.goto 14, 3) := by decide +kernel
set_option maxRecDepth 20000 in
theorem dX12_isWon_166 : decode cX12_isWon 166 = .ok (.iconst 0, 1) := by decide +kernel
set_option maxRecDepth 20000 in
theorem dX12_isWon_167 : decode cX12_isWon 167 = .ok (.goto 10, 3) := by decide +kernel
set_option maxRecDepth 20000 in
theorem dX12_isWon_170 : decode cX12_isWon 170 = .ok (.iload_n 1, 1) := by decide +kernel
set_option maxRecDepth 20000 in
theorem dX12_isWon_171 : decode cX12_isWon 171 = .ok (.iload_n 3, 1) := by decide +kernel
set_option maxRecDepth 20000 in
theorem dX12_isWon_172 : decode cX12_isWon 172 = .ok (.iload 4, 2) := by decide +kernel
set_option maxRecDepth 20000 in
theorem dX12_isWon_174 : decode cX12_isWon 174 = .ok (.invokestatic 166, 3) := by decide +kernel
set_option maxRecDepth 20000 in
theorem dX12_isWon_177 : decode cX12_isWon 177 = .ok (.ireturn, 1) := by decide +kernel
set_option maxRecDepth 20000 in
theorem dX12_isWon_178 : decode cX12_isWon 178 = .ok (.iload_n 1, 1) := by decide +kernel
set_option maxRecDepth 20000 in
theorem dX12_isWon_179 : decode cX12_isWon 179 = .ok (.iload_n 3, 1) := by decide +kernel
set_option maxRecDepth 20000 in
theorem dX12_isWon_180 : decode cX12_isWon 180 = .ok (.iload 4, 2) := by decide +kernel
set_option maxRecDepth 20000 in
theorem dX12_isWon_182 : decode cX12_isWon 182 = .ok (.invokestatic 166, 3) := by decide +kernel
set_option maxRecDepth 20000 in
theorem dX12_isWon_185 : decode cX12_isWon 185 = .ok (.ireturn, 1) := by decide +kernel
set_option maxRecDepth 20000 in
theorem dX12_wins_0 : decode cX12_wins 0 = .ok (.aload_n 0, 1) := by decide +kernel
set_option maxRecDepth 20000 in
theorem dX12_wins_1 : decode cX12_wins 1 = .ok (.iload_n 1, 1) := by decide +kernel
set_option maxRecDepth 20000 in
theorem dX12_wins_2 : decode cX12_wins 2 = .ok (.invokevirtual 142, 3) := by decide +kernel
set_option maxRecDepth 20000 in
theorem dX12_wins_5 : decode cX12_wins 5 = .ok (.ifCond .eq 65, 3) := by decide +kernel
set_option maxRecDepth 20000 in
theorem dX12_wins_8 : decode cX12_wins 8 = .ok (.iload_n 2, 1) := by decide +kernel
set_option maxRecDepth 20000 in
theorem dX12_wins_9 : decode cX12_wins 9 = .ok (.i2l, 1) := by decide +kernel
set_option maxRecDepth 20000 in
theorem dX12_wins_10 : decode cX12_wins 10 = .ok (.ldc2_w 170, 3) := by decide +kernel
set_option maxRecDepth 20000 in
theorem dX12_wins_13 : decode cX12_wins 13 = .ok (.ldc2_w 172, 3) := by decide +kernel
set_option maxRecDepth 20000 in
theorem dX12_wins_16 : decode cX12_wins 16 = .ok (.invokestatic 125, 3) := by decide +kernel
set_option maxRecDepth 20000 in
theorem dX12_wins_19 : decode cX12_wins 19 = .ok (.ifCond .eq 51, 3) := by decide +kernel
set_option maxRecDepth 20000 in
theorem dX12_wins_22 : decode cX12_wins 22 = .ok (.iload_n 3, 1) := by decide +kernel
set_option maxRecDepth 20000 in
theorem dX12_wins_23 : decode cX12_wins 23 = .ok (.i2l, 1) := by decide +kernel
set_option maxRecDepth 20000 in
theorem dX12_wins_24 : decode cX12_wins 24 = .ok (.ldc2_w 170, 3) := by decide +kernel
set_option maxRecDepth 20000 in
theorem dX12_wins_27 : decode cX12_wins 27 = .ok (.ldc2_w 172, 3) := by decide +kernel
set_option maxRecDepth 20000 in
theorem dX12_wins_30 : decode cX12_wins 30 = .ok (.invokestatic 125, 3) := by decide +kernel
set_option maxRecDepth 20000 in
theorem dX12_wins_33 : decode cX12_wins 33 = .ok (.ifCond .eq 37, 3) := by decide +kernel
set_option maxRecDepth 20000 in
theorem dX12_wins_36 : decode cX12_wins 36 = .ok (.aload_n 0, 1) := by decide +kernel
set_option maxRecDepth 20000 in
theorem dX12_wins_37 : decode cX12_wins 37 = .ok (.getfield 23, 3) := by decide +kernel
set_option maxRecDepth 20000 in
theorem dX12_wins_40 : decode cX12_wins 40 = .ok (.iload_n 1, 1) := by decide +kernel
set_option maxRecDepth 20000 in
theorem dX12_wins_41 : decode cX12_wins 41 = .ok (.iaload, 1) := by decide +kernel
set_option maxRecDepth 20000 in
theorem dX12_wins_42 : decode cX12_wins 42 = .ok (.aload_n 0, 1) := by decide +kernel
set_option maxRecDepth 20000 in
theorem dX12_wins_43 : decode cX12_wins 43 = .ok (.getfield 29, 3) := by decide +kernel
set_option maxRecDepth 20000 in
theorem dX12_wins_46 : decode cX12_wins 46 = .ok (.iload_n 1, 1) := by decide +kernel
set_option maxRecDepth 20000 in
theorem dX12_wins_47 : decode cX12_wins 47 = .ok (.iaload, 1) := by decide +kernel
set_option maxRecDepth 20000 in
theorem dX12_wins_48 : decode cX12_wins 48 = .ok (.aload_n 0, 1) := by decide +kernel
set_option maxRecDepth 20000 in
theorem dX12_wins_49 : decode cX12_wins 49 = .ok (.getfield 41, 3) := by decide +kernel
set_option maxRecDepth 20000 in
theorem dX12_wins_52 : decode cX12_wins 52 = .ok (.iload_n 1, 1) := by decide +kernel
set_option maxRecDepth 20000 in
theorem dX12_wins_53 : decode cX12_wins 53 = .ok (.iaload, 1) := by decide +kernel
set_option maxRecDepth 20000 in
theorem dX12_wins_54 : decode cX12_wins 54 = .ok (.iload_n 2, 1) := by decide +kernel
set_option maxRecDepth 20000 in
theorem dX12_wins_55 : decode cX12_wins 55 = .ok (.iload_n 3, 1) := by decide +kernel
set_option maxRecDepth 20000 in
theorem dX12_wins_56 : decode cX12_wins 56 = .ok (.invokestatic 174, 3) := by decide +kernel
set_option maxRecDepth 20000 in
theorem dX12_wins_59 : decode cX12_wins 59 = .ok (.ifCond .eq 7, 3) := by decide +kernel
set_option maxRecDepth 20000 in
theorem dX12_wins_62 : decode cX12_wins 62 = .ok (.iconst 1, 1) := by decide +kernel
set_option maxRecDepth 20000 in
theorem dX12_wins_63 : decode cX12_wins 63 = .ok (.goto 9, 3) := by decide +kernel
set_option maxRecDepth 20000 in
theorem dX12_wins_66 : decode cX12_wins 66 = .ok (.iconst 0, 1) := by decide +kernel
set_option maxRecDepth 20000 in
theorem dX12_wins_67 : decode cX12_wins 67 = .ok (.goto 5, 3) := by decide +kernel
set_option maxRecDepth 20000 in
theorem dX12_wins_70 : decode cX12_wins 70 = .ok (.bipush (-2), 2) := by decide +kernel
set_option maxRecDepth 20000 in
theorem dX12_wins_72 : decode cX12_wins 72 = .ok (.ireturn, 1) := by decide +kernel
set_option maxRecDepth 20000 in
theorem dX12_hand_0 : decode cX12_hand 0 = .ok (.iload_n 1, 1) := by decide +kernel
set_option maxRecDepth 20000 in
theorem dX12_hand_1 : decode cX12_hand 1 = .ok (.i2l, 1) := by decide +kernel
set_option maxRecDepth 20000 in
theorem dX12_hand_2 : decode cX12_hand 2 = .ok (.ldc2_w 178, 3) := by decide +kernel
set_option maxRecDepth 20000 in
theorem dX12_hand_5 : decode cX12_hand 5 = .ok (.ldc2_w 132, 3) := by decide +kernel
set_option maxRecDepth 20000 in
theorem dX12_hand_8 : decode cX12_hand 8 = .ok (.invokestatic 125, 3) := by decide +kernel
set_option maxRecDepth 20000 in
theorem dX12_hand_11 : decode cX12_hand 11 = .ok (.ifCond .eq 29, 3) := by decide +kernel
set_option maxRecDepth 20000 in
theorem dX12_hand_14 : decode cX12_hand 14 = .ok (.iload_n 2, 1) := by decide +kernel
set_option maxRecDepth 20000 in
theorem dX12_hand_15 : decode cX12_hand 15 = .ok (.i2l, 1) := by decide +kernel
set_option maxRecDepth 20000 in
theorem dX12_hand_16 : decode cX12_hand 16 = .ok (.ldc2_w 178, 3) := by decide +kernel
set_option maxRecDepth 20000 in
theorem dX12_hand_19 : decode cX12_hand 19 = .ok (.ldc2_w 132, 3) := by decide +kernel
set_option maxRecDepth 20000 in
theorem dX12_hand_22 : decode cX12_hand 22 = .ok (.invokestatic 125, 3) := by decide +kernel
set_option maxRecDepth 20000 in
theorem dX12_hand_25 : decode cX12_hand 25 = .ok (.ifCond .eq 15, 3) := by decide +kernel
set_option maxRecDepth 20000 in
theorem dX12_hand_28 : decode cX12_hand 28 = .ok (.iload_n 3, 1) := by decide +kernel
set_option maxRecDepth 20000 in
theorem dX12_hand_29 : decode cX12_hand 29 = .ok (.i2l, 1) := by decide +kernel
set_option maxRecDepth 20000 in
theorem dX12_hand_30 : decode cX12_hand 30 = .ok (.lconst 0, 1) := by decide +kernel
set_option maxRecDepth 20000 in
theorem dX12_hand_31 : decode cX12_hand 31 = .ok (.ldc2_w 132, 3) := by decide +kernel
set_option maxRecDepth 20000 in
theorem dX12_hand_34 : decode cX12_hand 34 = .ok (.invokestatic 125, 3) := by decide +kernel
set_option maxRecDepth 20000 in
theorem dX12_hand_37 : decode cX12_hand 37 = .ok (.ifCond .ne 6, 3) := by decide +kernel
set_option maxRecDepth 20000 in
theorem dX12_hand_40 : decode cX12_hand 40 = .ok (.bipush (-2), 2) := by decide +kernel
set_option maxRecDepth 20000 in
theorem dX12_hand_42 : decode cX12_hand 42 = .ok (.ireturn, 1) := by decide +kernel
set_option maxRecDepth 20000 in
theorem dX12_hand_43 : decode cX12_hand 43 = .ok (.aload_n 0, 1) := by decide +kernel
set_option maxRecDepth 20000 in
theorem dX12_hand_44 : decode cX12_hand 44 = .ok (.getfield 129, 3) := by decide +kernel
set_option maxRecDepth 20000 in
theorem dX12_hand_47 : decode cX12_hand 47 = .ok (.bipush 6, 2) := by decide +kernel
set_option maxRecDepth 20000 in
theorem dX12_hand_49 : decode cX12_hand 49 = .ok (.if_icmp .ne 6, 3) := by decide +kernel
set_option maxRecDepth 20000 in
theorem dX12_hand_52 : decode cX12_hand 52 = .ok (.bipush (-4), 2) := by decide +kernel
set_option maxRecDepth 20000 in
theorem dX12_hand_54 : decode cX12_hand 54 = .ok (.ireturn, 1) := by decide +kernel
set_option maxRecDepth 20000 in
theorem dX12_hand_55 : decode cX12_hand 55 = .ok (.aload_n 0, 1) := by decide +kernel
set_option maxRecDepth 20000 in
theorem dX12_hand_56 : decode cX12_hand 56 = .ok (.getfield 44, 3) := by decide +kernel
set_option maxRecDepth 20000 in
theorem dX12_hand_59 : decode cX12_hand 59 = .ok (.aload_n 0, 1) := by decide +kernel
set_option maxRecDepth 20000 in
theorem dX12_hand_60 : decode cX12_hand 60 = .ok (.getfield 129, 3) := by decide +kernel
set_option maxRecDepth 20000 in
theorem dX12_hand_63 : decode cX12_hand 63 = .ok (.iload_n 1, 1) := by decide +kernel
set_option maxRecDepth 20000 in
theorem dX12_hand_64 : decode cX12_hand 64 = .ok (.iastore, 1) := by decide +kernel
set_option maxRecDepth 20000 in
theorem dX12_hand_65 : decode cX12_hand 65 = .ok (.aload_n 0, 1) := by decide +kernel
set_option maxRecDepth 20000 in
theorem dX12_hand_66 : decode cX12_hand 66 = .ok (.getfield 47, 3) := by decide +kernel
set_option maxRecDepth 20000 in
theorem dX12_hand_69 : decode cX12_hand 69 = .ok (.aload_n 0, 1) := by decide +kernel
set_option maxRecDepth 20000 in
theorem dX12_hand_70 : decode cX12_hand 70 = .ok (.getfield 129, 3) := by decide +kernel
set_option maxRecDepth 20000 in
theorem dX12_hand_73 : decode cX12_hand 73 = .ok (.iload_n 2, 1) := by decide +kernel
set_option maxRecDepth 20000 in
theorem dX12_hand_74 : decode cX12_hand 74 = .ok (.iastore, 1) := by decide +kernel
set_option maxRecDepth 20000 in
theorem dX12_hand_75 : decode cX12_hand 75 = .ok (.aload_n 0, 1) := by decide +kernel
set_option maxRecDepth 20000 in
theorem dX12_hand_76 : decode cX12_hand 76 = .ok (.getfield 50, 3) := by decide +kernel
set_option maxRecDepth 20000 in
theorem dX12_hand_79 : decode cX12_hand 79 = .ok (.aload_n 0, 1) := by decide +kernel
set_option maxRecDepth 20000 in
theorem dX12_hand_80 : decode cX12_hand 80 = .ok (.getfield 129, 3) := by decide +kernel
set_option maxRecDepth 20000 in
theorem dX12_hand_83 : decode cX12_hand 83 = .ok (.iload_n 3, 1) := by decide +kernel
set_option maxRecDepth 20000 in
theorem dX12_hand_84 : decode cX12_hand 84 = .ok (.iastore, 1) := by decide +kernel
set_option maxRecDepth 20000 in
theorem dX12_hand_85 : decode cX12_hand 85 = .ok (.aload_n 0, 1) := by decide +kernel
set_option maxRecDepth 20000 in
theorem dX12_hand_86 : decode cX12_hand 86 = .ok (.dup, 1) := by decide +kernel
set_option maxRecDepth 20000 in
theorem dX12_hand_87 : decode cX12_hand 87 = .ok (.getfield 129, 3) := by decide +kernel
set_option maxRecDepth 20000 in
theorem dX12_hand_90 : decode cX12_hand 90 = .ok (.iconst 1, 1) := by decide +kernel
set_option maxRecDepth 20000 in
theorem dX12_hand_91 : decode cX12_hand 91 = .ok (.iadd, 1) := by decide +kernel
set_option maxRecDepth 20000 in
theorem dX12_hand_92 : decode cX12_hand 92 = .ok (.putfield 129, 3) := by decide +kernel
set_option maxRecDepth 20000 in
theorem dX12_hand_95 : decode cX12_hand 95 = .ok (.aload_n 0, 1) := by decide +kernel
set_option maxRecDepth 20000 in
theorem dX12_hand_96 : decode cX12_hand 96 = .ok (.getfield 129, 3) := by decide +kernel
set_option maxRecDepth 20000 in
theorem dX12_hand_99 : decode cX12_hand 99 = .ok (.iconst 1, 1) := by decide +kernel
set_option maxRecDepth 20000 in
theorem dX12_hand_100 : decode cX12_hand 100 = .ok (.isub, 1) := by decide +kernel
set_option maxRecDepth 20000 in
theorem dX12_hand_101 : decode cX12_hand 101 = .ok (.ireturn, 1) := by decide +kernel
set_option maxRecDepth 20000 in
theorem dX12_allOf_0 : decode cX12_allOf 0 = .ok (.iconst 2, 1) := by decide +kernel
set_option maxRecDepth 20000 in
theorem dX12_allOf_1 : decode cX12_allOf 1 = .ok (.aload_n 0, 1) := by decide +kernel
set_option maxRecDepth 20000 in
theorem dX12_allOf_2 : decode cX12_allOf 2 = .ok (.getfield 50, 3) := by decide +kernel
set_option maxRecDepth 20000 in
theorem dX12_allOf_5 : decode cX12_allOf 5 = .ok (.iload_n 1, 1) := by decide +kernel
set_option maxRecDepth 20000 in
theorem dX12_allOf_6 : decode cX12_allOf 6 = .ok (.iaload, 1) := by decide +kernel
set_option maxRecDepth 20000 in
theorem dX12_allOf_7 : decode cX12_allOf 7 = .ok (.imul, 1) := by decide +kernel
set_option maxRecDepth 20000 in
theorem dX12_allOf_8 : decode cX12_allOf 8 = .ok (.iconst 1, 1) := by decide +kernel
set_option maxRecDepth 20000 in
theorem dX12_allOf_9 : decode cX12_allOf 9 = .ok (.iadd, 1) := by decide +kernel
set_option maxRecDepth 20000 in
theorem dX12_allOf_10 : decode cX12_allOf 10 = .ok (.iconst 2, 1) := by decide +kernel
set_option maxRecDepth 20000 in
theorem dX12_allOf_11 : decode cX12_allOf 11 = .ok (.aload_n 0, 1) := by decide +kernel
set_option maxRecDepth 20000 in
theorem dX12_allOf_12 : decode cX12_allOf 12 = .ok (.getfield 50, 3) := by decide +kernel
set_option maxRecDepth 20000 in
theorem dX12_allOf_15 : decode cX12_allOf 15 = .ok (.iload_n 1, 1) := by decide +kernel
set_option maxRecDepth 20000 in
theorem dX12_allOf_16 : decode cX12_allOf 16 = .ok (.iaload, 1) := by decide +kernel
set_option maxRecDepth 20000 in
theorem dX12_allOf_17 : decode cX12_allOf 17 = .ok (.imul, 1) := by decide +kernel
set_option maxRecDepth 20000 in
theorem dX12_allOf_18 : decode cX12_allOf 18 = .ok (.iconst 1, 1) := by decide +kernel
set_option maxRecDepth 20000 in
theorem dX12_allOf_19 : decode cX12_allOf 19 = .ok (.iadd, 1) := by decide +kernel
set_option maxRecDepth 20000 in
theorem dX12_allOf_20 : decode cX12_allOf 20 = .ok (.imul, 1) := by decide +kernel
set_option maxRecDepth 20000 in
theorem dX12_allOf_21 : decode cX12_allOf 21 = .ok (.ireturn, 1) := by decide +kernel
set_option maxRecDepth 20000 in
theorem dX12_winsOf_0 : decode cX12_winsOf 0 = .ok (.iload 6, 2) := by decide +kernel
set_option maxRecDepth 20000 in
theorem dX12_winsOf_2 : decode cX12_winsOf 2 = .ok (.bipush 100, 2) := by decide +kernel
set_option maxRecDepth 20000 in
theorem dX12_winsOf_4 : decode cX12_winsOf 4 = .ok (.idiv, 1) := by decide +kernel
set_option maxRecDepth 20000 in
theorem dX12_winsOf_5 : decode cX12_winsOf 5 = .ok (.aload_n 0, 1) := by decide +kernel
set_option maxRecDepth 20000 in
theorem dX12_winsOf_6 : decode cX12_winsOf 6 = .ok (.getfield 44, 3) := by decide +kernel
set_option maxRecDepth 20000 in
theorem dX12_winsOf_9 : decode cX12_winsOf 9 = .ok (.iload 5, 2) := by decide +kernel
set_option maxRecDepth 20000 in
theorem dX12_winsOf_11 : decode cX12_winsOf 11 = .ok (.iaload, 1) := by decide +kernel
set_option maxRecDepth 20000 in
theorem dX12_winsOf_12 : decode cX12_winsOf 12 = .ok (.iadd, 1) := by decide +kernel
set_option maxRecDepth 20000 in
theorem dX12_winsOf_13 : decode cX12_winsOf 13 = .ok (.iload_n 2, 1) := by decide +kernel
set_option maxRecDepth 20000 in
theorem dX12_winsOf_14 : decode cX12_winsOf 14 = .ok (.bipush 100, 2) := by decide +kernel
set_option maxRecDepth 20000 in
theorem dX12_winsOf_16 : decode cX12_winsOf 16 = .ok (.idiv, 1) := by decide +kernel
set_option maxRecDepth 20000 in
theorem dX12_winsOf_17 : decode cX12_winsOf 17 = .ok (.isub, 1) := by decide +kernel
set_option maxRecDepth 20000 in
theorem dX12_winsOf_18 : decode cX12_winsOf 18 = .ok (.istore 7, 2) := by decide +kernel
set_option maxRecDepth 20000 in
theorem dX12_winsOf_20 : decode cX12_winsOf 20 = .ok (.iload 6, 2) := by decide +kernel
set_option maxRecDepth 20000 in
theorem dX12_winsOf_22 : decode cX12_winsOf 22 = .ok (.bipush 100, 2) := by decide +kernel
set_option maxRecDepth 20000 in
theorem dX12_winsOf_24 : decode cX12_winsOf 24 = .ok (.irem, 1) := by decide +kernel
set_option maxRecDepth 20000 in
theorem dX12_winsOf_25 : decode cX12_winsOf 25 = .ok (.aload_n 0, 1) := by decide +kernel
set_option maxRecDepth 20000 in
theorem dX12_winsOf_26 : decode cX12_winsOf 26 = .ok (.getfield 47, 3) := by decide +kernel
set_option maxRecDepth 20000 in
theorem dX12_winsOf_29 : decode cX12_winsOf 29 = .ok (.iload 5, 2) := by decide +kernel
set_option maxRecDepth 20000 in
theorem dX12_winsOf_31 : decode cX12_winsOf 31 = .ok (.iaload, 1) := by decide +kernel
set_option maxRecDepth 20000 in
theorem dX12_winsOf_32 : decode cX12_winsOf 32 = .ok (.iadd, 1) := by decide +kernel
set_option maxRecDepth 20000 in
theorem dX12_winsOf_33 : decode cX12_winsOf 33 = .ok (.iload_n 2, 1) := by decide +kernel
set_option maxRecDepth 20000 in
theorem dX12_winsOf_34 : decode cX12_winsOf 34 = .ok (.bipush 100, 2) := by decide +kernel
set_option maxRecDepth 20000 in
theorem dX12_winsOf_36 : decode cX12_winsOf 36 = .ok (.irem, 1) := by decide +kernel
set_option maxRecDepth 20000 in
theorem dX12_winsOf_37 : decode cX12_winsOf 37 = .ok (.isub, 1) := by decide +kernel
set_option maxRecDepth 20000 in
theorem dX12_winsOf_38 : decode cX12_winsOf 38 = .ok (.istore 8, 2) := by decide +kernel
set_option maxRecDepth 20000 in
theorem dX12_winsOf_40 : decode cX12_winsOf 40 = .ok (.aload_n 0, 1) := by decide +kernel
set_option maxRecDepth 20000 in
theorem dX12_winsOf_41 : decode cX12_winsOf 41 = .ok (.getfield 50, 3) := by decide +kernel
set_option maxRecDepth 20000 in
theorem dX12_winsOf_44 : decode cX12_winsOf 44 = .ok (.iload 5, 2) := by decide +kernel
set_option maxRecDepth 20000 in
theorem dX12_winsOf_46 : decode cX12_winsOf 46 = .ok (.iaload, 1) := by decide +kernel
set_option maxRecDepth 20000 in
theorem dX12_winsOf_47 : decode cX12_winsOf 47 = .ok (.istore 9, 2) := by decide +kernel
set_option maxRecDepth 20000 in
theorem dX12_winsOf_49 : decode cX12_winsOf 49 = .ok (.iconst 0, 1) := by decide +kernel
set_option maxRecDepth 20000 in
theorem dX12_winsOf_50 : decode cX12_winsOf 50 = .ok (.istore 10, 2) := by decide +kernel
set_option maxRecDepth 20000 in
theorem dX12_winsOf_52 : decode cX12_winsOf 52 = .ok (.iload 9, 2) := by decide +kernel
set_option maxRecDepth 20000 in
theorem dX12_winsOf_54 : decode cX12_winsOf 54 = .ok (.ineg, 1) := by decide +kernel
set_option maxRecDepth 20000 in
theorem dX12_winsOf_55 : decode cX12_winsOf 55 = .ok (.istore 11, 2) := by decide +kernel
set_option maxRecDepth 20000 in
theorem dX12_winsOf_57 : decode cX12_winsOf 57 = .ok (.iload 11, 2) := by decide +kernel
set_option maxRecDepth 20000 in
theorem dX12_winsOf_59 : decode cX12_winsOf 59 = .ok (.iload 9, 2) := by decide +kernel
set_option maxRecDepth 20000 in
theorem dX12_winsOf_61 : decode cX12_winsOf 61 = .ok (.if_icmp .gt 57, 3) := by decide +kernel
set_option maxRecDepth 20000 in
theorem dX12_winsOf_64 : decode cX12_winsOf 64 = .ok (.iload 9, 2) := by decide +kernel
set_option maxRecDepth 20000 in
theorem dX12_winsOf_66 : decode cX12_winsOf 66 = .ok (.ineg, 1) := by decide +kernel
set_option maxRecDepth 20000 in
theorem dX12_winsOf_67 : decode cX12_winsOf 67 = .ok (.istore 12, 2) := by decide +kernel
set_option maxRecDepth 20000 in
theorem dX12_winsOf_69 : decode cX12_winsOf 69 = .ok (.iload 12, 2) := by decide +kernel
set_option maxRecDepth 20000 in
theorem dX12_winsOf_71 : decode cX12_winsOf 71 = .ok (.iload 9, 2) := by decide +kernel
set_option maxRecDepth 20000 in
theorem dX12_winsOf_73 : decode cX12_winsOf 73 = .ok (.if_icmp .gt 39, 3) := by decide +kernel
set_option maxRecDepth 20000 in
theorem dX12_winsOf_76 : decode cX12_winsOf 76 = .ok (.iload 10, 2) := by decide +kernel
set_option maxRecDepth 20000 in
theorem dX12_winsOf_78 : decode cX12_winsOf 78 = .ok (.iload_n 1, 1) := by decide +kernel
set_option maxRecDepth 20000 in
theorem dX12_winsOf_79 : decode cX12_winsOf 79 = .ok (.iload_n 3, 1) := by decide +kernel
set_option maxRecDepth 20000 in
theorem dX12_winsOf_80 : decode cX12_winsOf 80 = .ok (.iload 4, 2) := by decide +kernel
set_option maxRecDepth 20000 in
theorem dX12_winsOf_82 : decode cX12_winsOf 82 = .ok (.iload 7, 2) := by decide +kernel
set_option maxRecDepth 20000 in
theorem dX12_winsOf_84 : decode cX12_winsOf 84 = .ok (.iload 11, 2) := by decide +kernel
set_option maxRecDepth 20000 in
theorem dX12_winsOf_86 : decode cX12_winsOf 86 = .ok (.iadd, 1) := by decide +kernel
set_option maxRecDepth 20000 in
theorem dX12_winsOf_87 : decode cX12_winsOf 87 = .ok (.iload 8, 2) := by decide +kernel
set_option maxRecDepth 20000 in
theorem dX12_winsOf_89 : decode cX12_winsOf 89 = .ok (.iload 12, 2) := by decide +kernel
set_option maxRecDepth 20000 in
theorem dX12_winsOf_91 : decode cX12_winsOf 91 = .ok (.iadd, 1) := by decide +kernel
set_option maxRecDepth 20000 in
theorem dX12_winsOf_92 : decode cX12_winsOf 92 = .ok (.invokestatic 174, 3) := by decide +kernel
set_option maxRecDepth 20000 in
theorem dX12_winsOf_95 : decode cX12_winsOf 95 = .ok (.ifCond .eq 7, 3) := by decide +kernel
set_option maxRecDepth 20000 in
theorem dX12_winsOf_98 : decode cX12_winsOf 98 = .ok (.iconst 1, 1) := by decide +kernel
set_option maxRecDepth 20000 in
theorem dX12_winsOf_99 : decode cX12_winsOf 99 = .ok (.goto 4, 3) := by decide +kernel
set_option maxRecDepth 20000 in
theorem dX12_winsOf_102 : decode cX12_winsOf 102 = .ok (.iconst 0, 1) := by decide +kernel
set_option maxRecDepth 20000 in
theorem dX12_winsOf_103 : decode cX12_winsOf 103 = .ok (.iadd, 1) := by decide +kernel
set_option maxRecDepth 20000 in
theorem dX12_winsOf_104 : decode cX12_winsOf 104 = .ok (.istore 10, 2) := by decide +kernel
set_option maxRecDepth 20000 in
theorem dX12_winsOf_106 : decode cX12_winsOf 106 = .ok (.iinc 12 1, 3) := by decide +kernel
set_option maxRecDepth 20000 in
theorem dX12_winsOf_109 : decode cX12_winsOf 109 = .ok (.goto (-40), 3) := by decide +kernel
set_option maxRecDepth 20000 in
theorem dX12_winsOf_112 : decode cX12_winsOf 112 = .ok (.iinc 11 1, 3) := by decide +kernel
set_option maxRecDepth 20000 in
theorem dX12_winsOf_115 : decode cX12_winsOf 115 = .ok (.goto (-58), 3) := by decide +kernel
set_option maxRecDepth 20000 in
theorem dX12_winsOf_118 : decode cX12_winsOf 118 = .ok (.iload 10, 2) := by decide +kernel
set_option maxRecDepth 20000 in
theorem dX12_winsOf_120 : decode cX12_winsOf 120 = .ok (.ireturn, 1) := by decide +kernel
set_option maxRecDepth 20000 in
theorem dX12_winsAt_0 : decode cX12_winsAt 0 = .ok (.aload_n 0, 1) := by decide +kernel
set_option maxRecDepth 20000 in
theorem dX12_winsAt_1 : decode cX12_winsAt 1 = .ok (.aload_n 0, 1) := by decide +kernel
set_option maxRecDepth 20000 in
theorem dX12_winsAt_2 : decode cX12_winsAt 2 = .ok (.getfield 23, 3) := by decide +kernel
set_option maxRecDepth 20000 in
theorem dX12_winsAt_5 : decode cX12_winsAt 5 = .ok (.iload_n 1, 1) := by decide +kernel
set_option maxRecDepth 20000 in
theorem dX12_winsAt_6 : decode cX12_winsAt 6 = .ok (.iaload, 1) := by decide +kernel
set_option maxRecDepth 20000 in
theorem dX12_winsAt_7 : decode cX12_winsAt 7 = .ok (.aload_n 0, 1) := by decide +kernel
set_option maxRecDepth 20000 in
theorem dX12_winsAt_8 : decode cX12_winsAt 8 = .ok (.getfield 26, 3) := by decide +kernel
set_option maxRecDepth 20000 in
theorem dX12_winsAt_11 : decode cX12_winsAt 11 = .ok (.iload_n 1, 1) := by decide +kernel
set_option maxRecDepth 20000 in
theorem dX12_winsAt_12 : decode cX12_winsAt 12 = .ok (.iaload, 1) := by decide +kernel
set_option maxRecDepth 20000 in
theorem dX12_winsAt_13 : decode cX12_winsAt 13 = .ok (.aload_n 0, 1) := by decide +kernel
set_option maxRecDepth 20000 in
theorem dX12_winsAt_14 : decode cX12_winsAt 14 = .ok (.getfield 29, 3) := by decide +kernel
set_option maxRecDepth 20000 in
theorem dX12_winsAt_17 : decode cX12_winsAt 17 = .ok (.iload_n 1, 1) := by decide +kernel
set_option maxRecDepth 20000 in
theorem dX12_winsAt_18 : decode cX12_winsAt 18 = .ok (.iaload, 1) := by decide +kernel
set_option maxRecDepth 20000 in
theorem dX12_winsAt_19 : decode cX12_winsAt 19 = .ok (.aload_n 0, 1) := by decide +kernel
set_option maxRecDepth 20000 in
theorem dX12_winsAt_20 : decode cX12_winsAt 20 = .ok (.getfield 41, 3) := by decide +kernel
set_option maxRecDepth 20000 in
theorem dX12_winsAt_23 : decode cX12_winsAt 23 = .ok (.iload_n 1, 1) := by decide +kernel
set_option maxRecDepth 20000 in
theorem dX12_winsAt_24 : decode cX12_winsAt 24 = .ok (.iaload, 1) := by decide +kernel
set_option maxRecDepth 20000 in
theorem dX12_winsAt_25 : decode cX12_winsAt 25 = .ok (.iload_n 2, 1) := by decide +kernel
set_option maxRecDepth 20000 in
theorem dX12_winsAt_26 : decode cX12_winsAt 26 = .ok (.iload_n 3, 1) := by decide +kernel
set_option maxRecDepth 20000 in
theorem dX12_winsAt_27 : decode cX12_winsAt 27 = .ok (.invokevirtual 180, 3) := by decide +kernel
set_option maxRecDepth 20000 in
theorem dX12_winsAt_30 : decode cX12_winsAt 30 = .ok (.ireturn, 1) := by decide +kernel
set_option maxRecDepth 20000 in
theorem dX12_common_0 : decode cX12_common 0 = .ok (.lload_n 0, 1) := by decide +kernel
set_option maxRecDepth 20000 in
theorem dX12_common_1 : decode cX12_common 1 = .ok (.lconst 0, 1) := by decide +kernel
set_option maxRecDepth 20000 in
theorem dX12_common_2 : decode cX12_common 2 = .ok (.lcmp, 1) := by decide +kernel
set_option maxRecDepth 20000 in
theorem dX12_common_3 : decode cX12_common 3 = .ok (.ifCond .ge 8, 3) := by decide +kernel
set_option maxRecDepth 20000 in
theorem dX12_common_6 : decode cX12_common 6 = .ok (.lload_n 0, 1) := by decide +kernel
set_option maxRecDepth 20000 in
theorem dX12_common_7 : decode cX12_common 7 = .ok (.lneg, 1) := by decide +kernel
set_option maxRecDepth 20000 in
theorem dX12_common_8 : decode cX12_common 8 = .ok (.goto 4, 3) := by decide +kernel
set_option maxRecDepth 20000 in
theorem dX12_common_11 : decode cX12_common 11 = .ok (.lload_n 0, 1) := by decide +kernel
set_option maxRecDepth 20000 in
theorem dX12_common_12 : decode cX12_common 12 = .ok (.lstore 4, 2) := by decide +kernel
set_option maxRecDepth 20000 in
theorem dX12_common_14 : decode cX12_common 14 = .ok (.lload_n 2, 1) := by decide +kernel
set_option maxRecDepth 20000 in
theorem dX12_common_15 : decode cX12_common 15 = .ok (.lstore 6, 2) := by decide +kernel
set_option maxRecDepth 20000 in
theorem dX12_common_17 : decode cX12_common 17 = .ok (.lload 6, 2) := by decide +kernel
set_option maxRecDepth 20000 in
theorem dX12_common_19 : decode cX12_common 19 = .ok (.lconst 0, 1) := by decide +kernel
set_option maxRecDepth 20000 in
theorem dX12_common_20 : decode cX12_common 20 = .ok (.lcmp, 1) := by decide +kernel
set_option maxRecDepth 20000 in
theorem dX12_common_21 : decode cX12_common 21 = .ok (.ifCond .eq 21, 3) := by decide +kernel
set_option maxRecDepth 20000 in
theorem dX12_common_24 : decode cX12_common 24 = .ok (.lload 4, 2) := by decide +kernel
set_option maxRecDepth 20000 in
theorem dX12_common_26 : decode cX12_common 26 = .ok (.lload 6, 2) := by decide +kernel
set_option maxRecDepth 20000 in
theorem dX12_common_28 : decode cX12_common 28 = .ok (.lrem, 1) := by decide +kernel
set_option maxRecDepth 20000 in
theorem dX12_common_29 : decode cX12_common 29 = .ok (.lstore 8, 2) := by decide +kernel
set_option maxRecDepth 20000 in
theorem dX12_common_31 : decode cX12_common 31 = .ok (.lload 6, 2) := by decide +kernel
set_option maxRecDepth 20000 in
theorem dX12_common_33 : decode cX12_common 33 = .ok (.lstore 4, 2) := by decide +kernel
set_option maxRecDepth 20000 in
theorem dX12_common_35 : decode cX12_common 35 = .ok (.lload 8, 2) := by decide +kernel
set_option maxRecDepth 20000 in
theorem dX12_common_37 : decode cX12_common 37 = .ok (.lstore 6, 2) := by decide +kernel
set_option maxRecDepth 20000 in
theorem dX12_common_39 : decode cX12_common 39 = .ok (.goto (-22), 3) := by decide +kernel
set_option maxRecDepth 20000 in
theorem dX12_common_42 : decode cX12_common 42 = .ok (.lload 4, 2) := by decide +kernel
set_option maxRecDepth 20000 in
theorem dX12_common_44 : decode cX12_common 44 = .ok (.lreturn, 1) := by decide +kernel
set_option maxRecDepth 20000 in
theorem dX12_lowest_0 : decode cX12_lowest 0 = .ok (.iload 4, 2) := by decide +kernel
set_option maxRecDepth 20000 in
theorem dX12_lowest_2 : decode cX12_lowest 2 = .ok (.ifCond .ne 7, 3) := by decide +kernel
set_option maxRecDepth 20000 in
theorem dX12_lowest_5 : decode cX12_lowest 5 = .ok (.lload_n 0, 1) := by decide +kernel
set_option maxRecDepth 20000 in
theorem dX12_lowest_6 : decode cX12_lowest 6 = .ok (.goto 4, 3) := by decide +kernel
set_option maxRecDepth 20000 in
theorem dX12_lowest_9 : decode cX12_lowest 9 = .ok (.lload_n 2, 1) := by decide +kernel
set_option maxRecDepth 20000 in
theorem dX12_lowest_10 : decode cX12_lowest 10 = .ok (.lload_n 0, 1) := by decide +kernel
set_option maxRecDepth 20000 in
theorem dX12_lowest_11 : decode cX12_lowest 11 = .ok (.lload_n 2, 1) := by decide +kernel
set_option maxRecDepth 20000 in
theorem dX12_lowest_12 : decode cX12_lowest 12 = .ok (.invokestatic 183, 3) := by decide +kernel
set_option maxRecDepth 20000 in
theorem dX12_lowest_15 : decode cX12_lowest 15 = .ok (.ldiv, 1) := by decide +kernel
set_option maxRecDepth 20000 in
theorem dX12_lowest_16 : decode cX12_lowest 16 = .ok (.lreturn, 1) := by decide +kernel
set_option maxRecDepth 20000 in
theorem dX12_isPart_0 : decode cX12_isPart 0 = .ok (.iload_n 0, 1) := by decide +kernel
set_option maxRecDepth 20000 in
theorem dX12_isPart_1 : decode cX12_isPart 1 = .ok (.i2l, 1) := by decide +kernel
set_option maxRecDepth 20000 in
theorem dX12_isPart_2 : decode cX12_isPart 2 = .ok (.lconst 0, 1) := by decide +kernel
set_option maxRecDepth 20000 in
theorem dX12_isPart_3 : decode cX12_isPart 3 = .ok (.lconst 1, 1) := by decide +kernel
set_option maxRecDepth 20000 in
theorem dX12_isPart_4 : decode cX12_isPart 4 = .ok (.invokestatic 125, 3) := by decide +kernel
set_option maxRecDepth 20000 in
theorem dX12_isPart_7 : decode cX12_isPart 7 = .ok (.ireturn, 1) := by decide +kernel
set_option maxRecDepth 20000 in
theorem dX12_odds_0 : decode cX12_odds 0 = .ok (.aload_n 0, 1) := by decide +kernel
set_option maxRecDepth 20000 in
theorem dX12_odds_1 : decode cX12_odds 1 = .ok (.iload_n 1, 1) := by decide +kernel
set_option maxRecDepth 20000 in
theorem dX12_odds_2 : decode cX12_odds 2 = .ok (.invokevirtual 142, 3) := by decide +kernel
set_option maxRecDepth 20000 in
theorem dX12_odds_5 : decode cX12_odds 5 = .ok (.ifCond .eq 48, 3) := by decide +kernel
set_option maxRecDepth 20000 in
theorem dX12_odds_8 : decode cX12_odds 8 = .ok (.aload_n 0, 1) := by decide +kernel
set_option maxRecDepth 20000 in
theorem dX12_odds_9 : decode cX12_odds 9 = .ok (.iload_n 2, 1) := by decide +kernel
set_option maxRecDepth 20000 in
theorem dX12_odds_10 : decode cX12_odds 10 = .ok (.invokevirtual 187, 3) := by decide +kernel
set_option maxRecDepth 20000 in
theorem dX12_odds_13 : decode cX12_odds 13 = .ok (.ifCond .eq 40, 3) := by decide +kernel
set_option maxRecDepth 20000 in
theorem dX12_odds_16 : decode cX12_odds 16 = .ok (.iload_n 3, 1) := by decide +kernel
set_option maxRecDepth 20000 in
theorem dX12_odds_17 : decode cX12_odds 17 = .ok (.invokestatic 134, 3) := by decide +kernel
set_option maxRecDepth 20000 in
theorem dX12_odds_20 : decode cX12_odds 20 = .ok (.ifCond .eq 33, 3) := by decide +kernel
set_option maxRecDepth 20000 in
theorem dX12_odds_23 : decode cX12_odds 23 = .ok (.iload 4, 2) := by decide +kernel
set_option maxRecDepth 20000 in
theorem dX12_odds_25 : decode cX12_odds 25 = .ok (.invokestatic 190, 3) := by decide +kernel
set_option maxRecDepth 20000 in
theorem dX12_odds_28 : decode cX12_odds 28 = .ok (.ifCond .eq 25, 3) := by decide +kernel
set_option maxRecDepth 20000 in
theorem dX12_odds_31 : decode cX12_odds 31 = .ok (.aload_n 0, 1) := by decide +kernel
set_option maxRecDepth 20000 in
theorem dX12_odds_32 : decode cX12_odds 32 = .ok (.iload_n 1, 1) := by decide +kernel
set_option maxRecDepth 20000 in
theorem dX12_odds_33 : decode cX12_odds 33 = .ok (.iload_n 2, 1) := by decide +kernel
set_option maxRecDepth 20000 in
theorem dX12_odds_34 : decode cX12_odds 34 = .ok (.iload_n 3, 1) := by decide +kernel
set_option maxRecDepth 20000 in
theorem dX12_odds_35 : decode cX12_odds 35 = .ok (.invokevirtual 193, 3) := by decide +kernel
set_option maxRecDepth 20000 in
theorem dX12_odds_38 : decode cX12_odds 38 = .ok (.i2l, 1) := by decide +kernel
set_option maxRecDepth 20000 in
theorem dX12_odds_39 : decode cX12_odds 39 = .ok (.aload_n 0, 1) := by decide +kernel
set_option maxRecDepth 20000 in
theorem dX12_odds_40 : decode cX12_odds 40 = .ok (.iload_n 2, 1) := by decide +kernel
set_option maxRecDepth 20000 in
theorem dX12_odds_41 : decode cX12_odds 41 = .ok (.invokevirtual 197, 3) := by decide +kernel
set_option maxRecDepth 20000 in
theorem dX12_odds_44 : decode cX12_odds 44 = .ok (.i2l, 1) := by decide +kernel
set_option maxRecDepth 20000 in
theorem dX12_odds_45 : decode cX12_odds 45 = .ok (.iload 4, 2) := by decide +kernel
set_option maxRecDepth 20000 in
theorem dX12_odds_47 : decode cX12_odds 47 = .ok (.invokestatic 200, 3) := by decide +kernel
set_option maxRecDepth 20000 in
theorem dX12_odds_50 : decode cX12_odds 50 = .ok (.goto 6, 3) := by decide +kernel
set_option maxRecDepth 20000 in
theorem dX12_odds_53 : decode cX12_odds 53 = .ok (.ldc2_w 204, 3) := by decide +kernel
set_option maxRecDepth 20000 in
theorem dX12_odds_56 : decode cX12_odds 56 = .ok (.lreturn, 1) := by decide +kernel
set_option maxRecDepth 20000 in
theorem dX12_bestOf_0 : decode cX12_bestOf 0 = .ok (.iconst (-1), 1) := by decide +kernel
set_option maxRecDepth 20000 in
theorem dX12_bestOf_1 : decode cX12_bestOf 1 = .ok (.istore 6, 2) := by decide +kernel
set_option maxRecDepth 20000 in
theorem dX12_bestOf_3 : decode cX12_bestOf 3 = .ok (.iconst 0, 1) := by decide +kernel
set_option maxRecDepth 20000 in
theorem dX12_bestOf_4 : decode cX12_bestOf 4 = .ok (.istore 7, 2) := by decide +kernel
set_option maxRecDepth 20000 in
theorem dX12_bestOf_6 : decode cX12_bestOf 6 = .ok (.iload 7, 2) := by decide +kernel
set_option maxRecDepth 20000 in
theorem dX12_bestOf_8 : decode cX12_bestOf 8 = .ok (.bipush 20, 2) := by decide +kernel
set_option maxRecDepth 20000 in
theorem dX12_bestOf_10 : decode cX12_bestOf 10 = .ok (.if_icmp .ge 72, 3) := by decide +kernel
set_option maxRecDepth 20000 in
theorem dX12_bestOf_13 : decode cX12_bestOf 13 = .ok (.iconst 0, 1) := by decide +kernel
set_option maxRecDepth 20000 in
theorem dX12_bestOf_14 : decode cX12_bestOf 14 = .ok (.istore 8, 2) := by decide +kernel
set_option maxRecDepth 20000 in
theorem dX12_bestOf_16 : decode cX12_bestOf 16 = .ok (.iload 8, 2) := by decide +kernel
set_option maxRecDepth 20000 in
theorem dX12_bestOf_18 : decode cX12_bestOf 18 = .ok (.bipush 20, 2) := by decide +kernel
set_option maxRecDepth 20000 in
theorem dX12_bestOf_20 : decode cX12_bestOf 20 = .ok (.if_icmp .ge 56, 3) := by decide +kernel
set_option maxRecDepth 20000 in
theorem dX12_bestOf_23 : decode cX12_bestOf 23 = .ok (.aload_n 0, 1) := by decide +kernel
set_option maxRecDepth 20000 in
theorem dX12_bestOf_24 : decode cX12_bestOf 24 = .ok (.iload_n 1, 1) := by decide +kernel
set_option maxRecDepth 20000 in
theorem dX12_bestOf_25 : decode cX12_bestOf 25 = .ok (.iload_n 2, 1) := by decide +kernel
set_option maxRecDepth 20000 in
theorem dX12_bestOf_26 : decode cX12_bestOf 26 = .ok (.iload_n 3, 1) := by decide +kernel
set_option maxRecDepth 20000 in
theorem dX12_bestOf_27 : decode cX12_bestOf 27 = .ok (.iload 4, 2) := by decide +kernel
set_option maxRecDepth 20000 in
theorem dX12_bestOf_29 : decode cX12_bestOf 29 = .ok (.iload 5, 2) := by decide +kernel
set_option maxRecDepth 20000 in
theorem dX12_bestOf_31 : decode cX12_bestOf 31 = .ok (.bipush 100, 2) := by decide +kernel
set_option maxRecDepth 20000 in
theorem dX12_bestOf_33 : decode cX12_bestOf 33 = .ok (.iload 8, 2) := by decide +kernel
set_option maxRecDepth 20000 in
theorem dX12_bestOf_35 : decode cX12_bestOf 35 = .ok (.imul, 1) := by decide +kernel
set_option maxRecDepth 20000 in
theorem dX12_bestOf_36 : decode cX12_bestOf 36 = .ok (.iload 7, 2) := by decide +kernel
set_option maxRecDepth 20000 in
theorem dX12_bestOf_38 : decode cX12_bestOf 38 = .ok (.iadd, 1) := by decide +kernel
set_option maxRecDepth 20000 in
theorem dX12_bestOf_39 : decode cX12_bestOf 39 = .ok (.invokevirtual 180, 3) := by decide +kernel
set_option maxRecDepth 20000 in
theorem dX12_bestOf_42 : decode cX12_bestOf 42 = .ok (.istore 9, 2) := by decide +kernel
set_option maxRecDepth 20000 in
theorem dX12_bestOf_44 : decode cX12_bestOf 44 = .ok (.iload 9, 2) := by decide +kernel
set_option maxRecDepth 20000 in
theorem dX12_bestOf_46 : decode cX12_bestOf 46 = .ok (.iload 6, 2) := by decide +kernel
set_option maxRecDepth 20000 in
theorem dX12_bestOf_48 : decode cX12_bestOf 48 = .ok (.if_icmp .gt 6, 3) := by decide +kernel
set_option maxRecDepth 20000 in
theorem dX12_bestOf_51 : decode cX12_bestOf 51 = .ok (.goto 19, 3) := by decide +kernel
set_option maxRecDepth 20000 in
theorem dX12_bestOf_54 : decode cX12_bestOf 54 = .ok (.iload 9, 2) := by decide +kernel
set_option maxRecDepth 20000 in
theorem dX12_bestOf_56 : decode cX12_bestOf 56 = .ok (.istore 6, 2) := by decide +kernel
set_option maxRecDepth 20000 in
theorem dX12_bestOf_58 : decode cX12_bestOf 58 = .ok (.aload_n 0, 1) := by decide +kernel
set_option maxRecDepth 20000 in
theorem dX12_bestOf_59 : decode cX12_bestOf 59 = .ok (.bipush 100, 2) := by decide +kernel
set_option maxRecDepth 20000 in
theorem dX12_bestOf_61 : decode cX12_bestOf 61 = .ok (.iload 8, 2) := by decide +kernel
set_option maxRecDepth 20000 in
theorem dX12_bestOf_63 : decode cX12_bestOf 63 = .ok (.imul, 1) := by decide +kernel
set_option maxRecDepth 20000 in
theorem dX12_bestOf_64 : decode cX12_bestOf 64 = .ok (.iload 7, 2) := by decide +kernel
set_option maxRecDepth 20000 in
theorem dX12_bestOf_66 : decode cX12_bestOf 66 = .ok (.iadd, 1) := by decide +kernel
set_option maxRecDepth 20000 in
theorem dX12_bestOf_67 : decode cX12_bestOf 67 = .ok (.putfield 206, 3) := by decide +kernel
set_option maxRecDepth 20000 in
theorem dX12_bestOf_70 : decode cX12_bestOf 70 = .ok (.iinc 8 1, 3) := by decide +kernel
set_option maxRecDepth 20000 in
theorem dX12_bestOf_73 : decode cX12_bestOf 73 = .ok (.goto (-57), 3) := by decide +kernel
set_option maxRecDepth 20000 in
theorem dX12_bestOf_76 : decode cX12_bestOf 76 = .ok (.iinc 7 1, 3) := by decide +kernel
set_option maxRecDepth 20000 in
theorem dX12_bestOf_79 : decode cX12_bestOf 79 = .ok (.goto (-73), 3) := by decide +kernel
set_option maxRecDepth 20000 in
theorem dX12_bestOf_82 : decode cX12_bestOf 82 = .ok (.iload 6, 2) := by decide +kernel
set_option maxRecDepth 20000 in
theorem dX12_bestOf_84 : decode cX12_bestOf 84 = .ok (.ireturn, 1) := by decide +kernel
set_option maxRecDepth 20000 in
theorem dX12_bestAt_0 : decode cX12_bestAt 0 = .ok (.aload_n 0, 1) := by decide +kernel
set_option maxRecDepth 20000 in
theorem dX12_bestAt_1 : decode cX12_bestAt 1 = .ok (.aload_n 0, 1) := by decide +kernel
set_option maxRecDepth 20000 in
theorem dX12_bestAt_2 : decode cX12_bestAt 2 = .ok (.getfield 23, 3) := by decide +kernel
set_option maxRecDepth 20000 in
theorem dX12_bestAt_5 : decode cX12_bestAt 5 = .ok (.iload_n 1, 1) := by decide +kernel
set_option maxRecDepth 20000 in
theorem dX12_bestAt_6 : decode cX12_bestAt 6 = .ok (.iaload, 1) := by decide +kernel
set_option maxRecDepth 20000 in
theorem dX12_bestAt_7 : decode cX12_bestAt 7 = .ok (.aload_n 0, 1) := by decide +kernel
set_option maxRecDepth 20000 in
theorem dX12_bestAt_8 : decode cX12_bestAt 8 = .ok (.getfield 26, 3) := by decide +kernel
set_option maxRecDepth 20000 in
theorem dX12_bestAt_11 : decode cX12_bestAt 11 = .ok (.iload_n 1, 1) := by decide +kernel
set_option maxRecDepth 20000 in
theorem dX12_bestAt_12 : decode cX12_bestAt 12 = .ok (.iaload, 1) := by decide +kernel
set_option maxRecDepth 20000 in
theorem dX12_bestAt_13 : decode cX12_bestAt 13 = .ok (.aload_n 0, 1) := by decide +kernel
set_option maxRecDepth 20000 in
theorem dX12_bestAt_14 : decode cX12_bestAt 14 = .ok (.getfield 29, 3) := by decide +kernel
set_option maxRecDepth 20000 in
theorem dX12_bestAt_17 : decode cX12_bestAt 17 = .ok (.iload_n 1, 1) := by decide +kernel
set_option maxRecDepth 20000 in
theorem dX12_bestAt_18 : decode cX12_bestAt 18 = .ok (.iaload, 1) := by decide +kernel
set_option maxRecDepth 20000 in
theorem dX12_bestAt_19 : decode cX12_bestAt 19 = .ok (.aload_n 0, 1) := by decide +kernel
set_option maxRecDepth 20000 in
theorem dX12_bestAt_20 : decode cX12_bestAt 20 = .ok (.getfield 41, 3) := by decide +kernel
set_option maxRecDepth 20000 in
theorem dX12_bestAt_23 : decode cX12_bestAt 23 = .ok (.iload_n 1, 1) := by decide +kernel
set_option maxRecDepth 20000 in
theorem dX12_bestAt_24 : decode cX12_bestAt 24 = .ok (.iaload, 1) := by decide +kernel
set_option maxRecDepth 20000 in
theorem dX12_bestAt_25 : decode cX12_bestAt 25 = .ok (.iload_n 2, 1) := by decide +kernel
set_option maxRecDepth 20000 in
theorem dX12_bestAt_26 : decode cX12_bestAt 26 = .ok (.invokevirtual 209, 3) := by decide +kernel
set_option maxRecDepth 20000 in
theorem dX12_bestAt_29 : decode cX12_bestAt 29 = .ok (.ireturn, 1) := by decide +kernel
set_option maxRecDepth 20000 in
theorem dX12_best_0 : decode cX12_best 0 = .ok (.aload_n 0, 1) := by decide +kernel
set_option maxRecDepth 20000 in
theorem dX12_best_1 : decode cX12_best 1 = .ok (.iload_n 1, 1) := by decide +kernel
set_option maxRecDepth 20000 in
theorem dX12_best_2 : decode cX12_best 2 = .ok (.invokevirtual 142, 3) := by decide +kernel
set_option maxRecDepth 20000 in
theorem dX12_best_5 : decode cX12_best 5 = .ok (.ifCond .eq 23, 3) := by decide +kernel
set_option maxRecDepth 20000 in
theorem dX12_best_8 : decode cX12_best 8 = .ok (.aload_n 0, 1) := by decide +kernel
set_option maxRecDepth 20000 in
theorem dX12_best_9 : decode cX12_best 9 = .ok (.iload_n 2, 1) := by decide +kernel
set_option maxRecDepth 20000 in
theorem dX12_best_10 : decode cX12_best 10 = .ok (.invokevirtual 187, 3) := by decide +kernel
set_option maxRecDepth 20000 in
theorem dX12_best_13 : decode cX12_best 13 = .ok (.ifCond .eq 15, 3) := by decide +kernel
set_option maxRecDepth 20000 in
theorem dX12_best_16 : decode cX12_best 16 = .ok (.iload_n 3, 1) := by decide +kernel
set_option maxRecDepth 20000 in
theorem dX12_best_17 : decode cX12_best 17 = .ok (.i2l, 1) := by decide +kernel
set_option maxRecDepth 20000 in
theorem dX12_best_18 : decode cX12_best 18 = .ok (.lconst 0, 1) := by decide +kernel
set_option maxRecDepth 20000 in
theorem dX12_best_19 : decode cX12_best 19 = .ok (.ldc2_w 213, 3) := by decide +kernel
set_option maxRecDepth 20000 in
theorem dX12_best_22 : decode cX12_best 22 = .ok (.invokestatic 125, 3) := by decide +kernel
set_option maxRecDepth 20000 in
theorem dX12_best_25 : decode cX12_best 25 = .ok (.ifCond .ne 7, 3) := by decide +kernel
set_option maxRecDepth 20000 in
theorem dX12_best_28 : decode cX12_best 28 = .ok (.ldc2_w 204, 3) := by decide +kernel
set_option maxRecDepth 20000 in
theorem dX12_best_31 : decode cX12_best 31 = .ok (.lreturn, 1) := by decide +kernel
set_option maxRecDepth 20000 in
theorem dX12_best_32 : decode cX12_best 32 = .ok (.aload_n 0, 1) := by decide +kernel
set_option maxRecDepth 20000 in
theorem dX12_best_33 : decode cX12_best 33 = .ok (.iload_n 1, 1) := by decide +kernel
set_option maxRecDepth 20000 in
theorem dX12_best_34 : decode cX12_best 34 = .ok (.iload_n 2, 1) := by decide +kernel
set_option maxRecDepth 20000 in
theorem dX12_best_35 : decode cX12_best 35 = .ok (.invokevirtual 215, 3) := by decide +kernel
set_option maxRecDepth 20000 in
theorem dX12_best_38 : decode cX12_best 38 = .ok (.istore 4, 2) := by decide +kernel
set_option maxRecDepth 20000 in
theorem dX12_best_40 : decode cX12_best 40 = .ok (.iload_n 3, 1) := by decide +kernel
set_option maxRecDepth 20000 in
theorem dX12_best_41 : decode cX12_best 41 = .ok (.ifCond .ne 11, 3) := by decide +kernel
set_option maxRecDepth 20000 in
theorem dX12_best_44 : decode cX12_best 44 = .ok (.aload_n 0, 1) := by decide +kernel
set_option maxRecDepth 20000 in
theorem dX12_best_45 : decode cX12_best 45 = .ok (.getfield 206, 3) := by decide +kernel
set_option maxRecDepth 20000 in
theorem dX12_best_48 : decode cX12_best 48 = .ok (.i2l, 1) := by decide +kernel
set_option maxRecDepth 20000 in
theorem dX12_best_49 : decode cX12_best 49 = .ok (.goto 18, 3) := by decide +kernel
set_option maxRecDepth 20000 in
theorem dX12_best_52 : decode cX12_best 52 = .ok (.iload 4, 2) := by decide +kernel
set_option maxRecDepth 20000 in
theorem dX12_best_54 : decode cX12_best 54 = .ok (.i2l, 1) := by decide +kernel
set_option maxRecDepth 20000 in
theorem dX12_best_55 : decode cX12_best 55 = .ok (.aload_n 0, 1) := by decide +kernel
set_option maxRecDepth 20000 in
theorem dX12_best_56 : decode cX12_best 56 = .ok (.iload_n 2, 1) := by decide +kernel
set_option maxRecDepth 20000 in
theorem dX12_best_57 : decode cX12_best 57 = .ok (.invokevirtual 197, 3) := by decide +kernel
set_option maxRecDepth 20000 in
theorem dX12_best_60 : decode cX12_best 60 = .ok (.i2l, 1) := by decide +kernel
set_option maxRecDepth 20000 in
theorem dX12_best_61 : decode cX12_best 61 = .ok (.iload_n 3, 1) := by decide +kernel
set_option maxRecDepth 20000 in
theorem dX12_best_62 : decode cX12_best 62 = .ok (.iconst 1, 1) := by decide +kernel
set_option maxRecDepth 20000 in
theorem dX12_best_63 : decode cX12_best 63 = .ok (.isub, 1) := by decide +kernel
set_option maxRecDepth 20000 in
theorem dX12_best_64 : decode cX12_best 64 = .ok (.invokestatic 200, 3) := by decide +kernel
set_option maxRecDepth 20000 in
theorem dX12_best_67 : decode cX12_best 67 = .ok (.lreturn, 1) := by decide +kernel
set_option maxRecDepth 20000 in
theorem dX12_lotOf_0 : decode cX12_lotOf 0 = .ok (.lload_n 0, 1) := by decide +kernel
set_option maxRecDepth 20000 in
theorem dX12_lotOf_1 : decode cX12_lotOf 1 = .ok (.ldc2_w 219, 3) := by decide +kernel
set_option maxRecDepth 20000 in
theorem dX12_lotOf_4 : decode cX12_lotOf 4 = .ok (.lmul, 1) := by decide +kernel
set_option maxRecDepth 20000 in
theorem dX12_lotOf_5 : decode cX12_lotOf 5 = .ok (.ldc2_w 221, 3) := by decide +kernel
set_option maxRecDepth 20000 in
theorem dX12_lotOf_8 : decode cX12_lotOf 8 = .ok (.lrem, 1) := by decide +kernel
set_option maxRecDepth 20000 in
theorem dX12_lotOf_9 : decode cX12_lotOf 9 = .ok (.lreturn, 1) := by decide +kernel
set_option maxRecDepth 20000 in
theorem dX12_wonBy_0 : decode cX12_wonBy 0 = .ok (.ldc2_w 213, 3) := by decide +kernel
set_option maxRecDepth 20000 in
theorem dX12_wonBy_3 : decode cX12_wonBy 3 = .ok (.aload_n 0, 1) := by decide +kernel
set_option maxRecDepth 20000 in
theorem dX12_wonBy_4 : decode cX12_wonBy 4 = .ok (.getfield 50, 3) := by decide +kernel
set_option maxRecDepth 20000 in
theorem dX12_wonBy_7 : decode cX12_wonBy 7 = .ok (.iload_n 2, 1) := by decide +kernel
set_option maxRecDepth 20000 in
theorem dX12_wonBy_8 : decode cX12_wonBy 8 = .ok (.iaload, 1) := by decide +kernel
set_option maxRecDepth 20000 in
theorem dX12_wonBy_9 : decode cX12_wonBy 9 = .ok (.i2l, 1) := by decide +kernel
set_option maxRecDepth 20000 in
theorem dX12_wonBy_10 : decode cX12_wonBy 10 = .ok (.lmul, 1) := by decide +kernel
set_option maxRecDepth 20000 in
theorem dX12_wonBy_11 : decode cX12_wonBy 11 = .ok (.lconst 1, 1) := by decide +kernel
set_option maxRecDepth 20000 in
theorem dX12_wonBy_12 : decode cX12_wonBy 12 = .ok (.ladd, 1) := by decide +kernel
set_option maxRecDepth 20000 in
theorem dX12_wonBy_13 : decode cX12_wonBy 13 = .ok (.lstore 6, 2) := by decide +kernel
set_option maxRecDepth 20000 in
theorem dX12_wonBy_15 : decode cX12_wonBy 15 = .ok (.lload 4, 2) := by decide +kernel
set_option maxRecDepth 20000 in
theorem dX12_wonBy_17 : decode cX12_wonBy 17 = .ok (.lload 6, 2) := by decide +kernel
set_option maxRecDepth 20000 in
theorem dX12_wonBy_19 : decode cX12_wonBy 19 = .ok (.lrem, 1) := by decide +kernel
set_option maxRecDepth 20000 in
theorem dX12_wonBy_20 : decode cX12_wonBy 20 = .ok (.l2i, 1) := by decide +kernel
set_option maxRecDepth 20000 in
theorem dX12_wonBy_21 : decode cX12_wonBy 21 = .ok (.aload_n 0, 1) := by decide +kernel
set_option maxRecDepth 20000 in
theorem dX12_wonBy_22 : decode cX12_wonBy 22 = .ok (.getfield 50, 3) := by decide +kernel
set_option maxRecDepth 20000 in
theorem dX12_wonBy_25 : decode cX12_wonBy 25 = .ok (.iload_n 2, 1) := by decide +kernel
set_option maxRecDepth 20000 in
theorem dX12_wonBy_26 : decode cX12_wonBy 26 = .ok (.iaload, 1) := by decide +kernel
set_option maxRecDepth 20000 in
theorem dX12_wonBy_27 : decode cX12_wonBy 27 = .ok (.isub, 1) := by decide +kernel
set_option maxRecDepth 20000 in
theorem dX12_wonBy_28 : decode cX12_wonBy 28 = .ok (.istore 8, 2) := by decide +kernel
set_option maxRecDepth 20000 in
theorem dX12_wonBy_30 : decode cX12_wonBy 30 = .ok (.lload 4, 2) := by decide +kernel
set_option maxRecDepth 20000 in
theorem dX12_wonBy_32 : decode cX12_wonBy 32 = .ok (.lload 6, 2) := by decide +kernel
set_option maxRecDepth 20000 in
theorem dX12_wonBy_34 : decode cX12_wonBy 34 = .ok (.ldiv, 1) := by decide +kernel
set_option maxRecDepth 20000 in
theorem dX12_wonBy_35 : decode cX12_wonBy 35 = .ok (.lload 6, 2) := by decide +kernel
set_option maxRecDepth 20000 in
theorem dX12_wonBy_37 : decode cX12_wonBy 37 = .ok (.lrem, 1) := by decide +kernel
set_option maxRecDepth 20000 in
theorem dX12_wonBy_38 : decode cX12_wonBy 38 = .ok (.l2i, 1) := by decide +kernel
set_option maxRecDepth 20000 in
theorem dX12_wonBy_39 : decode cX12_wonBy 39 = .ok (.aload_n 0, 1) := by decide +kernel
set_option maxRecDepth 20000 in
theorem dX12_wonBy_40 : decode cX12_wonBy 40 = .ok (.getfield 50, 3) := by decide +kernel
set_option maxRecDepth 20000 in
theorem dX12_wonBy_43 : decode cX12_wonBy 43 = .ok (.iload_n 2, 1) := by decide +kernel
set_option maxRecDepth 20000 in
theorem dX12_wonBy_44 : decode cX12_wonBy 44 = .ok (.iaload, 1) := by decide +kernel
set_option maxRecDepth 20000 in
theorem dX12_wonBy_45 : decode cX12_wonBy 45 = .ok (.isub, 1) := by decide +kernel
set_option maxRecDepth 20000 in
theorem dX12_wonBy_46 : decode cX12_wonBy 46 = .ok (.istore 9, 2) := by decide +kernel
set_option maxRecDepth 20000 in
theorem dX12_wonBy_48 : decode cX12_wonBy 48 = .ok (.aload_n 0, 1) := by decide +kernel
set_option maxRecDepth 20000 in
theorem dX12_wonBy_49 : decode cX12_wonBy 49 = .ok (.getfield 23, 3) := by decide +kernel
set_option maxRecDepth 20000 in
theorem dX12_wonBy_52 : decode cX12_wonBy 52 = .ok (.iload_n 1, 1) := by decide +kernel
set_option maxRecDepth 20000 in
theorem dX12_wonBy_53 : decode cX12_wonBy 53 = .ok (.iaload, 1) := by decide +kernel
set_option maxRecDepth 20000 in
theorem dX12_wonBy_54 : decode cX12_wonBy 54 = .ok (.aload_n 0, 1) := by decide +kernel
set_option maxRecDepth 20000 in
theorem dX12_wonBy_55 : decode cX12_wonBy 55 = .ok (.getfield 29, 3) := by decide +kernel
set_option maxRecDepth 20000 in
theorem dX12_wonBy_58 : decode cX12_wonBy 58 = .ok (.iload_n 1, 1) := by decide +kernel
set_option maxRecDepth 20000 in
theorem dX12_wonBy_59 : decode cX12_wonBy 59 = .ok (.iaload, 1) := by decide +kernel
set_option maxRecDepth 20000 in
theorem dX12_wonBy_60 : decode cX12_wonBy 60 = .ok (.aload_n 0, 1) := by decide +kernel
set_option maxRecDepth 20000 in
theorem dX12_wonBy_61 : decode cX12_wonBy 61 = .ok (.getfield 41, 3) := by decide +kernel
set_option maxRecDepth 20000 in
theorem dX12_wonBy_64 : decode cX12_wonBy 64 = .ok (.iload_n 1, 1) := by decide +kernel
set_option maxRecDepth 20000 in
theorem dX12_wonBy_65 : decode cX12_wonBy 65 = .ok (.iaload, 1) := by decide +kernel
set_option maxRecDepth 20000 in
theorem dX12_wonBy_66 : decode cX12_wonBy 66 = .ok (.iload_n 3, 1) := by decide +kernel
set_option maxRecDepth 20000 in
theorem dX12_wonBy_67 : decode cX12_wonBy 67 = .ok (.bipush 100, 2) := by decide +kernel
set_option maxRecDepth 20000 in
theorem dX12_wonBy_69 : decode cX12_wonBy 69 = .ok (.idiv, 1) := by decide +kernel
set_option maxRecDepth 20000 in
theorem dX12_wonBy_70 : decode cX12_wonBy 70 = .ok (.aload_n 0, 1) := by decide +kernel
set_option maxRecDepth 20000 in
theorem dX12_wonBy_71 : decode cX12_wonBy 71 = .ok (.getfield 44, 3) := by decide +kernel
set_option maxRecDepth 20000 in
theorem dX12_wonBy_74 : decode cX12_wonBy 74 = .ok (.iload_n 2, 1) := by decide +kernel
set_option maxRecDepth 20000 in
theorem dX12_wonBy_75 : decode cX12_wonBy 75 = .ok (.iaload, 1) := by decide +kernel
set_option maxRecDepth 20000 in
theorem dX12_wonBy_76 : decode cX12_wonBy 76 = .ok (.iadd, 1) := by decide +kernel
set_option maxRecDepth 20000 in
theorem dX12_wonBy_77 : decode cX12_wonBy 77 = .ok (.iload 8, 2) := by decide +kernel
set_option maxRecDepth 20000 in
theorem dX12_wonBy_79 : decode cX12_wonBy 79 = .ok (.iadd, 1) := by decide +kernel
set_option maxRecDepth 20000 in
theorem dX12_wonBy_80 : decode cX12_wonBy 80 = .ok (.aload_n 0, 1) := by decide +kernel
set_option maxRecDepth 20000 in
theorem dX12_wonBy_81 : decode cX12_wonBy 81 = .ok (.getfield 26, 3) := by decide +kernel
set_option maxRecDepth 20000 in
theorem dX12_wonBy_84 : decode cX12_wonBy 84 = .ok (.iload_n 1, 1) := by decide +kernel
set_option maxRecDepth 20000 in
theorem dX12_wonBy_85 : decode cX12_wonBy 85 = .ok (.iaload, 1) := by decide +kernel
set_option maxRecDepth 20000 in
theorem dX12_wonBy_86 : decode cX12_wonBy 86 = .ok (.bipush 100, 2) := by decide +kernel
set_option maxRecDepth 20000 in
theorem dX12_wonBy_88 : decode cX12_wonBy 88 = .ok (.idiv, 1) := by decide +kernel
set_option maxRecDepth 20000 in
theorem dX12_wonBy_89 : decode cX12_wonBy 89 = .ok (.isub, 1) := by decide +kernel
set_option maxRecDepth 20000 in
theorem dX12_wonBy_90 : decode cX12_wonBy 90 = .ok (.iload_n 3, 1) := by decide +kernel
set_option maxRecDepth 20000 in
theorem dX12_wonBy_91 : decode cX12_wonBy 91 = .ok (.bipush 100, 2) := by decide +kernel
set_option maxRecDepth 20000 in
theorem dX12_wonBy_93 : decode cX12_wonBy 93 = .ok (.irem, 1) := by decide +kernel
set_option maxRecDepth 20000 in
theorem dX12_wonBy_94 : decode cX12_wonBy 94 = .ok (.aload_n 0, 1) := by decide +kernel
set_option maxRecDepth 20000 in
theorem dX12_wonBy_95 : decode cX12_wonBy 95 = .ok (.getfield 47, 3) := by decide +kernel
set_option maxRecDepth 20000 in
theorem dX12_wonBy_98 : decode cX12_wonBy 98 = .ok (.iload_n 2, 1) := by decide +kernel
set_option maxRecDepth 20000 in
theorem dX12_wonBy_99 : decode cX12_wonBy 99 = .ok (.iaload, 1) := by decide +kernel
set_option maxRecDepth 20000 in
theorem dX12_wonBy_100 : decode cX12_wonBy 100 = .ok (.iadd, 1) := by decide +kernel
set_option maxRecDepth 20000 in
theorem dX12_wonBy_101 : decode cX12_wonBy 101 = .ok (.iload 9, 2) := by decide +kernel
set_option maxRecDepth 20000 in
theorem dX12_wonBy_103 : decode cX12_wonBy 103 = .ok (.iadd, 1) := by decide +kernel
set_option maxRecDepth 20000 in
theorem dX12_wonBy_104 : decode cX12_wonBy 104 = .ok (.aload_n 0, 1) := by decide +kernel
set_option maxRecDepth 20000 in
theorem dX12_wonBy_105 : decode cX12_wonBy 105 = .ok (.getfield 26, 3) := by decide +kernel
set_option maxRecDepth 20000 in
theorem dX12_wonBy_108 : decode cX12_wonBy 108 = .ok (.iload_n 1, 1) := by decide +kernel
set_option maxRecDepth 20000 in
theorem dX12_wonBy_109 : decode cX12_wonBy 109 = .ok (.iaload, 1) := by decide +kernel
set_option maxRecDepth 20000 in
theorem dX12_wonBy_110 : decode cX12_wonBy 110 = .ok (.bipush 100, 2) := by decide +kernel
set_option maxRecDepth 20000 in
theorem dX12_wonBy_112 : decode cX12_wonBy 112 = .ok (.irem, 1) := by decide +kernel
set_option maxRecDepth 20000 in
theorem dX12_wonBy_113 : decode cX12_wonBy 113 = .ok (.isub, 1) := by decide +kernel
set_option maxRecDepth 20000 in
theorem dX12_wonBy_114 : decode cX12_wonBy 114 = .ok (.invokestatic 174, 3) := by decide +kernel
set_option maxRecDepth 20000 in
theorem dX12_wonBy_117 : decode cX12_wonBy 117 = .ok (.ifCond .eq 7, 3) := by decide +kernel
set_option maxRecDepth 20000 in
theorem dX12_wonBy_120 : decode cX12_wonBy 120 = .ok (.iconst 1, 1) := by decide +kernel
set_option maxRecDepth 20000 in
theorem dX12_wonBy_121 : decode cX12_wonBy 121 = .ok (.goto 4, 3) := by decide +kernel
set_option maxRecDepth 20000 in
theorem dX12_wonBy_124 : decode cX12_wonBy 124 = .ok (.iconst 0, 1) := by decide +kernel
set_option maxRecDepth 20000 in
theorem dX12_wonBy_125 : decode cX12_wonBy 125 = .ok (.ireturn, 1) := by decide +kernel
set_option maxRecDepth 20000 in
theorem dX12_keeps_0 : decode cX12_keeps 0 = .ok (.aload_n 0, 1) := by decide +kernel
set_option maxRecDepth 20000 in
theorem dX12_keeps_1 : decode cX12_keeps 1 = .ok (.getfield 53, 3) := by decide +kernel
set_option maxRecDepth 20000 in
theorem dX12_keeps_4 : decode cX12_keeps 4 = .ok (.aload_n 0, 1) := by decide +kernel
set_option maxRecDepth 20000 in
theorem dX12_keeps_5 : decode cX12_keeps 5 = .ok (.getfield 223, 3) := by decide +kernel
set_option maxRecDepth 20000 in
theorem dX12_keeps_8 : decode cX12_keeps 8 = .ok (.iload_n 1, 1) := by decide +kernel
set_option maxRecDepth 20000 in
theorem dX12_keeps_9 : decode cX12_keeps 9 = .ok (.iastore, 1) := by decide +kernel
set_option maxRecDepth 20000 in
theorem dX12_keeps_10 : decode cX12_keeps 10 = .ok (.aload_n 0, 1) := by decide +kernel
set_option maxRecDepth 20000 in
theorem dX12_keeps_11 : decode cX12_keeps 11 = .ok (.getfield 56, 3) := by decide +kernel
set_option maxRecDepth 20000 in
theorem dX12_keeps_14 : decode cX12_keeps 14 = .ok (.aload_n 0, 1) := by decide +kernel
set_option maxRecDepth 20000 in
theorem dX12_keeps_15 : decode cX12_keeps 15 = .ok (.getfield 223, 3) := by decide +kernel
set_option maxRecDepth 20000 in
theorem dX12_keeps_18 : decode cX12_keeps 18 = .ok (.iload_n 2, 1) := by decide +kernel
set_option maxRecDepth 20000 in
theorem dX12_keeps_19 : decode cX12_keeps 19 = .ok (.iastore, 1) := by decide +kernel
set_option maxRecDepth 20000 in
theorem dX12_keeps_20 : decode cX12_keeps 20 = .ok (.aload_n 0, 1) := by decide +kernel
set_option maxRecDepth 20000 in
theorem dX12_keeps_21 : decode cX12_keeps 21 = .ok (.getfield 59, 3) := by decide +kernel
set_option maxRecDepth 20000 in
theorem dX12_keeps_24 : decode cX12_keeps 24 = .ok (.aload_n 0, 1) := by decide +kernel
set_option maxRecDepth 20000 in
theorem dX12_keeps_25 : decode cX12_keeps 25 = .ok (.getfield 223, 3) := by decide +kernel
set_option maxRecDepth 20000 in
theorem dX12_keeps_28 : decode cX12_keeps 28 = .ok (.iload_n 3, 1) := by decide +kernel
set_option maxRecDepth 20000 in
theorem dX12_keeps_29 : decode cX12_keeps 29 = .ok (.iastore, 1) := by decide +kernel
set_option maxRecDepth 20000 in
theorem dX12_keeps_30 : decode cX12_keeps 30 = .ok (.aload_n 0, 1) := by decide +kernel
set_option maxRecDepth 20000 in
theorem dX12_keeps_31 : decode cX12_keeps 31 = .ok (.getfield 62, 3) := by decide +kernel
set_option maxRecDepth 20000 in
theorem dX12_keeps_34 : decode cX12_keeps 34 = .ok (.aload_n 0, 1) := by decide +kernel
set_option maxRecDepth 20000 in
theorem dX12_keeps_35 : decode cX12_keeps 35 = .ok (.getfield 223, 3) := by decide +kernel
set_option maxRecDepth 20000 in
theorem dX12_keeps_38 : decode cX12_keeps 38 = .ok (.iload 4, 2) := by decide +kernel
set_option maxRecDepth 20000 in
theorem dX12_keeps_40 : decode cX12_keeps 40 = .ok (.iastore, 1) := by decide +kernel
set_option maxRecDepth 20000 in
theorem dX12_keeps_41 : decode cX12_keeps 41 = .ok (.aload_n 0, 1) := by decide +kernel
set_option maxRecDepth 20000 in
theorem dX12_keeps_42 : decode cX12_keeps 42 = .ok (.getfield 65, 3) := by decide +kernel
set_option maxRecDepth 20000 in
theorem dX12_keeps_45 : decode cX12_keeps 45 = .ok (.aload_n 0, 1) := by decide +kernel
set_option maxRecDepth 20000 in
theorem dX12_keeps_46 : decode cX12_keeps 46 = .ok (.getfield 223, 3) := by decide +kernel
set_option maxRecDepth 20000 in
theorem dX12_keeps_49 : decode cX12_keeps 49 = .ok (.aload_n 0, 1) := by decide +kernel
set_option maxRecDepth 20000 in
theorem dX12_keeps_50 : decode cX12_keeps 50 = .ok (.getfield 41, 3) := by decide +kernel
set_option maxRecDepth 20000 in
theorem dX12_keeps_53 : decode cX12_keeps 53 = .ok (.iload_n 1, 1) := by decide +kernel
set_option maxRecDepth 20000 in
theorem dX12_keeps_54 : decode cX12_keeps 54 = .ok (.iaload, 1) := by decide +kernel
set_option maxRecDepth 20000 in
theorem dX12_keeps_55 : decode cX12_keeps 55 = .ok (.iastore, 1) := by decide +kernel
set_option maxRecDepth 20000 in
theorem dX12_keeps_56 : decode cX12_keeps 56 = .ok (.aload_n 0, 1) := by decide +kernel
set_option maxRecDepth 20000 in
theorem dX12_keeps_57 : decode cX12_keeps 57 = .ok (.dup, 1) := by decide +kernel
set_option maxRecDepth 20000 in
theorem dX12_keeps_58 : decode cX12_keeps 58 = .ok (.getfield 223, 3) := by decide +kernel
set_option maxRecDepth 20000 in
theorem dX12_keeps_61 : decode cX12_keeps 61 = .ok (.iconst 1, 1) := by decide +kernel
set_option maxRecDepth 20000 in
theorem dX12_keeps_62 : decode cX12_keeps 62 = .ok (.iadd, 1) := by decide +kernel
set_option maxRecDepth 20000 in
theorem dX12_keeps_63 : decode cX12_keeps 63 = .ok (.putfield 223, 3) := by decide +kernel
set_option maxRecDepth 20000 in
theorem dX12_keeps_66 : decode cX12_keeps 66 = .ok (.aload_n 0, 1) := by decide +kernel
set_option maxRecDepth 20000 in
theorem dX12_keeps_67 : decode cX12_keeps 67 = .ok (.getfield 223, 3) := by decide +kernel
set_option maxRecDepth 20000 in
theorem dX12_keeps_70 : decode cX12_keeps 70 = .ok (.iconst 1, 1) := by decide +kernel
set_option maxRecDepth 20000 in
theorem dX12_keeps_71 : decode cX12_keeps 71 = .ok (.isub, 1) := by decide +kernel
set_option maxRecDepth 20000 in
theorem dX12_keeps_72 : decode cX12_keeps 72 = .ok (.ireturn, 1) := by decide +kernel
set_option maxRecDepth 20000 in
theorem dX12_tried_0 : decode cX12_tried 0 = .ok (.aload_n 0, 1) := by decide +kernel
set_option maxRecDepth 20000 in
theorem dX12_tried_1 : decode cX12_tried 1 = .ok (.iload_n 1, 1) := by decide +kernel
set_option maxRecDepth 20000 in
theorem dX12_tried_2 : decode cX12_tried 2 = .ok (.invokevirtual 142, 3) := by decide +kernel
set_option maxRecDepth 20000 in
theorem dX12_tried_5 : decode cX12_tried 5 = .ok (.ifCond .eq 31, 3) := by decide +kernel
set_option maxRecDepth 20000 in
theorem dX12_tried_8 : decode cX12_tried 8 = .ok (.aload_n 0, 1) := by decide +kernel
set_option maxRecDepth 20000 in
theorem dX12_tried_9 : decode cX12_tried 9 = .ok (.iload_n 2, 1) := by decide +kernel
set_option maxRecDepth 20000 in
theorem dX12_tried_10 : decode cX12_tried 10 = .ok (.invokevirtual 187, 3) := by decide +kernel
set_option maxRecDepth 20000 in
theorem dX12_tried_13 : decode cX12_tried 13 = .ok (.ifCond .eq 23, 3) := by decide +kernel
set_option maxRecDepth 20000 in
theorem dX12_tried_16 : decode cX12_tried 16 = .ok (.iload_n 3, 1) := by decide +kernel
set_option maxRecDepth 20000 in
theorem dX12_tried_17 : decode cX12_tried 17 = .ok (.invokestatic 134, 3) := by decide +kernel
set_option maxRecDepth 20000 in
theorem dX12_tried_20 : decode cX12_tried 20 = .ok (.ifCond .eq 16, 3) := by decide +kernel
set_option maxRecDepth 20000 in
theorem dX12_tried_23 : decode cX12_tried 23 = .ok (.iload 4, 2) := by decide +kernel
set_option maxRecDepth 20000 in
theorem dX12_tried_25 : decode cX12_tried 25 = .ok (.i2l, 1) := by decide +kernel
set_option maxRecDepth 20000 in
theorem dX12_tried_26 : decode cX12_tried 26 = .ok (.lconst 0, 1) := by decide +kernel
set_option maxRecDepth 20000 in
theorem dX12_tried_27 : decode cX12_tried 27 = .ok (.ldc2_w 226, 3) := by decide +kernel
set_option maxRecDepth 20000 in
theorem dX12_tried_30 : decode cX12_tried 30 = .ok (.invokestatic 125, 3) := by decide +kernel
set_option maxRecDepth 20000 in
theorem dX12_tried_33 : decode cX12_tried 33 = .ok (.ifCond .ne 6, 3) := by decide +kernel
set_option maxRecDepth 20000 in
theorem dX12_tried_36 : decode cX12_tried 36 = .ok (.bipush (-2), 2) := by decide +kernel
set_option maxRecDepth 20000 in
theorem dX12_tried_38 : decode cX12_tried 38 = .ok (.ireturn, 1) := by decide +kernel
set_option maxRecDepth 20000 in
theorem dX12_tried_39 : decode cX12_tried 39 = .ok (.aload_n 0, 1) := by decide +kernel
set_option maxRecDepth 20000 in
theorem dX12_tried_40 : decode cX12_tried 40 = .ok (.getfield 223, 3) := by decide +kernel
set_option maxRecDepth 20000 in
theorem dX12_tried_43 : decode cX12_tried 43 = .ok (.bipush 60, 2) := by decide +kernel
set_option maxRecDepth 20000 in
theorem dX12_tried_45 : decode cX12_tried 45 = .ok (.if_icmp .ne 6, 3) := by decide +kernel
set_option maxRecDepth 20000 in
theorem dX12_tried_48 : decode cX12_tried 48 = .ok (.bipush (-4), 2) := by decide +kernel
set_option maxRecDepth 20000 in
theorem dX12_tried_50 : decode cX12_tried 50 = .ok (.ireturn, 1) := by decide +kernel
set_option maxRecDepth 20000 in
theorem dX12_tried_51 : decode cX12_tried 51 = .ok (.aload_n 0, 1) := by decide +kernel
set_option maxRecDepth 20000 in
theorem dX12_tried_52 : decode cX12_tried 52 = .ok (.getfield 62, 3) := by decide +kernel
set_option maxRecDepth 20000 in
theorem dX12_tried_55 : decode cX12_tried 55 = .ok (.aload_n 0, 1) := by decide +kernel
set_option maxRecDepth 20000 in
theorem dX12_tried_56 : decode cX12_tried 56 = .ok (.iload_n 1, 1) := by decide +kernel
set_option maxRecDepth 20000 in
theorem dX12_tried_57 : decode cX12_tried 57 = .ok (.iload_n 2, 1) := by decide +kernel
set_option maxRecDepth 20000 in
theorem dX12_tried_58 : decode cX12_tried 58 = .ok (.iload_n 3, 1) := by decide +kernel
set_option maxRecDepth 20000 in
theorem dX12_tried_59 : decode cX12_tried 59 = .ok (.aload_n 0, 1) := by decide +kernel
set_option maxRecDepth 20000 in
theorem dX12_tried_60 : decode cX12_tried 60 = .ok (.iload_n 1, 1) := by decide +kernel
set_option maxRecDepth 20000 in
theorem dX12_tried_61 : decode cX12_tried 61 = .ok (.iload_n 2, 1) := by decide +kernel
set_option maxRecDepth 20000 in
theorem dX12_tried_62 : decode cX12_tried 62 = .ok (.iload_n 3, 1) := by decide +kernel
set_option maxRecDepth 20000 in
theorem dX12_tried_63 : decode cX12_tried 63 = .ok (.iload 4, 2) := by decide +kernel
set_option maxRecDepth 20000 in
theorem dX12_tried_65 : decode cX12_tried 65 = .ok (.i2l, 1) := by decide +kernel
set_option maxRecDepth 20000 in
theorem dX12_tried_66 : decode cX12_tried 66 = .ok (.lconst 1, 1) := by decide +kernel
set_option maxRecDepth 20000 in
theorem dX12_tried_67 : decode cX12_tried 67 = .ok (.ladd, 1) := by decide +kernel
set_option maxRecDepth 20000 in
theorem dX12_tried_68 : decode cX12_tried 68 = .ok (.invokestatic 228, 3) := by decide +kernel
set_option maxRecDepth 20000 in
theorem dX12_tried_71 : decode cX12_tried 71 = .ok (.invokevirtual 232, 3) := by decide +kernel
set_option maxRecDepth 20000 in
theorem dX12_tried_74 : decode cX12_tried 74 = .ok (.invokevirtual 236, 3) := by decide +kernel
set_option maxRecDepth 20000 in
theorem dX12_tried_77 : decode cX12_tried 77 = .ok (.iaload, 1) := by decide +kernel
set_option maxRecDepth 20000 in
theorem dX12_tried_78 : decode cX12_tried 78 = .ok (.ireturn, 1) := by decide +kernel
set_option maxRecDepth 20000 in
theorem dX12_shown_0 : decode cX12_shown 0 = .ok (.aload_n 0, 1) := by decide +kernel
set_option maxRecDepth 20000 in
theorem dX12_shown_1 : decode cX12_shown 1 = .ok (.iload_n 1, 1) := by decide +kernel
set_option maxRecDepth 20000 in
theorem dX12_shown_2 : decode cX12_shown 2 = .ok (.invokevirtual 142, 3) := by decide +kernel
set_option maxRecDepth 20000 in
theorem dX12_shown_5 : decode cX12_shown 5 = .ok (.ifCond .eq 29, 3) := by decide +kernel
set_option maxRecDepth 20000 in
theorem dX12_shown_8 : decode cX12_shown 8 = .ok (.aload_n 0, 1) := by decide +kernel
set_option maxRecDepth 20000 in
theorem dX12_shown_9 : decode cX12_shown 9 = .ok (.iload_n 2, 1) := by decide +kernel
set_option maxRecDepth 20000 in
theorem dX12_shown_10 : decode cX12_shown 10 = .ok (.invokevirtual 187, 3) := by decide +kernel
set_option maxRecDepth 20000 in
theorem dX12_shown_13 : decode cX12_shown 13 = .ok (.ifCond .eq 21, 3) := by decide +kernel
set_option maxRecDepth 20000 in
theorem dX12_shown_16 : decode cX12_shown 16 = .ok (.iload_n 3, 1) := by decide +kernel
set_option maxRecDepth 20000 in
theorem dX12_shown_17 : decode cX12_shown 17 = .ok (.invokestatic 134, 3) := by decide +kernel
set_option maxRecDepth 20000 in
theorem dX12_shown_20 : decode cX12_shown 20 = .ok (.ifCond .eq 14, 3) := by decide +kernel
set_option maxRecDepth 20000 in
theorem dX12_shown_23 : decode cX12_shown 23 = .ok (.iload 4, 2) := by decide +kernel
set_option maxRecDepth 20000 in
theorem dX12_shown_25 : decode cX12_shown 25 = .ok (.i2l, 1) := by decide +kernel
set_option maxRecDepth 20000 in
theorem dX12_shown_26 : decode cX12_shown 26 = .ok (.lconst 0, 1) := by decide +kernel
set_option maxRecDepth 20000 in
theorem dX12_shown_27 : decode cX12_shown 27 = .ok (.lconst 1, 1) := by decide +kernel
set_option maxRecDepth 20000 in
theorem dX12_shown_28 : decode cX12_shown 28 = .ok (.invokestatic 125, 3) := by decide +kernel
set_option maxRecDepth 20000 in
theorem dX12_shown_31 : decode cX12_shown 31 = .ok (.ifCond .ne 6, 3) := by decide +kernel
set_option maxRecDepth 20000 in
theorem dX12_shown_34 : decode cX12_shown 34 = .ok (.bipush (-2), 2) := by decide +kernel
set_option maxRecDepth 20000 in
theorem dX12_shown_36 : decode cX12_shown 36 = .ok (.ireturn, 1) := by decide +kernel
set_option maxRecDepth 20000 in
theorem dX12_shown_37 : decode cX12_shown 37 = .ok (.aload_n 0, 1) := by decide +kernel
set_option maxRecDepth 20000 in
theorem dX12_shown_38 : decode cX12_shown 38 = .ok (.getfield 223, 3) := by decide +kernel
set_option maxRecDepth 20000 in
theorem dX12_shown_41 : decode cX12_shown 41 = .ok (.bipush 60, 2) := by decide +kernel
set_option maxRecDepth 20000 in
theorem dX12_shown_43 : decode cX12_shown 43 = .ok (.if_icmp .ne 8, 3) := by decide +kernel
set_option maxRecDepth 20000 in
theorem dX12_shown_46 : decode cX12_shown 46 = .ok (.bipush (-4), 2) := by decide +kernel
set_option maxRecDepth 20000 in
theorem dX12_shown_48 : decode cX12_shown 48 = .ok (.goto 12, 3) := by decide +kernel
set_option maxRecDepth 20000 in
theorem dX12_shown_51 : decode cX12_shown 51 = .ok (.aload_n 0, 1) := by decide +kernel
set_option maxRecDepth 20000 in
theorem dX12_shown_52 : decode cX12_shown 52 = .ok (.iload_n 1, 1) := by decide +kernel
set_option maxRecDepth 20000 in
theorem dX12_shown_53 : decode cX12_shown 53 = .ok (.iload_n 2, 1) := by decide +kernel
set_option maxRecDepth 20000 in
theorem dX12_shown_54 : decode cX12_shown 54 = .ok (.iload_n 3, 1) := by decide +kernel
set_option maxRecDepth 20000 in
theorem dX12_shown_55 : decode cX12_shown 55 = .ok (.iload 4, 2) := by decide +kernel
set_option maxRecDepth 20000 in
theorem dX12_shown_57 : decode cX12_shown 57 = .ok (.invokevirtual 236, 3) := by decide +kernel
set_option maxRecDepth 20000 in
theorem dX12_shown_60 : decode cX12_shown 60 = .ok (.ireturn, 1) := by decide +kernel
set_option maxRecDepth 20000 in
theorem dX12_tryTold_0 : decode cX12_tryTold 0 = .ok (.iload_n 1, 1) := by decide +kernel
set_option maxRecDepth 20000 in
theorem dX12_tryTold_1 : decode cX12_tryTold 1 = .ok (.i2l, 1) := by decide +kernel
set_option maxRecDepth 20000 in
theorem dX12_tryTold_2 : decode cX12_tryTold 2 = .ok (.lconst 0, 1) := by decide +kernel
set_option maxRecDepth 20000 in
theorem dX12_tryTold_3 : decode cX12_tryTold 3 = .ok (.aload_n 0, 1) := by decide +kernel
set_option maxRecDepth 20000 in
theorem dX12_tryTold_4 : decode cX12_tryTold 4 = .ok (.getfield 223, 3) := by decide +kernel
set_option maxRecDepth 20000 in
theorem dX12_tryTold_7 : decode cX12_tryTold 7 = .ok (.iconst 1, 1) := by decide +kernel
set_option maxRecDepth 20000 in
theorem dX12_tryTold_8 : decode cX12_tryTold 8 = .ok (.isub, 1) := by decide +kernel
set_option maxRecDepth 20000 in
theorem dX12_tryTold_9 : decode cX12_tryTold 9 = .ok (.i2l, 1) := by decide +kernel
set_option maxRecDepth 20000 in
theorem dX12_tryTold_10 : decode cX12_tryTold 10 = .ok (.invokestatic 125, 3) := by decide +kernel
set_option maxRecDepth 20000 in
theorem dX12_tryTold_13 : decode cX12_tryTold 13 = .ok (.ifCond .ne 5, 3) := by decide +kernel
set_option maxRecDepth 20000 in
theorem dX12_tryTold_16 : decode cX12_tryTold 16 = .ok (.iconst (-1), 1) := by decide +kernel
set_option maxRecDepth 20000 in
theorem dX12_tryTold_17 : decode cX12_tryTold 17 = .ok (.ireturn, 1) := by decide +kernel
set_option maxRecDepth 20000 in
theorem dX12_tryTold_18 : decode cX12_tryTold 18 = .ok (.iload_n 2, 1) := by decide +kernel
set_option maxRecDepth 20000 in
theorem dX12_tryTold_19 : decode cX12_tryTold 19 = .ok (.tableswitch 68 0 4 #[33, 40, 47, 54, 61], 33) := by decide +kernel
set_option maxRecDepth 20000 in
theorem dX12_tryTold_52 : decode cX12_tryTold 52 = .ok (.aload_n 0, 1) := by decide +kernel
set_option maxRecDepth 20000 in
theorem dX12_tryTold_53 : decode cX12_tryTold 53 = .ok (.getfield 53, 3) := by decide +kernel
set_option maxRecDepth 20000 in
theorem dX12_tryTold_56 : decode cX12_tryTold 56 = .ok (.iload_n 1, 1) := by decide +kernel
set_option maxRecDepth 20000 in
theorem dX12_tryTold_57 : decode cX12_tryTold 57 = .ok (.iaload, 1) := by decide +kernel
set_option maxRecDepth 20000 in
theorem dX12_tryTold_58 : decode cX12_tryTold 58 = .ok (.ireturn, 1) := by decide +kernel
set_option maxRecDepth 20000 in
theorem dX12_tryTold_59 : decode cX12_tryTold 59 = .ok (.aload_n 0, 1) := by decide +kernel
set_option maxRecDepth 20000 in
theorem dX12_tryTold_60 : decode cX12_tryTold 60 = .ok (.getfield 56, 3) := by decide +kernel
set_option maxRecDepth 20000 in
theorem dX12_tryTold_63 : decode cX12_tryTold 63 = .ok (.iload_n 1, 1) := by decide +kernel
set_option maxRecDepth 20000 in
theorem dX12_tryTold_64 : decode cX12_tryTold 64 = .ok (.iaload, 1) := by decide +kernel
set_option maxRecDepth 20000 in
theorem dX12_tryTold_65 : decode cX12_tryTold 65 = .ok (.ireturn, 1) := by decide +kernel
set_option maxRecDepth 20000 in
theorem dX12_tryTold_66 : decode cX12_tryTold 66 = .ok (.aload_n 0, 1) := by decide +kernel
set_option maxRecDepth 20000 in
theorem dX12_tryTold_67 : decode cX12_tryTold 67 = .ok (.getfield 59, 3) := by decide +kernel
set_option maxRecDepth 20000 in
theorem dX12_tryTold_70 : decode cX12_tryTold 70 = .ok (.iload_n 1, 1) := by decide +kernel
set_option maxRecDepth 20000 in
theorem dX12_tryTold_71 : decode cX12_tryTold 71 = .ok (.iaload, 1) := by decide +kernel
set_option maxRecDepth 20000 in
theorem dX12_tryTold_72 : decode cX12_tryTold 72 = .ok (.ireturn, 1) := by decide +kernel
set_option maxRecDepth 20000 in
theorem dX12_tryTold_73 : decode cX12_tryTold 73 = .ok (.aload_n 0, 1) := by decide +kernel
set_option maxRecDepth 20000 in
theorem dX12_tryTold_74 : decode cX12_tryTold 74 = .ok (.getfield 62, 3) := by decide +kernel
set_option maxRecDepth 20000 in
theorem dX12_tryTold_77 : decode cX12_tryTold 77 = .ok (.iload_n 1, 1) := by decide +kernel
set_option maxRecDepth 20000 in
theorem dX12_tryTold_78 : decode cX12_tryTold 78 = .ok (.iaload, 1) := by decide +kernel
set_option maxRecDepth 20000 in
theorem dX12_tryTold_79 : decode cX12_tryTold 79 = .ok (.ireturn, 1) := by decide +kernel
set_option maxRecDepth 20000 in
theorem dX12_tryTold_80 : decode cX12_tryTold 80 = .ok (.aload_n 0, 1) := by decide +kernel
set_option maxRecDepth 20000 in
theorem dX12_tryTold_81 : decode cX12_tryTold 81 = .ok (.getfield 65, 3) := by decide +kernel
set_option maxRecDepth 20000 in
theorem dX12_tryTold_84 : decode cX12_tryTold 84 = .ok (.iload_n 1, 1) := by decide +kernel
set_option maxRecDepth 20000 in
theorem dX12_tryTold_85 : decode cX12_tryTold 85 = .ok (.iaload, 1) := by decide +kernel
set_option maxRecDepth 20000 in
theorem dX12_tryTold_86 : decode cX12_tryTold 86 = .ok (.ireturn, 1) := by decide +kernel
set_option maxRecDepth 20000 in
theorem dX12_tryTold_87 : decode cX12_tryTold 87 = .ok (.iconst (-1), 1) := by decide +kernel
set_option maxRecDepth 20000 in
theorem dX12_tryTold_88 : decode cX12_tryTold 88 = .ok (.ireturn, 1) := by decide +kernel
set_option maxRecDepth 20000 in
theorem dX12_setAll_0 : decode cX12_setAll 0 = .ok (.aload_n 0, 1) := by decide +kernel
set_option maxRecDepth 20000 in
theorem dX12_setAll_1 : decode cX12_setAll 1 = .ok (.iload_n 1, 1) := by decide +kernel
set_option maxRecDepth 20000 in
theorem dX12_setAll_2 : decode cX12_setAll 2 = .ok (.invokevirtual 142, 3) := by decide +kernel
set_option maxRecDepth 20000 in
theorem dX12_setAll_5 : decode cX12_setAll 5 = .ok (.ifCond .eq 22, 3) := by decide +kernel
set_option maxRecDepth 20000 in
theorem dX12_setAll_8 : decode cX12_setAll 8 = .ok (.iload_n 2, 1) := by decide +kernel
set_option maxRecDepth 20000 in
theorem dX12_setAll_9 : decode cX12_setAll 9 = .ok (.i2l, 1) := by decide +kernel
set_option maxRecDepth 20000 in
theorem dX12_setAll_10 : decode cX12_setAll 10 = .ok (.lconst 1, 1) := by decide +kernel
set_option maxRecDepth 20000 in
theorem dX12_setAll_11 : decode cX12_setAll 11 = .ok (.ldc2_w 240, 3) := by decide +kernel
set_option maxRecDepth 20000 in
theorem dX12_setAll_14 : decode cX12_setAll 14 = .ok (.invokestatic 125, 3) := by decide +kernel
set_option maxRecDepth 20000 in
theorem dX12_setAll_17 : decode cX12_setAll 17 = .ok (.ifCond .eq 10, 3) := by decide +kernel
set_option maxRecDepth 20000 in
theorem dX12_setAll_20 : decode cX12_setAll 20 = .ok (.iload_n 3, 1) := by decide +kernel
set_option maxRecDepth 20000 in
theorem dX12_setAll_21 : decode cX12_setAll 21 = .ok (.invokestatic 190, 3) := by decide +kernel
set_option maxRecDepth 20000 in
theorem dX12_setAll_24 : decode cX12_setAll 24 = .ok (.ifCond .ne 7, 3) := by decide +kernel
set_option maxRecDepth 20000 in
theorem dX12_setAll_27 : decode cX12_setAll 27 = .ok (.ldc2_w 204, 3) := by decide +kernel
set_option maxRecDepth 20000 in
theorem dX12_setAll_30 : decode cX12_setAll 30 = .ok (.lreturn, 1) := by decide +kernel
set_option maxRecDepth 20000 in
theorem dX12_setAll_31 : decode cX12_setAll 31 = .ok (.lconst 1, 1) := by decide +kernel
set_option maxRecDepth 20000 in
theorem dX12_setAll_32 : decode cX12_setAll 32 = .ok (.lstore 4, 2) := by decide +kernel
set_option maxRecDepth 20000 in
theorem dX12_setAll_34 : decode cX12_setAll 34 = .ok (.iload_n 2, 1) := by decide +kernel
set_option maxRecDepth 20000 in
theorem dX12_setAll_35 : decode cX12_setAll 35 = .ok (.istore 6, 2) := by decide +kernel
set_option maxRecDepth 20000 in
theorem dX12_setAll_37 : decode cX12_setAll 37 = .ok (.aload_n 0, 1) := by decide +kernel
set_option maxRecDepth 20000 in
theorem dX12_setAll_38 : decode cX12_setAll 38 = .ok (.getfield 223, 3) := by decide +kernel
set_option maxRecDepth 20000 in
theorem dX12_setAll_41 : decode cX12_setAll 41 = .ok (.iconst 1, 1) := by decide +kernel
set_option maxRecDepth 20000 in
theorem dX12_setAll_42 : decode cX12_setAll 42 = .ok (.isub, 1) := by decide +kernel
set_option maxRecDepth 20000 in
theorem dX12_setAll_43 : decode cX12_setAll 43 = .ok (.istore 7, 2) := by decide +kernel
set_option maxRecDepth 20000 in
theorem dX12_setAll_45 : decode cX12_setAll 45 = .ok (.iload 7, 2) := by decide +kernel
set_option maxRecDepth 20000 in
theorem dX12_setAll_47 : decode cX12_setAll 47 = .ok (.ifCond .lt 109, 3) := by decide +kernel
set_option maxRecDepth 20000 in
theorem dX12_setAll_50 : decode cX12_setAll 50 = .ok (.iload 6, 2) := by decide +kernel
set_option maxRecDepth 20000 in
theorem dX12_setAll_52 : decode cX12_setAll 52 = .ok (.ifCond .le 104, 3) := by decide +kernel
set_option maxRecDepth 20000 in
theorem dX12_setAll_55 : decode cX12_setAll 55 = .ok (.aload_n 0, 1) := by decide +kernel
set_option maxRecDepth 20000 in
theorem dX12_setAll_56 : decode cX12_setAll 56 = .ok (.getfield 53, 3) := by decide +kernel
set_option maxRecDepth 20000 in
theorem dX12_setAll_59 : decode cX12_setAll 59 = .ok (.iload 7, 2) := by decide +kernel
set_option maxRecDepth 20000 in
theorem dX12_setAll_61 : decode cX12_setAll 61 = .ok (.iaload, 1) := by decide +kernel
set_option maxRecDepth 20000 in
theorem dX12_setAll_62 : decode cX12_setAll 62 = .ok (.iload_n 1, 1) := by decide +kernel
set_option maxRecDepth 20000 in
theorem dX12_setAll_63 : decode cX12_setAll 63 = .ok (.if_icmp .eq 6, 3) := by decide +kernel
set_option maxRecDepth 20000 in
theorem dX12_setAll_66 : decode cX12_setAll 66 = .ok (.goto 84, 3) := by decide +kernel
set_option maxRecDepth 20000 in
theorem dX12_setAll_69 : decode cX12_setAll 69 = .ok (.aload_n 0, 1) := by decide +kernel
set_option maxRecDepth 20000 in
theorem dX12_setAll_70 : decode cX12_setAll 70 = .ok (.aload_n 0, 1) := by decide +kernel
set_option maxRecDepth 20000 in
theorem dX12_setAll_71 : decode cX12_setAll 71 = .ok (.getfield 23, 3) := by decide +kernel
set_option maxRecDepth 20000 in
theorem dX12_setAll_74 : decode cX12_setAll 74 = .ok (.iload_n 1, 1) := by decide +kernel
set_option maxRecDepth 20000 in
theorem dX12_setAll_75 : decode cX12_setAll 75 = .ok (.iaload, 1) := by decide +kernel
set_option maxRecDepth 20000 in
theorem dX12_setAll_76 : decode cX12_setAll 76 = .ok (.aload_n 0, 1) := by decide +kernel
set_option maxRecDepth 20000 in
theorem dX12_setAll_77 : decode cX12_setAll 77 = .ok (.getfield 26, 3) := by decide +kernel
set_option maxRecDepth 20000 in
theorem dX12_setAll_80 : decode cX12_setAll 80 = .ok (.iload_n 1, 1) := by decide +kernel
set_option maxRecDepth 20000 in
theorem dX12_setAll_81 : decode cX12_setAll 81 = .ok (.iaload, 1) := by decide +kernel
set_option maxRecDepth 20000 in
theorem dX12_setAll_82 : decode cX12_setAll 82 = .ok (.aload_n 0, 1) := by decide +kernel
set_option maxRecDepth 20000 in
theorem dX12_setAll_83 : decode cX12_setAll 83 = .ok (.getfield 29, 3) := by decide +kernel
set_option maxRecDepth 20000 in
theorem dX12_setAll_86 : decode cX12_setAll 86 = .ok (.iload_n 1, 1) := by decide +kernel
set_option maxRecDepth 20000 in
theorem dX12_setAll_87 : decode cX12_setAll 87 = .ok (.iaload, 1) := by decide +kernel
set_option maxRecDepth 20000 in
theorem dX12_setAll_88 : decode cX12_setAll 88 = .ok (.iconst 1, 1) := by decide +kernel
set_option maxRecDepth 20000 in
theorem dX12_setAll_89 : decode cX12_setAll 89 = .ok (.iload_n 3, 1) := by decide +kernel
set_option maxRecDepth 20000 in
theorem dX12_setAll_90 : decode cX12_setAll 90 = .ok (.isub, 1) := by decide +kernel
set_option maxRecDepth 20000 in
theorem dX12_setAll_91 : decode cX12_setAll 91 = .ok (.aload_n 0, 1) := by decide +kernel
set_option maxRecDepth 20000 in
theorem dX12_setAll_92 : decode cX12_setAll 92 = .ok (.getfield 56, 3) := by decide +kernel
set_option maxRecDepth 20000 in
theorem dX12_setAll_95 : decode cX12_setAll 95 = .ok (.iload 7, 2) := by decide +kernel
set_option maxRecDepth 20000 in
theorem dX12_setAll_97 : decode cX12_setAll 97 = .ok (.iaload, 1) := by decide +kernel
set_option maxRecDepth 20000 in
theorem dX12_setAll_98 : decode cX12_setAll 98 = .ok (.aload_n 0, 1) := by decide +kernel
set_option maxRecDepth 20000 in
theorem dX12_setAll_99 : decode cX12_setAll 99 = .ok (.getfield 59, 3) := by decide +kernel
set_option maxRecDepth 20000 in
theorem dX12_setAll_102 : decode cX12_setAll 102 = .ok (.iload 7, 2) := by decide +kernel
set_option maxRecDepth 20000 in
theorem dX12_setAll_104 : decode cX12_setAll 104 = .ok (.iaload, 1) := by decide +kernel
set_option maxRecDepth 20000 in
theorem dX12_setAll_105 : decode cX12_setAll 105 = .ok (.invokevirtual 180, 3) := by decide +kernel
set_option maxRecDepth 20000 in
theorem dX12_setAll_108 : decode cX12_setAll 108 = .ok (.istore 8, 2) := by decide +kernel
set_option maxRecDepth 20000 in
theorem dX12_setAll_110 : decode cX12_setAll 110 = .ok (.lload 4, 2) := by decide +kernel
set_option maxRecDepth 20000 in
theorem dX12_setAll_112 : decode cX12_setAll 112 = .ok (.aload_n 0, 1) := by decide +kernel
set_option maxRecDepth 20000 in
theorem dX12_setAll_113 : decode cX12_setAll 113 = .ok (.getfield 62, 3) := by decide +kernel
set_option maxRecDepth 20000 in
theorem dX12_setAll_116 : decode cX12_setAll 116 = .ok (.iload 7, 2) := by decide +kernel
set_option maxRecDepth 20000 in
theorem dX12_setAll_118 : decode cX12_setAll 118 = .ok (.iaload, 1) := by decide +kernel
set_option maxRecDepth 20000 in
theorem dX12_setAll_119 : decode cX12_setAll 119 = .ok (.iconst 1, 1) := by decide +kernel
set_option maxRecDepth 20000 in
theorem dX12_setAll_120 : decode cX12_setAll 120 = .ok (.if_icmp .ne 9, 3) := by decide +kernel
set_option maxRecDepth 20000 in
theorem dX12_setAll_123 : decode cX12_setAll 123 = .ok (.iload 8, 2) := by decide +kernel
set_option maxRecDepth 20000 in
theorem dX12_setAll_125 : decode cX12_setAll 125 = .ok (.i2l, 1) := by decide +kernel
set_option maxRecDepth 20000 in
theorem dX12_setAll_126 : decode cX12_setAll 126 = .ok (.goto 18, 3) := by decide +kernel
set_option maxRecDepth 20000 in
theorem dX12_setAll_129 : decode cX12_setAll 129 = .ok (.aload_n 0, 1) := by decide +kernel
set_option maxRecDepth 20000 in
theorem dX12_setAll_130 : decode cX12_setAll 130 = .ok (.aload_n 0, 1) := by decide +kernel
set_option maxRecDepth 20000 in
theorem dX12_setAll_131 : decode cX12_setAll 131 = .ok (.getfield 56, 3) := by decide +kernel
set_option maxRecDepth 20000 in
theorem dX12_setAll_134 : decode cX12_setAll 134 = .ok (.iload 7, 2) := by decide +kernel
set_option maxRecDepth 20000 in
theorem dX12_setAll_136 : decode cX12_setAll 136 = .ok (.iaload, 1) := by decide +kernel
set_option maxRecDepth 20000 in
theorem dX12_setAll_137 : decode cX12_setAll 137 = .ok (.invokevirtual 197, 3) := by decide +kernel
set_option maxRecDepth 20000 in
theorem dX12_setAll_140 : decode cX12_setAll 140 = .ok (.iload 8, 2) := by decide +kernel
set_option maxRecDepth 20000 in
theorem dX12_setAll_142 : decode cX12_setAll 142 = .ok (.isub, 1) := by decide +kernel
set_option maxRecDepth 20000 in
theorem dX12_setAll_143 : decode cX12_setAll 143 = .ok (.i2l, 1) := by decide +kernel
set_option maxRecDepth 20000 in
theorem dX12_setAll_144 : decode cX12_setAll 144 = .ok (.lmul, 1) := by decide +kernel
set_option maxRecDepth 20000 in
theorem dX12_setAll_145 : decode cX12_setAll 145 = .ok (.lstore 4, 2) := by decide +kernel
set_option maxRecDepth 20000 in
theorem dX12_setAll_147 : decode cX12_setAll 147 = .ok (.iinc 6 (-1), 3) := by decide +kernel
set_option maxRecDepth 20000 in
theorem dX12_setAll_150 : decode cX12_setAll 150 = .ok (.iinc 7 (-1), 3) := by decide +kernel
set_option maxRecDepth 20000 in
theorem dX12_setAll_153 : decode cX12_setAll 153 = .ok (.goto (-108), 3) := by decide +kernel
set_option maxRecDepth 20000 in
theorem dX12_setAll_156 : decode cX12_setAll 156 = .ok (.lload 4, 2) := by decide +kernel
set_option maxRecDepth 20000 in
theorem dX12_setAll_158 : decode cX12_setAll 158 = .ok (.lreturn, 1) := by decide +kernel
set_option maxRecDepth 20000 in
theorem dX12_worth_0 : decode cX12_worth 0 = .ok (.aload_n 0, 1) := by decide +kernel
set_option maxRecDepth 20000 in
theorem dX12_worth_1 : decode cX12_worth 1 = .ok (.iload_n 1, 1) := by decide +kernel
set_option maxRecDepth 20000 in
theorem dX12_worth_2 : decode cX12_worth 2 = .ok (.invokevirtual 142, 3) := by decide +kernel
set_option maxRecDepth 20000 in
theorem dX12_worth_5 : decode cX12_worth 5 = .ok (.ifCond .eq 37, 3) := by decide +kernel
set_option maxRecDepth 20000 in
theorem dX12_worth_8 : decode cX12_worth 8 = .ok (.aload_n 0, 1) := by decide +kernel
set_option maxRecDepth 20000 in
theorem dX12_worth_9 : decode cX12_worth 9 = .ok (.iload_n 2, 1) := by decide +kernel
set_option maxRecDepth 20000 in
theorem dX12_worth_10 : decode cX12_worth 10 = .ok (.invokevirtual 187, 3) := by decide +kernel
set_option maxRecDepth 20000 in
theorem dX12_worth_13 : decode cX12_worth 13 = .ok (.ifCond .eq 29, 3) := by decide +kernel
set_option maxRecDepth 20000 in
theorem dX12_worth_16 : decode cX12_worth 16 = .ok (.iload_n 3, 1) := by decide +kernel
set_option maxRecDepth 20000 in
theorem dX12_worth_17 : decode cX12_worth 17 = .ok (.invokestatic 134, 3) := by decide +kernel
set_option maxRecDepth 20000 in
theorem dX12_worth_20 : decode cX12_worth 20 = .ok (.ifCond .eq 22, 3) := by decide +kernel
set_option maxRecDepth 20000 in
theorem dX12_worth_23 : decode cX12_worth 23 = .ok (.iload 4, 2) := by decide +kernel
set_option maxRecDepth 20000 in
theorem dX12_worth_25 : decode cX12_worth 25 = .ok (.i2l, 1) := by decide +kernel
set_option maxRecDepth 20000 in
theorem dX12_worth_26 : decode cX12_worth 26 = .ok (.lconst 0, 1) := by decide +kernel
set_option maxRecDepth 20000 in
theorem dX12_worth_27 : decode cX12_worth 27 = .ok (.lconst 1, 1) := by decide +kernel
set_option maxRecDepth 20000 in
theorem dX12_worth_28 : decode cX12_worth 28 = .ok (.invokestatic 125, 3) := by decide +kernel
set_option maxRecDepth 20000 in
theorem dX12_worth_31 : decode cX12_worth 31 = .ok (.ifCond .eq 11, 3) := by decide +kernel
set_option maxRecDepth 20000 in
theorem dX12_worth_34 : decode cX12_worth 34 = .ok (.iload 5, 2) := by decide +kernel
set_option maxRecDepth 20000 in
theorem dX12_worth_36 : decode cX12_worth 36 = .ok (.invokestatic 190, 3) := by decide +kernel
set_option maxRecDepth 20000 in
theorem dX12_worth_39 : decode cX12_worth 39 = .ok (.ifCond .ne 7, 3) := by decide +kernel
set_option maxRecDepth 20000 in
theorem dX12_worth_42 : decode cX12_worth 42 = .ok (.ldc2_w 204, 3) := by decide +kernel
set_option maxRecDepth 20000 in
theorem dX12_worth_45 : decode cX12_worth 45 = .ok (.lreturn, 1) := by decide +kernel
set_option maxRecDepth 20000 in
theorem dX12_worth_46 : decode cX12_worth 46 = .ok (.aload_n 0, 1) := by decide +kernel
set_option maxRecDepth 20000 in
theorem dX12_worth_47 : decode cX12_worth 47 = .ok (.iload_n 1, 1) := by decide +kernel
set_option maxRecDepth 20000 in
theorem dX12_worth_48 : decode cX12_worth 48 = .ok (.iload_n 2, 1) := by decide +kernel
set_option maxRecDepth 20000 in
theorem dX12_worth_49 : decode cX12_worth 49 = .ok (.iload_n 3, 1) := by decide +kernel
set_option maxRecDepth 20000 in
theorem dX12_worth_50 : decode cX12_worth 50 = .ok (.invokevirtual 193, 3) := by decide +kernel
set_option maxRecDepth 20000 in
theorem dX12_worth_53 : decode cX12_worth 53 = .ok (.i2l, 1) := by decide +kernel
set_option maxRecDepth 20000 in
theorem dX12_worth_54 : decode cX12_worth 54 = .ok (.lstore 6, 2) := by decide +kernel
set_option maxRecDepth 20000 in
theorem dX12_worth_56 : decode cX12_worth 56 = .ok (.lload 6, 2) := by decide +kernel
set_option maxRecDepth 20000 in
theorem dX12_worth_58 : decode cX12_worth 58 = .ok (.iload 4, 2) := by decide +kernel
set_option maxRecDepth 20000 in
theorem dX12_worth_60 : decode cX12_worth 60 = .ok (.ifCond .ne 12, 3) := by decide +kernel
set_option maxRecDepth 20000 in
theorem dX12_worth_63 : decode cX12_worth 63 = .ok (.aload_n 0, 1) := by decide +kernel
set_option maxRecDepth 20000 in
theorem dX12_worth_64 : decode cX12_worth 64 = .ok (.getfield 35, 3) := by decide +kernel
set_option maxRecDepth 20000 in
theorem dX12_worth_67 : decode cX12_worth 67 = .ok (.iload_n 1, 1) := by decide +kernel
set_option maxRecDepth 20000 in
theorem dX12_worth_68 : decode cX12_worth 68 = .ok (.iaload, 1) := by decide +kernel
set_option maxRecDepth 20000 in
theorem dX12_worth_69 : decode cX12_worth 69 = .ok (.goto 9, 3) := by decide +kernel
set_option maxRecDepth 20000 in
theorem dX12_worth_72 : decode cX12_worth 72 = .ok (.aload_n 0, 1) := by decide +kernel
set_option maxRecDepth 20000 in
theorem dX12_worth_73 : decode cX12_worth 73 = .ok (.getfield 38, 3) := by decide +kernel
set_option maxRecDepth 20000 in
theorem dX12_worth_76 : decode cX12_worth 76 = .ok (.iload_n 1, 1) := by decide +kernel
set_option maxRecDepth 20000 in
theorem dX12_worth_77 : decode cX12_worth 77 = .ok (.iaload, 1) := by decide +kernel
set_option maxRecDepth 20000 in
theorem dX12_worth_78 : decode cX12_worth 78 = .ok (.i2l, 1) := by decide +kernel
set_option maxRecDepth 20000 in
theorem dX12_worth_79 : decode cX12_worth 79 = .ok (.lmul, 1) := by decide +kernel
set_option maxRecDepth 20000 in
theorem dX12_worth_80 : decode cX12_worth 80 = .ok (.aload_n 0, 1) := by decide +kernel
set_option maxRecDepth 20000 in
theorem dX12_worth_81 : decode cX12_worth 81 = .ok (.getfield 32, 3) := by decide +kernel
set_option maxRecDepth 20000 in
theorem dX12_worth_84 : decode cX12_worth 84 = .ok (.iload_n 1, 1) := by decide +kernel
set_option maxRecDepth 20000 in
theorem dX12_worth_85 : decode cX12_worth 85 = .ok (.iaload, 1) := by decide +kernel
set_option maxRecDepth 20000 in
theorem dX12_worth_86 : decode cX12_worth 86 = .ok (.i2l, 1) := by decide +kernel
set_option maxRecDepth 20000 in
theorem dX12_worth_87 : decode cX12_worth 87 = .ok (.aload_n 0, 1) := by decide +kernel
set_option maxRecDepth 20000 in
theorem dX12_worth_88 : decode cX12_worth 88 = .ok (.iload_n 2, 1) := by decide +kernel
set_option maxRecDepth 20000 in
theorem dX12_worth_89 : decode cX12_worth 89 = .ok (.invokevirtual 197, 3) := by decide +kernel
set_option maxRecDepth 20000 in
theorem dX12_worth_92 : decode cX12_worth 92 = .ok (.i2l, 1) := by decide +kernel
set_option maxRecDepth 20000 in
theorem dX12_worth_93 : decode cX12_worth 93 = .ok (.lmul, 1) := by decide +kernel
set_option maxRecDepth 20000 in
theorem dX12_worth_94 : decode cX12_worth 94 = .ok (.lsub, 1) := by decide +kernel
set_option maxRecDepth 20000 in
theorem dX12_worth_95 : decode cX12_worth 95 = .ok (.aload_n 0, 1) := by decide +kernel
set_option maxRecDepth 20000 in
theorem dX12_worth_96 : decode cX12_worth 96 = .ok (.iload_n 2, 1) := by decide +kernel
set_option maxRecDepth 20000 in
theorem dX12_worth_97 : decode cX12_worth 97 = .ok (.invokevirtual 197, 3) := by decide +kernel
set_option maxRecDepth 20000 in
theorem dX12_worth_100 : decode cX12_worth 100 = .ok (.i2l, 1) := by decide +kernel
set_option maxRecDepth 20000 in
theorem dX12_worth_101 : decode cX12_worth 101 = .ok (.iload 5, 2) := by decide +kernel
set_option maxRecDepth 20000 in
theorem dX12_worth_103 : decode cX12_worth 103 = .ok (.invokestatic 200, 3) := by decide +kernel
set_option maxRecDepth 20000 in
theorem dX12_worth_106 : decode cX12_worth 106 = .ok (.lreturn, 1) := by decide +kernel
set_option maxRecDepth 20000 in
theorem dX12_leaves_0 : decode cX12_leaves 0 = .ok (.aload_n 0, 1) := by decide +kernel
set_option maxRecDepth 20000 in
theorem dX12_leaves_1 : decode cX12_leaves 1 = .ok (.iload_n 1, 1) := by decide +kernel
set_option maxRecDepth 20000 in
theorem dX12_leaves_2 : decode cX12_leaves 2 = .ok (.invokevirtual 187, 3) := by decide +kernel
set_option maxRecDepth 20000 in
theorem dX12_leaves_5 : decode cX12_leaves 5 = .ok (.ifCond .eq 10, 3) := by decide +kernel
set_option maxRecDepth 20000 in
theorem dX12_leaves_8 : decode cX12_leaves 8 = .ok (.iload_n 2, 1) := by decide +kernel
set_option maxRecDepth 20000 in
theorem dX12_leaves_9 : decode cX12_leaves 9 = .ok (.invokestatic 190, 3) := by decide +kernel
set_option maxRecDepth 20000 in
theorem dX12_leaves_12 : decode cX12_leaves 12 = .ok (.ifCond .ne 7, 3) := by decide +kernel
set_option maxRecDepth 20000 in
theorem dX12_leaves_15 : decode cX12_leaves 15 = .ok (.ldc2_w 204, 3) := by decide +kernel
set_option maxRecDepth 20000 in
theorem dX12_leaves_18 : decode cX12_leaves 18 = .ok (.lreturn, 1) := by decide +kernel
set_option maxRecDepth 20000 in
theorem dX12_leaves_19 : decode cX12_leaves 19 = .ok (.lconst 0, 1) := by decide +kernel
set_option maxRecDepth 20000 in
theorem dX12_leaves_20 : decode cX12_leaves 20 = .ok (.lstore_n 3, 1) := by decide +kernel
set_option maxRecDepth 20000 in
theorem dX12_leaves_21 : decode cX12_leaves 21 = .ok (.iconst 0, 1) := by decide +kernel
set_option maxRecDepth 20000 in
theorem dX12_leaves_22 : decode cX12_leaves 22 = .ok (.istore 5, 2) := by decide +kernel
set_option maxRecDepth 20000 in
theorem dX12_leaves_24 : decode cX12_leaves 24 = .ok (.iload 5, 2) := by decide +kernel
set_option maxRecDepth 20000 in
theorem dX12_leaves_26 : decode cX12_leaves 26 = .ok (.aload_n 0, 1) := by decide +kernel
set_option maxRecDepth 20000 in
theorem dX12_leaves_27 : decode cX12_leaves 27 = .ok (.getfield 122, 3) := by decide +kernel
set_option maxRecDepth 20000 in
theorem dX12_leaves_30 : decode cX12_leaves 30 = .ok (.if_icmp .ge 45, 3) := by decide +kernel
set_option maxRecDepth 20000 in
theorem dX12_leaves_33 : decode cX12_leaves 33 = .ok (.lload_n 3, 1) := by decide +kernel
set_option maxRecDepth 20000 in
theorem dX12_leaves_34 : decode cX12_leaves 34 = .ok (.aload_n 0, 1) := by decide +kernel
set_option maxRecDepth 20000 in
theorem dX12_leaves_35 : decode cX12_leaves 35 = .ok (.getfield 32, 3) := by decide +kernel
set_option maxRecDepth 20000 in
theorem dX12_leaves_38 : decode cX12_leaves 38 = .ok (.iload 5, 2) := by decide +kernel
set_option maxRecDepth 20000 in
theorem dX12_leaves_40 : decode cX12_leaves 40 = .ok (.iaload, 1) := by decide +kernel
set_option maxRecDepth 20000 in
theorem dX12_leaves_41 : decode cX12_leaves 41 = .ok (.i2l, 1) := by decide +kernel
set_option maxRecDepth 20000 in
theorem dX12_leaves_42 : decode cX12_leaves 42 = .ok (.aload_n 0, 1) := by decide +kernel
set_option maxRecDepth 20000 in
theorem dX12_leaves_43 : decode cX12_leaves 43 = .ok (.iload_n 1, 1) := by decide +kernel
set_option maxRecDepth 20000 in
theorem dX12_leaves_44 : decode cX12_leaves 44 = .ok (.invokevirtual 197, 3) := by decide +kernel
set_option maxRecDepth 20000 in
theorem dX12_leaves_47 : decode cX12_leaves 47 = .ok (.i2l, 1) := by decide +kernel
set_option maxRecDepth 20000 in
theorem dX12_leaves_48 : decode cX12_leaves 48 = .ok (.lmul, 1) := by decide +kernel
set_option maxRecDepth 20000 in
theorem dX12_leaves_49 : decode cX12_leaves 49 = .ok (.aload_n 0, 1) := by decide +kernel
set_option maxRecDepth 20000 in
theorem dX12_leaves_50 : decode cX12_leaves 50 = .ok (.iload 5, 2) := by decide +kernel
set_option maxRecDepth 20000 in
theorem dX12_leaves_52 : decode cX12_leaves 52 = .ok (.iload_n 1, 1) := by decide +kernel
set_option maxRecDepth 20000 in
theorem dX12_leaves_53 : decode cX12_leaves 53 = .ok (.invokevirtual 215, 3) := by decide +kernel
set_option maxRecDepth 20000 in
theorem dX12_leaves_56 : decode cX12_leaves 56 = .ok (.i2l, 1) := by decide +kernel
set_option maxRecDepth 20000 in
theorem dX12_leaves_57 : decode cX12_leaves 57 = .ok (.aload_n 0, 1) := by decide +kernel
set_option maxRecDepth 20000 in
theorem dX12_leaves_58 : decode cX12_leaves 58 = .ok (.getfield 35, 3) := by decide +kernel
set_option maxRecDepth 20000 in
theorem dX12_leaves_61 : decode cX12_leaves 61 = .ok (.iload 5, 2) := by decide +kernel
set_option maxRecDepth 20000 in
theorem dX12_leaves_63 : decode cX12_leaves 63 = .ok (.iaload, 1) := by decide +kernel
set_option maxRecDepth 20000 in
theorem dX12_leaves_64 : decode cX12_leaves 64 = .ok (.i2l, 1) := by decide +kernel
set_option maxRecDepth 20000 in
theorem dX12_leaves_65 : decode cX12_leaves 65 = .ok (.lmul, 1) := by decide +kernel
set_option maxRecDepth 20000 in
theorem dX12_leaves_66 : decode cX12_leaves 66 = .ok (.lsub, 1) := by decide +kernel
set_option maxRecDepth 20000 in
theorem dX12_leaves_67 : decode cX12_leaves 67 = .ok (.ladd, 1) := by decide +kernel
set_option maxRecDepth 20000 in
theorem dX12_leaves_68 : decode cX12_leaves 68 = .ok (.lstore_n 3, 1) := by decide +kernel
set_option maxRecDepth 20000 in
theorem dX12_leaves_69 : decode cX12_leaves 69 = .ok (.iinc 5 1, 3) := by decide +kernel
set_option maxRecDepth 20000 in
theorem dX12_leaves_72 : decode cX12_leaves 72 = .ok (.goto (-48), 3) := by decide +kernel
set_option maxRecDepth 20000 in
theorem dX12_leaves_75 : decode cX12_leaves 75 = .ok (.lload_n 3, 1) := by decide +kernel
set_option maxRecDepth 20000 in
theorem dX12_leaves_76 : decode cX12_leaves 76 = .ok (.aload_n 0, 1) := by decide +kernel
set_option maxRecDepth 20000 in
theorem dX12_leaves_77 : decode cX12_leaves 77 = .ok (.iload_n 1, 1) := by decide +kernel
set_option maxRecDepth 20000 in
theorem dX12_leaves_78 : decode cX12_leaves 78 = .ok (.invokevirtual 197, 3) := by decide +kernel
set_option maxRecDepth 20000 in
theorem dX12_leaves_81 : decode cX12_leaves 81 = .ok (.i2l, 1) := by decide +kernel
set_option maxRecDepth 20000 in
theorem dX12_leaves_82 : decode cX12_leaves 82 = .ok (.iload_n 2, 1) := by decide +kernel
set_option maxRecDepth 20000 in
theorem dX12_leaves_83 : decode cX12_leaves 83 = .ok (.invokestatic 200, 3) := by decide +kernel
set_option maxRecDepth 20000 in
theorem dX12_leaves_86 : decode cX12_leaves 86 = .ok (.lreturn, 1) := by decide +kernel
set_option maxRecDepth 20000 in
theorem dX12_feed_0 : decode cX12_feed 0 = .ok (.iload_n 1, 1) := by decide +kernel
set_option maxRecDepth 20000 in
theorem dX12_feed_1 : decode cX12_feed 1 = .ok (.i2l, 1) := by decide +kernel
set_option maxRecDepth 20000 in
theorem dX12_feed_2 : decode cX12_feed 2 = .ok (.lconst 1, 1) := by decide +kernel
set_option maxRecDepth 20000 in
theorem dX12_feed_3 : decode cX12_feed 3 = .ok (.ldc2_w 240, 3) := by decide +kernel
set_option maxRecDepth 20000 in
theorem dX12_feed_6 : decode cX12_feed 6 = .ok (.invokestatic 125, 3) := by decide +kernel
set_option maxRecDepth 20000 in
theorem dX12_feed_9 : decode cX12_feed 9 = .ok (.ifCond .ne 6, 3) := by decide +kernel
set_option maxRecDepth 20000 in
theorem dX12_feed_12 : decode cX12_feed 12 = .ok (.bipush (-2), 2) := by decide +kernel
set_option maxRecDepth 20000 in
theorem dX12_feed_14 : decode cX12_feed 14 = .ok (.ireturn, 1) := by decide +kernel
set_option maxRecDepth 20000 in
theorem dX12_feed_15 : decode cX12_feed 15 = .ok (.aload_n 0, 1) := by decide +kernel
set_option maxRecDepth 20000 in
theorem dX12_feed_16 : decode cX12_feed 16 = .ok (.getfield 242, 3) := by decide +kernel
set_option maxRecDepth 20000 in
theorem dX12_feed_19 : decode cX12_feed 19 = .ok (.iload_n 1, 1) := by decide +kernel
set_option maxRecDepth 20000 in
theorem dX12_feed_20 : decode cX12_feed 20 = .ok (.iadd, 1) := by decide +kernel
set_option maxRecDepth 20000 in
theorem dX12_feed_21 : decode cX12_feed 21 = .ok (.sipush 160, 3) := by decide +kernel
set_option maxRecDepth 20000 in
theorem dX12_feed_24 : decode cX12_feed 24 = .ok (.if_icmp .le 6, 3) := by decide +kernel
set_option maxRecDepth 20000 in
theorem dX12_feed_27 : decode cX12_feed 27 = .ok (.bipush (-4), 2) := by decide +kernel
set_option maxRecDepth 20000 in
theorem dX12_feed_29 : decode cX12_feed 29 = .ok (.ireturn, 1) := by decide +kernel
set_option maxRecDepth 20000 in
theorem dX12_feed_30 : decode cX12_feed 30 = .ok (.iconst 0, 1) := by decide +kernel
set_option maxRecDepth 20000 in
theorem dX12_feed_31 : decode cX12_feed 31 = .ok (.istore 4, 2) := by decide +kernel
set_option maxRecDepth 20000 in
theorem dX12_feed_33 : decode cX12_feed 33 = .ok (.iload 4, 2) := by decide +kernel
set_option maxRecDepth 20000 in
theorem dX12_feed_35 : decode cX12_feed 35 = .ok (.iload_n 1, 1) := by decide +kernel
set_option maxRecDepth 20000 in
theorem dX12_feed_36 : decode cX12_feed 36 = .ok (.if_icmp .ge 40, 3) := by decide +kernel
set_option maxRecDepth 20000 in
theorem dX12_feed_39 : decode cX12_feed 39 = .ok (.aload_n 0, 1) := by decide +kernel
set_option maxRecDepth 20000 in
theorem dX12_feed_40 : decode cX12_feed 40 = .ok (.getfield 20, 3) := by decide +kernel
set_option maxRecDepth 20000 in
theorem dX12_feed_43 : decode cX12_feed 43 = .ok (.aload_n 0, 1) := by decide +kernel
set_option maxRecDepth 20000 in
theorem dX12_feed_44 : decode cX12_feed 44 = .ok (.getfield 242, 3) := by decide +kernel
set_option maxRecDepth 20000 in
theorem dX12_feed_47 : decode cX12_feed 47 = .ok (.lload_n 2, 1) := by decide +kernel
set_option maxRecDepth 20000 in
theorem dX12_feed_48 : decode cX12_feed 48 = .ok (.bipush 8, 2) := by decide +kernel
set_option maxRecDepth 20000 in
theorem dX12_feed_50 : decode cX12_feed 50 = .ok (.iload 4, 2) := by decide +kernel
set_option maxRecDepth 20000 in
theorem dX12_feed_52 : decode cX12_feed 52 = .ok (.imul, 1) := by decide +kernel
set_option maxRecDepth 20000 in
theorem dX12_feed_53 : decode cX12_feed 53 = .ok (.lshr, 1) := by decide +kernel
set_option maxRecDepth 20000 in
theorem dX12_feed_54 : decode cX12_feed 54 = .ok (.ldc2_w 120, 3) := by decide +kernel
set_option maxRecDepth 20000 in
theorem dX12_feed_57 : decode cX12_feed 57 = .ok (.land, 1) := by decide +kernel
set_option maxRecDepth 20000 in
theorem dX12_feed_58 : decode cX12_feed 58 = .ok (.l2i, 1) := by decide +kernel
set_option maxRecDepth 20000 in
theorem dX12_feed_59 : decode cX12_feed 59 = .ok (.iastore, 1) := by decide +kernel
set_option maxRecDepth 20000 in
theorem dX12_feed_60 : decode cX12_feed 60 = .ok (.aload_n 0, 1) := by decide +kernel
set_option maxRecDepth 20000 in
theorem dX12_feed_61 : decode cX12_feed 61 = .ok (.dup, 1) := by decide +kernel
set_option maxRecDepth 20000 in
theorem dX12_feed_62 : decode cX12_feed 62 = .ok (.getfield 242, 3) := by decide +kernel
set_option maxRecDepth 20000 in
theorem dX12_feed_65 : decode cX12_feed 65 = .ok (.iconst 1, 1) := by decide +kernel
set_option maxRecDepth 20000 in
theorem dX12_feed_66 : decode cX12_feed 66 = .ok (.iadd, 1) := by decide +kernel
set_option maxRecDepth 20000 in
theorem dX12_feed_67 : decode cX12_feed 67 = .ok (.putfield 242, 3) := by decide +kernel
set_option maxRecDepth 20000 in
theorem dX12_feed_70 : decode cX12_feed 70 = .ok (.iinc 4 1, 3) := by decide +kernel
set_option maxRecDepth 20000 in
theorem dX12_feed_73 : decode cX12_feed 73 = .ok (.goto (-40), 3) := by decide +kernel
set_option maxRecDepth 20000 in
theorem dX12_feed_76 : decode cX12_feed 76 = .ok (.aload_n 0, 1) := by decide +kernel
set_option maxRecDepth 20000 in
theorem dX12_feed_77 : decode cX12_feed 77 = .ok (.getfield 242, 3) := by decide +kernel
set_option maxRecDepth 20000 in
theorem dX12_feed_80 : decode cX12_feed 80 = .ok (.ireturn, 1) := by decide +kernel
set_option maxRecDepth 20000 in
theorem dX12_byteAt_0 : decode cX12_byteAt 0 = .ok (.iload_n 1, 1) := by decide +kernel
set_option maxRecDepth 20000 in
theorem dX12_byteAt_1 : decode cX12_byteAt 1 = .ok (.aload_n 0, 1) := by decide +kernel
set_option maxRecDepth 20000 in
theorem dX12_byteAt_2 : decode cX12_byteAt 2 = .ok (.getfield 245, 3) := by decide +kernel
set_option maxRecDepth 20000 in
theorem dX12_byteAt_5 : decode cX12_byteAt 5 = .ok (.if_icmp .ge 17, 3) := by decide +kernel
set_option maxRecDepth 20000 in
theorem dX12_byteAt_8 : decode cX12_byteAt 8 = .ok (.aload_n 0, 1) := by decide +kernel
set_option maxRecDepth 20000 in
theorem dX12_byteAt_9 : decode cX12_byteAt 9 = .ok (.getfield 13, 3) := by decide +kernel
set_option maxRecDepth 20000 in
theorem dX12_byteAt_12 : decode cX12_byteAt 12 = .ok (.aload_n 0, 1) := by decide +kernel
set_option maxRecDepth 20000 in
theorem dX12_byteAt_13 : decode cX12_byteAt 13 = .ok (.getfield 248, 3) := by decide +kernel
set_option maxRecDepth 20000 in
theorem dX12_byteAt_16 : decode cX12_byteAt 16 = .ok (.iload_n 1, 1) := by decide +kernel
set_option maxRecDepth 20000 in
theorem dX12_byteAt_17 : decode cX12_byteAt 17 = .ok (.iadd, 1) := by decide +kernel
set_option maxRecDepth 20000 in
theorem dX12_byteAt_18 : decode cX12_byteAt 18 = .ok (.iaload, 1) := by decide +kernel
set_option maxRecDepth 20000 in
theorem dX12_byteAt_19 : decode cX12_byteAt 19 = .ok (.goto 4, 3) := by decide +kernel
set_option maxRecDepth 20000 in
theorem dX12_byteAt_22 : decode cX12_byteAt 22 = .ok (.iconst (-1), 1) := by decide +kernel
set_option maxRecDepth 20000 in
theorem dX12_byteAt_23 : decode cX12_byteAt 23 = .ok (.ireturn, 1) := by decide +kernel
set_option maxRecDepth 20000 in
theorem dX12_next_0 : decode cX12_next 0 = .ok (.aload_n 0, 1) := by decide +kernel
set_option maxRecDepth 20000 in
theorem dX12_next_1 : decode cX12_next 1 = .ok (.aload_n 0, 1) := by decide +kernel
set_option maxRecDepth 20000 in
theorem dX12_next_2 : decode cX12_next 2 = .ok (.getfield 251, 3) := by decide +kernel
set_option maxRecDepth 20000 in
theorem dX12_next_5 : decode cX12_next 5 = .ok (.invokevirtual 254, 3) := by decide +kernel
set_option maxRecDepth 20000 in
theorem dX12_next_8 : decode cX12_next 8 = .ok (.bipush 32, 2) := by decide +kernel
set_option maxRecDepth 20000 in
theorem dX12_next_10 : decode cX12_next 10 = .ok (.if_icmp .eq 16, 3) := by decide +kernel
set_option maxRecDepth 20000 in
theorem dX12_next_13 : decode cX12_next 13 = .ok (.aload_n 0, 1) := by decide +kernel
set_option maxRecDepth 20000 in
theorem dX12_next_14 : decode cX12_next 14 = .ok (.aload_n 0, 1) := by decide +kernel
set_option maxRecDepth 20000 in
theorem dX12_next_15 : decode cX12_next 15 = .ok (.getfield 251, 3) := by decide +kernel
set_option maxRecDepth 20000 in
theorem dX12_next_18 : decode cX12_next 18 = .ok (.invokevirtual 254, 3) := by decide +kernel
set_option maxRecDepth 20000 in
theorem dX12_next_21 : decode cX12_next 21 = .ok (.bipush 10, 2) := by decide +kernel
set_option maxRecDepth 20000 in
theorem dX12_next_23 : decode cX12_next 23 = .ok (.if_icmp .ne 16, 3) := by decide +kernel
set_option maxRecDepth 20000 in
theorem dX12_next_26 : decode cX12_next 26 = .ok (.aload_n 0, 1) := by decide +kernel
set_option maxRecDepth 20000 in
theorem dX12_next_27 : decode cX12_next 27 = .ok (.dup, 1) := by decide +kernel
set_option maxRecDepth 20000 in
theorem dX12_next_28 : decode cX12_next 28 = .ok (.getfield 251, 3) := by decide +kernel
set_option maxRecDepth 20000 in
theorem dX12_next_31 : decode cX12_next 31 = .ok (.iconst 1, 1) := by decide +kernel
set_option maxRecDepth 20000 in
theorem dX12_next_32 : decode cX12_next 32 = .ok (.iadd, 1) := by decide +kernel
set_option maxRecDepth 20000 in
theorem dX12_next_33 : decode cX12_next 33 = .ok (.putfield 251, 3) := by decide +kernel
set_option maxRecDepth 20000 in
theorem dX12_next_36 : decode cX12_next 36 = .ok (.goto (-36), 3) := by decide +kernel
set_option maxRecDepth 20000 in
theorem dX12_next_39 : decode cX12_next 39 = .ok (.aload_n 0, 1) := by decide +kernel
set_option maxRecDepth 20000 in
theorem dX12_next_40 : decode cX12_next 40 = .ok (.aload_n 0, 1) := by decide +kernel
set_option maxRecDepth 20000 in
theorem dX12_next_41 : decode cX12_next 41 = .ok (.getfield 251, 3) := by decide +kernel
set_option maxRecDepth 20000 in
theorem dX12_next_44 : decode cX12_next 44 = .ok (.putfield 257, 3) := by decide +kernel
set_option maxRecDepth 20000 in
theorem dX12_next_47 : decode cX12_next 47 = .ok (.aload_n 0, 1) := by decide +kernel
set_option maxRecDepth 20000 in
theorem dX12_next_48 : decode cX12_next 48 = .ok (.aload_n 0, 1) := by decide +kernel
set_option maxRecDepth 20000 in
theorem dX12_next_49 : decode cX12_next 49 = .ok (.getfield 251, 3) := by decide +kernel
set_option maxRecDepth 20000 in
theorem dX12_next_52 : decode cX12_next 52 = .ok (.invokevirtual 254, 3) := by decide +kernel
set_option maxRecDepth 20000 in
theorem dX12_next_55 : decode cX12_next 55 = .ok (.istore_n 1, 1) := by decide +kernel
set_option maxRecDepth 20000 in
theorem dX12_next_56 : decode cX12_next 56 = .ok (.aload_n 0, 1) := by decide +kernel
set_option maxRecDepth 20000 in
theorem dX12_next_57 : decode cX12_next 57 = .ok (.iconst 4, 1) := by decide +kernel
set_option maxRecDepth 20000 in
theorem dX12_next_58 : decode cX12_next 58 = .ok (.putfield 260, 3) := by decide +kernel
set_option maxRecDepth 20000 in
theorem dX12_next_61 : decode cX12_next 61 = .ok (.iload_n 1, 1) := by decide +kernel
set_option maxRecDepth 20000 in
theorem dX12_next_62 : decode cX12_next 62 = .ok (.ifCond .ge 19, 3) := by decide +kernel
set_option maxRecDepth 20000 in
theorem dX12_next_65 : decode cX12_next 65 = .ok (.aload_n 0, 1) := by decide +kernel
set_option maxRecDepth 20000 in
theorem dX12_next_66 : decode cX12_next 66 = .ok (.iconst 0, 1) := by decide +kernel
set_option maxRecDepth 20000 in
theorem dX12_next_67 : decode cX12_next 67 = .ok (.putfield 260, 3) := by decide +kernel
set_option maxRecDepth 20000 in
theorem dX12_next_70 : decode cX12_next 70 = .ok (.aload_n 0, 1) := by decide +kernel
set_option maxRecDepth 20000 in
theorem dX12_next_71 : decode cX12_next 71 = .ok (.aload_n 0, 1) := by decide +kernel
set_option maxRecDepth 20000 in
theorem dX12_next_72 : decode cX12_next 72 = .ok (.getfield 245, 3) := by decide +kernel
set_option maxRecDepth 20000 in
theorem dX12_next_75 : decode cX12_next 75 = .ok (.putfield 257, 3) := by decide +kernel
set_option maxRecDepth 20000 in
theorem dX12_next_78 : decode cX12_next 78 = .ok (.goto 294, 3) := by decide +kernel
set_option maxRecDepth 20000 in
theorem dX12_next_81 : decode cX12_next 81 = .ok (.iload_n 1, 1) := by decide +kernel
set_option maxRecDepth 20000 in
theorem dX12_next_82 : decode cX12_next 82 = .ok (.i2l, 1) := by decide +kernel
set_option maxRecDepth 20000 in
theorem dX12_next_83 : decode cX12_next 83 = .ok (.ldc2_w 263, 3) := by decide +kernel
set_option maxRecDepth 20000 in
theorem dX12_next_86 : decode cX12_next 86 = .ok (.ldc2_w 265, 3) := by decide +kernel
set_option maxRecDepth 20000 in
theorem dX12_next_89 : decode cX12_next 89 = .ok (.invokestatic 125, 3) := by decide +kernel
set_option maxRecDepth 20000 in
theorem dX12_next_92 : decode cX12_next 92 = .ok (.ifCond .eq 93, 3) := by decide +kernel
set_option maxRecDepth 20000 in
theorem dX12_next_95 : decode cX12_next 95 = .ok (.aload_n 0, 1) := by decide +kernel
set_option maxRecDepth 20000 in
theorem dX12_next_96 : decode cX12_next 96 = .ok (.iconst 1, 1) := by decide +kernel
set_option maxRecDepth 20000 in
theorem dX12_next_97 : decode cX12_next 97 = .ok (.putfield 260, 3) := by decide +kernel
set_option maxRecDepth 20000 in
theorem dX12_next_100 : decode cX12_next 100 = .ok (.aload_n 0, 1) := by decide +kernel
set_option maxRecDepth 20000 in
theorem dX12_next_101 : decode cX12_next 101 = .ok (.lconst 0, 1) := by decide +kernel
set_option maxRecDepth 20000 in
theorem dX12_next_102 : decode cX12_next 102 = .ok (.putfield 267, 3) := by decide +kernel
set_option maxRecDepth 20000 in
theorem dX12_next_105 : decode cX12_next 105 = .ok (.iconst 0, 1) := by decide +kernel
set_option maxRecDepth 20000 in
theorem dX12_next_106 : decode cX12_next 106 = .ok (.istore_n 2, 1) := by decide +kernel
set_option maxRecDepth 20000 in
theorem dX12_next_107 : decode cX12_next 107 = .ok (.aload_n 0, 1) := by decide +kernel
set_option maxRecDepth 20000 in
theorem dX12_next_108 : decode cX12_next 108 = .ok (.aload_n 0, 1) := by decide +kernel
set_option maxRecDepth 20000 in
theorem dX12_next_109 : decode cX12_next 109 = .ok (.getfield 251, 3) := by decide +kernel
set_option maxRecDepth 20000 in
theorem dX12_next_112 : decode cX12_next 112 = .ok (.invokevirtual 254, 3) := by decide +kernel
set_option maxRecDepth 20000 in
theorem dX12_next_115 : decode cX12_next 115 = .ok (.i2l, 1) := by decide +kernel
set_option maxRecDepth 20000 in
theorem dX12_next_116 : decode cX12_next 116 = .ok (.ldc2_w 263, 3) := by decide +kernel
set_option maxRecDepth 20000 in
theorem dX12_next_119 : decode cX12_next 119 = .ok (.ldc2_w 265, 3) := by decide +kernel
set_option maxRecDepth 20000 in
theorem dX12_next_122 : decode cX12_next 122 = .ok (.invokestatic 125, 3) := by decide +kernel
set_option maxRecDepth 20000 in
theorem dX12_next_125 : decode cX12_next 125 = .ok (.ifCond .eq 57, 3) := by decide +kernel
set_option maxRecDepth 20000 in
theorem dX12_next_128 : decode cX12_next 128 = .ok (.aload_n 0, 1) := by decide +kernel
set_option maxRecDepth 20000 in
theorem dX12_next_129 : decode cX12_next 129 = .ok (.iload_n 2, 1) := by decide +kernel
set_option maxRecDepth 20000 in
theorem dX12_next_130 : decode cX12_next 130 = .ok (.bipush 8, 2) := by decide +kernel
set_option maxRecDepth 20000 in
theorem dX12_next_132 : decode cX12_next 132 = .ok (.if_icmp .ge 28, 3) := by decide +kernel
set_option maxRecDepth 20000 in
theorem dX12_next_135 : decode cX12_next 135 = .ok (.ldc2_w 271, 3) := by decide +kernel
set_option maxRecDepth 20000 in
theorem dX12_next_138 : decode cX12_next 138 = .ok (.aload_n 0, 1) := by decide +kernel
set_option maxRecDepth 20000 in
theorem dX12_next_139 : decode cX12_next 139 = .ok (.getfield 267, 3) := by decide +kernel
set_option maxRecDepth 20000 in
theorem dX12_next_142 : decode cX12_next 142 = .ok (.lmul, 1) := by decide +kernel
set_option maxRecDepth 20000 in
theorem dX12_next_143 : decode cX12_next 143 = .ok (.aload_n 0, 1) := by decide +kernel
set_option maxRecDepth 20000 in
theorem dX12_next_144 : decode cX12_next 144 = .ok (.aload_n 0, 1) := by decide +kernel
set_option maxRecDepth 20000 in
theorem dX12_next_145 : decode cX12_next 145 = .ok (.getfield 251, 3) := by decide +kernel
set_option maxRecDepth 20000 in
theorem dX12_next_148 : decode cX12_next 148 = .ok (.invokevirtual 254, 3) := by decide +kernel
set_option maxRecDepth 20000 in
theorem dX12_next_151 : decode cX12_next 151 = .ok (.i2l, 1) := by decide +kernel
set_option maxRecDepth 20000 in
theorem dX12_next_152 : decode cX12_next 152 = .ok (.ladd, 1) := by decide +kernel
set_option maxRecDepth 20000 in
theorem dX12_next_153 : decode cX12_next 153 = .ok (.ldc2_w 273, 3) := by decide +kernel
set_option maxRecDepth 20000 in
theorem dX12_next_156 : decode cX12_next 156 = .ok (.lsub, 1) := by decide +kernel
set_option maxRecDepth 20000 in
theorem dX12_next_157 : decode cX12_next 157 = .ok (.goto 6, 3) := by decide +kernel
set_option maxRecDepth 20000 in
theorem dX12_next_160 : decode cX12_next 160 = .ok (.ldc2_w 275, 3) := by decide +kernel
set_option maxRecDepth 20000 in
theorem dX12_next_163 : decode cX12_next 163 = .ok (.putfield 267, 3) := by decide +kernel
set_option maxRecDepth 20000 in
theorem dX12_next_166 : decode cX12_next 166 = .ok (.iinc 2 1, 3) := by decide +kernel
set_option maxRecDepth 20000 in
theorem dX12_next_169 : decode cX12_next 169 = .ok (.aload_n 0, 1) := by decide +kernel
set_option maxRecDepth 20000 in
theorem dX12_next_170 : decode cX12_next 170 = .ok (.dup, 1) := by decide +kernel
set_option maxRecDepth 20000 in
theorem dX12_next_171 : decode cX12_next 171 = .ok (.getfield 251, 3) := by decide +kernel
set_option maxRecDepth 20000 in
theorem dX12_next_174 : decode cX12_next 174 = .ok (.iconst 1, 1) := by decide +kernel
set_option maxRecDepth 20000 in
theorem dX12_next_175 : decode cX12_next 175 = .ok (.iadd, 1) := by decide +kernel
set_option maxRecDepth 20000 in
theorem dX12_next_176 : decode cX12_next 176 = .ok (.putfield 251, 3) := by decide +kernel
set_option maxRecDepth 20000 in
theorem dX12_next_179 : decode cX12_next 179 = .ok (.goto (-72), 3) := by decide +kernel
set_option maxRecDepth 20000 in
theorem dX12_next_182 : decode cX12_next 182 = .ok (.goto 190, 3) := by decide +kernel
set_option maxRecDepth 20000 in
theorem dX12_next_185 : decode cX12_next 185 = .ok (.iload_n 1, 1) := by decide +kernel
set_option maxRecDepth 20000 in
theorem dX12_next_186 : decode cX12_next 186 = .ok (.i2l, 1) := by decide +kernel
set_option maxRecDepth 20000 in
theorem dX12_next_187 : decode cX12_next 187 = .ok (.ldc2_w 277, 3) := by decide +kernel
set_option maxRecDepth 20000 in
theorem dX12_next_190 : decode cX12_next 190 = .ok (.ldc2_w 279, 3) := by decide +kernel
set_option maxRecDepth 20000 in
theorem dX12_next_193 : decode cX12_next 193 = .ok (.invokestatic 125, 3) := by decide +kernel
set_option maxRecDepth 20000 in
theorem dX12_next_196 : decode cX12_next 196 = .ok (.ifCond .eq 107, 3) := by decide +kernel
set_option maxRecDepth 20000 in
theorem dX12_next_199 : decode cX12_next 199 = .ok (.aload_n 0, 1) := by decide +kernel
set_option maxRecDepth 20000 in
theorem dX12_next_200 : decode cX12_next 200 = .ok (.iconst 2, 1) := by decide +kernel
set_option maxRecDepth 20000 in
theorem dX12_next_201 : decode cX12_next 201 = .ok (.putfield 260, 3) := by decide +kernel
set_option maxRecDepth 20000 in
theorem dX12_next_204 : decode cX12_next 204 = .ok (.aload_n 0, 1) := by decide +kernel
set_option maxRecDepth 20000 in
theorem dX12_next_205 : decode cX12_next 205 = .ok (.lconst 0, 1) := by decide +kernel
set_option maxRecDepth 20000 in
theorem dX12_next_206 : decode cX12_next 206 = .ok (.putfield 267, 3) := by decide +kernel
set_option maxRecDepth 20000 in
theorem dX12_next_209 : decode cX12_next 209 = .ok (.iconst 0, 1) := by decide +kernel
set_option maxRecDepth 20000 in
theorem dX12_next_210 : decode cX12_next 210 = .ok (.istore_n 2, 1) := by decide +kernel
set_option maxRecDepth 20000 in
theorem dX12_next_211 : decode cX12_next 211 = .ok (.aload_n 0, 1) := by decide +kernel
set_option maxRecDepth 20000 in
theorem dX12_next_212 : decode cX12_next 212 = .ok (.aload_n 0, 1) := by decide +kernel
set_option maxRecDepth 20000 in
theorem dX12_next_213 : decode cX12_next 213 = .ok (.getfield 251, 3) := by decide +kernel
set_option maxRecDepth 20000 in
theorem dX12_next_216 : decode cX12_next 216 = .ok (.invokevirtual 254, 3) := by decide +kernel
set_option maxRecDepth 20000 in
theorem dX12_next_219 : decode cX12_next 219 = .ok (.i2l, 1) := by decide +kernel
set_option maxRecDepth 20000 in
theorem dX12_next_220 : decode cX12_next 220 = .ok (.ldc2_w 277, 3) := by decide +kernel
set_option maxRecDepth 20000 in
theorem dX12_next_223 : decode cX12_next 223 = .ok (.ldc2_w 279, 3) := by decide +kernel
set_option maxRecDepth 20000 in
theorem dX12_next_226 : decode cX12_next 226 = .ok (.invokestatic 125, 3) := by decide +kernel
set_option maxRecDepth 20000 in
theorem dX12_next_229 : decode cX12_next 229 = .ok (.ifCond .eq 57, 3) := by decide +kernel
set_option maxRecDepth 20000 in
theorem dX12_next_232 : decode cX12_next 232 = .ok (.aload_n 0, 1) := by decide +kernel
set_option maxRecDepth 20000 in
theorem dX12_next_233 : decode cX12_next 233 = .ok (.iload_n 2, 1) := by decide +kernel
set_option maxRecDepth 20000 in
theorem dX12_next_234 : decode cX12_next 234 = .ok (.iconst 4, 1) := by decide +kernel
set_option maxRecDepth 20000 in
theorem dX12_next_235 : decode cX12_next 235 = .ok (.if_icmp .ge 28, 3) := by decide +kernel
set_option maxRecDepth 20000 in
theorem dX12_next_238 : decode cX12_next 238 = .ok (.ldc2_w 281, 3) := by decide +kernel
set_option maxRecDepth 20000 in
theorem dX12_next_241 : decode cX12_next 241 = .ok (.aload_n 0, 1) := by decide +kernel
set_option maxRecDepth 20000 in
theorem dX12_next_242 : decode cX12_next 242 = .ok (.getfield 267, 3) := by decide +kernel
set_option maxRecDepth 20000 in
theorem dX12_next_245 : decode cX12_next 245 = .ok (.lmul, 1) := by decide +kernel
set_option maxRecDepth 20000 in
theorem dX12_next_246 : decode cX12_next 246 = .ok (.aload_n 0, 1) := by decide +kernel
set_option maxRecDepth 20000 in
theorem dX12_next_247 : decode cX12_next 247 = .ok (.aload_n 0, 1) := by decide +kernel
set_option maxRecDepth 20000 in
theorem dX12_next_248 : decode cX12_next 248 = .ok (.getfield 251, 3) := by decide +kernel
set_option maxRecDepth 20000 in
theorem dX12_next_251 : decode cX12_next 251 = .ok (.invokevirtual 254, 3) := by decide +kernel
set_option maxRecDepth 20000 in
theorem dX12_next_254 : decode cX12_next 254 = .ok (.i2l, 1) := by decide +kernel
set_option maxRecDepth 20000 in
theorem dX12_next_255 : decode cX12_next 255 = .ok (.ladd, 1) := by decide +kernel
set_option maxRecDepth 20000 in
theorem dX12_next_256 : decode cX12_next 256 = .ok (.ldc2_w 277, 3) := by decide +kernel
set_option maxRecDepth 20000 in
theorem dX12_next_259 : decode cX12_next 259 = .ok (.lsub, 1) := by decide +kernel
set_option maxRecDepth 20000 in
theorem dX12_next_260 : decode cX12_next 260 = .ok (.goto 7, 3) := by decide +kernel
set_option maxRecDepth 20000 in
theorem dX12_next_263 : decode cX12_next 263 = .ok (.aload_n 0, 1) := by decide +kernel
set_option maxRecDepth 20000 in
theorem dX12_next_264 : decode cX12_next 264 = .ok (.getfield 267, 3) := by decide +kernel
set_option maxRecDepth 20000 in
theorem dX12_next_267 : decode cX12_next 267 = .ok (.putfield 267, 3) := by decide +kernel
set_option maxRecDepth 20000 in
theorem dX12_next_270 : decode cX12_next 270 = .ok (.iinc 2 1, 3) := by decide +kernel
set_option maxRecDepth 20000 in
theorem dX12_next_273 : decode cX12_next 273 = .ok (.aload_n 0, 1) := by decide +kernel
set_option maxRecDepth 20000 in
theorem dX12_next_274 : decode cX12_next 274 = .ok (.dup, 1) := by decide +kernel
set_option maxRecDepth 20000 in
theorem dX12_next_275 : decode cX12_next 275 = .ok (.getfield 251, 3) := by decide +kernel
set_option maxRecDepth 20000 in
theorem dX12_next_278 : decode cX12_next 278 = .ok (.iconst 1, 1) := by decide +kernel
set_option maxRecDepth 20000 in
theorem dX12_next_279 : decode cX12_next 279 = .ok (.iadd, 1) := by decide +kernel
set_option maxRecDepth 20000 in
theorem dX12_next_280 : decode cX12_next 280 = .ok (.putfield 251, 3) := by decide +kernel
set_option maxRecDepth 20000 in
theorem dX12_next_283 : decode cX12_next 283 = .ok (.goto (-72), 3) := by decide +kernel
set_option maxRecDepth 20000 in
theorem dX12_next_286 : decode cX12_next 286 = .ok (.aload_n 0, 1) := by decide +kernel
set_option maxRecDepth 20000 in
theorem dX12_next_287 : decode cX12_next 287 = .ok (.iload_n 2, 1) := by decide +kernel
set_option maxRecDepth 20000 in
theorem dX12_next_288 : decode cX12_next 288 = .ok (.iconst 4, 1) := by decide +kernel
set_option maxRecDepth 20000 in
theorem dX12_next_289 : decode cX12_next 289 = .ok (.if_icmp .le 7, 3) := by decide +kernel
set_option maxRecDepth 20000 in
theorem dX12_next_292 : decode cX12_next 292 = .ok (.iconst 4, 1) := by decide +kernel
set_option maxRecDepth 20000 in
theorem dX12_next_293 : decode cX12_next 293 = .ok (.goto 4, 3) := by decide +kernel
set_option maxRecDepth 20000 in
theorem dX12_next_296 : decode cX12_next 296 = .ok (.iconst 2, 1) := by decide +kernel
set_option maxRecDepth 20000 in
theorem dX12_next_297 : decode cX12_next 297 = .ok (.putfield 260, 3) := by decide +kernel
set_option maxRecDepth 20000 in
theorem dX12_next_300 : decode cX12_next 300 = .ok (.goto 72, 3) := by decide +kernel
set_option maxRecDepth 20000 in
theorem dX12_next_303 : decode cX12_next 303 = .ok (.iload_n 1, 1) := by decide +kernel
set_option maxRecDepth 20000 in
theorem dX12_next_304 : decode cX12_next 304 = .ok (.bipush 40, 2) := by decide +kernel
set_option maxRecDepth 20000 in
theorem dX12_next_306 : decode cX12_next 306 = .ok (.if_icmp .eq 45, 3) := by decide +kernel
set_option maxRecDepth 20000 in
theorem dX12_next_309 : decode cX12_next 309 = .ok (.iload_n 1, 1) := by decide +kernel
set_option maxRecDepth 20000 in
theorem dX12_next_310 : decode cX12_next 310 = .ok (.bipush 41, 2) := by decide +kernel
set_option maxRecDepth 20000 in
theorem dX12_next_312 : decode cX12_next 312 = .ok (.if_icmp .eq 39, 3) := by decide +kernel
set_option maxRecDepth 20000 in
theorem dX12_next_315 : decode cX12_next 315 = .ok (.iload_n 1, 1) := by decide +kernel
set_option maxRecDepth 20000 in
theorem dX12_next_316 : decode cX12_next 316 = .ok (.bipush 59, 2) := by decide +kernel
set_option maxRecDepth 20000 in
theorem dX12_next_318 : decode cX12_next 318 = .ok (.if_icmp .eq 33, 3) := by decide +kernel
set_option maxRecDepth 20000 in
theorem dX12_next_321 : decode cX12_next 321 = .ok (.iload_n 1, 1) := by decide +kernel
set_option maxRecDepth 20000 in
theorem dX12_next_322 : decode cX12_next 322 = .ok (.bipush 43, 2) := by decide +kernel
set_option maxRecDepth 20000 in
theorem dX12_next_324 : decode cX12_next 324 = .ok (.if_icmp .eq 27, 3) := by decide +kernel
set_option maxRecDepth 20000 in
theorem dX12_next_327 : decode cX12_next 327 = .ok (.iload_n 1, 1) := by decide +kernel
set_option maxRecDepth 20000 in
theorem dX12_next_328 : decode cX12_next 328 = .ok (.bipush 45, 2) := by decide +kernel
set_option maxRecDepth 20000 in
theorem dX12_next_330 : decode cX12_next 330 = .ok (.if_icmp .eq 21, 3) := by decide +kernel
set_option maxRecDepth 20000 in
theorem dX12_next_333 : decode cX12_next 333 = .ok (.iload_n 1, 1) := by decide +kernel
set_option maxRecDepth 20000 in
theorem dX12_next_334 : decode cX12_next 334 = .ok (.bipush 42, 2) := by decide +kernel
set_option maxRecDepth 20000 in
theorem dX12_next_336 : decode cX12_next 336 = .ok (.if_icmp .eq 15, 3) := by decide +kernel
set_option maxRecDepth 20000 in
theorem dX12_next_339 : decode cX12_next 339 = .ok (.iload_n 1, 1) := by decide +kernel
set_option maxRecDepth 20000 in
theorem dX12_next_340 : decode cX12_next 340 = .ok (.bipush 60, 2) := by decide +kernel
set_option maxRecDepth 20000 in
theorem dX12_next_342 : decode cX12_next 342 = .ok (.if_icmp .eq 9, 3) := by decide +kernel
set_option maxRecDepth 20000 in
theorem dX12_next_345 : decode cX12_next 345 = .ok (.iload_n 1, 1) := by decide +kernel
set_option maxRecDepth 20000 in
theorem dX12_next_346 : decode cX12_next 346 = .ok (.bipush 61, 2) := by decide +kernel
set_option maxRecDepth 20000 in
theorem dX12_next_348 : decode cX12_next 348 = .ok (.if_icmp .ne 24, 3) := by decide +kernel
set_option maxRecDepth 20000 in
theorem dX12_next_351 : decode cX12_next 351 = .ok (.aload_n 0, 1) := by decide +kernel
set_option maxRecDepth 20000 in
theorem dX12_next_352 : decode cX12_next 352 = .ok (.iconst 3, 1) := by decide +kernel
set_option maxRecDepth 20000 in
theorem dX12_next_353 : decode cX12_next 353 = .ok (.putfield 260, 3) := by decide +kernel
set_option maxRecDepth 20000 in
theorem dX12_next_356 : decode cX12_next 356 = .ok (.aload_n 0, 1) := by decide +kernel
set_option maxRecDepth 20000 in
theorem dX12_next_357 : decode cX12_next 357 = .ok (.iload_n 1, 1) := by decide +kernel
set_option maxRecDepth 20000 in
theorem dX12_next_358 : decode cX12_next 358 = .ok (.i2l, 1) := by decide +kernel
set_option maxRecDepth 20000 in
theorem dX12_next_359 : decode cX12_next 359 = .ok (.putfield 267, 3) := by decide +kernel
set_option maxRecDepth 20000 in
theorem dX12_next_362 : decode cX12_next 362 = .ok (.aload_n 0, 1) := by decide +kernel
set_option maxRecDepth 20000 in
theorem dX12_next_363 : decode cX12_next 363 = .ok (.dup, 1) := by decide +kernel
set_option maxRecDepth 20000 in
theorem dX12_next_364 : decode cX12_next 364 = .ok (.getfield 251, 3) := by decide +kernel
set_option maxRecDepth 20000 in
theorem dX12_next_367 : decode cX12_next 367 = .ok (.iconst 1, 1) := by decide +kernel
set_option maxRecDepth 20000 in
theorem dX12_next_368 : decode cX12_next 368 = .ok (.iadd, 1) := by decide +kernel
set_option maxRecDepth 20000 in
theorem dX12_next_369 : decode cX12_next 369 = .ok (.putfield 251, 3) := by decide +kernel
set_option maxRecDepth 20000 in
theorem dX12_next_372 : decode cX12_next 372 = .ok (.return_, 1) := by decide +kernel
set_option maxRecDepth 20000 in
theorem dX12_fail_0 : decode cX12_fail 0 = .ok (.aload_n 0, 1) := by decide +kernel
