set_option maxRecDepth 20000 in
theorem dX11_ruleSays_30 : decode cX11_ruleSays 30 = .ok (.getfield 73, 3) := by decide +kernel
set_option maxRecDepth 20000 in
theorem dX11_ruleSays_33 : decode cX11_ruleSays 33 = .ok (.iconst 5, 1) := by decide +kernel
set_option maxRecDepth 20000 in
theorem dX11_ruleSays_34 : decode cX11_ruleSays 34 = .ok (.iload_n 3, 1) := by decide +kernel
set_option maxRecDepth 20000 in
theorem dX11_ruleSays_35 : decode cX11_ruleSays 35 = .ok (.iastore, 1) := by decide +kernel
set_option maxRecDepth 20000 in
theorem dX11_ruleSays_36 : decode cX11_ruleSays 36 = .ok (.aload_n 0, 1) := by decide +kernel
set_option maxRecDepth 20000 in
theorem dX11_ruleSays_37 : decode cX11_ruleSays 37 = .ok (.getfield 19, 3) := by decide +kernel
set_option maxRecDepth 20000 in
theorem dX11_ruleSays_40 : decode cX11_ruleSays 40 = .ok (.aload_n 0, 1) := by decide +kernel
set_option maxRecDepth 20000 in
theorem dX11_ruleSays_41 : decode cX11_ruleSays 41 = .ok (.getfield 22, 3) := by decide +kernel
set_option maxRecDepth 20000 in
theorem dX11_ruleSays_44 : decode cX11_ruleSays 44 = .ok (.invokevirtual 276, 3) := by decide +kernel
set_option maxRecDepth 20000 in
theorem dX11_ruleSays_47 : decode cX11_ruleSays 47 = .ok (.checkcast 71, 3) := by decide +kernel
set_option maxRecDepth 20000 in
theorem dX11_ruleSays_50 : decode cX11_ruleSays 50 = .ok (.iload_n 1, 1) := by decide +kernel
set_option maxRecDepth 20000 in
theorem dX11_ruleSays_51 : decode cX11_ruleSays 51 = .ok (.aload_n 0, 1) := by decide +kernel
set_option maxRecDepth 20000 in
theorem dX11_ruleSays_52 : decode cX11_ruleSays 52 = .ok (.getfield 73, 3) := by decide +kernel
set_option maxRecDepth 20000 in
theorem dX11_ruleSays_55 : decode cX11_ruleSays 55 = .ok (.invokevirtual 337, 3) := by decide +kernel
set_option maxRecDepth 20000 in
theorem dX11_ruleSays_58 : decode cX11_ruleSays 58 = .ok (.ireturn, 1) := by decide +kernel
set_option maxRecDepth 20000 in
theorem dX11_lookHours_0 : decode cX11_lookHours 0 = .ok (.aload_n 0, 1) := by decide +kernel
set_option maxRecDepth 20000 in
theorem dX11_lookHours_1 : decode cX11_lookHours 1 = .ok (.aload_n 1, 1) := by decide +kernel
set_option maxRecDepth 20000 in
theorem dX11_lookHours_2 : decode cX11_lookHours 2 = .ok (.iconst 0, 1) := by decide +kernel
set_option maxRecDepth 20000 in
theorem dX11_lookHours_3 : decode cX11_lookHours 3 = .ok (.invokevirtual 296, 3) := by decide +kernel
set_option maxRecDepth 20000 in
theorem dX11_lookHours_6 : decode cX11_lookHours 6 = .ok (.iconst 1, 1) := by decide +kernel
set_option maxRecDepth 20000 in
theorem dX11_lookHours_7 : decode cX11_lookHours 7 = .ok (.bipush 99, 2) := by decide +kernel
set_option maxRecDepth 20000 in
theorem dX11_lookHours_9 : decode cX11_lookHours 9 = .ok (.aload_n 0, 1) := by decide +kernel
set_option maxRecDepth 20000 in
theorem dX11_lookHours_10 : decode cX11_lookHours 10 = .ok (.iconst 2, 1) := by decide +kernel
set_option maxRecDepth 20000 in
theorem dX11_lookHours_11 : decode cX11_lookHours 11 = .ok (.iconst 0, 1) := by decide +kernel
set_option maxRecDepth 20000 in
theorem dX11_lookHours_12 : decode cX11_lookHours 12 = .ok (.iconst 0, 1) := by decide +kernel
set_option maxRecDepth 20000 in
theorem dX11_lookHours_13 : decode cX11_lookHours 13 = .ok (.invokevirtual 299, 3) := by decide +kernel
set_option maxRecDepth 20000 in
theorem dX11_lookHours_16 : decode cX11_lookHours 16 = .ok (.invokestatic 341, 3) := by decide +kernel
set_option maxRecDepth 20000 in
theorem dX11_lookHours_19 : decode cX11_lookHours 19 = .ok (.invokestatic 346, 3) := by decide +kernel
set_option maxRecDepth 20000 in
theorem dX11_lookHours_22 : decode cX11_lookHours 22 = .ok (.ireturn, 1) := by decide +kernel
set_option maxRecDepth 20000 in
theorem dX11_test_0 : decode cX11_test 0 = .ok (.iload_n 1, 1) := by decide +kernel
set_option maxRecDepth 20000 in
theorem dX11_test_1 : decode cX11_test 1 = .ok (.iconst 1, 1) := by decide +kernel
set_option maxRecDepth 20000 in
theorem dX11_test_2 : decode cX11_test 2 = .ok (.bipush 20, 2) := by decide +kernel
set_option maxRecDepth 20000 in
theorem dX11_test_4 : decode cX11_test 4 = .ok (.invokestatic 106, 3) := by decide +kernel
set_option maxRecDepth 20000 in
theorem dX11_test_7 : decode cX11_test 7 = .ok (.ifCond .eq 10, 3) := by decide +kernel
set_option maxRecDepth 20000 in
theorem dX11_test_10 : decode cX11_test 10 = .ok (.iload_n 2, 1) := by decide +kernel
set_option maxRecDepth 20000 in
theorem dX11_test_11 : decode cX11_test 11 = .ok (.invokestatic 349, 3) := by decide +kernel
set_option maxRecDepth 20000 in
theorem dX11_test_14 : decode cX11_test 14 = .ok (.ifCond .ne 6, 3) := by decide +kernel
set_option maxRecDepth 20000 in
theorem dX11_test_17 : decode cX11_test 17 = .ok (.bipush (-2), 2) := by decide +kernel
set_option maxRecDepth 20000 in
theorem dX11_test_19 : decode cX11_test 19 = .ok (.ireturn, 1) := by decide +kernel
set_option maxRecDepth 20000 in
theorem dX11_test_20 : decode cX11_test 20 = .ok (.aload_n 0, 1) := by decide +kernel
set_option maxRecDepth 20000 in
theorem dX11_test_21 : decode cX11_test 21 = .ok (.getfield 39, 3) := by decide +kernel
set_option maxRecDepth 20000 in
theorem dX11_test_24 : decode cX11_test 24 = .ok (.bipush 6, 2) := by decide +kernel
set_option maxRecDepth 20000 in
theorem dX11_test_26 : decode cX11_test 26 = .ok (.if_icmp .lt 6, 3) := by decide +kernel
set_option maxRecDepth 20000 in
theorem dX11_test_29 : decode cX11_test 29 = .ok (.bipush (-4), 2) := by decide +kernel
set_option maxRecDepth 20000 in
theorem dX11_test_31 : decode cX11_test 31 = .ok (.ireturn, 1) := by decide +kernel
set_option maxRecDepth 20000 in
theorem dX11_test_32 : decode cX11_test 32 = .ok (.aload_n 0, 1) := by decide +kernel
set_option maxRecDepth 20000 in
theorem dX11_test_33 : decode cX11_test 33 = .ok (.getfield 33, 3) := by decide +kernel
set_option maxRecDepth 20000 in
theorem dX11_test_36 : decode cX11_test 36 = .ok (.aload_n 0, 1) := by decide +kernel
set_option maxRecDepth 20000 in
theorem dX11_test_37 : decode cX11_test 37 = .ok (.getfield 39, 3) := by decide +kernel
set_option maxRecDepth 20000 in
theorem dX11_test_40 : decode cX11_test 40 = .ok (.iload_n 1, 1) := by decide +kernel
set_option maxRecDepth 20000 in
theorem dX11_test_41 : decode cX11_test 41 = .ok (.iastore, 1) := by decide +kernel
set_option maxRecDepth 20000 in
theorem dX11_test_42 : decode cX11_test 42 = .ok (.aload_n 0, 1) := by decide +kernel
set_option maxRecDepth 20000 in
theorem dX11_test_43 : decode cX11_test 43 = .ok (.getfield 36, 3) := by decide +kernel
set_option maxRecDepth 20000 in
theorem dX11_test_46 : decode cX11_test 46 = .ok (.aload_n 0, 1) := by decide +kernel
set_option maxRecDepth 20000 in
theorem dX11_test_47 : decode cX11_test 47 = .ok (.getfield 39, 3) := by decide +kernel
set_option maxRecDepth 20000 in
theorem dX11_test_50 : decode cX11_test 50 = .ok (.iload_n 2, 1) := by decide +kernel
set_option maxRecDepth 20000 in
theorem dX11_test_51 : decode cX11_test 51 = .ok (.iastore, 1) := by decide +kernel
set_option maxRecDepth 20000 in
theorem dX11_test_52 : decode cX11_test 52 = .ok (.aload_n 0, 1) := by decide +kernel
set_option maxRecDepth 20000 in
theorem dX11_test_53 : decode cX11_test 53 = .ok (.dup, 1) := by decide +kernel
set_option maxRecDepth 20000 in
theorem dX11_test_54 : decode cX11_test 54 = .ok (.getfield 39, 3) := by decide +kernel
set_option maxRecDepth 20000 in
theorem dX11_test_57 : decode cX11_test 57 = .ok (.iconst 1, 1) := by decide +kernel
set_option maxRecDepth 20000 in
theorem dX11_test_58 : decode cX11_test 58 = .ok (.iadd, 1) := by decide +kernel
set_option maxRecDepth 20000 in
theorem dX11_test_59 : decode cX11_test 59 = .ok (.putfield 39, 3) := by decide +kernel
set_option maxRecDepth 20000 in
theorem dX11_test_62 : decode cX11_test 62 = .ok (.aload_n 0, 1) := by decide +kernel
set_option maxRecDepth 20000 in
theorem dX11_test_63 : decode cX11_test 63 = .ok (.getfield 39, 3) := by decide +kernel
set_option maxRecDepth 20000 in
theorem dX11_test_66 : decode cX11_test 66 = .ok (.iconst 1, 1) := by decide +kernel
set_option maxRecDepth 20000 in
theorem dX11_test_67 : decode cX11_test 67 = .ok (.isub, 1) := by decide +kernel
set_option maxRecDepth 20000 in
theorem dX11_test_68 : decode cX11_test 68 = .ok (.ireturn, 1) := by decide +kernel
set_option maxRecDepth 20000 in
theorem dX11_find_0 : decode cX11_find 0 = .ok (.iload_n 1, 1) := by decide +kernel
set_option maxRecDepth 20000 in
theorem dX11_find_1 : decode cX11_find 1 = .ok (.iconst 0, 1) := by decide +kernel
set_option maxRecDepth 20000 in
theorem dX11_find_2 : decode cX11_find 2 = .ok (.aload_n 0, 1) := by decide +kernel
set_option maxRecDepth 20000 in
theorem dX11_find_3 : decode cX11_find 3 = .ok (.invokevirtual 352, 3) := by decide +kernel
set_option maxRecDepth 20000 in
theorem dX11_find_6 : decode cX11_find 6 = .ok (.invokestatic 106, 3) := by decide +kernel
set_option maxRecDepth 20000 in
theorem dX11_find_9 : decode cX11_find 9 = .ok (.ifCond .eq 10, 3) := by decide +kernel
set_option maxRecDepth 20000 in
theorem dX11_find_12 : decode cX11_find 12 = .ok (.iload_n 2, 1) := by decide +kernel
set_option maxRecDepth 20000 in
theorem dX11_find_13 : decode cX11_find 13 = .ok (.invokestatic 186, 3) := by decide +kernel
set_option maxRecDepth 20000 in
theorem dX11_find_16 : decode cX11_find 16 = .ok (.ifCond .ne 6, 3) := by decide +kernel
set_option maxRecDepth 20000 in
theorem dX11_find_19 : decode cX11_find 19 = .ok (.bipush (-2), 2) := by decide +kernel
set_option maxRecDepth 20000 in
theorem dX11_find_21 : decode cX11_find 21 = .ok (.ireturn, 1) := by decide +kernel
set_option maxRecDepth 20000 in
theorem dX11_find_22 : decode cX11_find 22 = .ok (.iconst (-1), 1) := by decide +kernel
set_option maxRecDepth 20000 in
theorem dX11_find_23 : decode cX11_find 23 = .ok (.istore_n 3, 1) := by decide +kernel
set_option maxRecDepth 20000 in
theorem dX11_find_24 : decode cX11_find 24 = .ok (.iconst (-1), 1) := by decide +kernel
set_option maxRecDepth 20000 in
theorem dX11_find_25 : decode cX11_find 25 = .ok (.istore 4, 2) := by decide +kernel
set_option maxRecDepth 20000 in
theorem dX11_find_27 : decode cX11_find 27 = .ok (.iconst 0, 1) := by decide +kernel
set_option maxRecDepth 20000 in
theorem dX11_find_28 : decode cX11_find 28 = .ok (.istore 5, 2) := by decide +kernel
set_option maxRecDepth 20000 in
theorem dX11_find_30 : decode cX11_find 30 = .ok (.iload 5, 2) := by decide +kernel
set_option maxRecDepth 20000 in
theorem dX11_find_32 : decode cX11_find 32 = .ok (.iconst 1, 1) := by decide +kernel
set_option maxRecDepth 20000 in
theorem dX11_find_33 : decode cX11_find 33 = .ok (.aload_n 0, 1) := by decide +kernel
set_option maxRecDepth 20000 in
theorem dX11_find_34 : decode cX11_find 34 = .ok (.getfield 39, 3) := by decide +kernel
set_option maxRecDepth 20000 in
theorem dX11_find_37 : decode cX11_find 37 = .ok (.ishl, 1) := by decide +kernel
set_option maxRecDepth 20000 in
theorem dX11_find_38 : decode cX11_find 38 = .ok (.if_icmp .ge 46, 3) := by decide +kernel
set_option maxRecDepth 20000 in
theorem dX11_find_41 : decode cX11_find 41 = .ok (.aload_n 0, 1) := by decide +kernel
set_option maxRecDepth 20000 in
theorem dX11_find_42 : decode cX11_find 42 = .ok (.iload 5, 2) := by decide +kernel
set_option maxRecDepth 20000 in
theorem dX11_find_44 : decode cX11_find 44 = .ok (.invokevirtual 355, 3) := by decide +kernel
set_option maxRecDepth 20000 in
theorem dX11_find_47 : decode cX11_find 47 = .ok (.istore 6, 2) := by decide +kernel
set_option maxRecDepth 20000 in
theorem dX11_find_49 : decode cX11_find 49 = .ok (.iload_n 3, 1) := by decide +kernel
set_option maxRecDepth 20000 in
theorem dX11_find_50 : decode cX11_find 50 = .ok (.iconst (-1), 1) := by decide +kernel
set_option maxRecDepth 20000 in
theorem dX11_find_51 : decode cX11_find 51 = .ok (.if_icmp .eq 10, 3) := by decide +kernel
set_option maxRecDepth 20000 in
theorem dX11_find_54 : decode cX11_find 54 = .ok (.iload 6, 2) := by decide +kernel
set_option maxRecDepth 20000 in
theorem dX11_find_56 : decode cX11_find 56 = .ok (.iload 4, 2) := by decide +kernel
set_option maxRecDepth 20000 in
theorem dX11_find_58 : decode cX11_find 58 = .ok (.if_icmp .ge 20, 3) := by decide +kernel
set_option maxRecDepth 20000 in
theorem dX11_find_61 : decode cX11_find 61 = .ok (.aload_n 0, 1) := by decide +kernel
set_option maxRecDepth 20000 in
theorem dX11_find_62 : decode cX11_find 62 = .ok (.iload_n 1, 1) := by decide +kernel
set_option maxRecDepth 20000 in
theorem dX11_find_63 : decode cX11_find 63 = .ok (.iload 5, 2) := by decide +kernel
set_option maxRecDepth 20000 in
theorem dX11_find_65 : decode cX11_find 65 = .ok (.invokevirtual 358, 3) := by decide +kernel
set_option maxRecDepth 20000 in
theorem dX11_find_68 : decode cX11_find 68 = .ok (.ifCond .eq 10, 3) := by decide +kernel
set_option maxRecDepth 20000 in
theorem dX11_find_71 : decode cX11_find 71 = .ok (.iload 5, 2) := by decide +kernel
set_option maxRecDepth 20000 in
theorem dX11_find_73 : decode cX11_find 73 = .ok (.istore_n 3, 1) := by decide +kernel
set_option maxRecDepth 20000 in
theorem dX11_find_74 : decode cX11_find 74 = .ok (.iload 6, 2) := by decide +kernel
set_option maxRecDepth 20000 in
theorem dX11_find_76 : decode cX11_find 76 = .ok (.istore 4, 2) := by decide +kernel
set_option maxRecDepth 20000 in
theorem dX11_find_78 : decode cX11_find 78 = .ok (.iinc 5 1, 3) := by decide +kernel
set_option maxRecDepth 20000 in
theorem dX11_find_81 : decode cX11_find 81 = .ok (.goto (-51), 3) := by decide +kernel
set_option maxRecDepth 20000 in
theorem dX11_find_84 : decode cX11_find 84 = .ok (.iload_n 2, 1) := by decide +kernel
set_option maxRecDepth 20000 in
theorem dX11_find_85 : decode cX11_find 85 = .ok (.ifCond .ne 7, 3) := by decide +kernel
set_option maxRecDepth 20000 in
theorem dX11_find_88 : decode cX11_find 88 = .ok (.iload_n 3, 1) := by decide +kernel
set_option maxRecDepth 20000 in
theorem dX11_find_89 : decode cX11_find 89 = .ok (.goto 5, 3) := by decide +kernel
set_option maxRecDepth 20000 in
theorem dX11_find_92 : decode cX11_find 92 = .ok (.iload 4, 2) := by decide +kernel
set_option maxRecDepth 20000 in
theorem dX11_find_94 : decode cX11_find 94 = .ok (.ireturn, 1) := by decide +kernel
set_option maxRecDepth 20000 in
theorem dX11_year_0 : decode cX11_year 0 = .ok (.iload_n 1, 1) := by decide +kernel
set_option maxRecDepth 20000 in
theorem dX11_year_1 : decode cX11_year 1 = .ok (.iconst 0, 1) := by decide +kernel
set_option maxRecDepth 20000 in
theorem dX11_year_2 : decode cX11_year 2 = .ok (.sipush 199, 3) := by decide +kernel
set_option maxRecDepth 20000 in
theorem dX11_year_5 : decode cX11_year 5 = .ok (.invokestatic 106, 3) := by decide +kernel
set_option maxRecDepth 20000 in
theorem dX11_year_8 : decode cX11_year 8 = .ok (.ifCond .eq 12, 3) := by decide +kernel
set_option maxRecDepth 20000 in
theorem dX11_year_11 : decode cX11_year 11 = .ok (.iload_n 2, 1) := by decide +kernel
set_option maxRecDepth 20000 in
theorem dX11_year_12 : decode cX11_year 12 = .ok (.iconst 0, 1) := by decide +kernel
set_option maxRecDepth 20000 in
theorem dX11_year_13 : decode cX11_year 13 = .ok (.iconst 2, 1) := by decide +kernel
set_option maxRecDepth 20000 in
theorem dX11_year_14 : decode cX11_year 14 = .ok (.invokestatic 106, 3) := by decide +kernel
set_option maxRecDepth 20000 in
theorem dX11_year_17 : decode cX11_year 17 = .ok (.ifCond .ne 6, 3) := by decide +kernel
set_option maxRecDepth 20000 in
theorem dX11_year_20 : decode cX11_year 20 = .ok (.bipush (-2), 2) := by decide +kernel
set_option maxRecDepth 20000 in
theorem dX11_year_22 : decode cX11_year 22 = .ok (.ireturn, 1) := by decide +kernel
set_option maxRecDepth 20000 in
theorem dX11_year_23 : decode cX11_year 23 = .ok (.iconst 0, 1) := by decide +kernel
set_option maxRecDepth 20000 in
theorem dX11_year_24 : decode cX11_year 24 = .ok (.istore_n 3, 1) := by decide +kernel
set_option maxRecDepth 20000 in
theorem dX11_year_25 : decode cX11_year 25 = .ok (.iload_n 3, 1) := by decide +kernel
set_option maxRecDepth 20000 in
theorem dX11_year_26 : decode cX11_year 26 = .ok (.aload_n 0, 1) := by decide +kernel
set_option maxRecDepth 20000 in
theorem dX11_year_27 : decode cX11_year 27 = .ok (.getfield 12, 3) := by decide +kernel
set_option maxRecDepth 20000 in
theorem dX11_year_30 : decode cX11_year 30 = .ok (.invokevirtual 114, 3) := by decide +kernel
set_option maxRecDepth 20000 in
theorem dX11_year_33 : decode cX11_year 33 = .ok (.if_icmp .ge 39, 3) := by decide +kernel
set_option maxRecDepth 20000 in
theorem dX11_year_36 : decode cX11_year 36 = .ok (.iload_n 3, 1) := by decide +kernel
set_option maxRecDepth 20000 in
theorem dX11_year_37 : decode cX11_year 37 = .ok (.aload_n 0, 1) := by decide +kernel
set_option maxRecDepth 20000 in
theorem dX11_year_38 : decode cX11_year 38 = .ok (.getfield 86, 3) := by decide +kernel
set_option maxRecDepth 20000 in
theorem dX11_year_41 : decode cX11_year 41 = .ok (.arraylength, 1) := by decide +kernel
set_option maxRecDepth 20000 in
theorem dX11_year_42 : decode cX11_year 42 = .ok (.if_icmp .ge 30, 3) := by decide +kernel
set_option maxRecDepth 20000 in
theorem dX11_year_45 : decode cX11_year 45 = .ok (.aload_n 0, 1) := by decide +kernel
set_option maxRecDepth 20000 in
theorem dX11_year_46 : decode cX11_year 46 = .ok (.getfield 86, 3) := by decide +kernel
set_option maxRecDepth 20000 in
theorem dX11_year_49 : decode cX11_year 49 = .ok (.iload_n 3, 1) := by decide +kernel
set_option maxRecDepth 20000 in
theorem dX11_year_50 : decode cX11_year 50 = .ok (.aload_n 0, 1) := by decide +kernel
set_option maxRecDepth 20000 in
theorem dX11_year_51 : decode cX11_year 51 = .ok (.aload_n 0, 1) := by decide +kernel
set_option maxRecDepth 20000 in
theorem dX11_year_52 : decode cX11_year 52 = .ok (.getfield 12, 3) := by decide +kernel
set_option maxRecDepth 20000 in
theorem dX11_year_55 : decode cX11_year 55 = .ok (.iload_n 3, 1) := by decide +kernel
set_option maxRecDepth 20000 in
theorem dX11_year_56 : decode cX11_year 56 = .ok (.invokevirtual 276, 3) := by decide +kernel
set_option maxRecDepth 20000 in
theorem dX11_year_59 : decode cX11_year 59 = .ok (.checkcast 131, 3) := by decide +kernel
set_option maxRecDepth 20000 in
theorem dX11_year_62 : decode cX11_year 62 = .ok (.invokevirtual 166, 3) := by decide +kernel
set_option maxRecDepth 20000 in
theorem dX11_year_65 : decode cX11_year 65 = .ok (.iastore, 1) := by decide +kernel
set_option maxRecDepth 20000 in
theorem dX11_year_66 : decode cX11_year 66 = .ok (.iinc 3 1, 3) := by decide +kernel
set_option maxRecDepth 20000 in
theorem dX11_year_69 : decode cX11_year 69 = .ok (.goto (-44), 3) := by decide +kernel
set_option maxRecDepth 20000 in
theorem dX11_year_72 : decode cX11_year 72 = .ok (.aload_n 0, 1) := by decide +kernel
set_option maxRecDepth 20000 in
theorem dX11_year_73 : decode cX11_year 73 = .ok (.invokevirtual 352, 3) := by decide +kernel
set_option maxRecDepth 20000 in
theorem dX11_year_76 : decode cX11_year 76 = .ok (.istore_n 3, 1) := by decide +kernel
set_option maxRecDepth 20000 in
theorem dX11_year_77 : decode cX11_year 77 = .ok (.iconst 0, 1) := by decide +kernel
set_option maxRecDepth 20000 in
theorem dX11_year_78 : decode cX11_year 78 = .ok (.istore 4, 2) := by decide +kernel
set_option maxRecDepth 20000 in
theorem dX11_year_80 : decode cX11_year 80 = .ok (.iconst 0, 1) := by decide +kernel
set_option maxRecDepth 20000 in
theorem dX11_year_81 : decode cX11_year 81 = .ok (.istore 5, 2) := by decide +kernel
set_option maxRecDepth 20000 in
theorem dX11_year_83 : decode cX11_year 83 = .ok (.iconst 0, 1) := by decide +kernel
set_option maxRecDepth 20000 in
theorem dX11_year_84 : decode cX11_year 84 = .ok (.istore 6, 2) := by decide +kernel
set_option maxRecDepth 20000 in
theorem dX11_year_86 : decode cX11_year 86 = .ok (.iconst 1, 1) := by decide +kernel
set_option maxRecDepth 20000 in
theorem dX11_year_87 : decode cX11_year 87 = .ok (.istore 7, 2) := by decide +kernel
set_option maxRecDepth 20000 in
theorem dX11_year_89 : decode cX11_year 89 = .ok (.iload 7, 2) := by decide +kernel
set_option maxRecDepth 20000 in
theorem dX11_year_91 : decode cX11_year 91 = .ok (.iload_n 3, 1) := by decide +kernel
set_option maxRecDepth 20000 in
theorem dX11_year_92 : decode cX11_year 92 = .ok (.if_icmp .gt 76, 3) := by decide +kernel
set_option maxRecDepth 20000 in
theorem dX11_year_95 : decode cX11_year 95 = .ok (.aload_n 0, 1) := by decide +kernel
set_option maxRecDepth 20000 in
theorem dX11_year_96 : decode cX11_year 96 = .ok (.iload 7, 2) := by decide +kernel
set_option maxRecDepth 20000 in
theorem dX11_year_98 : decode cX11_year 98 = .ok (.invokevirtual 361, 3) := by decide +kernel
set_option maxRecDepth 20000 in
theorem dX11_year_101 : decode cX11_year 101 = .ok (.istore 8, 2) := by decide +kernel
set_option maxRecDepth 20000 in
theorem dX11_year_103 : decode cX11_year 103 = .ok (.aload_n 0, 1) := by decide +kernel
set_option maxRecDepth 20000 in
theorem dX11_year_104 : decode cX11_year 104 = .ok (.iload 7, 2) := by decide +kernel
set_option maxRecDepth 20000 in
theorem dX11_year_106 : decode cX11_year 106 = .ok (.invokevirtual 364, 3) := by decide +kernel
set_option maxRecDepth 20000 in
theorem dX11_year_109 : decode cX11_year 109 = .ok (.istore 9, 2) := by decide +kernel
set_option maxRecDepth 20000 in
theorem dX11_year_111 : decode cX11_year 111 = .ok (.iload 9, 2) := by decide +kernel
set_option maxRecDepth 20000 in
theorem dX11_year_113 : decode cX11_year 113 = .ok (.iload 5, 2) := by decide +kernel
set_option maxRecDepth 20000 in
theorem dX11_year_115 : decode cX11_year 115 = .ok (.if_icmp .gt 17, 3) := by decide +kernel
set_option maxRecDepth 20000 in
theorem dX11_year_118 : decode cX11_year 118 = .ok (.iload 9, 2) := by decide +kernel
set_option maxRecDepth 20000 in
theorem dX11_year_120 : decode cX11_year 120 = .ok (.iload 5, 2) := by decide +kernel
set_option maxRecDepth 20000 in
theorem dX11_year_122 : decode cX11_year 122 = .ok (.if_icmp .ne 14, 3) := by decide +kernel
set_option maxRecDepth 20000 in
theorem dX11_year_125 : decode cX11_year 125 = .ok (.iload 8, 2) := by decide +kernel
set_option maxRecDepth 20000 in
theorem dX11_year_127 : decode cX11_year 127 = .ok (.iload 6, 2) := by decide +kernel
set_option maxRecDepth 20000 in
theorem dX11_year_129 : decode cX11_year 129 = .ok (.if_icmp .ge 7, 3) := by decide +kernel
set_option maxRecDepth 20000 in
theorem dX11_year_132 : decode cX11_year 132 = .ok (.iconst 1, 1) := by decide +kernel
set_option maxRecDepth 20000 in
theorem dX11_year_133 : decode cX11_year 133 = .ok (.goto 4, 3) := by decide +kernel
set_option maxRecDepth 20000 in
theorem dX11_year_136 : decode cX11_year 136 = .ok (.iconst 0, 1) := by decide +kernel
set_option maxRecDepth 20000 in
theorem dX11_year_137 : decode cX11_year 137 = .ok (.istore 10, 2) := by decide +kernel
set_option maxRecDepth 20000 in
theorem dX11_year_139 : decode cX11_year 139 = .ok (.iload 8, 2) := by decide +kernel
set_option maxRecDepth 20000 in
theorem dX11_year_141 : decode cX11_year 141 = .ok (.iload_n 1, 1) := by decide +kernel
set_option maxRecDepth 20000 in
theorem dX11_year_142 : decode cX11_year 142 = .ok (.if_icmp .gt 20, 3) := by decide +kernel
set_option maxRecDepth 20000 in
theorem dX11_year_145 : decode cX11_year 145 = .ok (.iload 10, 2) := by decide +kernel
set_option maxRecDepth 20000 in
theorem dX11_year_147 : decode cX11_year 147 = .ok (.ifCond .eq 15, 3) := by decide +kernel
set_option maxRecDepth 20000 in
theorem dX11_year_150 : decode cX11_year 150 = .ok (.iload 7, 2) := by decide +kernel
set_option maxRecDepth 20000 in
theorem dX11_year_152 : decode cX11_year 152 = .ok (.istore 4, 2) := by decide +kernel
set_option maxRecDepth 20000 in
theorem dX11_year_154 : decode cX11_year 154 = .ok (.iload 9, 2) := by decide +kernel
set_option maxRecDepth 20000 in
theorem dX11_year_156 : decode cX11_year 156 = .ok (.istore 5, 2) := by decide +kernel
set_option maxRecDepth 20000 in
theorem dX11_year_158 : decode cX11_year 158 = .ok (.iload 8, 2) := by decide +kernel
set_option maxRecDepth 20000 in
theorem dX11_year_160 : decode cX11_year 160 = .ok (.istore 6, 2) := by decide +kernel
set_option maxRecDepth 20000 in
theorem dX11_year_162 : decode cX11_year 162 = .ok (.iinc 7 1, 3) := by decide +kernel
set_option maxRecDepth 20000 in
theorem dX11_year_165 : decode cX11_year 165 = .ok (.goto (-76), 3) := by decide +kernel
set_option maxRecDepth 20000 in
theorem dX11_year_168 : decode cX11_year 168 = .ok (.iload_n 2, 1) := by decide +kernel
set_option maxRecDepth 20000 in
theorem dX11_year_169 : decode cX11_year 169 = .ok (.ifCond .ne 8, 3) := by decide +kernel
set_option maxRecDepth 20000 in
theorem dX11_year_172 : decode cX11_year 172 = .ok (.iload 4, 2) := by decide +kernel
set_option maxRecDepth 20000 in
theorem dX11_year_174 : decode cX11_year 174 = .ok (.goto 15, 3) := by decide +kernel
set_option maxRecDepth 20000 in
theorem dX11_year_177 : decode cX11_year 177 = .ok (.iload_n 2, 1) := by decide +kernel
set_option maxRecDepth 20000 in
theorem dX11_year_178 : decode cX11_year 178 = .ok (.iconst 1, 1) := by decide +kernel
set_option maxRecDepth 20000 in
theorem dX11_year_179 : decode cX11_year 179 = .ok (.if_icmp .ne 8, 3) := by decide +kernel
set_option maxRecDepth 20000 in
theorem dX11_year_182 : decode cX11_year 182 = .ok (.iload 5, 2) := by decide +kernel
set_option maxRecDepth 20000 in
theorem dX11_year_184 : decode cX11_year 184 = .ok (.goto 5, 3) := by decide +kernel
set_option maxRecDepth 20000 in
theorem dX11_year_187 : decode cX11_year 187 = .ok (.iload 6, 2) := by decide +kernel
set_option maxRecDepth 20000 in
theorem dX11_year_189 : decode cX11_year 189 = .ok (.ireturn, 1) := by decide +kernel
set_option maxRecDepth 20000 in
theorem dX11_make_0 : decode cX11_make 0 = .ok (.aload_n 0, 1) := by decide +kernel
set_option maxRecDepth 20000 in
theorem dX11_make_1 : decode cX11_make 1 = .ok (.iload_n 2, 1) := by decide +kernel
set_option maxRecDepth 20000 in
theorem dX11_make_2 : decode cX11_make 2 = .ok (.invokevirtual 182, 3) := by decide +kernel
set_option maxRecDepth 20000 in
theorem dX11_make_5 : decode cX11_make 5 = .ok (.astore 6, 2) := by decide +kernel
set_option maxRecDepth 20000 in
theorem dX11_make_7 : decode cX11_make 7 = .ok (.iload_n 1, 1) := by decide +kernel
set_option maxRecDepth 20000 in
theorem dX11_make_8 : decode cX11_make 8 = .ok (.iconst 0, 1) := by decide +kernel
set_option maxRecDepth 20000 in
theorem dX11_make_9 : decode cX11_make 9 = .ok (.iconst 5, 1) := by decide +kernel
set_option maxRecDepth 20000 in
theorem dX11_make_10 : decode cX11_make 10 = .ok (.invokestatic 106, 3) := by decide +kernel
set_option maxRecDepth 20000 in
theorem dX11_make_13 : decode cX11_make 13 = .ok (.ifCond .eq 44, 3) := by decide +kernel
set_option maxRecDepth 20000 in
theorem dX11_make_16 : decode cX11_make 16 = .ok (.aload 6, 2) := by decide +kernel
set_option maxRecDepth 20000 in
theorem dX11_make_18 : decode cX11_make 18 = .ok (.ifnull 39, 3) := by decide +kernel
set_option maxRecDepth 20000 in
theorem dX11_make_21 : decode cX11_make 21 = .ok (.iload_n 3, 1) := by decide +kernel
set_option maxRecDepth 20000 in
theorem dX11_make_22 : decode cX11_make 22 = .ok (.iconst 0, 1) := by decide +kernel
set_option maxRecDepth 20000 in
theorem dX11_make_23 : decode cX11_make 23 = .ok (.sipush 999, 3) := by decide +kernel
set_option maxRecDepth 20000 in
theorem dX11_make_26 : decode cX11_make 26 = .ok (.invokestatic 106, 3) := by decide +kernel
set_option maxRecDepth 20000 in
theorem dX11_make_29 : decode cX11_make 29 = .ok (.ifCond .eq 28, 3) := by decide +kernel
set_option maxRecDepth 20000 in
theorem dX11_make_32 : decode cX11_make 32 = .ok (.iload 4, 2) := by decide +kernel
set_option maxRecDepth 20000 in
theorem dX11_make_34 : decode cX11_make 34 = .ok (.iconst 0, 1) := by decide +kernel
set_option maxRecDepth 20000 in
theorem dX11_make_35 : decode cX11_make 35 = .ok (.sipush 1000, 3) := by decide +kernel
set_option maxRecDepth 20000 in
theorem dX11_make_38 : decode cX11_make 38 = .ok (.invokestatic 106, 3) := by decide +kernel
set_option maxRecDepth 20000 in
theorem dX11_make_41 : decode cX11_make 41 = .ok (.ifCond .eq 16, 3) := by decide +kernel
set_option maxRecDepth 20000 in
theorem dX11_make_44 : decode cX11_make 44 = .ok (.iload 5, 2) := by decide +kernel
set_option maxRecDepth 20000 in
theorem dX11_make_46 : decode cX11_make 46 = .ok (.sipush (-999), 3) := by decide +kernel
set_option maxRecDepth 20000 in
theorem dX11_make_49 : decode cX11_make 49 = .ok (.bipush 99, 2) := by decide +kernel
set_option maxRecDepth 20000 in
theorem dX11_make_51 : decode cX11_make 51 = .ok (.invokestatic 106, 3) := by decide +kernel
set_option maxRecDepth 20000 in
theorem dX11_make_54 : decode cX11_make 54 = .ok (.ifCond .ne 6, 3) := by decide +kernel
set_option maxRecDepth 20000 in
theorem dX11_make_57 : decode cX11_make 57 = .ok (.bipush (-2), 2) := by decide +kernel
set_option maxRecDepth 20000 in
theorem dX11_make_59 : decode cX11_make 59 = .ok (.ireturn, 1) := by decide +kernel
set_option maxRecDepth 20000 in
theorem dX11_make_60 : decode cX11_make 60 = .ok (.iconst (-1), 1) := by decide +kernel
set_option maxRecDepth 20000 in
theorem dX11_make_61 : decode cX11_make 61 = .ok (.istore 7, 2) := by decide +kernel
set_option maxRecDepth 20000 in
theorem dX11_make_63 : decode cX11_make 63 = .ok (.iconst 0, 1) := by decide +kernel
set_option maxRecDepth 20000 in
theorem dX11_make_64 : decode cX11_make 64 = .ok (.istore 8, 2) := by decide +kernel
set_option maxRecDepth 20000 in
theorem dX11_make_66 : decode cX11_make 66 = .ok (.iconst 0, 1) := by decide +kernel
set_option maxRecDepth 20000 in
theorem dX11_make_67 : decode cX11_make 67 = .ok (.istore 9, 2) := by decide +kernel
set_option maxRecDepth 20000 in
theorem dX11_make_69 : decode cX11_make 69 = .ok (.iload 9, 2) := by decide +kernel
set_option maxRecDepth 20000 in
theorem dX11_make_71 : decode cX11_make 71 = .ok (.bipush 9, 2) := by decide +kernel
set_option maxRecDepth 20000 in
theorem dX11_make_73 : decode cX11_make 73 = .ok (.if_icmp .gt 133, 3) := by decide +kernel
set_option maxRecDepth 20000 in
theorem dX11_make_76 : decode cX11_make 76 = .ok (.aload_n 0, 1) := by decide +kernel
set_option maxRecDepth 20000 in
theorem dX11_make_77 : decode cX11_make 77 = .ok (.iload_n 1, 1) := by decide +kernel
set_option maxRecDepth 20000 in
theorem dX11_make_78 : decode cX11_make 78 = .ok (.sipush 1010, 3) := by decide +kernel
set_option maxRecDepth 20000 in
theorem dX11_make_81 : decode cX11_make 81 = .ok (.iload 9, 2) := by decide +kernel
set_option maxRecDepth 20000 in
theorem dX11_make_83 : decode cX11_make 83 = .ok (.iconst 1, 1) := by decide +kernel
set_option maxRecDepth 20000 in
theorem dX11_make_84 : decode cX11_make 84 = .ok (.invokestatic 118, 3) := by decide +kernel
set_option maxRecDepth 20000 in
theorem dX11_make_87 : decode cX11_make 87 = .ok (.aload 6, 2) := by decide +kernel
set_option maxRecDepth 20000 in
theorem dX11_make_89 : decode cX11_make 89 = .ok (.invokevirtual 280, 3) := by decide +kernel
set_option maxRecDepth 20000 in
theorem dX11_make_92 : decode cX11_make 92 = .ok (.istore 10, 2) := by decide +kernel
set_option maxRecDepth 20000 in
theorem dX11_make_94 : decode cX11_make 94 = .ok (.ldc2_w 335, 3) := by decide +kernel
set_option maxRecDepth 20000 in
theorem dX11_make_97 : decode cX11_make 97 = .ok (.iload 10, 2) := by decide +kernel
set_option maxRecDepth 20000 in
theorem dX11_make_99 : decode cX11_make 99 = .ok (.i2l, 1) := by decide +kernel
set_option maxRecDepth 20000 in
theorem dX11_make_100 : decode cX11_make 100 = .ok (.lmul, 1) := by decide +kernel
set_option maxRecDepth 20000 in
theorem dX11_make_101 : decode cX11_make 101 = .ok (.aload 6, 2) := by decide +kernel
set_option maxRecDepth 20000 in
theorem dX11_make_103 : decode cX11_make 103 = .ok (.getfield 199, 3) := by decide +kernel
set_option maxRecDepth 20000 in
theorem dX11_make_106 : decode cX11_make 106 = .ok (.i2l, 1) := by decide +kernel
set_option maxRecDepth 20000 in
theorem dX11_make_107 : decode cX11_make 107 = .ok (.invokestatic 267, 3) := by decide +kernel
set_option maxRecDepth 20000 in
theorem dX11_make_110 : decode cX11_make 110 = .ok (.iload 4, 2) := by decide +kernel
set_option maxRecDepth 20000 in
theorem dX11_make_112 : decode cX11_make 112 = .ok (.i2l, 1) := by decide +kernel
set_option maxRecDepth 20000 in
theorem dX11_make_113 : decode cX11_make 113 = .ok (.lcmp, 1) := by decide +kernel
set_option maxRecDepth 20000 in
theorem dX11_make_114 : decode cX11_make 114 = .ok (.ifCond .lt 7, 3) := by decide +kernel
set_option maxRecDepth 20000 in
theorem dX11_make_117 : decode cX11_make 117 = .ok (.iconst 1, 1) := by decide +kernel
set_option maxRecDepth 20000 in
theorem dX11_make_118 : decode cX11_make 118 = .ok (.goto 4, 3) := by decide +kernel
set_option maxRecDepth 20000 in
theorem dX11_make_121 : decode cX11_make 121 = .ok (.iconst 0, 1) := by decide +kernel
set_option maxRecDepth 20000 in
theorem dX11_make_122 : decode cX11_make 122 = .ok (.istore 11, 2) := by decide +kernel
set_option maxRecDepth 20000 in
theorem dX11_make_124 : decode cX11_make 124 = .ok (.iconst 1, 1) := by decide +kernel
set_option maxRecDepth 20000 in
theorem dX11_make_125 : decode cX11_make 125 = .ok (.istore 12, 2) := by decide +kernel
set_option maxRecDepth 20000 in
theorem dX11_make_127 : decode cX11_make 127 = .ok (.iload 12, 2) := by decide +kernel
set_option maxRecDepth 20000 in
theorem dX11_make_129 : decode cX11_make 129 = .ok (.bipush 99, 2) := by decide +kernel
set_option maxRecDepth 20000 in
theorem dX11_make_131 : decode cX11_make 131 = .ok (.if_icmp .gt 69, 3) := by decide +kernel
set_option maxRecDepth 20000 in
theorem dX11_make_134 : decode cX11_make 134 = .ok (.iload 11, 2) := by decide +kernel
set_option maxRecDepth 20000 in
theorem dX11_make_136 : decode cX11_make 136 = .ok (.ifCond .eq 64, 3) := by decide +kernel
set_option maxRecDepth 20000 in
theorem dX11_make_139 : decode cX11_make 139 = .ok (.iload 12, 2) := by decide +kernel
set_option maxRecDepth 20000 in
theorem dX11_make_141 : decode cX11_make 141 = .ok (.aload 6, 2) := by decide +kernel
set_option maxRecDepth 20000 in
theorem dX11_make_143 : decode cX11_make 143 = .ok (.getfield 199, 3) := by decide +kernel
set_option maxRecDepth 20000 in
theorem dX11_make_146 : decode cX11_make 146 = .ok (.imul, 1) := by decide +kernel
set_option maxRecDepth 20000 in
theorem dX11_make_147 : decode cX11_make 147 = .ok (.iload 10, 2) := by decide +kernel
set_option maxRecDepth 20000 in
theorem dX11_make_149 : decode cX11_make 149 = .ok (.iload_n 3, 1) := by decide +kernel
set_option maxRecDepth 20000 in
theorem dX11_make_150 : decode cX11_make 150 = .ok (.imul, 1) := by decide +kernel
set_option maxRecDepth 20000 in
theorem dX11_make_151 : decode cX11_make 151 = .ok (.isub, 1) := by decide +kernel
set_option maxRecDepth 20000 in
theorem dX11_make_152 : decode cX11_make 152 = .ok (.istore 13, 2) := by decide +kernel
set_option maxRecDepth 20000 in
theorem dX11_make_154 : decode cX11_make 154 = .ok (.iload 13, 2) := by decide +kernel
set_option maxRecDepth 20000 in
theorem dX11_make_156 : decode cX11_make 156 = .ok (.iload 5, 2) := by decide +kernel
set_option maxRecDepth 20000 in
theorem dX11_make_158 : decode cX11_make 158 = .ok (.aload 6, 2) := by decide +kernel
set_option maxRecDepth 20000 in
theorem dX11_make_160 : decode cX11_make 160 = .ok (.getfield 199, 3) := by decide +kernel
set_option maxRecDepth 20000 in
theorem dX11_make_163 : decode cX11_make 163 = .ok (.imul, 1) := by decide +kernel
set_option maxRecDepth 20000 in
theorem dX11_make_164 : decode cX11_make 164 = .ok (.if_icmp .lt 30, 3) := by decide +kernel
set_option maxRecDepth 20000 in
theorem dX11_make_167 : decode cX11_make 167 = .ok (.iload 7, 2) := by decide +kernel
set_option maxRecDepth 20000 in
theorem dX11_make_169 : decode cX11_make 169 = .ok (.iconst (-1), 1) := by decide +kernel
set_option maxRecDepth 20000 in
theorem dX11_make_170 : decode cX11_make 170 = .ok (.if_icmp .eq 10, 3) := by decide +kernel
set_option maxRecDepth 20000 in
theorem dX11_make_173 : decode cX11_make 173 = .ok (.iload 13, 2) := by decide +kernel
set_option maxRecDepth 20000 in
theorem dX11_make_175 : decode cX11_make 175 = .ok (.iload 8, 2) := by decide +kernel
set_option maxRecDepth 20000 in
theorem dX11_make_177 : decode cX11_make 177 = .ok (.if_icmp .ge 17, 3) := by decide +kernel
set_option maxRecDepth 20000 in
theorem dX11_make_180 : decode cX11_make 180 = .ok (.bipush 100, 2) := by decide +kernel
set_option maxRecDepth 20000 in
theorem dX11_make_182 : decode cX11_make 182 = .ok (.iload 9, 2) := by decide +kernel
set_option maxRecDepth 20000 in
theorem dX11_make_184 : decode cX11_make 184 = .ok (.imul, 1) := by decide +kernel
set_option maxRecDepth 20000 in
theorem dX11_make_185 : decode cX11_make 185 = .ok (.iload 12, 2) := by decide +kernel
set_option maxRecDepth 20000 in
theorem dX11_make_187 : decode cX11_make 187 = .ok (.iadd, 1) := by decide +kernel
set_option maxRecDepth 20000 in
theorem dX11_make_188 : decode cX11_make 188 = .ok (.istore 7, 2) := by decide +kernel
set_option maxRecDepth 20000 in
theorem dX11_make_190 : decode cX11_make 190 = .ok (.iload 13, 2) := by decide +kernel
set_option maxRecDepth 20000 in
theorem dX11_make_192 : decode cX11_make 192 = .ok (.istore 8, 2) := by decide +kernel
set_option maxRecDepth 20000 in
theorem dX11_make_194 : decode cX11_make 194 = .ok (.iinc 12 1, 3) := by decide +kernel
set_option maxRecDepth 20000 in
theorem dX11_make_197 : decode cX11_make 197 = .ok (.goto (-70), 3) := by decide +kernel
set_option maxRecDepth 20000 in
theorem dX11_make_200 : decode cX11_make 200 = .ok (.iinc 9 1, 3) := by decide +kernel
set_option maxRecDepth 20000 in
theorem dX11_make_203 : decode cX11_make 203 = .ok (.goto (-134), 3) := by decide +kernel
set_option maxRecDepth 20000 in
theorem dX11_make_206 : decode cX11_make 206 = .ok (.iload 7, 2) := by decide +kernel
set_option maxRecDepth 20000 in
theorem dX11_make_208 : decode cX11_make 208 = .ok (.ireturn, 1) := by decide +kernel
set_option maxRecDepth 20000 in
theorem dX11_walk_0 : decode cX11_walk 0 = .ok (.aload_n 0, 1) := by decide +kernel
set_option maxRecDepth 20000 in
theorem dX11_walk_1 : decode cX11_walk 1 = .ok (.iload_n 1, 1) := by decide +kernel
set_option maxRecDepth 20000 in
theorem dX11_walk_2 : decode cX11_walk 2 = .ok (.invokevirtual 182, 3) := by decide +kernel
set_option maxRecDepth 20000 in
theorem dX11_walk_5 : decode cX11_walk 5 = .ok (.astore 4, 2) := by decide +kernel
set_option maxRecDepth 20000 in
theorem dX11_walk_7 : decode cX11_walk 7 = .ok (.aload 4, 2) := by decide +kernel
set_option maxRecDepth 20000 in
theorem dX11_walk_9 : decode cX11_walk 9 = .ok (.ifnull 21, 3) := by decide +kernel
set_option maxRecDepth 20000 in
theorem dX11_walk_12 : decode cX11_walk 12 = .ok (.iload_n 2, 1) := by decide +kernel
set_option maxRecDepth 20000 in
theorem dX11_walk_13 : decode cX11_walk 13 = .ok (.iconst 0, 1) := by decide +kernel
set_option maxRecDepth 20000 in
theorem dX11_walk_14 : decode cX11_walk 14 = .ok (.sipush 200, 3) := by decide +kernel
set_option maxRecDepth 20000 in
theorem dX11_walk_17 : decode cX11_walk 17 = .ok (.invokestatic 106, 3) := by decide +kernel
set_option maxRecDepth 20000 in
theorem dX11_walk_20 : decode cX11_walk 20 = .ok (.ifCond .eq 10, 3) := by decide +kernel
set_option maxRecDepth 20000 in
theorem dX11_walk_23 : decode cX11_walk 23 = .ok (.iload_n 3, 1) := by decide +kernel
set_option maxRecDepth 20000 in
theorem dX11_walk_24 : decode cX11_walk 24 = .ok (.invokestatic 186, 3) := by decide +kernel
set_option maxRecDepth 20000 in
theorem dX11_walk_27 : decode cX11_walk 27 = .ok (.ifCond .ne 6, 3) := by decide +kernel
set_option maxRecDepth 20000 in
theorem dX11_walk_30 : decode cX11_walk 30 = .ok (.bipush (-2), 2) := by decide +kernel
set_option maxRecDepth 20000 in
theorem dX11_walk_32 : decode cX11_walk 32 = .ok (.ireturn, 1) := by decide +kernel
set_option maxRecDepth 20000 in
theorem dX11_walk_33 : decode cX11_walk 33 = .ok (.iconst 0, 1) := by decide +kernel
set_option maxRecDepth 20000 in
theorem dX11_walk_34 : decode cX11_walk 34 = .ok (.istore 5, 2) := by decide +kernel
set_option maxRecDepth 20000 in
theorem dX11_walk_36 : decode cX11_walk 36 = .ok (.iload 5, 2) := by decide +kernel
set_option maxRecDepth 20000 in
theorem dX11_walk_38 : decode cX11_walk 38 = .ok (.aload_n 0, 1) := by decide +kernel
set_option maxRecDepth 20000 in
theorem dX11_walk_39 : decode cX11_walk 39 = .ok (.getfield 12, 3) := by decide +kernel
set_option maxRecDepth 20000 in
theorem dX11_walk_42 : decode cX11_walk 42 = .ok (.invokevirtual 114, 3) := by decide +kernel
set_option maxRecDepth 20000 in
theorem dX11_walk_45 : decode cX11_walk 45 = .ok (.if_icmp .ge 50, 3) := by decide +kernel
set_option maxRecDepth 20000 in
theorem dX11_walk_48 : decode cX11_walk 48 = .ok (.iload 5, 2) := by decide +kernel
set_option maxRecDepth 20000 in
theorem dX11_walk_50 : decode cX11_walk 50 = .ok (.aload_n 0, 1) := by decide +kernel
set_option maxRecDepth 20000 in
theorem dX11_walk_51 : decode cX11_walk 51 = .ok (.getfield 86, 3) := by decide +kernel
set_option maxRecDepth 20000 in
theorem dX11_walk_54 : decode cX11_walk 54 = .ok (.arraylength, 1) := by decide +kernel
set_option maxRecDepth 20000 in
theorem dX11_walk_55 : decode cX11_walk 55 = .ok (.if_icmp .ge 40, 3) := by decide +kernel
set_option maxRecDepth 20000 in
theorem dX11_walk_58 : decode cX11_walk 58 = .ok (.aload_n 0, 1) := by decide +kernel
set_option maxRecDepth 20000 in
theorem dX11_walk_59 : decode cX11_walk 59 = .ok (.getfield 86, 3) := by decide +kernel
set_option maxRecDepth 20000 in
theorem dX11_walk_62 : decode cX11_walk 62 = .ok (.iload 5, 2) := by decide +kernel
set_option maxRecDepth 20000 in
theorem dX11_walk_64 : decode cX11_walk 64 = .ok (.aload 4, 2) := by decide +kernel
set_option maxRecDepth 20000 in
theorem dX11_walk_66 : decode cX11_walk 66 = .ok (.getfield 199, 3) := by decide +kernel
set_option maxRecDepth 20000 in
theorem dX11_walk_69 : decode cX11_walk 69 = .ok (.aload_n 0, 1) := by decide +kernel
set_option maxRecDepth 20000 in
theorem dX11_walk_70 : decode cX11_walk 70 = .ok (.aload_n 0, 1) := by decide +kernel
set_option maxRecDepth 20000 in
theorem dX11_walk_71 : decode cX11_walk 71 = .ok (.getfield 12, 3) := by decide +kernel
set_option maxRecDepth 20000 in
theorem dX11_walk_74 : decode cX11_walk 74 = .ok (.iload 5, 2) := by decide +kernel
set_option maxRecDepth 20000 in
theorem dX11_walk_76 : decode cX11_walk 76 = .ok (.invokevirtual 276, 3) := by decide +kernel
set_option maxRecDepth 20000 in
theorem dX11_walk_79 : decode cX11_walk 79 = .ok (.checkcast 131, 3) := by decide +kernel
set_option maxRecDepth 20000 in
theorem dX11_walk_82 : decode cX11_walk 82 = .ok (.aload 4, 2) := by decide +kernel
set_option maxRecDepth 20000 in
theorem dX11_walk_84 : decode cX11_walk 84 = .ok (.invokevirtual 280, 3) := by decide +kernel
set_option maxRecDepth 20000 in
theorem dX11_walk_87 : decode cX11_walk 87 = .ok (.isub, 1) := by decide +kernel
set_option maxRecDepth 20000 in
theorem dX11_walk_88 : decode cX11_walk 88 = .ok (.iastore, 1) := by decide +kernel
set_option maxRecDepth 20000 in
theorem dX11_walk_89 : decode cX11_walk 89 = .ok (.iinc 5 1, 3) := by decide +kernel
set_option maxRecDepth 20000 in
theorem dX11_walk_92 : decode cX11_walk 92 = .ok (.goto (-56), 3) := by decide +kernel
set_option maxRecDepth 20000 in
theorem dX11_walk_95 : decode cX11_walk 95 = .ok (.aload_n 0, 1) := by decide +kernel
set_option maxRecDepth 20000 in
theorem dX11_walk_96 : decode cX11_walk 96 = .ok (.aload 4, 2) := by decide +kernel
set_option maxRecDepth 20000 in
theorem dX11_walk_98 : decode cX11_walk 98 = .ok (.ldc_w 367, 3) := by decide +kernel
set_option maxRecDepth 20000 in
theorem dX11_walk_101 : decode cX11_walk 101 = .ok (.iload_n 2, 1) := by decide +kernel
set_option maxRecDepth 20000 in
theorem dX11_walk_102 : decode cX11_walk 102 = .ok (.invokevirtual 368, 3) := by decide +kernel
set_option maxRecDepth 20000 in
theorem dX11_walk_105 : decode cX11_walk 105 = .ok (.istore 5, 2) := by decide +kernel
set_option maxRecDepth 20000 in
theorem dX11_walk_107 : decode cX11_walk 107 = .ok (.iload_n 3, 1) := by decide +kernel
set_option maxRecDepth 20000 in
theorem dX11_walk_108 : decode cX11_walk 108 = .ok (.ifCond .ne 6, 3) := by decide +kernel
set_option maxRecDepth 20000 in
theorem dX11_walk_111 : decode cX11_walk 111 = .ok (.iload 5, 2) := by decide +kernel
set_option maxRecDepth 20000 in
theorem dX11_walk_113 : decode cX11_walk 113 = .ok (.ireturn, 1) := by decide +kernel
set_option maxRecDepth 20000 in
theorem dX11_walk_114 : decode cX11_walk 114 = .ok (.iload 5, 2) := by decide +kernel
set_option maxRecDepth 20000 in
theorem dX11_walk_116 : decode cX11_walk 116 = .ok (.ldc_w 367, 3) := by decide +kernel
set_option maxRecDepth 20000 in
theorem dX11_walk_119 : decode cX11_walk 119 = .ok (.if_icmp .ne 7, 3) := by decide +kernel
set_option maxRecDepth 20000 in
theorem dX11_walk_122 : decode cX11_walk 122 = .ok (.iconst (-1), 1) := by decide +kernel
set_option maxRecDepth 20000 in
theorem dX11_walk_123 : decode cX11_walk 123 = .ok (.goto 12, 3) := by decide +kernel
set_option maxRecDepth 20000 in
theorem dX11_walk_126 : decode cX11_walk 126 = .ok (.aload_n 0, 1) := by decide +kernel
set_option maxRecDepth 20000 in
theorem dX11_walk_127 : decode cX11_walk 127 = .ok (.aload 4, 2) := by decide +kernel
set_option maxRecDepth 20000 in
theorem dX11_walk_129 : decode cX11_walk 129 = .ok (.iload_n 2, 1) := by decide +kernel
set_option maxRecDepth 20000 in
theorem dX11_walk_130 : decode cX11_walk 130 = .ok (.iload 5, 2) := by decide +kernel
set_option maxRecDepth 20000 in
theorem dX11_walk_132 : decode cX11_walk 132 = .ok (.invokevirtual 372, 3) := by decide +kernel
set_option maxRecDepth 20000 in
theorem dX11_walk_135 : decode cX11_walk 135 = .ok (.ireturn, 1) := by decide +kernel
set_option maxRecDepth 20000 in
theorem dX11_image_0 : decode cX11_image 0 = .ok (.aload_n 0, 1) := by decide +kernel
set_option maxRecDepth 20000 in
theorem dX11_image_1 : decode cX11_image 1 = .ok (.getfield 52, 3) := by decide +kernel
set_option maxRecDepth 20000 in
theorem dX11_image_4 : decode cX11_image 4 = .ok (.iconst 1, 1) := by decide +kernel
set_option maxRecDepth 20000 in
theorem dX11_image_5 : decode cX11_image 5 = .ok (.putfield 375, 3) := by decide +kernel
set_option maxRecDepth 20000 in
theorem dX11_image_8 : decode cX11_image 8 = .ok (.aload_n 0, 1) := by decide +kernel
set_option maxRecDepth 20000 in
theorem dX11_image_9 : decode cX11_image 9 = .ok (.getfield 52, 3) := by decide +kernel
set_option maxRecDepth 20000 in
theorem dX11_image_12 : decode cX11_image 12 = .ok (.aload_n 0, 1) := by decide +kernel
set_option maxRecDepth 20000 in
theorem dX11_image_13 : decode cX11_image 13 = .ok (.getfield 12, 3) := by decide +kernel
set_option maxRecDepth 20000 in
theorem dX11_image_16 : decode cX11_image 16 = .ok (.invokevirtual 114, 3) := by decide +kernel
set_option maxRecDepth 20000 in
theorem dX11_image_19 : decode cX11_image 19 = .ok (.putfield 379, 3) := by decide +kernel
set_option maxRecDepth 20000 in
theorem dX11_image_22 : decode cX11_image 22 = .ok (.aload_n 0, 1) := by decide +kernel
set_option maxRecDepth 20000 in
theorem dX11_image_23 : decode cX11_image 23 = .ok (.getfield 52, 3) := by decide +kernel
set_option maxRecDepth 20000 in
theorem dX11_image_26 : decode cX11_image 26 = .ok (.aload_n 0, 1) := by decide +kernel
set_option maxRecDepth 20000 in
theorem dX11_image_27 : decode cX11_image 27 = .ok (.getfield 22, 3) := by decide +kernel
set_option maxRecDepth 20000 in
theorem dX11_image_30 : decode cX11_image 30 = .ok (.putfield 382, 3) := by decide +kernel
set_option maxRecDepth 20000 in
theorem dX11_image_33 : decode cX11_image 33 = .ok (.aload_n 0, 1) := by decide +kernel
set_option maxRecDepth 20000 in
theorem dX11_image_34 : decode cX11_image 34 = .ok (.getfield 52, 3) := by decide +kernel
set_option maxRecDepth 20000 in
theorem dX11_image_37 : decode cX11_image 37 = .ok (.aload_n 0, 1) := by decide +kernel
set_option maxRecDepth 20000 in
theorem dX11_image_38 : decode cX11_image 38 = .ok (.getfield 30, 3) := by decide +kernel
set_option maxRecDepth 20000 in
theorem dX11_image_41 : decode cX11_image 41 = .ok (.putfield 383, 3) := by decide +kernel
set_option maxRecDepth 20000 in
theorem dX11_image_44 : decode cX11_image 44 = .ok (.iconst 0, 1) := by decide +kernel
set_option maxRecDepth 20000 in
theorem dX11_image_45 : decode cX11_image 45 = .ok (.istore_n 1, 1) := by decide +kernel
set_option maxRecDepth 20000 in
theorem dX11_image_46 : decode cX11_image 46 = .ok (.iload_n 1, 1) := by decide +kernel
set_option maxRecDepth 20000 in
theorem dX11_image_47 : decode cX11_image 47 = .ok (.aload_n 0, 1) := by decide +kernel
set_option maxRecDepth 20000 in
theorem dX11_image_48 : decode cX11_image 48 = .ok (.getfield 12, 3) := by decide +kernel
set_option maxRecDepth 20000 in
theorem dX11_image_51 : decode cX11_image 51 = .ok (.invokevirtual 114, 3) := by decide +kernel
set_option maxRecDepth 20000 in
theorem dX11_image_54 : decode cX11_image 54 = .ok (.if_icmp .ge 28, 3) := by decide +kernel
set_option maxRecDepth 20000 in
theorem dX11_image_57 : decode cX11_image 57 = .ok (.aload_n 0, 1) := by decide +kernel
set_option maxRecDepth 20000 in
theorem dX11_image_58 : decode cX11_image 58 = .ok (.getfield 52, 3) := by decide +kernel
set_option maxRecDepth 20000 in
theorem dX11_image_61 : decode cX11_image 61 = .ok (.iload_n 1, 1) := by decide +kernel
set_option maxRecDepth 20000 in
theorem dX11_image_62 : decode cX11_image 62 = .ok (.aload_n 0, 1) := by decide +kernel
set_option maxRecDepth 20000 in
theorem dX11_image_63 : decode cX11_image 63 = .ok (.getfield 12, 3) := by decide +kernel
set_option maxRecDepth 20000 in
theorem dX11_image_66 : decode cX11_image 66 = .ok (.iload_n 1, 1) := by decide +kernel
set_option maxRecDepth 20000 in
theorem dX11_image_67 : decode cX11_image 67 = .ok (.invokevirtual 276, 3) := by decide +kernel
set_option maxRecDepth 20000 in
theorem dX11_image_70 : decode cX11_image 70 = .ok (.checkcast 131, 3) := by decide +kernel
set_option maxRecDepth 20000 in
theorem dX11_image_73 : decode cX11_image 73 = .ok (.invokevirtual 384, 3) := by decide +kernel
set_option maxRecDepth 20000 in
theorem dX11_image_76 : decode cX11_image 76 = .ok (.iinc 1 1, 3) := by decide +kernel
set_option maxRecDepth 20000 in
theorem dX11_image_79 : decode cX11_image 79 = .ok (.goto (-33), 3) := by decide +kernel
set_option maxRecDepth 20000 in
theorem dX11_image_82 : decode cX11_image 82 = .ok (.aload_n 0, 1) := by decide +kernel
set_option maxRecDepth 20000 in
theorem dX11_image_83 : decode cX11_image 83 = .ok (.getfield 30, 3) := by decide +kernel
set_option maxRecDepth 20000 in
theorem dX11_image_86 : decode cX11_image 86 = .ok (.ireturn, 1) := by decide +kernel
set_option maxRecDepth 20000 in
theorem dX11_back_0 : decode cX11_back 0 = .ok (.aload_n 0, 1) := by decide +kernel
set_option maxRecDepth 20000 in
theorem dX11_back_1 : decode cX11_back 1 = .ok (.getfield 52, 3) := by decide +kernel
set_option maxRecDepth 20000 in
theorem dX11_back_4 : decode cX11_back 4 = .ok (.getfield 375, 3) := by decide +kernel
set_option maxRecDepth 20000 in
theorem dX11_back_7 : decode cX11_back 7 = .ok (.ifCond .ne 6, 3) := by decide +kernel
set_option maxRecDepth 20000 in
theorem dX11_back_10 : decode cX11_back 10 = .ok (.bipush (-3), 2) := by decide +kernel
set_option maxRecDepth 20000 in
theorem dX11_back_12 : decode cX11_back 12 = .ok (.ireturn, 1) := by decide +kernel
set_option maxRecDepth 20000 in
theorem dX11_back_13 : decode cX11_back 13 = .ok (.aload_n 0, 1) := by decide +kernel
set_option maxRecDepth 20000 in
theorem dX11_back_14 : decode cX11_back 14 = .ok (.aload_n 0, 1) := by decide +kernel
set_option maxRecDepth 20000 in
theorem dX11_back_15 : decode cX11_back 15 = .ok (.getfield 52, 3) := by decide +kernel
set_option maxRecDepth 20000 in
theorem dX11_back_18 : decode cX11_back 18 = .ok (.getfield 382, 3) := by decide +kernel
set_option maxRecDepth 20000 in
theorem dX11_back_21 : decode cX11_back 21 = .ok (.putfield 22, 3) := by decide +kernel
set_option maxRecDepth 20000 in
theorem dX11_back_24 : decode cX11_back 24 = .ok (.aload_n 0, 1) := by decide +kernel
set_option maxRecDepth 20000 in
theorem dX11_back_25 : decode cX11_back 25 = .ok (.aload_n 0, 1) := by decide +kernel
set_option maxRecDepth 20000 in
theorem dX11_back_26 : decode cX11_back 26 = .ok (.getfield 52, 3) := by decide +kernel
set_option maxRecDepth 20000 in
theorem dX11_back_29 : decode cX11_back 29 = .ok (.getfield 383, 3) := by decide +kernel
set_option maxRecDepth 20000 in
theorem dX11_back_32 : decode cX11_back 32 = .ok (.putfield 30, 3) := by decide +kernel
set_option maxRecDepth 20000 in
theorem dX11_back_35 : decode cX11_back 35 = .ok (.iconst 0, 1) := by decide +kernel
set_option maxRecDepth 20000 in
theorem dX11_back_36 : decode cX11_back 36 = .ok (.istore_n 1, 1) := by decide +kernel
set_option maxRecDepth 20000 in
theorem dX11_back_37 : decode cX11_back 37 = .ok (.iload_n 1, 1) := by decide +kernel
set_option maxRecDepth 20000 in
theorem dX11_back_38 : decode cX11_back 38 = .ok (.aload_n 0, 1) := by decide +kernel
set_option maxRecDepth 20000 in
theorem dX11_back_39 : decode cX11_back 39 = .ok (.getfield 52, 3) := by decide +kernel
set_option maxRecDepth 20000 in
theorem dX11_back_42 : decode cX11_back 42 = .ok (.getfield 379, 3) := by decide +kernel
set_option maxRecDepth 20000 in
theorem dX11_back_45 : decode cX11_back 45 = .ok (.if_icmp .ge 39, 3) := by decide +kernel
set_option maxRecDepth 20000 in
theorem dX11_back_48 : decode cX11_back 48 = .ok (.iload_n 1, 1) := by decide +kernel
set_option maxRecDepth 20000 in
theorem dX11_back_49 : decode cX11_back 49 = .ok (.aload_n 0, 1) := by decide +kernel
set_option maxRecDepth 20000 in
theorem dX11_back_50 : decode cX11_back 50 = .ok (.getfield 12, 3) := by decide +kernel
set_option maxRecDepth 20000 in
theorem dX11_back_53 : decode cX11_back 53 = .ok (.invokevirtual 114, 3) := by decide +kernel
set_option maxRecDepth 20000 in
theorem dX11_back_56 : decode cX11_back 56 = .ok (.if_icmp .ge 28, 3) := by decide +kernel
set_option maxRecDepth 20000 in
theorem dX11_back_59 : decode cX11_back 59 = .ok (.aload_n 0, 1) := by decide +kernel
set_option maxRecDepth 20000 in
theorem dX11_back_60 : decode cX11_back 60 = .ok (.getfield 52, 3) := by decide +kernel
set_option maxRecDepth 20000 in
theorem dX11_back_63 : decode cX11_back 63 = .ok (.iload_n 1, 1) := by decide +kernel
set_option maxRecDepth 20000 in
theorem dX11_back_64 : decode cX11_back 64 = .ok (.aload_n 0, 1) := by decide +kernel
set_option maxRecDepth 20000 in
theorem dX11_back_65 : decode cX11_back 65 = .ok (.getfield 12, 3) := by decide +kernel
set_option maxRecDepth 20000 in
theorem dX11_back_68 : decode cX11_back 68 = .ok (.iload_n 1, 1) := by decide +kernel
set_option maxRecDepth 20000 in
theorem dX11_back_69 : decode cX11_back 69 = .ok (.invokevirtual 276, 3) := by decide +kernel
set_option maxRecDepth 20000 in
theorem dX11_back_72 : decode cX11_back 72 = .ok (.checkcast 131, 3) := by decide +kernel
set_option maxRecDepth 20000 in
theorem dX11_back_75 : decode cX11_back 75 = .ok (.invokevirtual 388, 3) := by decide +kernel
set_option maxRecDepth 20000 in
theorem dX11_back_78 : decode cX11_back 78 = .ok (.iinc 1 1, 3) := by decide +kernel
set_option maxRecDepth 20000 in
theorem dX11_back_81 : decode cX11_back 81 = .ok (.goto (-44), 3) := by decide +kernel
set_option maxRecDepth 20000 in
theorem dX11_back_84 : decode cX11_back 84 = .ok (.aload_n 0, 1) := by decide +kernel
set_option maxRecDepth 20000 in
theorem dX11_back_85 : decode cX11_back 85 = .ok (.getfield 30, 3) := by decide +kernel
set_option maxRecDepth 20000 in
theorem dX11_back_88 : decode cX11_back 88 = .ok (.ireturn, 1) := by decide +kernel
set_option maxRecDepth 20000 in
theorem dX11_count_0 : decode cX11_count 0 = .ok (.iload_n 1, 1) := by decide +kernel
set_option maxRecDepth 20000 in
theorem dX11_count_1 : decode cX11_count 1 = .ok (.tableswitch 99 0 7 #[47, 55, 63, 68, 73, 81, 89, 94], 47) := by decide +kernel
set_option maxRecDepth 20000 in
theorem dX11_count_48 : decode cX11_count 48 = .ok (.aload_n 0, 1) := by decide +kernel
set_option maxRecDepth 20000 in
theorem dX11_count_49 : decode cX11_count 49 = .ok (.getfield 12, 3) := by decide +kernel
set_option maxRecDepth 20000 in
theorem dX11_count_52 : decode cX11_count 52 = .ok (.invokevirtual 114, 3) := by decide +kernel
set_option maxRecDepth 20000 in
theorem dX11_count_55 : decode cX11_count 55 = .ok (.ireturn, 1) := by decide +kernel
set_option maxRecDepth 20000 in
theorem dX11_count_56 : decode cX11_count 56 = .ok (.aload_n 0, 1) := by decide +kernel
set_option maxRecDepth 20000 in
theorem dX11_count_57 : decode cX11_count 57 = .ok (.getfield 16, 3) := by decide +kernel
set_option maxRecDepth 20000 in
theorem dX11_count_60 : decode cX11_count 60 = .ok (.invokevirtual 114, 3) := by decide +kernel
set_option maxRecDepth 20000 in
theorem dX11_count_63 : decode cX11_count 63 = .ok (.ireturn, 1) := by decide +kernel
set_option maxRecDepth 20000 in
theorem dX11_count_64 : decode cX11_count 64 = .ok (.aload_n 0, 1) := by decide +kernel
set_option maxRecDepth 20000 in
theorem dX11_count_65 : decode cX11_count 65 = .ok (.getfield 30, 3) := by decide +kernel
set_option maxRecDepth 20000 in
theorem dX11_count_68 : decode cX11_count 68 = .ok (.ireturn, 1) := by decide +kernel
set_option maxRecDepth 20000 in
theorem dX11_count_69 : decode cX11_count 69 = .ok (.aload_n 0, 1) := by decide +kernel
set_option maxRecDepth 20000 in
theorem dX11_count_70 : decode cX11_count 70 = .ok (.getfield 39, 3) := by decide +kernel
set_option maxRecDepth 20000 in
theorem dX11_count_73 : decode cX11_count 73 = .ok (.ireturn, 1) := by decide +kernel
set_option maxRecDepth 20000 in
theorem dX11_count_74 : decode cX11_count 74 = .ok (.aload_n 0, 1) := by decide +kernel
set_option maxRecDepth 20000 in
theorem dX11_count_75 : decode cX11_count 75 = .ok (.getfield 19, 3) := by decide +kernel
set_option maxRecDepth 20000 in
theorem dX11_count_78 : decode cX11_count 78 = .ok (.invokevirtual 114, 3) := by decide +kernel
set_option maxRecDepth 20000 in
theorem dX11_count_81 : decode cX11_count 81 = .ok (.ireturn, 1) := by decide +kernel
set_option maxRecDepth 20000 in
theorem dX11_count_82 : decode cX11_count 82 = .ok (.aload_n 0, 1) := by decide +kernel
set_option maxRecDepth 20000 in
theorem dX11_count_83 : decode cX11_count 83 = .ok (.getfield 45, 3) := by decide +kernel
set_option maxRecDepth 20000 in
theorem dX11_count_86 : decode cX11_count 86 = .ok (.getfield 284, 3) := by decide +kernel
set_option maxRecDepth 20000 in
theorem dX11_count_89 : decode cX11_count 89 = .ok (.ireturn, 1) := by decide +kernel
set_option maxRecDepth 20000 in
theorem dX11_count_90 : decode cX11_count 90 = .ok (.aload_n 0, 1) := by decide +kernel
set_option maxRecDepth 20000 in
theorem dX11_count_91 : decode cX11_count 91 = .ok (.getfield 22, 3) := by decide +kernel
set_option maxRecDepth 20000 in
theorem dX11_count_94 : decode cX11_count 94 = .ok (.ireturn, 1) := by decide +kernel
set_option maxRecDepth 20000 in
theorem dX11_count_95 : decode cX11_count 95 = .ok (.aload_n 0, 1) := by decide +kernel
set_option maxRecDepth 20000 in
theorem dX11_count_96 : decode cX11_count 96 = .ok (.invokevirtual 391, 3) := by decide +kernel
set_option maxRecDepth 20000 in
theorem dX11_count_99 : decode cX11_count 99 = .ok (.ireturn, 1) := by decide +kernel
set_option maxRecDepth 20000 in
theorem dX11_count_100 : decode cX11_count 100 = .ok (.bipush (-2), 2) := by decide +kernel
set_option maxRecDepth 20000 in
theorem dX11_count_102 : decode cX11_count 102 = .ok (.ireturn, 1) := by decide +kernel
set_option maxRecDepth 20000 in
theorem dX11_areAnswers_0 : decode cX11_areAnswers 0 = .ok (.iload_n 0, 1) := by decide +kernel
set_option maxRecDepth 20000 in
theorem dX11_areAnswers_1 : decode cX11_areAnswers 1 = .ok (.iconst 0, 1) := by decide +kernel
set_option maxRecDepth 20000 in
theorem dX11_areAnswers_2 : decode cX11_areAnswers 2 = .ok (.ldc_w 394, 3) := by decide +kernel
set_option maxRecDepth 20000 in
theorem dX11_areAnswers_5 : decode cX11_areAnswers 5 = .ok (.invokestatic 106, 3) := by decide +kernel
set_option maxRecDepth 20000 in
theorem dX11_areAnswers_8 : decode cX11_areAnswers 8 = .ok (.ifCond .ne 5, 3) := by decide +kernel
set_option maxRecDepth 20000 in
theorem dX11_areAnswers_11 : decode cX11_areAnswers 11 = .ok (.iconst 0, 1) := by decide +kernel
set_option maxRecDepth 20000 in
theorem dX11_areAnswers_12 : decode cX11_areAnswers 12 = .ok (.ireturn, 1) := by decide +kernel
set_option maxRecDepth 20000 in
theorem dX11_areAnswers_13 : decode cX11_areAnswers 13 = .ok (.iconst 0, 1) := by decide +kernel
set_option maxRecDepth 20000 in
theorem dX11_areAnswers_14 : decode cX11_areAnswers 14 = .ok (.istore_n 1, 1) := by decide +kernel
set_option maxRecDepth 20000 in
theorem dX11_areAnswers_15 : decode cX11_areAnswers 15 = .ok (.iload_n 1, 1) := by decide +kernel
set_option maxRecDepth 20000 in
theorem dX11_areAnswers_16 : decode cX11_areAnswers 16 = .ok (.bipush 6, 2) := by decide +kernel
set_option maxRecDepth 20000 in
theorem dX11_areAnswers_18 : decode cX11_areAnswers 18 = .ok (.if_icmp .ge 20, 3) := by decide +kernel
set_option maxRecDepth 20000 in
theorem dX11_areAnswers_21 : decode cX11_areAnswers 21 = .ok (.iload_n 0, 1) := by decide +kernel
set_option maxRecDepth 20000 in
theorem dX11_areAnswers_22 : decode cX11_areAnswers 22 = .ok (.iload_n 1, 1) := by decide +kernel
set_option maxRecDepth 20000 in
theorem dX11_areAnswers_23 : decode cX11_areAnswers 23 = .ok (.invokestatic 395, 3) := by decide +kernel
set_option maxRecDepth 20000 in
theorem dX11_areAnswers_26 : decode cX11_areAnswers 26 = .ok (.iconst 3, 1) := by decide +kernel
set_option maxRecDepth 20000 in
theorem dX11_areAnswers_27 : decode cX11_areAnswers 27 = .ok (.if_icmp .le 5, 3) := by decide +kernel
set_option maxRecDepth 20000 in
theorem dX11_areAnswers_30 : decode cX11_areAnswers 30 = .ok (.iconst 0, 1) := by decide +kernel
set_option maxRecDepth 20000 in
theorem dX11_areAnswers_31 : decode cX11_areAnswers 31 = .ok (.ireturn, 1) := by decide +kernel
set_option maxRecDepth 20000 in
theorem dX11_areAnswers_32 : decode cX11_areAnswers 32 = .ok (.iinc 1 1, 3) := by decide +kernel
set_option maxRecDepth 20000 in
theorem dX11_areAnswers_35 : decode cX11_areAnswers 35 = .ok (.goto (-20), 3) := by decide +kernel
set_option maxRecDepth 20000 in
theorem dX11_areAnswers_38 : decode cX11_areAnswers 38 = .ok (.iconst 1, 1) := by decide +kernel
set_option maxRecDepth 20000 in
theorem dX11_areAnswers_39 : decode cX11_areAnswers 39 = .ok (.ireturn, 1) := by decide +kernel
set_option maxRecDepth 20000 in
theorem dX11_answerOf_0 : decode cX11_answerOf 0 = .ok (.iload_n 1, 1) := by decide +kernel
set_option maxRecDepth 20000 in
theorem dX11_answerOf_1 : decode cX11_answerOf 1 = .ok (.iconst 0, 1) := by decide +kernel
set_option maxRecDepth 20000 in
theorem dX11_answerOf_2 : decode cX11_answerOf 2 = .ok (.getstatic 398, 3) := by decide +kernel
set_option maxRecDepth 20000 in
theorem dX11_answerOf_5 : decode cX11_answerOf 5 = .ok (.arraylength, 1) := by decide +kernel
set_option maxRecDepth 20000 in
theorem dX11_answerOf_6 : decode cX11_answerOf 6 = .ok (.iconst 1, 1) := by decide +kernel
set_option maxRecDepth 20000 in
theorem dX11_answerOf_7 : decode cX11_answerOf 7 = .ok (.isub, 1) := by decide +kernel
set_option maxRecDepth 20000 in
theorem dX11_answerOf_8 : decode cX11_answerOf 8 = .ok (.invokestatic 106, 3) := by decide +kernel
set_option maxRecDepth 20000 in
theorem dX11_answerOf_11 : decode cX11_answerOf 11 = .ok (.ifCond .ne 5, 3) := by decide +kernel
set_option maxRecDepth 20000 in
theorem dX11_answerOf_14 : decode cX11_answerOf 14 = .ok (.iconst 0, 1) := by decide +kernel
set_option maxRecDepth 20000 in
theorem dX11_answerOf_15 : decode cX11_answerOf 15 = .ok (.ireturn, 1) := by decide +kernel
set_option maxRecDepth 20000 in
theorem dX11_answerOf_16 : decode cX11_answerOf 16 = .ok (.iload_n 0, 1) := by decide +kernel
set_option maxRecDepth 20000 in
theorem dX11_answerOf_17 : decode cX11_answerOf 17 = .ok (.i2l, 1) := by decide +kernel
set_option maxRecDepth 20000 in
theorem dX11_answerOf_18 : decode cX11_answerOf 18 = .ok (.getstatic 398, 3) := by decide +kernel
set_option maxRecDepth 20000 in
theorem dX11_answerOf_21 : decode cX11_answerOf 21 = .ok (.iload_n 1, 1) := by decide +kernel
set_option maxRecDepth 20000 in
theorem dX11_answerOf_22 : decode cX11_answerOf 22 = .ok (.iaload, 1) := by decide +kernel
set_option maxRecDepth 20000 in
theorem dX11_answerOf_23 : decode cX11_answerOf 23 = .ok (.i2l, 1) := by decide +kernel
set_option maxRecDepth 20000 in
theorem dX11_answerOf_24 : decode cX11_answerOf 24 = .ok (.invokestatic 267, 3) := by decide +kernel
set_option maxRecDepth 20000 in
theorem dX11_answerOf_27 : decode cX11_answerOf 27 = .ok (.l2i, 1) := by decide +kernel
set_option maxRecDepth 20000 in
theorem dX11_answerOf_28 : decode cX11_answerOf 28 = .ok (.bipush 10, 2) := by decide +kernel
set_option maxRecDepth 20000 in
theorem dX11_answerOf_30 : decode cX11_answerOf 30 = .ok (.irem, 1) := by decide +kernel
set_option maxRecDepth 20000 in
theorem dX11_answerOf_31 : decode cX11_answerOf 31 = .ok (.ireturn, 1) := by decide +kernel
set_option maxRecDepth 20000 in
theorem dX11_allStalls_0 : decode cX11_allStalls 0 = .ok (.iconst 1, 1) := by decide +kernel
set_option maxRecDepth 20000 in
theorem dX11_allStalls_1 : decode cX11_allStalls 1 = .ok (.aload_n 0, 1) := by decide +kernel
set_option maxRecDepth 20000 in
theorem dX11_allStalls_2 : decode cX11_allStalls 2 = .ok (.getfield 12, 3) := by decide +kernel
set_option maxRecDepth 20000 in
theorem dX11_allStalls_5 : decode cX11_allStalls 5 = .ok (.invokevirtual 114, 3) := by decide +kernel
set_option maxRecDepth 20000 in
theorem dX11_allStalls_8 : decode cX11_allStalls 8 = .ok (.ishl, 1) := by decide +kernel
set_option maxRecDepth 20000 in
theorem dX11_allStalls_9 : decode cX11_allStalls 9 = .ok (.iconst 1, 1) := by decide +kernel
set_option maxRecDepth 20000 in
theorem dX11_allStalls_10 : decode cX11_allStalls 10 = .ok (.isub, 1) := by decide +kernel
set_option maxRecDepth 20000 in
theorem dX11_allStalls_11 : decode cX11_allStalls 11 = .ok (.ireturn, 1) := by decide +kernel
set_option maxRecDepth 20000 in
theorem dX11_hoursOfTests_0 : decode cX11_hoursOfTests 0 = .ok (.iconst 0, 1) := by decide +kernel
set_option maxRecDepth 20000 in
theorem dX11_hoursOfTests_1 : decode cX11_hoursOfTests 1 = .ok (.istore_n 2, 1) := by decide +kernel
set_option maxRecDepth 20000 in
theorem dX11_hoursOfTests_2 : decode cX11_hoursOfTests 2 = .ok (.iconst 0, 1) := by decide +kernel
set_option maxRecDepth 20000 in
theorem dX11_hoursOfTests_3 : decode cX11_hoursOfTests 3 = .ok (.istore_n 3, 1) := by decide +kernel
set_option maxRecDepth 20000 in
theorem dX11_hoursOfTests_4 : decode cX11_hoursOfTests 4 = .ok (.iload_n 3, 1) := by decide +kernel
set_option maxRecDepth 20000 in
theorem dX11_hoursOfTests_5 : decode cX11_hoursOfTests 5 = .ok (.aload_n 0, 1) := by decide +kernel
set_option maxRecDepth 20000 in
theorem dX11_hoursOfTests_6 : decode cX11_hoursOfTests 6 = .ok (.getfield 39, 3) := by decide +kernel
set_option maxRecDepth 20000 in
theorem dX11_hoursOfTests_9 : decode cX11_hoursOfTests 9 = .ok (.if_icmp .ge 39, 3) := by decide +kernel
set_option maxRecDepth 20000 in
theorem dX11_hoursOfTests_12 : decode cX11_hoursOfTests 12 = .ok (.iload_n 3, 1) := by decide +kernel
set_option maxRecDepth 20000 in
theorem dX11_hoursOfTests_13 : decode cX11_hoursOfTests 13 = .ok (.aload_n 0, 1) := by decide +kernel
set_option maxRecDepth 20000 in
theorem dX11_hoursOfTests_14 : decode cX11_hoursOfTests 14 = .ok (.getfield 33, 3) := by decide +kernel
set_option maxRecDepth 20000 in
theorem dX11_hoursOfTests_17 : decode cX11_hoursOfTests 17 = .ok (.arraylength, 1) := by decide +kernel
set_option maxRecDepth 20000 in
theorem dX11_hoursOfTests_18 : decode cX11_hoursOfTests 18 = .ok (.if_icmp .ge 30, 3) := by decide +kernel
set_option maxRecDepth 20000 in
theorem dX11_hoursOfTests_21 : decode cX11_hoursOfTests 21 = .ok (.iload_n 2, 1) := by decide +kernel
set_option maxRecDepth 20000 in
theorem dX11_hoursOfTests_22 : decode cX11_hoursOfTests 22 = .ok (.iload_n 1, 1) := by decide +kernel
set_option maxRecDepth 20000 in
theorem dX11_hoursOfTests_23 : decode cX11_hoursOfTests 23 = .ok (.iload_n 3, 1) := by decide +kernel
set_option maxRecDepth 20000 in
theorem dX11_hoursOfTests_24 : decode cX11_hoursOfTests 24 = .ok (.invokestatic 401, 3) := by decide +kernel
set_option maxRecDepth 20000 in
theorem dX11_hoursOfTests_27 : decode cX11_hoursOfTests 27 = .ok (.ifCond .eq 12, 3) := by decide +kernel
set_option maxRecDepth 20000 in
theorem dX11_hoursOfTests_30 : decode cX11_hoursOfTests 30 = .ok (.aload_n 0, 1) := by decide +kernel
set_option maxRecDepth 20000 in
theorem dX11_hoursOfTests_31 : decode cX11_hoursOfTests 31 = .ok (.getfield 33, 3) := by decide +kernel
set_option maxRecDepth 20000 in
theorem dX11_hoursOfTests_34 : decode cX11_hoursOfTests 34 = .ok (.iload_n 3, 1) := by decide +kernel
set_option maxRecDepth 20000 in
theorem dX11_hoursOfTests_35 : decode cX11_hoursOfTests 35 = .ok (.iaload, 1) := by decide +kernel
set_option maxRecDepth 20000 in
theorem dX11_hoursOfTests_36 : decode cX11_hoursOfTests 36 = .ok (.goto 4, 3) := by decide +kernel
set_option maxRecDepth 20000 in
theorem dX11_hoursOfTests_39 : decode cX11_hoursOfTests 39 = .ok (.iconst 0, 1) := by decide +kernel
set_option maxRecDepth 20000 in
theorem dX11_hoursOfTests_40 : decode cX11_hoursOfTests 40 = .ok (.iadd, 1) := by decide +kernel
set_option maxRecDepth 20000 in
theorem dX11_hoursOfTests_41 : decode cX11_hoursOfTests 41 = .ok (.istore_n 2, 1) := by decide +kernel
set_option maxRecDepth 20000 in
theorem dX11_hoursOfTests_42 : decode cX11_hoursOfTests 42 = .ok (.iinc 3 1, 3) := by decide +kernel
set_option maxRecDepth 20000 in
theorem dX11_hoursOfTests_45 : decode cX11_hoursOfTests 45 = .ok (.goto (-41), 3) := by decide +kernel
set_option maxRecDepth 20000 in
theorem dX11_hoursOfTests_48 : decode cX11_hoursOfTests 48 = .ok (.iload_n 2, 1) := by decide +kernel
set_option maxRecDepth 20000 in
theorem dX11_hoursOfTests_49 : decode cX11_hoursOfTests 49 = .ok (.ireturn, 1) := by decide +kernel
set_option maxRecDepth 20000 in
theorem dX11_areParted_0 : decode cX11_areParted 0 = .ok (.iconst 0, 1) := by decide +kernel
set_option maxRecDepth 20000 in
theorem dX11_areParted_1 : decode cX11_areParted 1 = .ok (.istore_n 3, 1) := by decide +kernel
set_option maxRecDepth 20000 in
theorem dX11_areParted_2 : decode cX11_areParted 2 = .ok (.iload_n 3, 1) := by decide +kernel
set_option maxRecDepth 20000 in
theorem dX11_areParted_3 : decode cX11_areParted 3 = .ok (.aload_n 0, 1) := by decide +kernel
set_option maxRecDepth 20000 in
theorem dX11_areParted_4 : decode cX11_areParted 4 = .ok (.getfield 12, 3) := by decide +kernel
set_option maxRecDepth 20000 in
theorem dX11_areParted_7 : decode cX11_areParted 7 = .ok (.invokevirtual 114, 3) := by decide +kernel
set_option maxRecDepth 20000 in
theorem dX11_areParted_10 : decode cX11_areParted 10 = .ok (.if_icmp .ge 115, 3) := by decide +kernel
set_option maxRecDepth 20000 in
theorem dX11_areParted_13 : decode cX11_areParted 13 = .ok (.iload_n 3, 1) := by decide +kernel
set_option maxRecDepth 20000 in
theorem dX11_areParted_14 : decode cX11_areParted 14 = .ok (.iconst 1, 1) := by decide +kernel
set_option maxRecDepth 20000 in
theorem dX11_areParted_15 : decode cX11_areParted 15 = .ok (.iadd, 1) := by decide +kernel
set_option maxRecDepth 20000 in
theorem dX11_areParted_16 : decode cX11_areParted 16 = .ok (.istore 4, 2) := by decide +kernel
set_option maxRecDepth 20000 in
theorem dX11_areParted_18 : decode cX11_areParted 18 = .ok (.iload 4, 2) := by decide +kernel
set_option maxRecDepth 20000 in
theorem dX11_areParted_20 : decode cX11_areParted 20 = .ok (.aload_n 0, 1) := by decide +kernel
set_option maxRecDepth 20000 in
theorem dX11_areParted_21 : decode cX11_areParted 21 = .ok (.getfield 12, 3) := by decide +kernel
set_option maxRecDepth 20000 in
theorem dX11_areParted_24 : decode cX11_areParted 24 = .ok (.invokevirtual 114, 3) := by decide +kernel
set_option maxRecDepth 20000 in
theorem dX11_areParted_27 : decode cX11_areParted 27 = .ok (.if_icmp .ge 92, 3) := by decide +kernel
set_option maxRecDepth 20000 in
theorem dX11_areParted_30 : decode cX11_areParted 30 = .ok (.aload_n 0, 1) := by decide +kernel
set_option maxRecDepth 20000 in
theorem dX11_areParted_31 : decode cX11_areParted 31 = .ok (.getfield 12, 3) := by decide +kernel
set_option maxRecDepth 20000 in
theorem dX11_areParted_34 : decode cX11_areParted 34 = .ok (.iload_n 3, 1) := by decide +kernel
set_option maxRecDepth 20000 in
theorem dX11_areParted_35 : decode cX11_areParted 35 = .ok (.invokevirtual 276, 3) := by decide +kernel
set_option maxRecDepth 20000 in
theorem dX11_areParted_38 : decode cX11_areParted 38 = .ok (.checkcast 131, 3) := by decide +kernel
set_option maxRecDepth 20000 in
theorem dX11_areParted_41 : decode cX11_areParted 41 = .ok (.getfield 140, 3) := by decide +kernel
set_option maxRecDepth 20000 in
theorem dX11_areParted_44 : decode cX11_areParted 44 = .ok (.istore 5, 2) := by decide +kernel
set_option maxRecDepth 20000 in
theorem dX11_areParted_46 : decode cX11_areParted 46 = .ok (.aload_n 0, 1) := by decide +kernel
set_option maxRecDepth 20000 in
theorem dX11_areParted_47 : decode cX11_areParted 47 = .ok (.getfield 12, 3) := by decide +kernel
set_option maxRecDepth 20000 in
theorem dX11_areParted_50 : decode cX11_areParted 50 = .ok (.iload 4, 2) := by decide +kernel
set_option maxRecDepth 20000 in
theorem dX11_areParted_52 : decode cX11_areParted 52 = .ok (.invokevirtual 276, 3) := by decide +kernel
set_option maxRecDepth 20000 in
theorem dX11_areParted_55 : decode cX11_areParted 55 = .ok (.checkcast 131, 3) := by decide +kernel
set_option maxRecDepth 20000 in
theorem dX11_areParted_58 : decode cX11_areParted 58 = .ok (.getfield 140, 3) := by decide +kernel
set_option maxRecDepth 20000 in
theorem dX11_areParted_61 : decode cX11_areParted 61 = .ok (.istore 6, 2) := by decide +kernel
set_option maxRecDepth 20000 in
theorem dX11_areParted_63 : decode cX11_areParted 63 = .ok (.iload_n 1, 1) := by decide +kernel
set_option maxRecDepth 20000 in
theorem dX11_areParted_64 : decode cX11_areParted 64 = .ok (.iload_n 3, 1) := by decide +kernel
set_option maxRecDepth 20000 in
theorem dX11_areParted_65 : decode cX11_areParted 65 = .ok (.invokestatic 401, 3) := by decide +kernel
set_option maxRecDepth 20000 in
theorem dX11_areParted_68 : decode cX11_areParted 68 = .ok (.ifCond .eq 23, 3) := by decide +kernel
set_option maxRecDepth 20000 in
theorem dX11_areParted_71 : decode cX11_areParted 71 = .ok (.iload_n 1, 1) := by decide +kernel
set_option maxRecDepth 20000 in
theorem dX11_areParted_72 : decode cX11_areParted 72 = .ok (.iload 4, 2) := by decide +kernel
set_option maxRecDepth 20000 in
theorem dX11_areParted_74 : decode cX11_areParted 74 = .ok (.invokestatic 401, 3) := by decide +kernel
set_option maxRecDepth 20000 in
theorem dX11_areParted_77 : decode cX11_areParted 77 = .ok (.ifCond .eq 14, 3) := by decide +kernel
set_option maxRecDepth 20000 in
theorem dX11_areParted_80 : decode cX11_areParted 80 = .ok (.iload 5, 2) := by decide +kernel
set_option maxRecDepth 20000 in
theorem dX11_areParted_82 : decode cX11_areParted 82 = .ok (.iload 6, 2) := by decide +kernel
set_option maxRecDepth 20000 in
theorem dX11_areParted_84 : decode cX11_areParted 84 = .ok (.if_icmp .eq 7, 3) := by decide +kernel
set_option maxRecDepth 20000 in
theorem dX11_areParted_87 : decode cX11_areParted 87 = .ok (.iconst 1, 1) := by decide +kernel
set_option maxRecDepth 20000 in
theorem dX11_areParted_88 : decode cX11_areParted 88 = .ok (.goto 4, 3) := by decide +kernel
set_option maxRecDepth 20000 in
theorem dX11_areParted_91 : decode cX11_areParted 91 = .ok (.iconst 0, 1) := by decide +kernel
set_option maxRecDepth 20000 in
theorem dX11_areParted_92 : decode cX11_areParted 92 = .ok (.istore 7, 2) := by decide +kernel
set_option maxRecDepth 20000 in
theorem dX11_areParted_94 : decode cX11_areParted 94 = .ok (.iload 7, 2) := by decide +kernel
set_option maxRecDepth 20000 in
theorem dX11_areParted_96 : decode cX11_areParted 96 = .ok (.ifCond .eq 17, 3) := by decide +kernel
set_option maxRecDepth 20000 in
theorem dX11_areParted_99 : decode cX11_areParted 99 = .ok (.aload_n 0, 1) := by decide +kernel
set_option maxRecDepth 20000 in
theorem dX11_areParted_100 : decode cX11_areParted 100 = .ok (.iload 5, 2) := by decide +kernel
set_option maxRecDepth 20000 in
theorem dX11_areParted_102 : decode cX11_areParted 102 = .ok (.iload 6, 2) := by decide +kernel
set_option maxRecDepth 20000 in
theorem dX11_areParted_104 : decode cX11_areParted 104 = .ok (.iload_n 2, 1) := by decide +kernel
set_option maxRecDepth 20000 in
theorem dX11_areParted_105 : decode cX11_areParted 105 = .ok (.invokevirtual 404, 3) := by decide +kernel
set_option maxRecDepth 20000 in
theorem dX11_areParted_108 : decode cX11_areParted 108 = .ok (.ifCond .ne 5, 3) := by decide +kernel
set_option maxRecDepth 20000 in
theorem dX11_areParted_111 : decode cX11_areParted 111 = .ok (.iconst 0, 1) := by decide +kernel
set_option maxRecDepth 20000 in
theorem dX11_areParted_112 : decode cX11_areParted 112 = .ok (.ireturn, 1) := by decide +kernel
set_option maxRecDepth 20000 in
theorem dX11_areParted_113 : decode cX11_areParted 113 = .ok (.iinc 4 1, 3) := by decide +kernel
set_option maxRecDepth 20000 in
theorem dX11_areParted_116 : decode cX11_areParted 116 = .ok (.goto (-98), 3) := by decide +kernel
set_option maxRecDepth 20000 in
theorem dX11_areParted_119 : decode cX11_areParted 119 = .ok (.iinc 3 1, 3) := by decide +kernel
set_option maxRecDepth 20000 in
theorem dX11_areParted_122 : decode cX11_areParted 122 = .ok (.goto (-120), 3) := by decide +kernel
set_option maxRecDepth 20000 in
theorem dX11_areParted_125 : decode cX11_areParted 125 = .ok (.iconst 1, 1) := by decide +kernel
set_option maxRecDepth 20000 in
theorem dX11_areParted_126 : decode cX11_areParted 126 = .ok (.ireturn, 1) := by decide +kernel
set_option maxRecDepth 20000 in
theorem dX11_arePartedKinds_0 : decode cX11_arePartedKinds 0 = .ok (.iconst 0, 1) := by decide +kernel
set_option maxRecDepth 20000 in
theorem dX11_arePartedKinds_1 : decode cX11_arePartedKinds 1 = .ok (.istore 4, 2) := by decide +kernel
set_option maxRecDepth 20000 in
theorem dX11_arePartedKinds_3 : decode cX11_arePartedKinds 3 = .ok (.iload 4, 2) := by decide +kernel
set_option maxRecDepth 20000 in
theorem dX11_arePartedKinds_5 : decode cX11_arePartedKinds 5 = .ok (.aload_n 0, 1) := by decide +kernel
set_option maxRecDepth 20000 in
theorem dX11_arePartedKinds_6 : decode cX11_arePartedKinds 6 = .ok (.getfield 39, 3) := by decide +kernel
set_option maxRecDepth 20000 in
theorem dX11_arePartedKinds_9 : decode cX11_arePartedKinds 9 = .ok (.if_icmp .ge 54, 3) := by decide +kernel
set_option maxRecDepth 20000 in
theorem dX11_arePartedKinds_12 : decode cX11_arePartedKinds 12 = .ok (.iload 4, 2) := by decide +kernel
set_option maxRecDepth 20000 in
theorem dX11_arePartedKinds_14 : decode cX11_arePartedKinds 14 = .ok (.aload_n 0, 1) := by decide +kernel
set_option maxRecDepth 20000 in
theorem dX11_arePartedKinds_15 : decode cX11_arePartedKinds 15 = .ok (.getfield 36, 3) := by decide +kernel
set_option maxRecDepth 20000 in
theorem dX11_arePartedKinds_18 : decode cX11_arePartedKinds 18 = .ok (.arraylength, 1) := by decide +kernel
set_option maxRecDepth 20000 in
theorem dX11_arePartedKinds_19 : decode cX11_arePartedKinds 19 = .ok (.if_icmp .ge 44, 3) := by decide +kernel
set_option maxRecDepth 20000 in
theorem dX11_arePartedKinds_22 : decode cX11_arePartedKinds 22 = .ok (.aload_n 0, 1) := by decide +kernel
set_option maxRecDepth 20000 in
theorem dX11_arePartedKinds_23 : decode cX11_arePartedKinds 23 = .ok (.getfield 36, 3) := by decide +kernel
set_option maxRecDepth 20000 in
theorem dX11_arePartedKinds_26 : decode cX11_arePartedKinds 26 = .ok (.iload 4, 2) := by decide +kernel
set_option maxRecDepth 20000 in
theorem dX11_arePartedKinds_28 : decode cX11_arePartedKinds 28 = .ok (.iaload, 1) := by decide +kernel
set_option maxRecDepth 20000 in
theorem dX11_arePartedKinds_29 : decode cX11_arePartedKinds 29 = .ok (.istore 5, 2) := by decide +kernel
set_option maxRecDepth 20000 in
theorem dX11_arePartedKinds_31 : decode cX11_arePartedKinds 31 = .ok (.iload_n 3, 1) := by decide +kernel
set_option maxRecDepth 20000 in
theorem dX11_arePartedKinds_32 : decode cX11_arePartedKinds 32 = .ok (.iload 4, 2) := by decide +kernel
set_option maxRecDepth 20000 in
theorem dX11_arePartedKinds_34 : decode cX11_arePartedKinds 34 = .ok (.invokestatic 401, 3) := by decide +kernel
set_option maxRecDepth 20000 in
theorem dX11_arePartedKinds_37 : decode cX11_arePartedKinds 37 = .ok (.ifCond .eq 20, 3) := by decide +kernel
set_option maxRecDepth 20000 in
theorem dX11_arePartedKinds_40 : decode cX11_arePartedKinds 40 = .ok (.iload 5, 2) := by decide +kernel
set_option maxRecDepth 20000 in
theorem dX11_arePartedKinds_42 : decode cX11_arePartedKinds 42 = .ok (.iload_n 1, 1) := by decide +kernel
set_option maxRecDepth 20000 in
theorem dX11_arePartedKinds_43 : decode cX11_arePartedKinds 43 = .ok (.invokestatic 395, 3) := by decide +kernel
set_option maxRecDepth 20000 in
theorem dX11_arePartedKinds_46 : decode cX11_arePartedKinds 46 = .ok (.iload 5, 2) := by decide +kernel
set_option maxRecDepth 20000 in
theorem dX11_arePartedKinds_48 : decode cX11_arePartedKinds 48 = .ok (.iload_n 2, 1) := by decide +kernel
set_option maxRecDepth 20000 in
theorem dX11_arePartedKinds_49 : decode cX11_arePartedKinds 49 = .ok (.invokestatic 395, 3) := by decide +kernel
set_option maxRecDepth 20000 in
theorem dX11_arePartedKinds_52 : decode cX11_arePartedKinds 52 = .ok (.if_icmp .eq 5, 3) := by decide +kernel
set_option maxRecDepth 20000 in
theorem dX11_arePartedKinds_55 : decode cX11_arePartedKinds 55 = .ok (.iconst 1, 1) := by decide +kernel
set_option maxRecDepth 20000 in
theorem dX11_arePartedKinds_56 : decode cX11_arePartedKinds 56 = .ok (.ireturn, 1) := by decide +kernel
set_option maxRecDepth 20000 in
theorem dX11_arePartedKinds_57 : decode cX11_arePartedKinds 57 = .ok (.iinc 4 1, 3) := by decide +kernel
set_option maxRecDepth 20000 in
theorem dX11_arePartedKinds_60 : decode cX11_arePartedKinds 60 = .ok (.goto (-57), 3) := by decide +kernel
set_option maxRecDepth 20000 in
theorem dX11_arePartedKinds_63 : decode cX11_arePartedKinds 63 = .ok (.iconst 0, 1) := by decide +kernel
set_option maxRecDepth 20000 in
theorem dX11_arePartedKinds_64 : decode cX11_arePartedKinds 64 = .ok (.ireturn, 1) := by decide +kernel
set_option maxRecDepth 20000 in
theorem dX11_hoursOfLooks_0 : decode cX11_hoursOfLooks 0 = .ok (.iconst 0, 1) := by decide +kernel
set_option maxRecDepth 20000 in
theorem dX11_hoursOfLooks_1 : decode cX11_hoursOfLooks 1 = .ok (.istore_n 2, 1) := by decide +kernel
set_option maxRecDepth 20000 in
theorem dX11_hoursOfLooks_2 : decode cX11_hoursOfLooks 2 = .ok (.iconst 0, 1) := by decide +kernel
set_option maxRecDepth 20000 in
theorem dX11_hoursOfLooks_3 : decode cX11_hoursOfLooks 3 = .ok (.istore_n 3, 1) := by decide +kernel
set_option maxRecDepth 20000 in
theorem dX11_hoursOfLooks_4 : decode cX11_hoursOfLooks 4 = .ok (.iload_n 3, 1) := by decide +kernel
set_option maxRecDepth 20000 in
theorem dX11_hoursOfLooks_5 : decode cX11_hoursOfLooks 5 = .ok (.aload_n 0, 1) := by decide +kernel
set_option maxRecDepth 20000 in
theorem dX11_hoursOfLooks_6 : decode cX11_hoursOfLooks 6 = .ok (.getfield 12, 3) := by decide +kernel
set_option maxRecDepth 20000 in
theorem dX11_hoursOfLooks_9 : decode cX11_hoursOfLooks 9 = .ok (.invokevirtual 114, 3) := by decide +kernel
set_option maxRecDepth 20000 in
theorem dX11_hoursOfLooks_12 : decode cX11_hoursOfLooks 12 = .ok (.if_icmp .ge 39, 3) := by decide +kernel
set_option maxRecDepth 20000 in
theorem dX11_hoursOfLooks_15 : decode cX11_hoursOfLooks 15 = .ok (.iload_n 3, 1) := by decide +kernel
set_option maxRecDepth 20000 in
theorem dX11_hoursOfLooks_16 : decode cX11_hoursOfLooks 16 = .ok (.aload_n 0, 1) := by decide +kernel
set_option maxRecDepth 20000 in
theorem dX11_hoursOfLooks_17 : decode cX11_hoursOfLooks 17 = .ok (.getfield 86, 3) := by decide +kernel
set_option maxRecDepth 20000 in
theorem dX11_hoursOfLooks_20 : decode cX11_hoursOfLooks 20 = .ok (.arraylength, 1) := by decide +kernel
set_option maxRecDepth 20000 in
theorem dX11_hoursOfLooks_21 : decode cX11_hoursOfLooks 21 = .ok (.if_icmp .ge 30, 3) := by decide +kernel
set_option maxRecDepth 20000 in
theorem dX11_hoursOfLooks_24 : decode cX11_hoursOfLooks 24 = .ok (.iload_n 2, 1) := by decide +kernel
set_option maxRecDepth 20000 in
theorem dX11_hoursOfLooks_25 : decode cX11_hoursOfLooks 25 = .ok (.iload_n 1, 1) := by decide +kernel
set_option maxRecDepth 20000 in
theorem dX11_hoursOfLooks_26 : decode cX11_hoursOfLooks 26 = .ok (.iload_n 3, 1) := by decide +kernel
set_option maxRecDepth 20000 in
theorem dX11_hoursOfLooks_27 : decode cX11_hoursOfLooks 27 = .ok (.invokestatic 401, 3) := by decide +kernel
set_option maxRecDepth 20000 in
theorem dX11_hoursOfLooks_30 : decode cX11_hoursOfLooks 30 = .ok (.ifCond .eq 12, 3) := by decide +kernel
set_option maxRecDepth 20000 in
theorem dX11_hoursOfLooks_33 : decode cX11_hoursOfLooks 33 = .ok (.aload_n 0, 1) := by decide +kernel
set_option maxRecDepth 20000 in
theorem dX11_hoursOfLooks_34 : decode cX11_hoursOfLooks 34 = .ok (.getfield 86, 3) := by decide +kernel
set_option maxRecDepth 20000 in
theorem dX11_hoursOfLooks_37 : decode cX11_hoursOfLooks 37 = .ok (.iload_n 3, 1) := by decide +kernel
set_option maxRecDepth 20000 in
theorem dX11_hoursOfLooks_38 : decode cX11_hoursOfLooks 38 = .ok (.iaload, 1) := by decide +kernel
set_option maxRecDepth 20000 in
theorem dX11_hoursOfLooks_39 : decode cX11_hoursOfLooks 39 = .ok (.goto 4, 3) := by decide +kernel
set_option maxRecDepth 20000 in
theorem dX11_hoursOfLooks_42 : decode cX11_hoursOfLooks 42 = .ok (.iconst 0, 1) := by decide +kernel
set_option maxRecDepth 20000 in
theorem dX11_hoursOfLooks_43 : decode cX11_hoursOfLooks 43 = .ok (.iadd, 1) := by decide +kernel
set_option maxRecDepth 20000 in
theorem dX11_hoursOfLooks_44 : decode cX11_hoursOfLooks 44 = .ok (.istore_n 2, 1) := by decide +kernel
set_option maxRecDepth 20000 in
theorem dX11_hoursOfLooks_45 : decode cX11_hoursOfLooks 45 = .ok (.iinc 3 1, 3) := by decide +kernel
set_option maxRecDepth 20000 in
theorem dX11_hoursOfLooks_48 : decode cX11_hoursOfLooks 48 = .ok (.goto (-44), 3) := by decide +kernel
set_option maxRecDepth 20000 in
theorem dX11_hoursOfLooks_51 : decode cX11_hoursOfLooks 51 = .ok (.iload_n 2, 1) := by decide +kernel
set_option maxRecDepth 20000 in
theorem dX11_hoursOfLooks_52 : decode cX11_hoursOfLooks 52 = .ok (.ireturn, 1) := by decide +kernel
set_option maxRecDepth 20000 in
theorem dX11_gaffsOf_0 : decode cX11_gaffsOf 0 = .ok (.iconst 0, 1) := by decide +kernel
set_option maxRecDepth 20000 in
theorem dX11_gaffsOf_1 : decode cX11_gaffsOf 1 = .ok (.istore_n 2, 1) := by decide +kernel
set_option maxRecDepth 20000 in
theorem dX11_gaffsOf_2 : decode cX11_gaffsOf 2 = .ok (.iconst 0, 1) := by decide +kernel
set_option maxRecDepth 20000 in
theorem dX11_gaffsOf_3 : decode cX11_gaffsOf 3 = .ok (.istore_n 3, 1) := by decide +kernel
set_option maxRecDepth 20000 in
theorem dX11_gaffsOf_4 : decode cX11_gaffsOf 4 = .ok (.iload_n 3, 1) := by decide +kernel
set_option maxRecDepth 20000 in
theorem dX11_gaffsOf_5 : decode cX11_gaffsOf 5 = .ok (.aload_n 0, 1) := by decide +kernel
set_option maxRecDepth 20000 in
theorem dX11_gaffsOf_6 : decode cX11_gaffsOf 6 = .ok (.getfield 12, 3) := by decide +kernel
set_option maxRecDepth 20000 in
theorem dX11_gaffsOf_9 : decode cX11_gaffsOf 9 = .ok (.invokevirtual 114, 3) := by decide +kernel
set_option maxRecDepth 20000 in
theorem dX11_gaffsOf_12 : decode cX11_gaffsOf 12 = .ok (.if_icmp .ge 38, 3) := by decide +kernel
set_option maxRecDepth 20000 in
theorem dX11_gaffsOf_15 : decode cX11_gaffsOf 15 = .ok (.iload_n 2, 1) := by decide +kernel
set_option maxRecDepth 20000 in
theorem dX11_gaffsOf_16 : decode cX11_gaffsOf 16 = .ok (.iload_n 1, 1) := by decide +kernel
set_option maxRecDepth 20000 in
theorem dX11_gaffsOf_17 : decode cX11_gaffsOf 17 = .ok (.iload_n 3, 1) := by decide +kernel
set_option maxRecDepth 20000 in
theorem dX11_gaffsOf_18 : decode cX11_gaffsOf 18 = .ok (.invokestatic 401, 3) := by decide +kernel
set_option maxRecDepth 20000 in
theorem dX11_gaffsOf_21 : decode cX11_gaffsOf 21 = .ok (.ifCond .eq 20, 3) := by decide +kernel
set_option maxRecDepth 20000 in
theorem dX11_gaffsOf_24 : decode cX11_gaffsOf 24 = .ok (.aload_n 0, 1) := by decide +kernel
set_option maxRecDepth 20000 in
theorem dX11_gaffsOf_25 : decode cX11_gaffsOf 25 = .ok (.getfield 12, 3) := by decide +kernel
set_option maxRecDepth 20000 in
theorem dX11_gaffsOf_28 : decode cX11_gaffsOf 28 = .ok (.iload_n 3, 1) := by decide +kernel
set_option maxRecDepth 20000 in
theorem dX11_gaffsOf_29 : decode cX11_gaffsOf 29 = .ok (.invokevirtual 276, 3) := by decide +kernel
set_option maxRecDepth 20000 in
theorem dX11_gaffsOf_32 : decode cX11_gaffsOf 32 = .ok (.checkcast 131, 3) := by decide +kernel
set_option maxRecDepth 20000 in
theorem dX11_gaffsOf_35 : decode cX11_gaffsOf 35 = .ok (.invokevirtual 163, 3) := by decide +kernel
set_option maxRecDepth 20000 in
theorem dX11_gaffsOf_38 : decode cX11_gaffsOf 38 = .ok (.goto 4, 3) := by decide +kernel
set_option maxRecDepth 20000 in
theorem dX11_gaffsOf_41 : decode cX11_gaffsOf 41 = .ok (.iconst 0, 1) := by decide +kernel
set_option maxRecDepth 20000 in
theorem dX11_gaffsOf_42 : decode cX11_gaffsOf 42 = .ok (.iadd, 1) := by decide +kernel
set_option maxRecDepth 20000 in
theorem dX11_gaffsOf_43 : decode cX11_gaffsOf 43 = .ok (.istore_n 2, 1) := by decide +kernel
set_option maxRecDepth 20000 in
theorem dX11_gaffsOf_44 : decode cX11_gaffsOf 44 = .ok (.iinc 3 1, 3) := by decide +kernel
set_option maxRecDepth 20000 in
theorem dX11_gaffsOf_47 : decode cX11_gaffsOf 47 = .ok (.goto (-43), 3) := by decide +kernel
set_option maxRecDepth 20000 in
theorem dX11_gaffsOf_50 : decode cX11_gaffsOf 50 = .ok (.iload_n 2, 1) := by decide +kernel
set_option maxRecDepth 20000 in
theorem dX11_gaffsOf_51 : decode cX11_gaffsOf 51 = .ok (.ireturn, 1) := by decide +kernel
set_option maxRecDepth 20000 in
theorem dX11_leastFail_0 : decode cX11_leastFail 0 = .ok (.iload_n 3, 1) := by decide +kernel
set_option maxRecDepth 20000 in
theorem dX11_leastFail_1 : decode cX11_leastFail 1 = .ok (.iconst 0, 1) := by decide +kernel
set_option maxRecDepth 20000 in
theorem dX11_leastFail_2 : decode cX11_leastFail 2 = .ok (.aload_n 0, 1) := by decide +kernel
set_option maxRecDepth 20000 in
theorem dX11_leastFail_3 : decode cX11_leastFail 3 = .ok (.getfield 89, 3) := by decide +kernel
set_option maxRecDepth 20000 in
theorem dX11_leastFail_6 : decode cX11_leastFail 6 = .ok (.arraylength, 1) := by decide +kernel
set_option maxRecDepth 20000 in
theorem dX11_leastFail_7 : decode cX11_leastFail 7 = .ok (.iconst 1, 1) := by decide +kernel
set_option maxRecDepth 20000 in
theorem dX11_leastFail_8 : decode cX11_leastFail 8 = .ok (.isub, 1) := by decide +kernel
set_option maxRecDepth 20000 in
theorem dX11_leastFail_9 : decode cX11_leastFail 9 = .ok (.invokestatic 106, 3) := by decide +kernel
set_option maxRecDepth 20000 in
theorem dX11_leastFail_12 : decode cX11_leastFail 12 = .ok (.ifCond .ne 5, 3) := by decide +kernel
set_option maxRecDepth 20000 in
theorem dX11_leastFail_15 : decode cX11_leastFail 15 = .ok (.iload_n 2, 1) := by decide +kernel
set_option maxRecDepth 20000 in
theorem dX11_leastFail_16 : decode cX11_leastFail 16 = .ok (.ireturn, 1) := by decide +kernel
set_option maxRecDepth 20000 in
theorem dX11_leastFail_17 : decode cX11_leastFail 17 = .ok (.aload_n 0, 1) := by decide +kernel
set_option maxRecDepth 20000 in
theorem dX11_leastFail_18 : decode cX11_leastFail 18 = .ok (.getfield 89, 3) := by decide +kernel
set_option maxRecDepth 20000 in
theorem dX11_leastFail_21 : decode cX11_leastFail 21 = .ok (.iconst 0, 1) := by decide +kernel
set_option maxRecDepth 20000 in
theorem dX11_leastFail_22 : decode cX11_leastFail 22 = .ok (.iload_n 2, 1) := by decide +kernel
set_option maxRecDepth 20000 in
theorem dX11_leastFail_23 : decode cX11_leastFail 23 = .ok (.iastore, 1) := by decide +kernel
set_option maxRecDepth 20000 in
theorem dX11_leastFail_24 : decode cX11_leastFail 24 = .ok (.iconst 1, 1) := by decide +kernel
set_option maxRecDepth 20000 in
theorem dX11_leastFail_25 : decode cX11_leastFail 25 = .ok (.istore 4, 2) := by decide +kernel
set_option maxRecDepth 20000 in
theorem dX11_leastFail_27 : decode cX11_leastFail 27 = .ok (.iload 4, 2) := by decide +kernel
set_option maxRecDepth 20000 in
theorem dX11_leastFail_29 : decode cX11_leastFail 29 = .ok (.iload_n 3, 1) := by decide +kernel
set_option maxRecDepth 20000 in
theorem dX11_leastFail_30 : decode cX11_leastFail 30 = .ok (.if_icmp .gt 104, 3) := by decide +kernel
set_option maxRecDepth 20000 in
theorem dX11_leastFail_33 : decode cX11_leastFail 33 = .ok (.aload_n 0, 1) := by decide +kernel
set_option maxRecDepth 20000 in
theorem dX11_leastFail_34 : decode cX11_leastFail 34 = .ok (.getfield 89, 3) := by decide +kernel
set_option maxRecDepth 20000 in
theorem dX11_leastFail_37 : decode cX11_leastFail 37 = .ok (.iload 4, 2) := by decide +kernel
set_option maxRecDepth 20000 in
theorem dX11_leastFail_39 : decode cX11_leastFail 39 = .ok (.iconst 1, 1) := by decide +kernel
set_option maxRecDepth 20000 in
theorem dX11_leastFail_40 : decode cX11_leastFail 40 = .ok (.isub, 1) := by decide +kernel
set_option maxRecDepth 20000 in
theorem dX11_leastFail_41 : decode cX11_leastFail 41 = .ok (.iaload, 1) := by decide +kernel
set_option maxRecDepth 20000 in
theorem dX11_leastFail_42 : decode cX11_leastFail 42 = .ok (.istore 5, 2) := by decide +kernel
set_option maxRecDepth 20000 in
theorem dX11_leastFail_44 : decode cX11_leastFail 44 = .ok (.iconst 0, 1) := by decide +kernel
set_option maxRecDepth 20000 in
theorem dX11_leastFail_45 : decode cX11_leastFail 45 = .ok (.istore 6, 2) := by decide +kernel
set_option maxRecDepth 20000 in
theorem dX11_leastFail_47 : decode cX11_leastFail 47 = .ok (.iload 6, 2) := by decide +kernel
set_option maxRecDepth 20000 in
theorem dX11_leastFail_49 : decode cX11_leastFail 49 = .ok (.aload_n 0, 1) := by decide +kernel
set_option maxRecDepth 20000 in
theorem dX11_leastFail_50 : decode cX11_leastFail 50 = .ok (.getfield 12, 3) := by decide +kernel
set_option maxRecDepth 20000 in
theorem dX11_leastFail_53 : decode cX11_leastFail 53 = .ok (.invokevirtual 114, 3) := by decide +kernel
set_option maxRecDepth 20000 in
theorem dX11_leastFail_56 : decode cX11_leastFail 56 = .ok (.if_icmp .ge 63, 3) := by decide +kernel
set_option maxRecDepth 20000 in
theorem dX11_leastFail_59 : decode cX11_leastFail 59 = .ok (.iload 4, 2) := by decide +kernel
set_option maxRecDepth 20000 in
theorem dX11_leastFail_61 : decode cX11_leastFail 61 = .ok (.aload_n 0, 1) := by decide +kernel
set_option maxRecDepth 20000 in
theorem dX11_leastFail_62 : decode cX11_leastFail 62 = .ok (.getfield 12, 3) := by decide +kernel
set_option maxRecDepth 20000 in
theorem dX11_leastFail_65 : decode cX11_leastFail 65 = .ok (.iload 6, 2) := by decide +kernel
set_option maxRecDepth 20000 in
theorem dX11_leastFail_67 : decode cX11_leastFail 67 = .ok (.invokevirtual 276, 3) := by decide +kernel
set_option maxRecDepth 20000 in
theorem dX11_leastFail_70 : decode cX11_leastFail 70 = .ok (.checkcast 131, 3) := by decide +kernel
set_option maxRecDepth 20000 in
theorem dX11_leastFail_73 : decode cX11_leastFail 73 = .ok (.getfield 151, 3) := by decide +kernel
set_option maxRecDepth 20000 in
theorem dX11_leastFail_76 : decode cX11_leastFail 76 = .ok (.isub, 1) := by decide +kernel
set_option maxRecDepth 20000 in
theorem dX11_leastFail_77 : decode cX11_leastFail 77 = .ok (.istore 7, 2) := by decide +kernel
set_option maxRecDepth 20000 in
theorem dX11_leastFail_79 : decode cX11_leastFail 79 = .ok (.iload 7, 2) := by decide +kernel
set_option maxRecDepth 20000 in
theorem dX11_leastFail_81 : decode cX11_leastFail 81 = .ok (.iconst 0, 1) := by decide +kernel
set_option maxRecDepth 20000 in
theorem dX11_leastFail_82 : decode cX11_leastFail 82 = .ok (.iload 4, 2) := by decide +kernel
set_option maxRecDepth 20000 in
theorem dX11_leastFail_84 : decode cX11_leastFail 84 = .ok (.iconst 1, 1) := by decide +kernel
set_option maxRecDepth 20000 in
theorem dX11_leastFail_85 : decode cX11_leastFail 85 = .ok (.isub, 1) := by decide +kernel
set_option maxRecDepth 20000 in
theorem dX11_leastFail_86 : decode cX11_leastFail 86 = .ok (.invokestatic 106, 3) := by decide +kernel
set_option maxRecDepth 20000 in
theorem dX11_leastFail_89 : decode cX11_leastFail 89 = .ok (.ifCond .eq 24, 3) := by decide +kernel
set_option maxRecDepth 20000 in
theorem dX11_leastFail_92 : decode cX11_leastFail 92 = .ok (.iload 5, 2) := by decide +kernel
set_option maxRecDepth 20000 in
theorem dX11_leastFail_94 : decode cX11_leastFail 94 = .ok (.aload_n 0, 1) := by decide +kernel
set_option maxRecDepth 20000 in
theorem dX11_leastFail_95 : decode cX11_leastFail 95 = .ok (.aload_n 1, 1) := by decide +kernel
set_option maxRecDepth 20000 in
theorem dX11_leastFail_96 : decode cX11_leastFail 96 = .ok (.aload_n 0, 1) := by decide +kernel
set_option maxRecDepth 20000 in
theorem dX11_leastFail_97 : decode cX11_leastFail 97 = .ok (.getfield 89, 3) := by decide +kernel
set_option maxRecDepth 20000 in
theorem dX11_leastFail_100 : decode cX11_leastFail 100 = .ok (.iload 7, 2) := by decide +kernel
set_option maxRecDepth 20000 in
theorem dX11_leastFail_102 : decode cX11_leastFail 102 = .ok (.iaload, 1) := by decide +kernel
set_option maxRecDepth 20000 in
theorem dX11_leastFail_103 : decode cX11_leastFail 103 = .ok (.iload 6, 2) := by decide +kernel
set_option maxRecDepth 20000 in
theorem dX11_leastFail_105 : decode cX11_leastFail 105 = .ok (.invokevirtual 407, 3) := by decide +kernel
set_option maxRecDepth 20000 in
theorem dX11_leastFail_108 : decode cX11_leastFail 108 = .ok (.invokestatic 341, 3) := by decide +kernel
set_option maxRecDepth 20000 in
theorem dX11_leastFail_111 : decode cX11_leastFail 111 = .ok (.istore 5, 2) := by decide +kernel
set_option maxRecDepth 20000 in
theorem dX11_leastFail_113 : decode cX11_leastFail 113 = .ok (.iinc 6 1, 3) := by decide +kernel
set_option maxRecDepth 20000 in
theorem dX11_leastFail_116 : decode cX11_leastFail 116 = .ok (.goto (-69), 3) := by decide +kernel
set_option maxRecDepth 20000 in
theorem dX11_leastFail_119 : decode cX11_leastFail 119 = .ok (.aload_n 0, 1) := by decide +kernel
set_option maxRecDepth 20000 in
theorem dX11_leastFail_120 : decode cX11_leastFail 120 = .ok (.getfield 89, 3) := by decide +kernel
set_option maxRecDepth 20000 in
theorem dX11_leastFail_123 : decode cX11_leastFail 123 = .ok (.iload 4, 2) := by decide +kernel
set_option maxRecDepth 20000 in
theorem dX11_leastFail_125 : decode cX11_leastFail 125 = .ok (.iload 5, 2) := by decide +kernel
set_option maxRecDepth 20000 in
theorem dX11_leastFail_127 : decode cX11_leastFail 127 = .ok (.iastore, 1) := by decide +kernel
set_option maxRecDepth 20000 in
theorem dX11_leastFail_128 : decode cX11_leastFail 128 = .ok (.iinc 4 1, 3) := by decide +kernel
set_option maxRecDepth 20000 in
theorem dX11_leastFail_131 : decode cX11_leastFail 131 = .ok (.goto (-104), 3) := by decide +kernel
set_option maxRecDepth 20000 in
theorem dX11_leastFail_134 : decode cX11_leastFail 134 = .ok (.aload_n 0, 1) := by decide +kernel
set_option maxRecDepth 20000 in
theorem dX11_leastFail_135 : decode cX11_leastFail 135 = .ok (.getfield 89, 3) := by decide +kernel
set_option maxRecDepth 20000 in
theorem dX11_leastFail_138 : decode cX11_leastFail 138 = .ok (.iload_n 3, 1) := by decide +kernel
set_option maxRecDepth 20000 in
theorem dX11_leastFail_139 : decode cX11_leastFail 139 = .ok (.iaload, 1) := by decide +kernel
set_option maxRecDepth 20000 in
theorem dX11_leastFail_140 : decode cX11_leastFail 140 = .ok (.ireturn, 1) := by decide +kernel
set_option maxRecDepth 20000 in
theorem dX11_failAfter_0 : decode cX11_failAfter 0 = .ok (.iload_n 3, 1) := by decide +kernel
set_option maxRecDepth 20000 in
theorem dX11_failAfter_1 : decode cX11_failAfter 1 = .ok (.iconst 0, 1) := by decide +kernel
set_option maxRecDepth 20000 in
theorem dX11_failAfter_2 : decode cX11_failAfter 2 = .ok (.aload_n 0, 1) := by decide +kernel
set_option maxRecDepth 20000 in
theorem dX11_failAfter_3 : decode cX11_failAfter 3 = .ok (.getfield 86, 3) := by decide +kernel
set_option maxRecDepth 20000 in
theorem dX11_failAfter_6 : decode cX11_failAfter 6 = .ok (.arraylength, 1) := by decide +kernel
set_option maxRecDepth 20000 in
theorem dX11_failAfter_7 : decode cX11_failAfter 7 = .ok (.iconst 1, 1) := by decide +kernel
set_option maxRecDepth 20000 in
theorem dX11_failAfter_8 : decode cX11_failAfter 8 = .ok (.isub, 1) := by decide +kernel
set_option maxRecDepth 20000 in
theorem dX11_failAfter_9 : decode cX11_failAfter 9 = .ok (.invokestatic 106, 3) := by decide +kernel
set_option maxRecDepth 20000 in
theorem dX11_failAfter_12 : decode cX11_failAfter 12 = .ok (.ifCond .eq 25, 3) := by decide +kernel
set_option maxRecDepth 20000 in
theorem dX11_failAfter_15 : decode cX11_failAfter 15 = .ok (.iload_n 2, 1) := by decide +kernel
set_option maxRecDepth 20000 in
theorem dX11_failAfter_16 : decode cX11_failAfter 16 = .ok (.i2l, 1) := by decide +kernel
set_option maxRecDepth 20000 in
theorem dX11_failAfter_17 : decode cX11_failAfter 17 = .ok (.aload_n 0, 1) := by decide +kernel
set_option maxRecDepth 20000 in
theorem dX11_failAfter_18 : decode cX11_failAfter 18 = .ok (.getfield 86, 3) := by decide +kernel
set_option maxRecDepth 20000 in
theorem dX11_failAfter_21 : decode cX11_failAfter 21 = .ok (.iload_n 3, 1) := by decide +kernel
set_option maxRecDepth 20000 in
theorem dX11_failAfter_22 : decode cX11_failAfter 22 = .ok (.iaload, 1) := by decide +kernel
set_option maxRecDepth 20000 in
theorem dX11_failAfter_23 : decode cX11_failAfter 23 = .ok (.i2l, 1) := by decide +kernel
set_option maxRecDepth 20000 in
theorem dX11_failAfter_24 : decode cX11_failAfter 24 = .ok (.lmul, 1) := by decide +kernel
set_option maxRecDepth 20000 in
theorem dX11_failAfter_25 : decode cX11_failAfter 25 = .ok (.aload_n 1, 1) := by decide +kernel
set_option maxRecDepth 20000 in
theorem dX11_failAfter_26 : decode cX11_failAfter 26 = .ok (.getfield 199, 3) := by decide +kernel
set_option maxRecDepth 20000 in
theorem dX11_failAfter_29 : decode cX11_failAfter 29 = .ok (.i2l, 1) := by decide +kernel
set_option maxRecDepth 20000 in
theorem dX11_failAfter_30 : decode cX11_failAfter 30 = .ok (.invokestatic 267, 3) := by decide +kernel
set_option maxRecDepth 20000 in
theorem dX11_failAfter_33 : decode cX11_failAfter 33 = .ok (.l2i, 1) := by decide +kernel
set_option maxRecDepth 20000 in
theorem dX11_failAfter_34 : decode cX11_failAfter 34 = .ok (.goto 4, 3) := by decide +kernel
set_option maxRecDepth 20000 in
theorem dX11_failAfter_37 : decode cX11_failAfter 37 = .ok (.iload_n 2, 1) := by decide +kernel
set_option maxRecDepth 20000 in
theorem dX11_failAfter_38 : decode cX11_failAfter 38 = .ok (.ireturn, 1) := by decide +kernel
set_option maxRecDepth 20000 in
theorem dX11_firstOfWalk_0 : decode cX11_firstOfWalk 0 = .ok (.iconst 0, 1) := by decide +kernel
set_option maxRecDepth 20000 in
theorem dX11_firstOfWalk_1 : decode cX11_firstOfWalk 1 = .ok (.istore 4, 2) := by decide +kernel
set_option maxRecDepth 20000 in
theorem dX11_firstOfWalk_3 : decode cX11_firstOfWalk 3 = .ok (.iload 4, 2) := by decide +kernel
set_option maxRecDepth 20000 in
theorem dX11_firstOfWalk_5 : decode cX11_firstOfWalk 5 = .ok (.aload_n 0, 1) := by decide +kernel
set_option maxRecDepth 20000 in
theorem dX11_firstOfWalk_6 : decode cX11_firstOfWalk 6 = .ok (.getfield 12, 3) := by decide +kernel
set_option maxRecDepth 20000 in
theorem dX11_firstOfWalk_9 : decode cX11_firstOfWalk 9 = .ok (.invokevirtual 114, 3) := by decide +kernel
set_option maxRecDepth 20000 in
theorem dX11_firstOfWalk_12 : decode cX11_firstOfWalk 12 = .ok (.if_icmp .ge 57, 3) := by decide +kernel
set_option maxRecDepth 20000 in
theorem dX11_firstOfWalk_15 : decode cX11_firstOfWalk 15 = .ok (.iload_n 2, 1) := by decide +kernel
set_option maxRecDepth 20000 in
theorem dX11_firstOfWalk_16 : decode cX11_firstOfWalk 16 = .ok (.aload_n 0, 1) := by decide +kernel
set_option maxRecDepth 20000 in
theorem dX11_firstOfWalk_17 : decode cX11_firstOfWalk 17 = .ok (.getfield 12, 3) := by decide +kernel
set_option maxRecDepth 20000 in
theorem dX11_firstOfWalk_20 : decode cX11_firstOfWalk 20 = .ok (.iload 4, 2) := by decide +kernel
set_option maxRecDepth 20000 in
theorem dX11_firstOfWalk_22 : decode cX11_firstOfWalk 22 = .ok (.invokevirtual 276, 3) := by decide +kernel
set_option maxRecDepth 20000 in
theorem dX11_firstOfWalk_25 : decode cX11_firstOfWalk 25 = .ok (.checkcast 131, 3) := by decide +kernel
set_option maxRecDepth 20000 in
theorem dX11_firstOfWalk_28 : decode cX11_firstOfWalk 28 = .ok (.getfield 151, 3) := by decide +kernel
set_option maxRecDepth 20000 in
theorem dX11_firstOfWalk_31 : decode cX11_firstOfWalk 31 = .ok (.isub, 1) := by decide +kernel
set_option maxRecDepth 20000 in
theorem dX11_firstOfWalk_32 : decode cX11_firstOfWalk 32 = .ok (.istore 5, 2) := by decide +kernel
set_option maxRecDepth 20000 in
theorem dX11_firstOfWalk_34 : decode cX11_firstOfWalk 34 = .ok (.iload 5, 2) := by decide +kernel
set_option maxRecDepth 20000 in
theorem dX11_firstOfWalk_36 : decode cX11_firstOfWalk 36 = .ok (.ifCond .lt 27, 3) := by decide +kernel
set_option maxRecDepth 20000 in
theorem dX11_firstOfWalk_39 : decode cX11_firstOfWalk 39 = .ok (.aload_n 0, 1) := by decide +kernel
set_option maxRecDepth 20000 in
theorem dX11_firstOfWalk_40 : decode cX11_firstOfWalk 40 = .ok (.aload_n 1, 1) := by decide +kernel
set_option maxRecDepth 20000 in
theorem dX11_firstOfWalk_41 : decode cX11_firstOfWalk 41 = .ok (.aload_n 0, 1) := by decide +kernel
set_option maxRecDepth 20000 in
theorem dX11_firstOfWalk_42 : decode cX11_firstOfWalk 42 = .ok (.aload_n 1, 1) := by decide +kernel
set_option maxRecDepth 20000 in
theorem dX11_firstOfWalk_43 : decode cX11_firstOfWalk 43 = .ok (.ldc_w 367, 3) := by decide +kernel
set_option maxRecDepth 20000 in
theorem dX11_firstOfWalk_46 : decode cX11_firstOfWalk 46 = .ok (.iload 4, 2) := by decide +kernel
set_option maxRecDepth 20000 in
theorem dX11_firstOfWalk_48 : decode cX11_firstOfWalk 48 = .ok (.invokevirtual 407, 3) := by decide +kernel
set_option maxRecDepth 20000 in
theorem dX11_firstOfWalk_51 : decode cX11_firstOfWalk 51 = .ok (.iload 5, 2) := by decide +kernel
set_option maxRecDepth 20000 in
theorem dX11_firstOfWalk_53 : decode cX11_firstOfWalk 53 = .ok (.invokevirtual 368, 3) := by decide +kernel
set_option maxRecDepth 20000 in
theorem dX11_firstOfWalk_56 : decode cX11_firstOfWalk 56 = .ok (.iload_n 3, 1) := by decide +kernel
set_option maxRecDepth 20000 in
theorem dX11_firstOfWalk_57 : decode cX11_firstOfWalk 57 = .ok (.if_icmp .ne 6, 3) := by decide +kernel
set_option maxRecDepth 20000 in
theorem dX11_firstOfWalk_60 : decode cX11_firstOfWalk 60 = .ok (.iload 4, 2) := by decide +kernel
set_option maxRecDepth 20000 in
theorem dX11_firstOfWalk_62 : decode cX11_firstOfWalk 62 = .ok (.ireturn, 1) := by decide +kernel
set_option maxRecDepth 20000 in
theorem dX11_firstOfWalk_63 : decode cX11_firstOfWalk 63 = .ok (.iinc 4 1, 3) := by decide +kernel
set_option maxRecDepth 20000 in
theorem dX11_firstOfWalk_66 : decode cX11_firstOfWalk 66 = .ok (.goto (-63), 3) := by decide +kernel
set_option maxRecDepth 20000 in
theorem dX11_firstOfWalk_69 : decode cX11_firstOfWalk 69 = .ok (.iconst (-1), 1) := by decide +kernel
set_option maxRecDepth 20000 in
theorem dX11_firstOfWalk_70 : decode cX11_firstOfWalk 70 = .ok (.ireturn, 1) := by decide +kernel
set_option maxRecDepth 20000 in
theorem dX11_triesWon_0 : decode cX11_triesWon 0 = .ok (.iconst 0, 1) := by decide +kernel
set_option maxRecDepth 20000 in
theorem dX11_triesWon_1 : decode cX11_triesWon 1 = .ok (.istore_n 1, 1) := by decide +kernel
set_option maxRecDepth 20000 in
theorem dX11_triesWon_2 : decode cX11_triesWon 2 = .ok (.iconst 0, 1) := by decide +kernel
set_option maxRecDepth 20000 in
theorem dX11_triesWon_3 : decode cX11_triesWon 3 = .ok (.istore_n 2, 1) := by decide +kernel
set_option maxRecDepth 20000 in
theorem dX11_triesWon_4 : decode cX11_triesWon 4 = .ok (.iload_n 2, 1) := by decide +kernel
set_option maxRecDepth 20000 in
theorem dX11_triesWon_5 : decode cX11_triesWon 5 = .ok (.aload_n 0, 1) := by decide +kernel
set_option maxRecDepth 20000 in
theorem dX11_triesWon_6 : decode cX11_triesWon 6 = .ok (.getfield 30, 3) := by decide +kernel
set_option maxRecDepth 20000 in
theorem dX11_triesWon_9 : decode cX11_triesWon 9 = .ok (.if_icmp .ge 27, 3) := by decide +kernel
set_option maxRecDepth 20000 in
theorem dX11_triesWon_12 : decode cX11_triesWon 12 = .ok (.iload_n 1, 1) := by decide +kernel
set_option maxRecDepth 20000 in
theorem dX11_triesWon_13 : decode cX11_triesWon 13 = .ok (.aload_n 0, 1) := by decide +kernel
set_option maxRecDepth 20000 in
theorem dX11_triesWon_14 : decode cX11_triesWon 14 = .ok (.iload_n 2, 1) := by decide +kernel
set_option maxRecDepth 20000 in
theorem dX11_triesWon_15 : decode cX11_triesWon 15 = .ok (.iconst 3, 1) := by decide +kernel
set_option maxRecDepth 20000 in
theorem dX11_triesWon_16 : decode cX11_triesWon 16 = .ok (.invokevirtual 246, 3) := by decide +kernel
set_option maxRecDepth 20000 in
theorem dX11_triesWon_19 : decode cX11_triesWon 19 = .ok (.iconst 1, 1) := by decide +kernel
set_option maxRecDepth 20000 in
theorem dX11_triesWon_20 : decode cX11_triesWon 20 = .ok (.if_icmp .ne 7, 3) := by decide +kernel
set_option maxRecDepth 20000 in
theorem dX11_triesWon_23 : decode cX11_triesWon 23 = .ok (.iconst 1, 1) := by decide +kernel
set_option maxRecDepth 20000 in
theorem dX11_triesWon_24 : decode cX11_triesWon 24 = .ok (.goto 4, 3) := by decide +kernel
set_option maxRecDepth 20000 in
theorem dX11_triesWon_27 : decode cX11_triesWon 27 = .ok (.iconst 0, 1) := by decide +kernel
set_option maxRecDepth 20000 in
theorem dX11_triesWon_28 : decode cX11_triesWon 28 = .ok (.iadd, 1) := by decide +kernel
set_option maxRecDepth 20000 in
theorem dX11_triesWon_29 : decode cX11_triesWon 29 = .ok (.istore_n 1, 1) := by decide +kernel
set_option maxRecDepth 20000 in
theorem dX11_triesWon_30 : decode cX11_triesWon 30 = .ok (.iinc 2 1, 3) := by decide +kernel
set_option maxRecDepth 20000 in
theorem dX11_triesWon_33 : decode cX11_triesWon 33 = .ok (.goto (-29), 3) := by decide +kernel
set_option maxRecDepth 20000 in
theorem dX11_triesWon_36 : decode cX11_triesWon 36 = .ok (.iload_n 1, 1) := by decide +kernel
set_option maxRecDepth 20000 in
theorem dX11_triesWon_37 : decode cX11_triesWon 37 = .ok (.ireturn, 1) := by decide +kernel
set_option maxRecDepth 20000 in
theorem dX11_sheet_0 : decode cX11_sheet 0 = .ok (.iload_n 1, 1) := by decide +kernel
set_option maxRecDepth 20000 in
theorem dX11_sheet_1 : decode cX11_sheet 1 = .ok (.invokestatic 410, 3) := by decide +kernel
set_option maxRecDepth 20000 in
theorem dX11_sheet_4 : decode cX11_sheet 4 = .ok (.ifCond .eq 22, 3) := by decide +kernel
set_option maxRecDepth 20000 in
theorem dX11_sheet_7 : decode cX11_sheet 7 = .ok (.iload_n 2, 1) := by decide +kernel
set_option maxRecDepth 20000 in
theorem dX11_sheet_8 : decode cX11_sheet 8 = .ok (.iconst (-1), 1) := by decide +kernel
set_option maxRecDepth 20000 in
theorem dX11_sheet_9 : decode cX11_sheet 9 = .ok (.iconst 2, 1) := by decide +kernel
set_option maxRecDepth 20000 in
theorem dX11_sheet_10 : decode cX11_sheet 10 = .ok (.invokestatic 106, 3) := by decide +kernel
set_option maxRecDepth 20000 in
theorem dX11_sheet_13 : decode cX11_sheet 13 = .ok (.ifCond .eq 13, 3) := by decide +kernel
set_option maxRecDepth 20000 in
theorem dX11_sheet_16 : decode cX11_sheet 16 = .ok (.iload_n 2, 1) := by decide +kernel
set_option maxRecDepth 20000 in
theorem dX11_sheet_17 : decode cX11_sheet 17 = .ok (.ifCond .lt 12, 3) := by decide +kernel
set_option maxRecDepth 20000 in
theorem dX11_sheet_20 : decode cX11_sheet 20 = .ok (.iload_n 3, 1) := by decide +kernel
set_option maxRecDepth 20000 in
theorem dX11_sheet_21 : decode cX11_sheet 21 = .ok (.bipush 40, 2) := by decide +kernel
set_option maxRecDepth 20000 in
theorem dX11_sheet_23 : decode cX11_sheet 23 = .ok (.if_icmp .le 6, 3) := by decide +kernel
set_option maxRecDepth 20000 in
theorem dX11_sheet_26 : decode cX11_sheet 26 = .ok (.bipush (-2), 2) := by decide +kernel
set_option maxRecDepth 20000 in
theorem dX11_sheet_28 : decode cX11_sheet 28 = .ok (.ireturn, 1) := by decide +kernel
set_option maxRecDepth 20000 in
theorem dX11_sheet_29 : decode cX11_sheet 29 = .ok (.iload_n 2, 1) := by decide +kernel
set_option maxRecDepth 20000 in
theorem dX11_sheet_30 : decode cX11_sheet 30 = .ok (.ifCond .lt 10, 3) := by decide +kernel
set_option maxRecDepth 20000 in
theorem dX11_sheet_33 : decode cX11_sheet 33 = .ok (.iload_n 3, 1) := by decide +kernel
set_option maxRecDepth 20000 in
theorem dX11_sheet_34 : decode cX11_sheet 34 = .ok (.ifCond .ge 6, 3) := by decide +kernel
set_option maxRecDepth 20000 in
theorem dX11_sheet_37 : decode cX11_sheet 37 = .ok (.bipush (-14), 2) := by decide +kernel
set_option maxRecDepth 20000 in
theorem dX11_sheet_39 : decode cX11_sheet 39 = .ok (.ireturn, 1) := by decide +kernel
set_option maxRecDepth 20000 in
theorem dX11_sheet_40 : decode cX11_sheet 40 = .ok (.aload_n 0, 1) := by decide +kernel
set_option maxRecDepth 20000 in
theorem dX11_sheet_41 : decode cX11_sheet 41 = .ok (.getfield 57, 3) := by decide +kernel
set_option maxRecDepth 20000 in
theorem dX11_sheet_44 : decode cX11_sheet 44 = .ok (.iload_n 1, 1) := by decide +kernel
set_option maxRecDepth 20000 in
theorem dX11_sheet_45 : decode cX11_sheet 45 = .ok (.iload_n 2, 1) := by decide +kernel
set_option maxRecDepth 20000 in
theorem dX11_sheet_46 : decode cX11_sheet 46 = .ok (.ifCond .lt 9, 3) := by decide +kernel
set_option maxRecDepth 20000 in
theorem dX11_sheet_49 : decode cX11_sheet 49 = .ok (.iload_n 3, 1) := by decide +kernel
set_option maxRecDepth 20000 in
theorem dX11_sheet_50 : decode cX11_sheet 50 = .ok (.newarray .int, 2) := by decide +kernel
set_option maxRecDepth 20000 in
theorem dX11_sheet_52 : decode cX11_sheet 52 = .ok (.goto 4, 3) := by decide +kernel
set_option maxRecDepth 20000 in
theorem dX11_sheet_55 : decode cX11_sheet 55 = .ok (.aconst_null, 1) := by decide +kernel
set_option maxRecDepth 20000 in
theorem dX11_sheet_56 : decode cX11_sheet 56 = .ok (.aastore, 1) := by decide +kernel
set_option maxRecDepth 20000 in
theorem dX11_sheet_57 : decode cX11_sheet 57 = .ok (.aload_n 0, 1) := by decide +kernel
set_option maxRecDepth 20000 in
theorem dX11_sheet_58 : decode cX11_sheet 58 = .ok (.getfield 61, 3) := by decide +kernel
set_option maxRecDepth 20000 in
theorem dX11_sheet_61 : decode cX11_sheet 61 = .ok (.iload_n 1, 1) := by decide +kernel
set_option maxRecDepth 20000 in
theorem dX11_sheet_62 : decode cX11_sheet 62 = .ok (.iload_n 2, 1) := by decide +kernel
set_option maxRecDepth 20000 in
theorem dX11_sheet_63 : decode cX11_sheet 63 = .ok (.iastore, 1) := by decide +kernel
set_option maxRecDepth 20000 in
theorem dX11_sheet_64 : decode cX11_sheet 64 = .ok (.iconst 1, 1) := by decide +kernel
set_option maxRecDepth 20000 in
theorem dX11_sheet_65 : decode cX11_sheet 65 = .ok (.ireturn, 1) := by decide +kernel
set_option maxRecDepth 20000 in
theorem dX11_cell_0 : decode cX11_cell 0 = .ok (.iload_n 1, 1) := by decide +kernel
set_option maxRecDepth 20000 in
theorem dX11_cell_1 : decode cX11_cell 1 = .ok (.invokestatic 410, 3) := by decide +kernel
set_option maxRecDepth 20000 in
theorem dX11_cell_4 : decode cX11_cell 4 = .ok (.ifCond .ne 6, 3) := by decide +kernel
set_option maxRecDepth 20000 in
theorem dX11_cell_7 : decode cX11_cell 7 = .ok (.bipush (-2), 2) := by decide +kernel
set_option maxRecDepth 20000 in
theorem dX11_cell_9 : decode cX11_cell 9 = .ok (.ireturn, 1) := by decide +kernel
set_option maxRecDepth 20000 in
theorem dX11_cell_10 : decode cX11_cell 10 = .ok (.aload_n 0, 1) := by decide +kernel
set_option maxRecDepth 20000 in
theorem dX11_cell_11 : decode cX11_cell 11 = .ok (.getfield 57, 3) := by decide +kernel
set_option maxRecDepth 20000 in
theorem dX11_cell_14 : decode cX11_cell 14 = .ok (.iload_n 1, 1) := by decide +kernel
set_option maxRecDepth 20000 in
theorem dX11_cell_15 : decode cX11_cell 15 = .ok (.aaload, 1) := by decide +kernel
set_option maxRecDepth 20000 in
theorem dX11_cell_16 : decode cX11_cell 16 = .ok (.astore 4, 2) := by decide +kernel
set_option maxRecDepth 20000 in
theorem dX11_cell_18 : decode cX11_cell 18 = .ok (.aload 4, 2) := by decide +kernel
set_option maxRecDepth 20000 in
theorem dX11_cell_20 : decode cX11_cell 20 = .ok (.ifnonnull 6, 3) := by decide +kernel
set_option maxRecDepth 20000 in
theorem dX11_cell_23 : decode cX11_cell 23 = .ok (.bipush (-11), 2) := by decide +kernel
set_option maxRecDepth 20000 in
theorem dX11_cell_25 : decode cX11_cell 25 = .ok (.ireturn, 1) := by decide +kernel
set_option maxRecDepth 20000 in
theorem dX11_cell_26 : decode cX11_cell 26 = .ok (.iload_n 2, 1) := by decide +kernel
set_option maxRecDepth 20000 in
theorem dX11_cell_27 : decode cX11_cell 27 = .ok (.iconst 0, 1) := by decide +kernel
set_option maxRecDepth 20000 in
theorem dX11_cell_28 : decode cX11_cell 28 = .ok (.aload 4, 2) := by decide +kernel
set_option maxRecDepth 20000 in
theorem dX11_cell_30 : decode cX11_cell 30 = .ok (.arraylength, 1) := by decide +kernel
set_option maxRecDepth 20000 in
theorem dX11_cell_31 : decode cX11_cell 31 = .ok (.iconst 1, 1) := by decide +kernel
set_option maxRecDepth 20000 in
theorem dX11_cell_32 : decode cX11_cell 32 = .ok (.isub, 1) := by decide +kernel
set_option maxRecDepth 20000 in
theorem dX11_cell_33 : decode cX11_cell 33 = .ok (.invokestatic 106, 3) := by decide +kernel
set_option maxRecDepth 20000 in
theorem dX11_cell_36 : decode cX11_cell 36 = .ok (.ifCond .ne 6, 3) := by decide +kernel
set_option maxRecDepth 20000 in
theorem dX11_cell_39 : decode cX11_cell 39 = .ok (.bipush (-12), 2) := by decide +kernel
set_option maxRecDepth 20000 in
theorem dX11_cell_41 : decode cX11_cell 41 = .ok (.ireturn, 1) := by decide +kernel
set_option maxRecDepth 20000 in
theorem dX11_cell_42 : decode cX11_cell 42 = .ok (.aload 4, 2) := by decide +kernel
set_option maxRecDepth 20000 in
theorem dX11_cell_44 : decode cX11_cell 44 = .ok (.iload_n 2, 1) := by decide +kernel
set_option maxRecDepth 20000 in
theorem dX11_cell_45 : decode cX11_cell 45 = .ok (.aload_n 0, 1) := by decide +kernel
set_option maxRecDepth 20000 in
theorem dX11_cell_46 : decode cX11_cell 46 = .ok (.getfield 61, 3) := by decide +kernel
set_option maxRecDepth 20000 in
theorem dX11_cell_49 : decode cX11_cell 49 = .ok (.iload_n 1, 1) := by decide +kernel
set_option maxRecDepth 20000 in
theorem dX11_cell_50 : decode cX11_cell 50 = .ok (.iaload, 1) := by decide +kernel
set_option maxRecDepth 20000 in
theorem dX11_cell_51 : decode cX11_cell 51 = .ok (.iload_n 3, 1) := by decide +kernel
set_option maxRecDepth 20000 in
theorem dX11_cell_52 : decode cX11_cell 52 = .ok (.invokestatic 413, 3) := by decide +kernel
set_option maxRecDepth 20000 in
theorem dX11_cell_55 : decode cX11_cell 55 = .ok (.iastore, 1) := by decide +kernel
set_option maxRecDepth 20000 in
theorem dX11_cell_56 : decode cX11_cell 56 = .ok (.iconst 1, 1) := by decide +kernel
set_option maxRecDepth 20000 in
theorem dX11_cell_57 : decode cX11_cell 57 = .ok (.ireturn, 1) := by decide +kernel
set_option maxRecDepth 20000 in
theorem dX11_copy_0 : decode cX11_copy 0 = .ok (.iload_n 1, 1) := by decide +kernel
set_option maxRecDepth 20000 in
theorem dX11_copy_1 : decode cX11_copy 1 = .ok (.invokestatic 410, 3) := by decide +kernel
set_option maxRecDepth 20000 in
theorem dX11_copy_4 : decode cX11_copy 4 = .ok (.ifCond .eq 10, 3) := by decide +kernel
set_option maxRecDepth 20000 in
theorem dX11_copy_7 : decode cX11_copy 7 = .ok (.iload_n 3, 1) := by decide +kernel
set_option maxRecDepth 20000 in
theorem dX11_copy_8 : decode cX11_copy 8 = .ok (.invokestatic 410, 3) := by decide +kernel
set_option maxRecDepth 20000 in
theorem dX11_copy_11 : decode cX11_copy 11 = .ok (.ifCond .ne 6, 3) := by decide +kernel
set_option maxRecDepth 20000 in
theorem dX11_copy_14 : decode cX11_copy 14 = .ok (.bipush (-2), 2) := by decide +kernel
set_option maxRecDepth 20000 in
theorem dX11_copy_16 : decode cX11_copy 16 = .ok (.ireturn, 1) := by decide +kernel
set_option maxRecDepth 20000 in
theorem dX11_copy_17 : decode cX11_copy 17 = .ok (.aload_n 0, 1) := by decide +kernel
set_option maxRecDepth 20000 in
theorem dX11_copy_18 : decode cX11_copy 18 = .ok (.getfield 57, 3) := by decide +kernel
set_option maxRecDepth 20000 in
theorem dX11_copy_21 : decode cX11_copy 21 = .ok (.iload_n 1, 1) := by decide +kernel
set_option maxRecDepth 20000 in
theorem dX11_copy_22 : decode cX11_copy 22 = .ok (.aaload, 1) := by decide +kernel
set_option maxRecDepth 20000 in
theorem dX11_copy_23 : decode cX11_copy 23 = .ok (.astore 6, 2) := by decide +kernel
set_option maxRecDepth 20000 in
theorem dX11_copy_25 : decode cX11_copy 25 = .ok (.aload_n 0, 1) := by decide +kernel
set_option maxRecDepth 20000 in
theorem dX11_copy_26 : decode cX11_copy 26 = .ok (.getfield 57, 3) := by decide +kernel
set_option maxRecDepth 20000 in
theorem dX11_copy_29 : decode cX11_copy 29 = .ok (.iload_n 3, 1) := by decide +kernel
set_option maxRecDepth 20000 in
theorem dX11_copy_30 : decode cX11_copy 30 = .ok (.aaload, 1) := by decide +kernel
set_option maxRecDepth 20000 in
theorem dX11_copy_31 : decode cX11_copy 31 = .ok (.astore 7, 2) := by decide +kernel
set_option maxRecDepth 20000 in
theorem dX11_copy_33 : decode cX11_copy 33 = .ok (.aload 6, 2) := by decide +kernel
set_option maxRecDepth 20000 in
theorem dX11_copy_35 : decode cX11_copy 35 = .ok (.ifnull 8, 3) := by decide +kernel
set_option maxRecDepth 20000 in
theorem dX11_copy_38 : decode cX11_copy 38 = .ok (.aload 7, 2) := by decide +kernel
set_option maxRecDepth 20000 in
theorem dX11_copy_40 : decode cX11_copy 40 = .ok (.ifnonnull 6, 3) := by decide +kernel
set_option maxRecDepth 20000 in
theorem dX11_copy_43 : decode cX11_copy 43 = .ok (.bipush (-11), 2) := by decide +kernel
set_option maxRecDepth 20000 in
theorem dX11_copy_45 : decode cX11_copy 45 = .ok (.ireturn, 1) := by decide +kernel
set_option maxRecDepth 20000 in
theorem dX11_copy_46 : decode cX11_copy 46 = .ok (.aload_n 0, 1) := by decide +kernel
set_option maxRecDepth 20000 in
theorem dX11_copy_47 : decode cX11_copy 47 = .ok (.getfield 61, 3) := by decide +kernel
set_option maxRecDepth 20000 in
theorem dX11_copy_50 : decode cX11_copy 50 = .ok (.iload_n 1, 1) := by decide +kernel
set_option maxRecDepth 20000 in
theorem dX11_copy_51 : decode cX11_copy 51 = .ok (.iaload, 1) := by decide +kernel
set_option maxRecDepth 20000 in
theorem dX11_copy_52 : decode cX11_copy 52 = .ok (.aload_n 0, 1) := by decide +kernel
set_option maxRecDepth 20000 in
theorem dX11_copy_53 : decode cX11_copy 53 = .ok (.getfield 61, 3) := by decide +kernel
set_option maxRecDepth 20000 in
theorem dX11_copy_56 : decode cX11_copy 56 = .ok (.iload_n 3, 1) := by decide +kernel
set_option maxRecDepth 20000 in
theorem dX11_copy_57 : decode cX11_copy 57 = .ok (.iaload, 1) := by decide +kernel
set_option maxRecDepth 20000 in
theorem dX11_copy_58 : decode cX11_copy 58 = .ok (.if_icmp .eq 6, 3) := by decide +kernel
set_option maxRecDepth 20000 in
theorem dX11_copy_61 : decode cX11_copy 61 = .ok (.bipush (-13), 2) := by decide +kernel
set_option maxRecDepth 20000 in
theorem dX11_copy_63 : decode cX11_copy 63 = .ok (.ireturn, 1) := by decide +kernel
set_option maxRecDepth 20000 in
theorem dX11_copy_64 : decode cX11_copy 64 = .ok (.aload 6, 2) := by decide +kernel
set_option maxRecDepth 20000 in
theorem dX11_copy_66 : decode cX11_copy 66 = .ok (.iload_n 2, 1) := by decide +kernel
set_option maxRecDepth 20000 in
theorem dX11_copy_67 : decode cX11_copy 67 = .ok (.iload 5, 2) := by decide +kernel
set_option maxRecDepth 20000 in
theorem dX11_copy_69 : decode cX11_copy 69 = .ok (.invokestatic 416, 3) := by decide +kernel
set_option maxRecDepth 20000 in
theorem dX11_copy_72 : decode cX11_copy 72 = .ok (.ifCond .eq 15, 3) := by decide +kernel
set_option maxRecDepth 20000 in
theorem dX11_copy_75 : decode cX11_copy 75 = .ok (.aload 7, 2) := by decide +kernel
set_option maxRecDepth 20000 in
theorem dX11_copy_77 : decode cX11_copy 77 = .ok (.iload 4, 2) := by decide +kernel
set_option maxRecDepth 20000 in
theorem dX11_copy_79 : decode cX11_copy 79 = .ok (.iload 5, 2) := by decide +kernel
set_option maxRecDepth 20000 in
theorem dX11_copy_81 : decode cX11_copy 81 = .ok (.invokestatic 416, 3) := by decide +kernel
set_option maxRecDepth 20000 in
theorem dX11_copy_84 : decode cX11_copy 84 = .ok (.ifCond .ne 6, 3) := by decide +kernel
set_option maxRecDepth 20000 in
theorem dX11_copy_87 : decode cX11_copy 87 = .ok (.bipush (-12), 2) := by decide +kernel
set_option maxRecDepth 20000 in
theorem dX11_copy_89 : decode cX11_copy 89 = .ok (.ireturn, 1) := by decide +kernel
set_option maxRecDepth 20000 in
theorem dX11_copy_90 : decode cX11_copy 90 = .ok (.aload 6, 2) := by decide +kernel
set_option maxRecDepth 20000 in
theorem dX11_copy_92 : decode cX11_copy 92 = .ok (.iload_n 2, 1) := by decide +kernel
set_option maxRecDepth 20000 in
theorem dX11_copy_93 : decode cX11_copy 93 = .ok (.aload 7, 2) := by decide +kernel
set_option maxRecDepth 20000 in
theorem dX11_copy_95 : decode cX11_copy 95 = .ok (.iload 4, 2) := by decide +kernel
set_option maxRecDepth 20000 in
theorem dX11_copy_97 : decode cX11_copy 97 = .ok (.iload 5, 2) := by decide +kernel
set_option maxRecDepth 20000 in
theorem dX11_copy_99 : decode cX11_copy 99 = .ok (.invokestatic 420, 3) := by decide +kernel
set_option maxRecDepth 20000 in
theorem dX11_copy_102 : decode cX11_copy 102 = .ok (.iload 5, 2) := by decide +kernel
set_option maxRecDepth 20000 in
theorem dX11_copy_104 : decode cX11_copy 104 = .ok (.ireturn, 1) := by decide +kernel
set_option maxRecDepth 20000 in
theorem dX11_tries_0 : decode cX11_tries 0 = .ok (.iload_n 1, 1) := by decide +kernel
set_option maxRecDepth 20000 in
theorem dX11_tries_1 : decode cX11_tries 1 = .ok (.invokestatic 410, 3) := by decide +kernel
set_option maxRecDepth 20000 in
theorem dX11_tries_4 : decode cX11_tries 4 = .ok (.ifCond .eq 23, 3) := by decide +kernel
set_option maxRecDepth 20000 in
theorem dX11_tries_7 : decode cX11_tries 7 = .ok (.iload_n 2, 1) := by decide +kernel
set_option maxRecDepth 20000 in
theorem dX11_tries_8 : decode cX11_tries 8 = .ok (.iconst 0, 1) := by decide +kernel
set_option maxRecDepth 20000 in
theorem dX11_tries_9 : decode cX11_tries 9 = .ok (.iconst 2, 1) := by decide +kernel
set_option maxRecDepth 20000 in
theorem dX11_tries_10 : decode cX11_tries 10 = .ok (.invokestatic 106, 3) := by decide +kernel
set_option maxRecDepth 20000 in
theorem dX11_tries_13 : decode cX11_tries 13 = .ok (.ifCond .eq 14, 3) := by decide +kernel
set_option maxRecDepth 20000 in
theorem dX11_tries_16 : decode cX11_tries 16 = .ok (.iload 4, 2) := by decide +kernel
set_option maxRecDepth 20000 in
theorem dX11_tries_18 : decode cX11_tries 18 = .ok (.iconst 0, 1) := by decide +kernel
set_option maxRecDepth 20000 in
theorem dX11_tries_19 : decode cX11_tries 19 = .ok (.bipush 10, 2) := by decide +kernel
set_option maxRecDepth 20000 in
theorem dX11_tries_21 : decode cX11_tries 21 = .ok (.invokestatic 106, 3) := by decide +kernel
set_option maxRecDepth 20000 in
theorem dX11_tries_24 : decode cX11_tries 24 = .ok (.ifCond .ne 6, 3) := by decide +kernel
set_option maxRecDepth 20000 in
theorem dX11_tries_27 : decode cX11_tries 27 = .ok (.bipush (-2), 2) := by decide +kernel
set_option maxRecDepth 20000 in
theorem dX11_tries_29 : decode cX11_tries 29 = .ok (.ireturn, 1) := by decide +kernel
set_option maxRecDepth 20000 in
theorem dX11_tries_30 : decode cX11_tries 30 = .ok (.aload_n 0, 1) := by decide +kernel
set_option maxRecDepth 20000 in
theorem dX11_tries_31 : decode cX11_tries 31 = .ok (.getfield 57, 3) := by decide +kernel
set_option maxRecDepth 20000 in
theorem dX11_tries_34 : decode cX11_tries 34 = .ok (.iload_n 1, 1) := by decide +kernel
set_option maxRecDepth 20000 in
theorem dX11_tries_35 : decode cX11_tries 35 = .ok (.aaload, 1) := by decide +kernel
set_option maxRecDepth 20000 in
theorem dX11_tries_36 : decode cX11_tries 36 = .ok (.astore 5, 2) := by decide +kernel
set_option maxRecDepth 20000 in
theorem dX11_tries_38 : decode cX11_tries 38 = .ok (.aload 5, 2) := by decide +kernel
set_option maxRecDepth 20000 in
theorem dX11_tries_40 : decode cX11_tries 40 = .ok (.ifnonnull 6, 3) := by decide +kernel
set_option maxRecDepth 20000 in
theorem dX11_tries_43 : decode cX11_tries 43 = .ok (.bipush (-11), 2) := by decide +kernel
set_option maxRecDepth 20000 in
theorem dX11_tries_45 : decode cX11_tries 45 = .ok (.ireturn, 1) := by decide +kernel
set_option maxRecDepth 20000 in
theorem dX11_tries_46 : decode cX11_tries 46 = .ok (.aload_n 0, 1) := by decide +kernel
set_option maxRecDepth 20000 in
theorem dX11_tries_47 : decode cX11_tries 47 = .ok (.getfield 61, 3) := by decide +kernel
set_option maxRecDepth 20000 in
theorem dX11_tries_50 : decode cX11_tries 50 = .ok (.iload_n 1, 1) := by decide +kernel
set_option maxRecDepth 20000 in
theorem dX11_tries_51 : decode cX11_tries 51 = .ok (.iaload, 1) := by decide +kernel
set_option maxRecDepth 20000 in
theorem dX11_tries_52 : decode cX11_tries 52 = .ok (.iload_n 2, 1) := by decide +kernel
set_option maxRecDepth 20000 in
theorem dX11_tries_53 : decode cX11_tries 53 = .ok (.if_icmp .eq 6, 3) := by decide +kernel
set_option maxRecDepth 20000 in
theorem dX11_tries_56 : decode cX11_tries 56 = .ok (.bipush (-13), 2) := by decide +kernel
set_option maxRecDepth 20000 in
theorem dX11_tries_58 : decode cX11_tries 58 = .ok (.ireturn, 1) := by decide +kernel
set_option maxRecDepth 20000 in
theorem dX11_tries_59 : decode cX11_tries 59 = .ok (.iconst 0, 1) := by decide +kernel
set_option maxRecDepth 20000 in
theorem dX11_tries_60 : decode cX11_tries 60 = .ok (.istore 6, 2) := by decide +kernel
set_option maxRecDepth 20000 in
theorem dX11_tries_62 : decode cX11_tries 62 = .ok (.iload_n 3, 1) := by decide +kernel
set_option maxRecDepth 20000 in
theorem dX11_tries_63 : decode cX11_tries 63 = .ok (.istore 7, 2) := by decide +kernel
set_option maxRecDepth 20000 in
theorem dX11_tries_65 : decode cX11_tries 65 = .ok (.iconst 0, 1) := by decide +kernel
set_option maxRecDepth 20000 in
theorem dX11_tries_66 : decode cX11_tries 66 = .ok (.istore 8, 2) := by decide +kernel
set_option maxRecDepth 20000 in
theorem dX11_tries_68 : decode cX11_tries 68 = .ok (.iload 8, 2) := by decide +kernel
set_option maxRecDepth 20000 in
theorem dX11_tries_70 : decode cX11_tries 70 = .ok (.iload 4, 2) := by decide +kernel
set_option maxRecDepth 20000 in
theorem dX11_tries_72 : decode cX11_tries 72 = .ok (.if_icmp .ge 69, 3) := by decide +kernel
set_option maxRecDepth 20000 in
theorem dX11_tries_75 : decode cX11_tries 75 = .ok (.aload 5, 2) := by decide +kernel
set_option maxRecDepth 20000 in
theorem dX11_tries_77 : decode cX11_tries 77 = .ok (.iload 7, 2) := by decide +kernel
set_option maxRecDepth 20000 in
theorem dX11_tries_79 : decode cX11_tries 79 = .ok (.iconst 4, 1) := by decide +kernel
set_option maxRecDepth 20000 in
theorem dX11_tries_80 : decode cX11_tries 80 = .ok (.invokestatic 416, 3) := by decide +kernel
set_option maxRecDepth 20000 in
theorem dX11_tries_83 : decode cX11_tries 83 = .ok (.ifCond .ne 6, 3) := by decide +kernel
set_option maxRecDepth 20000 in
theorem dX11_tries_86 : decode cX11_tries 86 = .ok (.bipush (-12), 2) := by decide +kernel
set_option maxRecDepth 20000 in
theorem dX11_tries_88 : decode cX11_tries 88 = .ok (.ireturn, 1) := by decide +kernel
set_option maxRecDepth 20000 in
theorem dX11_tries_89 : decode cX11_tries 89 = .ok (.iload 6, 2) := by decide +kernel
set_option maxRecDepth 20000 in
theorem dX11_tries_91 : decode cX11_tries 91 = .ok (.aload_n 0, 1) := by decide +kernel
set_option maxRecDepth 20000 in
theorem dX11_tries_92 : decode cX11_tries 92 = .ok (.aload 5, 2) := by decide +kernel
set_option maxRecDepth 20000 in
theorem dX11_tries_94 : decode cX11_tries 94 = .ok (.iload 7, 2) := by decide +kernel
set_option maxRecDepth 20000 in
theorem dX11_tries_96 : decode cX11_tries 96 = .ok (.iaload, 1) := by decide +kernel
set_option maxRecDepth 20000 in
theorem dX11_tries_97 : decode cX11_tries 97 = .ok (.aload 5, 2) := by decide +kernel
set_option maxRecDepth 20000 in
theorem dX11_tries_99 : decode cX11_tries 99 = .ok (.iload 7, 2) := by decide +kernel
set_option maxRecDepth 20000 in
theorem dX11_tries_101 : decode cX11_tries 101 = .ok (.iconst 1, 1) := by decide +kernel
set_option maxRecDepth 20000 in
theorem dX11_tries_102 : decode cX11_tries 102 = .ok (.iadd, 1) := by decide +kernel
set_option maxRecDepth 20000 in
theorem dX11_tries_103 : decode cX11_tries 103 = .ok (.iaload, 1) := by decide +kernel
set_option maxRecDepth 20000 in
theorem dX11_tries_104 : decode cX11_tries 104 = .ok (.aload 5, 2) := by decide +kernel
set_option maxRecDepth 20000 in
theorem dX11_tries_106 : decode cX11_tries 106 = .ok (.iload 7, 2) := by decide +kernel
set_option maxRecDepth 20000 in
theorem dX11_tries_108 : decode cX11_tries 108 = .ok (.iconst 2, 1) := by decide +kernel
set_option maxRecDepth 20000 in
theorem dX11_tries_109 : decode cX11_tries 109 = .ok (.iadd, 1) := by decide +kernel
set_option maxRecDepth 20000 in
theorem dX11_tries_110 : decode cX11_tries 110 = .ok (.iaload, 1) := by decide +kernel
set_option maxRecDepth 20000 in
theorem dX11_tries_111 : decode cX11_tries 111 = .ok (.aload 5, 2) := by decide +kernel
set_option maxRecDepth 20000 in
theorem dX11_tries_113 : decode cX11_tries 113 = .ok (.iload 7, 2) := by decide +kernel
set_option maxRecDepth 20000 in
theorem dX11_tries_115 : decode cX11_tries 115 = .ok (.iconst 3, 1) := by decide +kernel
set_option maxRecDepth 20000 in
theorem dX11_tries_116 : decode cX11_tries 116 = .ok (.iadd, 1) := by decide +kernel
set_option maxRecDepth 20000 in
theorem dX11_tries_117 : decode cX11_tries 117 = .ok (.iaload, 1) := by decide +kernel
set_option maxRecDepth 20000 in
theorem dX11_tries_118 : decode cX11_tries 118 = .ok (.invokevirtual 426, 3) := by decide +kernel
set_option maxRecDepth 20000 in
theorem dX11_tries_121 : decode cX11_tries 121 = .ok (.ifCond .lt 7, 3) := by decide +kernel
set_option maxRecDepth 20000 in
theorem dX11_tries_124 : decode cX11_tries 124 = .ok (.iconst 1, 1) := by decide +kernel
set_option maxRecDepth 20000 in
theorem dX11_tries_125 : decode cX11_tries 125 = .ok (.goto 4, 3) := by decide +kernel
set_option maxRecDepth 20000 in
theorem dX11_tries_128 : decode cX11_tries 128 = .ok (.iconst 0, 1) := by decide +kernel
set_option maxRecDepth 20000 in
theorem dX11_tries_129 : decode cX11_tries 129 = .ok (.iadd, 1) := by decide +kernel
set_option maxRecDepth 20000 in
theorem dX11_tries_130 : decode cX11_tries 130 = .ok (.istore 6, 2) := by decide +kernel
set_option maxRecDepth 20000 in
theorem dX11_tries_132 : decode cX11_tries 132 = .ok (.iinc 7 4, 3) := by decide +kernel
set_option maxRecDepth 20000 in
theorem dX11_tries_135 : decode cX11_tries 135 = .ok (.iinc 8 1, 3) := by decide +kernel
set_option maxRecDepth 20000 in
theorem dX11_tries_138 : decode cX11_tries 138 = .ok (.goto (-70), 3) := by decide +kernel
set_option maxRecDepth 20000 in
theorem dX11_tries_141 : decode cX11_tries 141 = .ok (.iload 6, 2) := by decide +kernel
set_option maxRecDepth 20000 in
theorem dX11_tries_143 : decode cX11_tries 143 = .ok (.ireturn, 1) := by decide +kernel
set_option maxRecDepth 20000 in
theorem dX11_taken_0 : decode cX11_taken 0 = .ok (.iload_n 2, 1) := by decide +kernel
set_option maxRecDepth 20000 in
theorem dX11_taken_1 : decode cX11_taken 1 = .ok (.iconst 0, 1) := by decide +kernel
set_option maxRecDepth 20000 in
theorem dX11_taken_2 : decode cX11_taken 2 = .ok (.iconst 5, 1) := by decide +kernel
set_option maxRecDepth 20000 in
theorem dX11_taken_3 : decode cX11_taken 3 = .ok (.invokestatic 106, 3) := by decide +kernel
set_option maxRecDepth 20000 in
theorem dX11_taken_6 : decode cX11_taken 6 = .ok (.ifCond .ne 6, 3) := by decide +kernel
set_option maxRecDepth 20000 in
theorem dX11_taken_9 : decode cX11_taken 9 = .ok (.bipush (-2), 2) := by decide +kernel
set_option maxRecDepth 20000 in
theorem dX11_taken_11 : decode cX11_taken 11 = .ok (.ireturn, 1) := by decide +kernel
set_option maxRecDepth 20000 in
theorem dX11_taken_12 : decode cX11_taken 12 = .ok (.aload_n 0, 1) := by decide +kernel
set_option maxRecDepth 20000 in
theorem dX11_taken_13 : decode cX11_taken 13 = .ok (.iload_n 1, 1) := by decide +kernel
set_option maxRecDepth 20000 in
theorem dX11_taken_14 : decode cX11_taken 14 = .ok (.invokevirtual 122, 3) := by decide +kernel
set_option maxRecDepth 20000 in
theorem dX11_taken_17 : decode cX11_taken 17 = .ok (.astore_n 3, 1) := by decide +kernel
set_option maxRecDepth 20000 in
theorem dX11_taken_18 : decode cX11_taken 18 = .ok (.aload_n 3, 1) := by decide +kernel
set_option maxRecDepth 20000 in
theorem dX11_taken_19 : decode cX11_taken 19 = .ok (.ifnonnull 6, 3) := by decide +kernel
set_option maxRecDepth 20000 in
theorem dX11_taken_22 : decode cX11_taken 22 = .ok (.bipush (-11), 2) := by decide +kernel
set_option maxRecDepth 20000 in
theorem dX11_taken_24 : decode cX11_taken 24 = .ok (.ireturn, 1) := by decide +kernel
set_option maxRecDepth 20000 in
theorem dX11_taken_25 : decode cX11_taken 25 = .ok (.aload_n 3, 1) := by decide +kernel
set_option maxRecDepth 20000 in
theorem dX11_taken_26 : decode cX11_taken 26 = .ok (.iload_n 2, 1) := by decide +kernel
set_option maxRecDepth 20000 in
theorem dX11_taken_27 : decode cX11_taken 27 = .ok (.invokestatic 430, 3) := by decide +kernel
set_option maxRecDepth 20000 in
theorem dX11_taken_30 : decode cX11_taken 30 = .ok (.ifCond .eq 10, 3) := by decide +kernel
set_option maxRecDepth 20000 in
theorem dX11_taken_33 : decode cX11_taken 33 = .ok (.aload_n 3, 1) := by decide +kernel
set_option maxRecDepth 20000 in
theorem dX11_taken_34 : decode cX11_taken 34 = .ok (.getfield 151, 3) := by decide +kernel
set_option maxRecDepth 20000 in
theorem dX11_taken_37 : decode cX11_taken 37 = .ok (.goto 5, 3) := by decide +kernel
set_option maxRecDepth 20000 in
theorem dX11_taken_40 : decode cX11_taken 40 = .ok (.bipush (-13), 2) := by decide +kernel
set_option maxRecDepth 20000 in
theorem dX11_taken_42 : decode cX11_taken 42 = .ok (.ireturn, 1) := by decide +kernel
set_option maxRecDepth 20000 in
theorem dX11_isSheet_0 : decode cX11_isSheet 0 = .ok (.iload_n 0, 1) := by decide +kernel
set_option maxRecDepth 20000 in
theorem dX11_isSheet_1 : decode cX11_isSheet 1 = .ok (.iconst 0, 1) := by decide +kernel
set_option maxRecDepth 20000 in
theorem dX11_isSheet_2 : decode cX11_isSheet 2 = .ok (.iconst 3, 1) := by decide +kernel
set_option maxRecDepth 20000 in
theorem dX11_isSheet_3 : decode cX11_isSheet 3 = .ok (.invokestatic 106, 3) := by decide +kernel
set_option maxRecDepth 20000 in
theorem dX11_isSheet_6 : decode cX11_isSheet 6 = .ok (.ireturn, 1) := by decide +kernel
set_option maxRecDepth 20000 in
theorem dX11_ofSort_0 : decode cX11_ofSort 0 = .ok (.iload_n 0, 1) := by decide +kernel
set_option maxRecDepth 20000 in
theorem dX11_ofSort_1 : decode cX11_ofSort 1 = .ok (.lookupswitch 33 #[(0, 27), (1, 30)], 27) := by decide +kernel
set_option maxRecDepth 20000 in
theorem dX11_ofSort_28 : decode cX11_ofSort 28 = .ok (.iload_n 1, 1) := by decide +kernel
set_option maxRecDepth 20000 in
theorem dX11_ofSort_29 : decode cX11_ofSort 29 = .ok (.i2b, 1) := by decide +kernel
set_option maxRecDepth 20000 in
theorem dX11_ofSort_30 : decode cX11_ofSort 30 = .ok (.ireturn, 1) := by decide +kernel
set_option maxRecDepth 20000 in
theorem dX11_ofSort_31 : decode cX11_ofSort 31 = .ok (.iload_n 1, 1) := by decide +kernel
set_option maxRecDepth 20000 in
theorem dX11_ofSort_32 : decode cX11_ofSort 32 = .ok (.i2s, 1) := by decide +kernel
set_option maxRecDepth 20000 in
theorem dX11_ofSort_33 : decode cX11_ofSort 33 = .ok (.ireturn, 1) := by decide +kernel
set_option maxRecDepth 20000 in
theorem dX11_ofSort_34 : decode cX11_ofSort 34 = .ok (.iload_n 1, 1) := by decide +kernel
set_option maxRecDepth 20000 in
theorem dX11_ofSort_35 : decode cX11_ofSort 35 = .ok (.ireturn, 1) := by decide +kernel
set_option maxRecDepth 20000 in
theorem dX11_hasItems_0 : decode cX11_hasItems 0 = .ok (.iload_n 1, 1) := by decide +kernel
set_option maxRecDepth 20000 in
theorem dX11_hasItems_1 : decode cX11_hasItems 1 = .ok (.ifCond .lt 25, 3) := by decide +kernel
set_option maxRecDepth 20000 in
theorem dX11_hasItems_4 : decode cX11_hasItems 4 = .ok (.iload_n 2, 1) := by decide +kernel
set_option maxRecDepth 20000 in
theorem dX11_hasItems_5 : decode cX11_hasItems 5 = .ok (.ifCond .lt 21, 3) := by decide +kernel
set_option maxRecDepth 20000 in
theorem dX11_hasItems_8 : decode cX11_hasItems 8 = .ok (.iload_n 2, 1) := by decide +kernel
set_option maxRecDepth 20000 in
theorem dX11_hasItems_9 : decode cX11_hasItems 9 = .ok (.aload_n 0, 1) := by decide +kernel
set_option maxRecDepth 20000 in
theorem dX11_hasItems_10 : decode cX11_hasItems 10 = .ok (.arraylength, 1) := by decide +kernel
set_option maxRecDepth 20000 in
theorem dX11_hasItems_11 : decode cX11_hasItems 11 = .ok (.if_icmp .gt 15, 3) := by decide +kernel
set_option maxRecDepth 20000 in
theorem dX11_hasItems_14 : decode cX11_hasItems 14 = .ok (.iload_n 1, 1) := by decide +kernel
set_option maxRecDepth 20000 in
theorem dX11_hasItems_15 : decode cX11_hasItems 15 = .ok (.aload_n 0, 1) := by decide +kernel
set_option maxRecDepth 20000 in
theorem dX11_hasItems_16 : decode cX11_hasItems 16 = .ok (.arraylength, 1) := by decide +kernel
set_option maxRecDepth 20000 in
theorem dX11_hasItems_17 : decode cX11_hasItems 17 = .ok (.iload_n 2, 1) := by decide +kernel
set_option maxRecDepth 20000 in
theorem dX11_hasItems_18 : decode cX11_hasItems 18 = .ok (.isub, 1) := by decide +kernel
set_option maxRecDepth 20000 in
theorem dX11_hasItems_19 : decode cX11_hasItems 19 = .ok (.if_icmp .gt 7, 3) := by decide +kernel
set_option maxRecDepth 20000 in
theorem dX11_hasItems_22 : decode cX11_hasItems 22 = .ok (.iconst 1, 1) := by decide +kernel
set_option maxRecDepth 20000 in
theorem dX11_hasItems_23 : decode cX11_hasItems 23 = .ok (.goto 4, 3) := by decide +kernel
set_option maxRecDepth 20000 in
theorem dX11_hasItems_26 : decode cX11_hasItems 26 = .ok (.iconst 0, 1) := by decide +kernel
set_option maxRecDepth 20000 in
theorem dX11_hasItems_27 : decode cX11_hasItems 27 = .ok (.ireturn, 1) := by decide +kernel
set_option maxRecDepth 20000 in
theorem dX11_isUnder_0 : decode cX11_isUnder 0 = .ok (.iload_n 1, 1) := by decide +kernel
set_option maxRecDepth 20000 in
theorem dX11_isUnder_1 : decode cX11_isUnder 1 = .ok (.tableswitch 66 0 5 #[39, 41, 46, 51, 56, 61], 39) := by decide +kernel
set_option maxRecDepth 20000 in
theorem dX11_isUnder_40 : decode cX11_isUnder 40 = .ok (.iconst 1, 1) := by decide +kernel
set_option maxRecDepth 20000 in
theorem dX11_isUnder_41 : decode cX11_isUnder 41 = .ok (.ireturn, 1) := by decide +kernel
set_option maxRecDepth 20000 in
theorem dX11_isUnder_42 : decode cX11_isUnder 42 = .ok (.aload_n 0, 1) := by decide +kernel
set_option maxRecDepth 20000 in
theorem dX11_isUnder_43 : decode cX11_isUnder 43 = .ok (.instanceof 210, 3) := by decide +kernel
set_option maxRecDepth 20000 in
theorem dX11_isUnder_46 : decode cX11_isUnder 46 = .ok (.ireturn, 1) := by decide +kernel
set_option maxRecDepth 20000 in
theorem dX11_isUnder_47 : decode cX11_isUnder 47 = .ok (.aload_n 0, 1) := by decide +kernel
set_option maxRecDepth 20000 in
theorem dX11_isUnder_48 : decode cX11_isUnder 48 = .ok (.instanceof 215, 3) := by decide +kernel
set_option maxRecDepth 20000 in
theorem dX11_isUnder_51 : decode cX11_isUnder 51 = .ok (.ireturn, 1) := by decide +kernel
set_option maxRecDepth 20000 in
theorem dX11_isUnder_52 : decode cX11_isUnder 52 = .ok (.aload_n 0, 1) := by decide +kernel
set_option maxRecDepth 20000 in
theorem dX11_isUnder_53 : decode cX11_isUnder 53 = .ok (.instanceof 218, 3) := by decide +kernel
set_option maxRecDepth 20000 in
theorem dX11_isUnder_56 : decode cX11_isUnder 56 = .ok (.ireturn, 1) := by decide +kernel
set_option maxRecDepth 20000 in
theorem dX11_isUnder_57 : decode cX11_isUnder 57 = .ok (.aload_n 0, 1) := by decide +kernel
set_option maxRecDepth 20000 in
theorem dX11_isUnder_58 : decode cX11_isUnder 58 = .ok (.instanceof 221, 3) := by decide +kernel
set_option maxRecDepth 20000 in
theorem dX11_isUnder_61 : decode cX11_isUnder 61 = .ok (.ireturn, 1) := by decide +kernel
set_option maxRecDepth 20000 in
theorem dX11_isUnder_62 : decode cX11_isUnder 62 = .ok (.aload_n 0, 1) := by decide +kernel
set_option maxRecDepth 20000 in
theorem dX11_isUnder_63 : decode cX11_isUnder 63 = .ok (.instanceof 224, 3) := by decide +kernel
set_option maxRecDepth 20000 in
theorem dX11_isUnder_66 : decode cX11_isUnder 66 = .ok (.ireturn, 1) := by decide +kernel
set_option maxRecDepth 20000 in
theorem dX11_isUnder_67 : decode cX11_isUnder 67 = .ok (.iconst 0, 1) := by decide +kernel
set_option maxRecDepth 20000 in
theorem dX11_isUnder_68 : decode cX11_isUnder 68 = .ok (.ireturn, 1) := by decide +kernel
set_option maxRecDepth 20000 in
theorem dX11_stallAt_0 : decode cX11_stallAt 0 = .ok (.iload_n 1, 1) := by decide +kernel
set_option maxRecDepth 20000 in
theorem dX11_stallAt_1 : decode cX11_stallAt 1 = .ok (.iconst 0, 1) := by decide +kernel
set_option maxRecDepth 20000 in
theorem dX11_stallAt_2 : decode cX11_stallAt 2 = .ok (.aload_n 0, 1) := by decide +kernel
set_option maxRecDepth 20000 in
theorem dX11_stallAt_3 : decode cX11_stallAt 3 = .ok (.getfield 12, 3) := by decide +kernel
set_option maxRecDepth 20000 in
theorem dX11_stallAt_6 : decode cX11_stallAt 6 = .ok (.invokevirtual 114, 3) := by decide +kernel
set_option maxRecDepth 20000 in
theorem dX11_stallAt_9 : decode cX11_stallAt 9 = .ok (.iconst 1, 1) := by decide +kernel
set_option maxRecDepth 20000 in
theorem dX11_stallAt_10 : decode cX11_stallAt 10 = .ok (.isub, 1) := by decide +kernel
set_option maxRecDepth 20000 in
theorem dX11_stallAt_11 : decode cX11_stallAt 11 = .ok (.invokestatic 106, 3) := by decide +kernel
set_option maxRecDepth 20000 in
theorem dX11_stallAt_14 : decode cX11_stallAt 14 = .ok (.ifCond .eq 17, 3) := by decide +kernel
set_option maxRecDepth 20000 in
theorem dX11_stallAt_17 : decode cX11_stallAt 17 = .ok (.aload_n 0, 1) := by decide +kernel
set_option maxRecDepth 20000 in
theorem dX11_stallAt_18 : decode cX11_stallAt 18 = .ok (.getfield 12, 3) := by decide +kernel
set_option maxRecDepth 20000 in
theorem dX11_stallAt_21 : decode cX11_stallAt 21 = .ok (.iload_n 1, 1) := by decide +kernel
set_option maxRecDepth 20000 in
theorem dX11_stallAt_22 : decode cX11_stallAt 22 = .ok (.invokevirtual 276, 3) := by decide +kernel
set_option maxRecDepth 20000 in
theorem dX11_stallAt_25 : decode cX11_stallAt 25 = .ok (.checkcast 131, 3) := by decide +kernel
set_option maxRecDepth 20000 in
theorem dX11_stallAt_28 : decode cX11_stallAt 28 = .ok (.goto 4, 3) := by decide +kernel
set_option maxRecDepth 20000 in
theorem dX11_stallAt_31 : decode cX11_stallAt 31 = .ok (.aconst_null, 1) := by decide +kernel
set_option maxRecDepth 20000 in
theorem dX11_stallAt_32 : decode cX11_stallAt 32 = .ok (.areturn, 1) := by decide +kernel
set_option maxRecDepth 20000 in
theorem dX11_handAt_0 : decode cX11_handAt 0 = .ok (.iload_n 1, 1) := by decide +kernel
set_option maxRecDepth 20000 in
theorem dX11_handAt_1 : decode cX11_handAt 1 = .ok (.iconst 0, 1) := by decide +kernel
set_option maxRecDepth 20000 in
theorem dX11_handAt_2 : decode cX11_handAt 2 = .ok (.aload_n 0, 1) := by decide +kernel
set_option maxRecDepth 20000 in
theorem dX11_handAt_3 : decode cX11_handAt 3 = .ok (.getfield 16, 3) := by decide +kernel
set_option maxRecDepth 20000 in
theorem dX11_handAt_6 : decode cX11_handAt 6 = .ok (.invokevirtual 114, 3) := by decide +kernel
set_option maxRecDepth 20000 in
theorem dX11_handAt_9 : decode cX11_handAt 9 = .ok (.iconst 1, 1) := by decide +kernel
set_option maxRecDepth 20000 in
theorem dX11_handAt_10 : decode cX11_handAt 10 = .ok (.isub, 1) := by decide +kernel
set_option maxRecDepth 20000 in
theorem dX11_handAt_11 : decode cX11_handAt 11 = .ok (.invokestatic 106, 3) := by decide +kernel
set_option maxRecDepth 20000 in
theorem dX11_handAt_14 : decode cX11_handAt 14 = .ok (.ifCond .eq 17, 3) := by decide +kernel
set_option maxRecDepth 20000 in
theorem dX11_handAt_17 : decode cX11_handAt 17 = .ok (.aload_n 0, 1) := by decide +kernel
set_option maxRecDepth 20000 in
theorem dX11_handAt_18 : decode cX11_handAt 18 = .ok (.getfield 16, 3) := by decide +kernel
set_option maxRecDepth 20000 in
theorem dX11_handAt_21 : decode cX11_handAt 21 = .ok (.iload_n 1, 1) := by decide +kernel
set_option maxRecDepth 20000 in
theorem dX11_handAt_22 : decode cX11_handAt 22 = .ok (.invokevirtual 276, 3) := by decide +kernel
set_option maxRecDepth 20000 in
theorem dX11_handAt_25 : decode cX11_handAt 25 = .ok (.checkcast 177, 3) := by decide +kernel
set_option maxRecDepth 20000 in
theorem dX11_handAt_28 : decode cX11_handAt 28 = .ok (.goto 4, 3) := by decide +kernel
set_option maxRecDepth 20000 in
theorem dX11_handAt_31 : decode cX11_handAt 31 = .ok (.aconst_null, 1) := by decide +kernel
set_option maxRecDepth 20000 in
theorem dX11_handAt_32 : decode cX11_handAt 32 = .ok (.areturn, 1) := by decide +kernel
set_option maxRecDepth 20000 in
theorem dX11_isIn_0 : decode cX11_isIn 0 = .ok (.iload_n 0, 1) := by decide +kernel
set_option maxRecDepth 20000 in
theorem dX11_isIn_1 : decode cX11_isIn 1 = .ok (.iload_n 1, 1) := by decide +kernel
set_option maxRecDepth 20000 in
theorem dX11_isIn_2 : decode cX11_isIn 2 = .ok (.if_icmp .lt 12, 3) := by decide +kernel
set_option maxRecDepth 20000 in
theorem dX11_isIn_5 : decode cX11_isIn 5 = .ok (.iload_n 0, 1) := by decide +kernel
set_option maxRecDepth 20000 in
theorem dX11_isIn_6 : decode cX11_isIn 6 = .ok (.iload_n 2, 1) := by decide +kernel
set_option maxRecDepth 20000 in
theorem dX11_isIn_7 : decode cX11_isIn 7 = .ok (.if_icmp .gt 7, 3) := by decide +kernel
set_option maxRecDepth 20000 in
theorem dX11_isIn_10 : decode cX11_isIn 10 = .ok (.iconst 1, 1) := by decide +kernel
set_option maxRecDepth 20000 in
theorem dX11_isIn_11 : decode cX11_isIn 11 = .ok (.goto 4, 3) := by decide +kernel
set_option maxRecDepth 20000 in
theorem dX11_isIn_14 : decode cX11_isIn 14 = .ok (.iconst 0, 1) := by decide +kernel
set_option maxRecDepth 20000 in
theorem dX11_isIn_15 : decode cX11_isIn 15 = .ok (.ireturn, 1) := by decide +kernel
set_option maxRecDepth 20000 in
theorem dX11_isPlace_0 : decode cX11_isPlace 0 = .ok (.iload_n 0, 1) := by decide +kernel
set_option maxRecDepth 20000 in
theorem dX11_isPlace_1 : decode cX11_isPlace 1 = .ok (.ifCond .lt 25, 3) := by decide +kernel
set_option maxRecDepth 20000 in
theorem dX11_isPlace_4 : decode cX11_isPlace 4 = .ok (.iload_n 0, 1) := by decide +kernel
set_option maxRecDepth 20000 in
theorem dX11_isPlace_5 : decode cX11_isPlace 5 = .ok (.bipush 100, 2) := by decide +kernel
set_option maxRecDepth 20000 in
theorem dX11_isPlace_7 : decode cX11_isPlace 7 = .ok (.idiv, 1) := by decide +kernel
set_option maxRecDepth 20000 in
theorem dX11_isPlace_8 : decode cX11_isPlace 8 = .ok (.bipush 20, 2) := by decide +kernel
set_option maxRecDepth 20000 in
theorem dX11_isPlace_10 : decode cX11_isPlace 10 = .ok (.if_icmp .ge 16, 3) := by decide +kernel
set_option maxRecDepth 20000 in
theorem dX11_isPlace_13 : decode cX11_isPlace 13 = .ok (.iload_n 0, 1) := by decide +kernel
set_option maxRecDepth 20000 in
theorem dX11_isPlace_14 : decode cX11_isPlace 14 = .ok (.bipush 100, 2) := by decide +kernel
set_option maxRecDepth 20000 in
theorem dX11_isPlace_16 : decode cX11_isPlace 16 = .ok (.irem, 1) := by decide +kernel
set_option maxRecDepth 20000 in
theorem dX11_isPlace_17 : decode cX11_isPlace 17 = .ok (.bipush 20, 2) := by decide +kernel
set_option maxRecDepth 20000 in
theorem dX11_isPlace_19 : decode cX11_isPlace 19 = .ok (.if_icmp .ge 7, 3) := by decide +kernel
set_option maxRecDepth 20000 in
theorem dX11_isPlace_22 : decode cX11_isPlace 22 = .ok (.iconst 1, 1) := by decide +kernel
set_option maxRecDepth 20000 in
theorem dX11_isPlace_23 : decode cX11_isPlace 23 = .ok (.goto 4, 3) := by decide +kernel
set_option maxRecDepth 20000 in
theorem dX11_isPlace_26 : decode cX11_isPlace 26 = .ok (.iconst 0, 1) := by decide +kernel
set_option maxRecDepth 20000 in
theorem dX11_isPlace_27 : decode cX11_isPlace 27 = .ok (.ireturn, 1) := by decide +kernel
set_option maxRecDepth 20000 in
theorem dX11_isSeed_0 : decode cX11_isSeed 0 = .ok (.iload_n 0, 1) := by decide +kernel
set_option maxRecDepth 20000 in
theorem dX11_isSeed_1 : decode cX11_isSeed 1 = .ok (.iconst 0, 1) := by decide +kernel
set_option maxRecDepth 20000 in
theorem dX11_isSeed_2 : decode cX11_isSeed 2 = .ok (.ldc_w 434, 3) := by decide +kernel
set_option maxRecDepth 20000 in
theorem dX11_isSeed_5 : decode cX11_isSeed 5 = .ok (.invokestatic 106, 3) := by decide +kernel
set_option maxRecDepth 20000 in
theorem dX11_isSeed_8 : decode cX11_isSeed 8 = .ok (.ireturn, 1) := by decide +kernel
set_option maxRecDepth 20000 in
theorem dX11_isBit_0 : decode cX11_isBit 0 = .ok (.iload_n 0, 1) := by decide +kernel
set_option maxRecDepth 20000 in
theorem dX11_isBit_1 : decode cX11_isBit 1 = .ok (.ifCond .eq 8, 3) := by decide +kernel
set_option maxRecDepth 20000 in
theorem dX11_isBit_4 : decode cX11_isBit 4 = .ok (.iload_n 0, 1) := by decide +kernel
set_option maxRecDepth 20000 in
theorem dX11_isBit_5 : decode cX11_isBit 5 = .ok (.iconst 1, 1) := by decide +kernel
set_option maxRecDepth 20000 in
theorem dX11_isBit_6 : decode cX11_isBit 6 = .ok (.if_icmp .ne 7, 3) := by decide +kernel
set_option maxRecDepth 20000 in
theorem dX11_isBit_9 : decode cX11_isBit 9 = .ok (.iconst 1, 1) := by decide +kernel
set_option maxRecDepth 20000 in
theorem dX11_isBit_10 : decode cX11_isBit 10 = .ok (.goto 4, 3) := by decide +kernel
set_option maxRecDepth 20000 in
theorem dX11_isBit_13 : decode cX11_isBit 13 = .ok (.iconst 0, 1) := by decide +kernel
set_option maxRecDepth 20000 in
theorem dX11_isBit_14 : decode cX11_isBit 14 = .ok (.ireturn, 1) := by decide +kernel
set_option maxRecDepth 20000 in
theorem dX11_isOf_0 : decode cX11_isOf 0 = .ok (.iload_n 0, 1) := by decide +kernel
set_option maxRecDepth 20000 in
theorem dX11_isOf_1 : decode cX11_isOf 1 = .ok (.iload_n 1, 1) := by decide +kernel
set_option maxRecDepth 20000 in
theorem dX11_isOf_2 : decode cX11_isOf 2 = .ok (.ishr, 1) := by decide +kernel
set_option maxRecDepth 20000 in
theorem dX11_isOf_3 : decode cX11_isOf 3 = .ok (.iconst 1, 1) := by decide +kernel
set_option maxRecDepth 20000 in
theorem dX11_isOf_4 : decode cX11_isOf 4 = .ok (.iand, 1) := by decide +kernel
set_option maxRecDepth 20000 in
theorem dX11_isOf_5 : decode cX11_isOf 5 = .ok (.iconst 1, 1) := by decide +kernel
set_option maxRecDepth 20000 in
theorem dX11_isOf_6 : decode cX11_isOf 6 = .ok (.if_icmp .ne 7, 3) := by decide +kernel
set_option maxRecDepth 20000 in
theorem dX11_isOf_9 : decode cX11_isOf 9 = .ok (.iconst 1, 1) := by decide +kernel
set_option maxRecDepth 20000 in
theorem dX11_isOf_10 : decode cX11_isOf 10 = .ok (.goto 4, 3) := by decide +kernel
set_option maxRecDepth 20000 in
theorem dX11_isOf_13 : decode cX11_isOf 13 = .ok (.iconst 0, 1) := by decide +kernel
set_option maxRecDepth 20000 in
theorem dX11_isOf_14 : decode cX11_isOf 14 = .ok (.ireturn, 1) := by decide +kernel
set_option maxRecDepth 20000 in
theorem dX11_asBit_0 : decode cX11_asBit 0 = .ok (.iload_n 0, 1) := by decide +kernel
set_option maxRecDepth 20000 in
theorem dX11_asBit_1 : decode cX11_asBit 1 = .ok (.ifCond .eq 7, 3) := by decide +kernel
set_option maxRecDepth 20000 in
theorem dX11_asBit_4 : decode cX11_asBit 4 = .ok (.iconst 1, 1) := by decide +kernel
set_option maxRecDepth 20000 in
theorem dX11_asBit_5 : decode cX11_asBit 5 = .ok (.goto 4, 3) := by decide +kernel
set_option maxRecDepth 20000 in
theorem dX11_asBit_8 : decode cX11_asBit 8 = .ok (.iconst 0, 1) := by decide +kernel
set_option maxRecDepth 20000 in
theorem dX11_asBit_9 : decode cX11_asBit 9 = .ok (.ireturn, 1) := by decide +kernel
set_option maxRecDepth 20000 in
theorem dX11_quotient_0 : decode cX11_quotient 0 = .ok (.lload_n 2, 1) := by decide +kernel
set_option maxRecDepth 20000 in
theorem dX11_quotient_1 : decode cX11_quotient 1 = .ok (.lconst 0, 1) := by decide +kernel
set_option maxRecDepth 20000 in
theorem dX11_quotient_2 : decode cX11_quotient 2 = .ok (.lcmp, 1) := by decide +kernel
set_option maxRecDepth 20000 in
theorem dX11_quotient_3 : decode cX11_quotient 3 = .ok (.ifCond .ne 7, 3) := by decide +kernel
set_option maxRecDepth 20000 in
theorem dX11_quotient_6 : decode cX11_quotient 6 = .ok (.lconst 0, 1) := by decide +kernel
set_option maxRecDepth 20000 in
theorem dX11_quotient_7 : decode cX11_quotient 7 = .ok (.goto 6, 3) := by decide +kernel
set_option maxRecDepth 20000 in
theorem dX11_quotient_10 : decode cX11_quotient 10 = .ok (.lload_n 0, 1) := by decide +kernel
set_option maxRecDepth 20000 in
theorem dX11_quotient_11 : decode cX11_quotient 11 = .ok (.lload_n 2, 1) := by decide +kernel
set_option maxRecDepth 20000 in
theorem dX11_quotient_12 : decode cX11_quotient 12 = .ok (.ldiv, 1) := by decide +kernel
set_option maxRecDepth 20000 in
theorem dX11_quotient_13 : decode cX11_quotient 13 = .ok (.lreturn, 1) := by decide +kernel
set_option maxRecDepth 20000 in
theorem dX11_remainder_0 : decode cX11_remainder 0 = .ok (.lload_n 2, 1) := by decide +kernel
set_option maxRecDepth 20000 in
theorem dX11_remainder_1 : decode cX11_remainder 1 = .ok (.lconst 0, 1) := by decide +kernel
set_option maxRecDepth 20000 in
theorem dX11_remainder_2 : decode cX11_remainder 2 = .ok (.lcmp, 1) := by decide +kernel
set_option maxRecDepth 20000 in
theorem dX11_remainder_3 : decode cX11_remainder 3 = .ok (.ifCond .ne 7, 3) := by decide +kernel
set_option maxRecDepth 20000 in
theorem dX11_remainder_6 : decode cX11_remainder 6 = .ok (.lconst 0, 1) := by decide +kernel
set_option maxRecDepth 20000 in
theorem dX11_remainder_7 : decode cX11_remainder 7 = .ok (.goto 6, 3) := by decide +kernel
set_option maxRecDepth 20000 in
theorem dX11_remainder_10 : decode cX11_remainder 10 = .ok (.lload_n 0, 1) := by decide +kernel
set_option maxRecDepth 20000 in
theorem dX11_remainder_11 : decode cX11_remainder 11 = .ok (.lload_n 2, 1) := by decide +kernel
set_option maxRecDepth 20000 in
theorem dX11_remainder_12 : decode cX11_remainder 12 = .ok (.lrem, 1) := by decide +kernel
set_option maxRecDepth 20000 in
theorem dX11_remainder_13 : decode cX11_remainder 13 = .ok (.lreturn, 1) := by decide +kernel
set_option maxRecDepth 20000 in
theorem dX11_lowest_0 : decode cX11_lowest 0 = .ok (.lload_n 0, 1) := by decide +kernel
set_option maxRecDepth 20000 in
theorem dX11_lowest_1 : decode cX11_lowest 1 = .ok (.invokestatic 435, 3) := by decide +kernel
set_option maxRecDepth 20000 in
theorem dX11_lowest_4 : decode cX11_lowest 4 = .ok (.lload_n 2, 1) := by decide +kernel
set_option maxRecDepth 20000 in
theorem dX11_lowest_5 : decode cX11_lowest 5 = .ok (.invokestatic 438, 3) := by decide +kernel
set_option maxRecDepth 20000 in
theorem dX11_lowest_8 : decode cX11_lowest 8 = .ok (.lstore 5, 2) := by decide +kernel
set_option maxRecDepth 20000 in
theorem dX11_lowest_10 : decode cX11_lowest 10 = .ok (.iload 4, 2) := by decide +kernel
set_option maxRecDepth 20000 in
theorem dX11_lowest_12 : decode cX11_lowest 12 = .ok (.ifCond .ne 7, 3) := by decide +kernel
set_option maxRecDepth 20000 in
theorem dX11_lowest_15 : decode cX11_lowest 15 = .ok (.lload_n 0, 1) := by decide +kernel
set_option maxRecDepth 20000 in
theorem dX11_lowest_16 : decode cX11_lowest 16 = .ok (.goto 4, 3) := by decide +kernel
set_option maxRecDepth 20000 in
theorem dX11_lowest_19 : decode cX11_lowest 19 = .ok (.lload_n 2, 1) := by decide +kernel
set_option maxRecDepth 20000 in
theorem dX11_lowest_20 : decode cX11_lowest 20 = .ok (.lload 5, 2) := by decide +kernel
set_option maxRecDepth 20000 in
theorem dX11_lowest_22 : decode cX11_lowest 22 = .ok (.invokestatic 267, 3) := by decide +kernel
set_option maxRecDepth 20000 in
theorem dX11_lowest_25 : decode cX11_lowest 25 = .ok (.lreturn, 1) := by decide +kernel
set_option maxRecDepth 20000 in
theorem dX11_commonDivisor_0 : decode cX11_commonDivisor 0 = .ok (.lload_n 0, 1) := by decide +kernel
set_option maxRecDepth 20000 in
theorem dX11_commonDivisor_1 : decode cX11_commonDivisor 1 = .ok (.lstore 4, 2) := by decide +kernel
set_option maxRecDepth 20000 in
theorem dX11_commonDivisor_3 : decode cX11_commonDivisor 3 = .ok (.lload_n 2, 1) := by decide +kernel
set_option maxRecDepth 20000 in
theorem dX11_commonDivisor_4 : decode cX11_commonDivisor 4 = .ok (.lstore 6, 2) := by decide +kernel
set_option maxRecDepth 20000 in
theorem dX11_commonDivisor_6 : decode cX11_commonDivisor 6 = .ok (.iconst 0, 1) := by decide +kernel
set_option maxRecDepth 20000 in
theorem dX11_commonDivisor_7 : decode cX11_commonDivisor 7 = .ok (.istore 8, 2) := by decide +kernel
set_option maxRecDepth 20000 in
theorem dX11_commonDivisor_9 : decode cX11_commonDivisor 9 = .ok (.iload 8, 2) := by decide +kernel
set_option maxRecDepth 20000 in
theorem dX11_commonDivisor_11 : decode cX11_commonDivisor 11 = .ok (.bipush 100, 2) := by decide +kernel
set_option maxRecDepth 20000 in
theorem dX11_commonDivisor_13 : decode cX11_commonDivisor 13 = .ok (.if_icmp .ge 31, 3) := by decide +kernel
set_option maxRecDepth 20000 in
theorem dX11_commonDivisor_16 : decode cX11_commonDivisor 16 = .ok (.lload 6, 2) := by decide +kernel
set_option maxRecDepth 20000 in
theorem dX11_commonDivisor_18 : decode cX11_commonDivisor 18 = .ok (.lconst 0, 1) := by decide +kernel
set_option maxRecDepth 20000 in
theorem dX11_commonDivisor_19 : decode cX11_commonDivisor 19 = .ok (.lcmp, 1) := by decide +kernel
set_option maxRecDepth 20000 in
theorem dX11_commonDivisor_20 : decode cX11_commonDivisor 20 = .ok (.ifCond .eq 24, 3) := by decide +kernel
set_option maxRecDepth 20000 in
theorem dX11_commonDivisor_23 : decode cX11_commonDivisor 23 = .ok (.lload 4, 2) := by decide +kernel
set_option maxRecDepth 20000 in
theorem dX11_commonDivisor_25 : decode cX11_commonDivisor 25 = .ok (.lload 6, 2) := by decide +kernel
set_option maxRecDepth 20000 in
theorem dX11_commonDivisor_27 : decode cX11_commonDivisor 27 = .ok (.lrem, 1) := by decide +kernel
set_option maxRecDepth 20000 in
theorem dX11_commonDivisor_28 : decode cX11_commonDivisor 28 = .ok (.lstore 9, 2) := by decide +kernel
set_option maxRecDepth 20000 in
theorem dX11_commonDivisor_30 : decode cX11_commonDivisor 30 = .ok (.lload 6, 2) := by decide +kernel
set_option maxRecDepth 20000 in
theorem dX11_commonDivisor_32 : decode cX11_commonDivisor 32 = .ok (.lstore 4, 2) := by decide +kernel
set_option maxRecDepth 20000 in
theorem dX11_commonDivisor_34 : decode cX11_commonDivisor 34 = .ok (.lload 9, 2) := by decide +kernel
set_option maxRecDepth 20000 in
theorem dX11_commonDivisor_36 : decode cX11_commonDivisor 36 = .ok (.lstore 6, 2) := by decide +kernel
set_option maxRecDepth 20000 in
theorem dX11_commonDivisor_38 : decode cX11_commonDivisor 38 = .ok (.iinc 8 1, 3) := by decide +kernel
set_option maxRecDepth 20000 in
theorem dX11_commonDivisor_41 : decode cX11_commonDivisor 41 = .ok (.goto (-32), 3) := by decide +kernel
set_option maxRecDepth 20000 in
theorem dX11_commonDivisor_44 : decode cX11_commonDivisor 44 = .ok (.lload 4, 2) := by decide +kernel
set_option maxRecDepth 20000 in
theorem dX11_commonDivisor_46 : decode cX11_commonDivisor 46 = .ok (.lreturn, 1) := by decide +kernel
set_option maxRecDepth 20000 in
theorem dX12_in_0 : decode cX12_in 0 = .ok (.lload_n 0, 1) := by decide +kernel
set_option maxRecDepth 20000 in
theorem dX12_in_1 : decode cX12_in 1 = .ok (.lload_n 2, 1) := by decide +kernel
set_option maxRecDepth 20000 in
theorem dX12_in_2 : decode cX12_in 2 = .ok (.lcmp, 1) := by decide +kernel
set_option maxRecDepth 20000 in
theorem dX12_in_3 : decode cX12_in 3 = .ok (.ifCond .lt 14, 3) := by decide +kernel
set_option maxRecDepth 20000 in
theorem dX12_in_6 : decode cX12_in 6 = .ok (.lload_n 0, 1) := by decide +kernel
set_option maxRecDepth 20000 in
theorem dX12_in_7 : decode cX12_in 7 = .ok (.lload 4, 2) := by decide +kernel
set_option maxRecDepth 20000 in
theorem dX12_in_9 : decode cX12_in 9 = .ok (.lcmp, 1) := by decide +kernel
set_option maxRecDepth 20000 in
theorem dX12_in_10 : decode cX12_in 10 = .ok (.ifCond .gt 7, 3) := by decide +kernel
set_option maxRecDepth 20000 in
theorem dX12_in_13 : decode cX12_in 13 = .ok (.iconst 1, 1) := by decide +kernel
set_option maxRecDepth 20000 in
theorem dX12_in_14 : decode cX12_in 14 = .ok (.goto 4, 3) := by decide +kernel
set_option maxRecDepth 20000 in
theorem dX12_in_17 : decode cX12_in 17 = .ok (.iconst 0, 1) := by decide +kernel
set_option maxRecDepth 20000 in
theorem dX12_in_18 : decode cX12_in 18 = .ok (.ireturn, 1) := by decide +kernel
set_option maxRecDepth 20000 in
theorem dX12_init_0 : decode cX12_init 0 = .ok (.aload_n 0, 1) := by decide +kernel
set_option maxRecDepth 20000 in
theorem dX12_init_1 : decode cX12_init 1 = .ok (.invokespecial 7, 3) := by decide +kernel
set_option maxRecDepth 20000 in
theorem dX12_init_4 : decode cX12_init 4 = .ok (.aload_n 0, 1) := by decide +kernel
set_option maxRecDepth 20000 in
theorem dX12_init_5 : decode cX12_init 5 = .ok (.sipush 960, 3) := by decide +kernel
set_option maxRecDepth 20000 in
theorem dX12_init_8 : decode cX12_init 8 = .ok (.newarray .int, 2) := by decide +kernel
set_option maxRecDepth 20000 in
theorem dX12_init_10 : decode cX12_init 10 = .ok (.putfield 13, 3) := by decide +kernel
set_option maxRecDepth 20000 in
theorem dX12_init_13 : decode cX12_init 13 = .ok (.aload_n 0, 1) := by decide +kernel
set_option maxRecDepth 20000 in
theorem dX12_init_14 : decode cX12_init 14 = .ok (.bipush 6, 2) := by decide +kernel
set_option maxRecDepth 20000 in
theorem dX12_init_16 : decode cX12_init 16 = .ok (.newarray .int, 2) := by decide +kernel
set_option maxRecDepth 20000 in
theorem dX12_init_18 : decode cX12_init 18 = .ok (.putfield 17, 3) := by decide +kernel
set_option maxRecDepth 20000 in
theorem dX12_init_21 : decode cX12_init 21 = .ok (.aload_n 0, 1) := by decide +kernel
set_option maxRecDepth 20000 in
theorem dX12_init_22 : decode cX12_init 22 = .ok (.sipush 160, 3) := by decide +kernel
set_option maxRecDepth 20000 in
theorem dX12_init_25 : decode cX12_init 25 = .ok (.newarray .int, 2) := by decide +kernel
set_option maxRecDepth 20000 in
theorem dX12_init_27 : decode cX12_init 27 = .ok (.putfield 20, 3) := by decide +kernel
set_option maxRecDepth 20000 in
theorem dX12_init_30 : decode cX12_init 30 = .ok (.aload_n 0, 1) := by decide +kernel
set_option maxRecDepth 20000 in
theorem dX12_init_31 : decode cX12_init 31 = .ok (.bipush 8, 2) := by decide +kernel
set_option maxRecDepth 20000 in
theorem dX12_init_33 : decode cX12_init 33 = .ok (.newarray .int, 2) := by decide +kernel
set_option maxRecDepth 20000 in
theorem dX12_init_35 : decode cX12_init 35 = .ok (.putfield 23, 3) := by decide +kernel
set_option maxRecDepth 20000 in
theorem dX12_init_38 : decode cX12_init 38 = .ok (.aload_n 0, 1) := by decide +kernel
set_option maxRecDepth 20000 in
theorem dX12_init_39 : decode cX12_init 39 = .ok (.bipush 8, 2) := by decide +kernel
set_option maxRecDepth 20000 in
theorem dX12_init_41 : decode cX12_init 41 = .ok (.newarray .int, 2) := by decide +kernel
set_option maxRecDepth 20000 in
theorem dX12_init_43 : decode cX12_init 43 = .ok (.putfield 26, 3) := by decide +kernel
set_option maxRecDepth 20000 in
theorem dX12_init_46 : decode cX12_init 46 = .ok (.aload_n 0, 1) := by decide +kernel
set_option maxRecDepth 20000 in
theorem dX12_init_47 : decode cX12_init 47 = .ok (.bipush 8, 2) := by decide +kernel
set_option maxRecDepth 20000 in
theorem dX12_init_49 : decode cX12_init 49 = .ok (.newarray .int, 2) := by decide +kernel
set_option maxRecDepth 20000 in
theorem dX12_init_51 : decode cX12_init 51 = .ok (.putfield 29, 3) := by decide +kernel
set_option maxRecDepth 20000 in
theorem dX12_init_54 : decode cX12_init 54 = .ok (.aload_n 0, 1) := by decide +kernel
set_option maxRecDepth 20000 in
theorem dX12_init_55 : decode cX12_init 55 = .ok (.bipush 8, 2) := by decide +kernel
set_option maxRecDepth 20000 in
theorem dX12_init_57 : decode cX12_init 57 = .ok (.newarray .int, 2) := by decide +kernel
set_option maxRecDepth 20000 in
theorem dX12_init_59 : decode cX12_init 59 = .ok (.putfield 32, 3) := by decide +kernel
set_option maxRecDepth 20000 in
theorem dX12_init_62 : decode cX12_init 62 = .ok (.aload_n 0, 1) := by decide +kernel
set_option maxRecDepth 20000 in
theorem dX12_init_63 : decode cX12_init 63 = .ok (.bipush 8, 2) := by decide +kernel
set_option maxRecDepth 20000 in
theorem dX12_init_65 : decode cX12_init 65 = .ok (.newarray .int, 2) := by decide +kernel
set_option maxRecDepth 20000 in
theorem dX12_init_67 : decode cX12_init 67 = .ok (.putfield 35, 3) := by decide +kernel
set_option maxRecDepth 20000 in
theorem dX12_init_70 : decode cX12_init 70 = .ok (.aload_n 0, 1) := by decide +kernel
set_option maxRecDepth 20000 in
theorem dX12_init_71 : decode cX12_init 71 = .ok (.bipush 8, 2) := by decide +kernel
set_option maxRecDepth 20000 in
theorem dX12_init_73 : decode cX12_init 73 = .ok (.newarray .int, 2) := by decide +kernel
set_option maxRecDepth 20000 in
theorem dX12_init_75 : decode cX12_init 75 = .ok (.putfield 38, 3) := by decide +kernel
set_option maxRecDepth 20000 in
theorem dX12_init_78 : decode cX12_init 78 = .ok (.aload_n 0, 1) := by decide +kernel
set_option maxRecDepth 20000 in
theorem dX12_init_79 : decode cX12_init 79 = .ok (.bipush 8, 2) := by decide +kernel
set_option maxRecDepth 20000 in
theorem dX12_init_81 : decode cX12_init 81 = .ok (.newarray .int, 2) := by decide +kernel
set_option maxRecDepth 20000 in
theorem dX12_init_83 : decode cX12_init 83 = .ok (.putfield 41, 3) := by decide +kernel
set_option maxRecDepth 20000 in
theorem dX12_init_86 : decode cX12_init 86 = .ok (.aload_n 0, 1) := by decide +kernel
set_option maxRecDepth 20000 in
theorem dX12_init_87 : decode cX12_init 87 = .ok (.bipush 6, 2) := by decide +kernel
set_option maxRecDepth 20000 in
theorem dX12_init_89 : decode cX12_init 89 = .ok (.newarray .int, 2) := by decide +kernel
set_option maxRecDepth 20000 in
theorem dX12_init_91 : decode cX12_init 91 = .ok (.putfield 44, 3) := by decide +kernel
set_option maxRecDepth 20000 in
theorem dX12_init_94 : decode cX12_init 94 = .ok (.aload_n 0, 1) := by decide +kernel
set_option maxRecDepth 20000 in
theorem dX12_init_95 : decode cX12_init 95 = .ok (.bipush 6, 2) := by decide +kernel
set_option maxRecDepth 20000 in
theorem dX12_init_97 : decode cX12_init 97 = .ok (.newarray .int, 2) := by decide +kernel
set_option maxRecDepth 20000 in
theorem dX12_init_99 : decode cX12_init 99 = .ok (.putfield 47, 3) := by decide +kernel
set_option maxRecDepth 20000 in
theorem dX12_init_102 : decode cX12_init 102 = .ok (.aload_n 0, 1) := by decide +kernel
set_option maxRecDepth 20000 in
theorem dX12_init_103 : decode cX12_init 103 = .ok (.bipush 6, 2) := by decide +kernel
set_option maxRecDepth 20000 in
theorem dX12_init_105 : decode cX12_init 105 = .ok (.newarray .int, 2) := by decide +kernel
set_option maxRecDepth 20000 in
theorem dX12_init_107 : decode cX12_init 107 = .ok (.putfield 50, 3) := by decide +kernel
set_option maxRecDepth 20000 in
theorem dX12_init_110 : decode cX12_init 110 = .ok (.aload_n 0, 1) := by decide +kernel
set_option maxRecDepth 20000 in
theorem dX12_init_111 : decode cX12_init 111 = .ok (.bipush 60, 2) := by decide +kernel
set_option maxRecDepth 20000 in
theorem dX12_init_113 : decode cX12_init 113 = .ok (.newarray .int, 2) := by decide +kernel
set_option maxRecDepth 20000 in
theorem dX12_init_115 : decode cX12_init 115 = .ok (.putfield 53, 3) := by decide +kernel
set_option maxRecDepth 20000 in
theorem dX12_init_118 : decode cX12_init 118 = .ok (.aload_n 0, 1) := by decide +kernel
set_option maxRecDepth 20000 in
theorem dX12_init_119 : decode cX12_init 119 = .ok (.bipush 60, 2) := by decide +kernel
set_option maxRecDepth 20000 in
theorem dX12_init_121 : decode cX12_init 121 = .ok (.newarray .int, 2) := by decide +kernel
set_option maxRecDepth 20000 in
theorem dX12_init_123 : decode cX12_init 123 = .ok (.putfield 56, 3) := by decide +kernel
set_option maxRecDepth 20000 in
theorem dX12_init_126 : decode cX12_init 126 = .ok (.aload_n 0, 1) := by decide +kernel
set_option maxRecDepth 20000 in
theorem dX12_init_127 : decode cX12_init 127 = .ok (.bipush 60, 2) := by decide +kernel
set_option maxRecDepth 20000 in
theorem dX12_init_129 : decode cX12_init 129 = .ok (.newarray .int, 2) := by decide +kernel
set_option maxRecDepth 20000 in
theorem dX12_init_131 : decode cX12_init 131 = .ok (.putfield 59, 3) := by decide +kernel
set_option maxRecDepth 20000 in
theorem dX12_init_134 : decode cX12_init 134 = .ok (.aload_n 0, 1) := by decide +kernel
set_option maxRecDepth 20000 in
theorem dX12_init_135 : decode cX12_init 135 = .ok (.bipush 60, 2) := by decide +kernel
set_option maxRecDepth 20000 in
theorem dX12_init_137 : decode cX12_init 137 = .ok (.newarray .int, 2) := by decide +kernel
set_option maxRecDepth 20000 in
theorem dX12_init_139 : decode cX12_init 139 = .ok (.putfield 62, 3) := by decide +kernel
set_option maxRecDepth 20000 in
theorem dX12_init_142 : decode cX12_init 142 = .ok (.aload_n 0, 1) := by decide +kernel
set_option maxRecDepth 20000 in
theorem dX12_init_143 : decode cX12_init 143 = .ok (.bipush 60, 2) := by decide +kernel
set_option maxRecDepth 20000 in
theorem dX12_init_145 : decode cX12_init 145 = .ok (.newarray .int, 2) := by decide +kernel
set_option maxRecDepth 20000 in
theorem dX12_init_147 : decode cX12_init 147 = .ok (.putfield 65, 3) := by decide +kernel
set_option maxRecDepth 20000 in
theorem dX12_init_150 : decode cX12_init 150 = .ok (.aload_n 0, 1) := by decide +kernel
set_option maxRecDepth 20000 in
theorem dX12_init_151 : decode cX12_init 151 = .ok (.bipush 6, 2) := by decide +kernel
set_option maxRecDepth 20000 in
theorem dX12_init_153 : decode cX12_init 153 = .ok (.newarray .int, 2) := by decide +kernel
set_option maxRecDepth 20000 in
theorem dX12_init_155 : decode cX12_init 155 = .ok (.putfield 68, 3) := by decide +kernel
set_option maxRecDepth 20000 in
theorem dX12_init_158 : decode cX12_init 158 = .ok (.aload_n 0, 1) := by decide +kernel
set_option maxRecDepth 20000 in
theorem dX12_init_159 : decode cX12_init 159 = .ok (.bipush 36, 2) := by decide +kernel
set_option maxRecDepth 20000 in
theorem dX12_init_161 : decode cX12_init 161 = .ok (.newarray .int, 2) := by decide +kernel
set_option maxRecDepth 20000 in
theorem dX12_init_163 : decode cX12_init 163 = .ok (.putfield 71, 3) := by decide +kernel
set_option maxRecDepth 20000 in
theorem dX12_init_166 : decode cX12_init 166 = .ok (.aload_n 0, 1) := by decide +kernel
set_option maxRecDepth 20000 in
theorem dX12_init_167 : decode cX12_init 167 = .ok (.bipush 8, 2) := by decide +kernel
set_option maxRecDepth 20000 in
theorem dX12_init_169 : decode cX12_init 169 = .ok (.newarray .int, 2) := by decide +kernel
set_option maxRecDepth 20000 in
theorem dX12_init_171 : decode cX12_init 171 = .ok (.putfield 74, 3) := by decide +kernel
set_option maxRecDepth 20000 in
theorem dX12_init_174 : decode cX12_init 174 = .ok (.aload_n 0, 1) := by decide +kernel
set_option maxRecDepth 20000 in
theorem dX12_init_175 : decode cX12_init 175 = .ok (.bipush 8, 2) := by decide +kernel
set_option maxRecDepth 20000 in
theorem dX12_init_177 : decode cX12_init 177 = .ok (.newarray .int, 2) := by decide +kernel
set_option maxRecDepth 20000 in
theorem dX12_init_179 : decode cX12_init 179 = .ok (.putfield 77, 3) := by decide +kernel
set_option maxRecDepth 20000 in
theorem dX12_init_182 : decode cX12_init 182 = .ok (.aload_n 0, 1) := by decide +kernel
set_option maxRecDepth 20000 in
theorem dX12_init_183 : decode cX12_init 183 = .ok (.sipush 201, 3) := by decide +kernel
set_option maxRecDepth 20000 in
theorem dX12_init_186 : decode cX12_init 186 = .ok (.newarray .int, 2) := by decide +kernel
set_option maxRecDepth 20000 in
theorem dX12_init_188 : decode cX12_init 188 = .ok (.putfield 80, 3) := by decide +kernel
set_option maxRecDepth 20000 in
theorem dX12_init_191 : decode cX12_init 191 = .ok (.aload_n 0, 1) := by decide +kernel
set_option maxRecDepth 20000 in
theorem dX12_init_192 : decode cX12_init 192 = .ok (.bipush 32, 2) := by decide +kernel
set_option maxRecDepth 20000 in
theorem dX12_init_194 : decode cX12_init 194 = .ok (.newarray .int, 2) := by decide +kernel
set_option maxRecDepth 20000 in
theorem dX12_init_196 : decode cX12_init 196 = .ok (.putfield 83, 3) := by decide +kernel
set_option maxRecDepth 20000 in
theorem dX12_init_199 : decode cX12_init 199 = .ok (.aload_n 0, 1) := by decide +kernel
set_option maxRecDepth 20000 in
theorem dX12_init_200 : decode cX12_init 200 = .ok (.iconst 4, 1) := by decide +kernel
set_option maxRecDepth 20000 in
theorem dX12_init_201 : decode cX12_init 201 = .ok (.newarray .boolean, 2) := by decide +kernel
set_option maxRecDepth 20000 in
theorem dX12_init_203 : decode cX12_init 203 = .ok (.putfield 86, 3) := by decide +kernel
set_option maxRecDepth 20000 in
theorem dX12_init_206 : decode cX12_init 206 = .ok (.aload_n 0, 1) := by decide +kernel
set_option maxRecDepth 20000 in
theorem dX12_init_207 : decode cX12_init 207 = .ok (.iconst 4, 1) := by decide +kernel
set_option maxRecDepth 20000 in
theorem dX12_init_208 : decode cX12_init 208 = .ok (.newarray .int, 2) := by decide +kernel
set_option maxRecDepth 20000 in
theorem dX12_init_210 : decode cX12_init 210 = .ok (.putfield 90, 3) := by decide +kernel
set_option maxRecDepth 20000 in
theorem dX12_init_213 : decode cX12_init 213 = .ok (.aload_n 0, 1) := by decide +kernel
set_option maxRecDepth 20000 in
theorem dX12_init_214 : decode cX12_init 214 = .ok (.iconst 4, 1) := by decide +kernel
set_option maxRecDepth 20000 in
theorem dX12_init_215 : decode cX12_init 215 = .ok (.newarray .int, 2) := by decide +kernel
set_option maxRecDepth 20000 in
theorem dX12_init_217 : decode cX12_init 217 = .ok (.putfield 93, 3) := by decide +kernel
set_option maxRecDepth 20000 in
theorem dX12_init_220 : decode cX12_init 220 = .ok (.aload_n 0, 1) := by decide +kernel
set_option maxRecDepth 20000 in
theorem dX12_init_221 : decode cX12_init 221 = .ok (.sipush 160, 3) := by decide +kernel
set_option maxRecDepth 20000 in
theorem dX12_init_224 : decode cX12_init 224 = .ok (.newarray .int, 2) := by decide +kernel
set_option maxRecDepth 20000 in
theorem dX12_init_226 : decode cX12_init 226 = .ok (.putfield 96, 3) := by decide +kernel
set_option maxRecDepth 20000 in
theorem dX12_init_229 : decode cX12_init 229 = .ok (.aload_n 0, 1) := by decide +kernel
set_option maxRecDepth 20000 in
theorem dX12_init_230 : decode cX12_init 230 = .ok (.iconst 0, 1) := by decide +kernel
set_option maxRecDepth 20000 in
theorem dX12_init_231 : decode cX12_init 231 = .ok (.ldc2_w 99, 3) := by decide +kernel
set_option maxRecDepth 20000 in
theorem dX12_init_234 : decode cX12_init 234 = .ok (.invokevirtual 101, 3) := by decide +kernel
set_option maxRecDepth 20000 in
theorem dX12_init_237 : decode cX12_init 237 = .ok (.aload_n 0, 1) := by decide +kernel
set_option maxRecDepth 20000 in
theorem dX12_init_238 : decode cX12_init 238 = .ok (.bipush 8, 2) := by decide +kernel
set_option maxRecDepth 20000 in
theorem dX12_init_240 : decode cX12_init 240 = .ok (.ldc2_w 105, 3) := by decide +kernel
set_option maxRecDepth 20000 in
theorem dX12_init_243 : decode cX12_init 243 = .ok (.invokevirtual 101, 3) := by decide +kernel
set_option maxRecDepth 20000 in
theorem dX12_init_246 : decode cX12_init 246 = .ok (.aload_n 0, 1) := by decide +kernel
set_option maxRecDepth 20000 in
theorem dX12_init_247 : decode cX12_init 247 = .ok (.bipush 16, 2) := by decide +kernel
set_option maxRecDepth 20000 in
theorem dX12_init_249 : decode cX12_init 249 = .ok (.ldc2_w 107, 3) := by decide +kernel
set_option maxRecDepth 20000 in
theorem dX12_init_252 : decode cX12_init 252 = .ok (.invokevirtual 101, 3) := by decide +kernel
set_option maxRecDepth 20000 in
theorem dX12_init_255 : decode cX12_init 255 = .ok (.aload_n 0, 1) := by decide +kernel
set_option maxRecDepth 20000 in
theorem dX12_init_256 : decode cX12_init 256 = .ok (.bipush 24, 2) := by decide +kernel
set_option maxRecDepth 20000 in
theorem dX12_init_258 : decode cX12_init 258 = .ok (.ldc2_w 109, 3) := by decide +kernel
set_option maxRecDepth 20000 in
theorem dX12_init_261 : decode cX12_init 261 = .ok (.invokevirtual 101, 3) := by decide +kernel
set_option maxRecDepth 20000 in
theorem dX12_init_264 : decode cX12_init 264 = .ok (.aload_n 0, 1) := by decide +kernel
set_option maxRecDepth 20000 in
theorem dX12_init_265 : decode cX12_init 265 = .ok (.bipush 32, 2) := by decide +kernel
set_option maxRecDepth 20000 in
theorem dX12_init_267 : decode cX12_init 267 = .ok (.ldc2_w 111, 3) := by decide +kernel
set_option maxRecDepth 20000 in
theorem dX12_init_270 : decode cX12_init 270 = .ok (.invokevirtual 101, 3) := by decide +kernel
set_option maxRecDepth 20000 in
theorem dX12_init_273 : decode cX12_init 273 = .ok (.aload_n 0, 1) := by decide +kernel
set_option maxRecDepth 20000 in
theorem dX12_init_274 : decode cX12_init 274 = .ok (.bipush 40, 2) := by decide +kernel
set_option maxRecDepth 20000 in
theorem dX12_init_276 : decode cX12_init 276 = .ok (.ldc2_w 113, 3) := by decide +kernel
set_option maxRecDepth 20000 in
theorem dX12_init_279 : decode cX12_init 279 = .ok (.invokevirtual 101, 3) := by decide +kernel
set_option maxRecDepth 20000 in
theorem dX12_init_282 : decode cX12_init 282 = .ok (.aload_n 0, 1) := by decide +kernel
set_option maxRecDepth 20000 in
theorem dX12_init_283 : decode cX12_init 283 = .ok (.bipush 48, 2) := by decide +kernel
set_option maxRecDepth 20000 in
theorem dX12_init_285 : decode cX12_init 285 = .ok (.ldc2_w 115, 3) := by decide +kernel
set_option maxRecDepth 20000 in
theorem dX12_init_288 : decode cX12_init 288 = .ok (.invokevirtual 101, 3) := by decide +kernel
set_option maxRecDepth 20000 in
theorem dX12_init_291 : decode cX12_init 291 = .ok (.aload_n 0, 1) := by decide +kernel
set_option maxRecDepth 20000 in
theorem dX12_init_292 : decode cX12_init 292 = .ok (.getfield 17, 3) := by decide +kernel
set_option maxRecDepth 20000 in
theorem dX12_init_295 : decode cX12_init 295 = .ok (.iconst 0, 1) := by decide +kernel
set_option maxRecDepth 20000 in
theorem dX12_init_296 : decode cX12_init 296 = .ok (.bipush 56, 2) := by decide +kernel
set_option maxRecDepth 20000 in
theorem dX12_init_298 : decode cX12_init 298 = .ok (.iastore, 1) := by decide +kernel
set_option maxRecDepth 20000 in
theorem dX12_init_299 : decode cX12_init 299 = .ok (.aload_n 0, 1) := by decide +kernel
set_option maxRecDepth 20000 in
theorem dX12_init_300 : decode cX12_init 300 = .ok (.iconst 1, 1) := by decide +kernel
set_option maxRecDepth 20000 in
theorem dX12_init_301 : decode cX12_init 301 = .ok (.putfield 117, 3) := by decide +kernel
set_option maxRecDepth 20000 in
theorem dX12_init_304 : decode cX12_init 304 = .ok (.return_, 1) := by decide +kernel
set_option maxRecDepth 20000 in
theorem dX12_spell_0 : decode cX12_spell 0 = .ok (.iconst 0, 1) := by decide +kernel
set_option maxRecDepth 20000 in
theorem dX12_spell_1 : decode cX12_spell 1 = .ok (.istore 4, 2) := by decide +kernel
set_option maxRecDepth 20000 in
theorem dX12_spell_3 : decode cX12_spell 3 = .ok (.iload 4, 2) := by decide +kernel
set_option maxRecDepth 20000 in
theorem dX12_spell_5 : decode cX12_spell 5 = .ok (.bipush 8, 2) := by decide +kernel
set_option maxRecDepth 20000 in
theorem dX12_spell_7 : decode cX12_spell 7 = .ok (.if_icmp .ge 33, 3) := by decide +kernel
set_option maxRecDepth 20000 in
theorem dX12_spell_10 : decode cX12_spell 10 = .ok (.aload_n 0, 1) := by decide +kernel
set_option maxRecDepth 20000 in
theorem dX12_spell_11 : decode cX12_spell 11 = .ok (.getfield 13, 3) := by decide +kernel
set_option maxRecDepth 20000 in
theorem dX12_spell_14 : decode cX12_spell 14 = .ok (.iload_n 1, 1) := by decide +kernel
