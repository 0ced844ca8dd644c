theorem dX12_notes_34 : decode cX12_notes 34 = .ok (.getfield 211, 3) := by decide +kernel
theorem dX12_notes_37 : decode cX12_notes 37 = .ok (.iconst 1, 1) := by decide +kernel
theorem dX12_notes_38 : decode cX12_notes 38 = .ok (.iadd, 1) := by decide +kernel
theorem dX12_notes_39 : decode cX12_notes 39 = .ok (.putfield 211, 3) := by decide +kernel
theorem dX12_notes_42 : decode cX12_notes 42 = .ok (.return_, 1) := by decide +kernel
theorem dX12_opensOne_0 : decode cX12_opensOne 0 = .ok (.aload_n 0, 1) := by decide +kernel
theorem dX12_opensOne_1 : decode cX12_opensOne 1 = .ok (.getfield 119, 3) := by decide +kernel
theorem dX12_opensOne_4 : decode cX12_opensOne 4 = .ok (.ifCond .ne 24, 3) := by decide +kernel
theorem dX12_opensOne_7 : decode cX12_opensOne 7 = .ok (.aload_n 0, 1) := by decide +kernel
theorem dX12_opensOne_8 : decode cX12_opensOne 8 = .ok (.getfield 162, 3) := by decide +kernel
theorem dX12_opensOne_11 : decode cX12_opensOne 11 = .ok (.bipush 6, 2) := by decide +kernel
theorem dX12_opensOne_13 : decode cX12_opensOne 13 = .ok (.if_icmp .ne 15, 3) := by decide +kernel
theorem dX12_opensOne_16 : decode cX12_opensOne 16 = .ok (.aload_n 0, 1) := by decide +kernel
theorem dX12_opensOne_17 : decode cX12_opensOne 17 = .ok (.iconst 3, 1) := by decide +kernel
theorem dX12_opensOne_18 : decode cX12_opensOne 18 = .ok (.aload_n 0, 1) := by decide +kernel
theorem dX12_opensOne_19 : decode cX12_opensOne 19 = .ok (.getfield 112, 3) := by decide +kernel
theorem dX12_opensOne_22 : decode cX12_opensOne 22 = .ok (.invokevirtual 132, 3) := by decide +kernel
theorem dX12_opensOne_25 : decode cX12_opensOne 25 = .ok (.goto 20, 3) := by decide +kernel
theorem dX12_opensOne_28 : decode cX12_opensOne 28 = .ok (.aload_n 0, 1) := by decide +kernel
theorem dX12_opensOne_29 : decode cX12_opensOne 29 = .ok (.getfield 119, 3) := by decide +kernel
theorem dX12_opensOne_32 : decode cX12_opensOne 32 = .ok (.ifCond .ne 13, 3) := by decide +kernel
theorem dX12_opensOne_35 : decode cX12_opensOne 35 = .ok (.aload_n 0, 1) := by decide +kernel
theorem dX12_opensOne_36 : decode cX12_opensOne 36 = .ok (.dup, 1) := by decide +kernel
theorem dX12_opensOne_37 : decode cX12_opensOne 37 = .ok (.getfield 162, 3) := by decide +kernel
theorem dX12_opensOne_40 : decode cX12_opensOne 40 = .ok (.iconst 1, 1) := by decide +kernel
theorem dX12_opensOne_41 : decode cX12_opensOne 41 = .ok (.iadd, 1) := by decide +kernel
theorem dX12_opensOne_42 : decode cX12_opensOne 42 = .ok (.putfield 162, 3) := by decide +kernel
theorem dX12_opensOne_45 : decode cX12_opensOne 45 = .ok (.aload_n 0, 1) := by decide +kernel
theorem dX12_opensOne_46 : decode cX12_opensOne 46 = .ok (.getfield 119, 3) := by decide +kernel
theorem dX12_opensOne_49 : decode cX12_opensOne 49 = .ok (.ifCond .ne 7, 3) := by decide +kernel
theorem dX12_opensOne_52 : decode cX12_opensOne 52 = .ok (.iconst 1, 1) := by decide +kernel
theorem dX12_opensOne_53 : decode cX12_opensOne 53 = .ok (.goto 4, 3) := by decide +kernel
theorem dX12_opensOne_56 : decode cX12_opensOne 56 = .ok (.iconst 0, 1) := by decide +kernel
theorem dX12_opensOne_57 : decode cX12_opensOne 57 = .ok (.ireturn, 1) := by decide +kernel
theorem dX12_sum_0 : decode cX12_sum 0 = .ok (.aload_n 0, 1) := by decide +kernel
theorem dX12_sum_1 : decode cX12_sum 1 = .ok (.invokevirtual 214, 3) := by decide +kernel
theorem dX12_sum_4 : decode cX12_sum 4 = .ok (.aload_n 0, 1) := by decide +kernel
theorem dX12_sum_5 : decode cX12_sum 5 = .ok (.getfield 119, 3) := by decide +kernel
theorem dX12_sum_8 : decode cX12_sum 8 = .ok (.ifCond .ne 50, 3) := by decide +kernel
theorem dX12_sum_11 : decode cX12_sum 11 = .ok (.aload_n 0, 1) := by decide +kernel
theorem dX12_sum_12 : decode cX12_sum 12 = .ok (.bipush 43, 2) := by decide +kernel
theorem dX12_sum_14 : decode cX12_sum 14 = .ok (.invokevirtual 217, 3) := by decide +kernel
theorem dX12_sum_17 : decode cX12_sum 17 = .ok (.ifCond .eq 7, 3) := by decide +kernel
theorem dX12_sum_20 : decode cX12_sum 20 = .ok (.iconst 2, 1) := by decide +kernel
theorem dX12_sum_21 : decode cX12_sum 21 = .ok (.goto 17, 3) := by decide +kernel
theorem dX12_sum_24 : decode cX12_sum 24 = .ok (.aload_n 0, 1) := by decide +kernel
theorem dX12_sum_25 : decode cX12_sum 25 = .ok (.bipush 45, 2) := by decide +kernel
theorem dX12_sum_27 : decode cX12_sum 27 = .ok (.invokevirtual 217, 3) := by decide +kernel
theorem dX12_sum_30 : decode cX12_sum 30 = .ok (.ifCond .eq 7, 3) := by decide +kernel
theorem dX12_sum_33 : decode cX12_sum 33 = .ok (.iconst 3, 1) := by decide +kernel
theorem dX12_sum_34 : decode cX12_sum 34 = .ok (.goto 4, 3) := by decide +kernel
theorem dX12_sum_37 : decode cX12_sum 37 = .ok (.iconst (-1), 1) := by decide +kernel
theorem dX12_sum_38 : decode cX12_sum 38 = .ok (.istore_n 1, 1) := by decide +kernel
theorem dX12_sum_39 : decode cX12_sum 39 = .ok (.iload_n 1, 1) := by decide +kernel
theorem dX12_sum_40 : decode cX12_sum 40 = .ok (.iconst (-1), 1) := by decide +kernel
theorem dX12_sum_41 : decode cX12_sum 41 = .ok (.if_icmp .ne 4, 3) := by decide +kernel
theorem dX12_sum_44 : decode cX12_sum 44 = .ok (.return_, 1) := by decide +kernel
theorem dX12_sum_45 : decode cX12_sum 45 = .ok (.aload_n 0, 1) := by decide +kernel
theorem dX12_sum_46 : decode cX12_sum 46 = .ok (.invokevirtual 214, 3) := by decide +kernel
theorem dX12_sum_49 : decode cX12_sum 49 = .ok (.aload_n 0, 1) := by decide +kernel
theorem dX12_sum_50 : decode cX12_sum 50 = .ok (.iload_n 1, 1) := by decide +kernel
theorem dX12_sum_51 : decode cX12_sum 51 = .ok (.iconst 0, 1) := by decide +kernel
theorem dX12_sum_52 : decode cX12_sum 52 = .ok (.invokevirtual 220, 3) := by decide +kernel
theorem dX12_sum_55 : decode cX12_sum 55 = .ok (.goto (-51), 3) := by decide +kernel
theorem dX12_sum_58 : decode cX12_sum 58 = .ok (.return_, 1) := by decide +kernel
theorem dX12_product_0 : decode cX12_product 0 = .ok (.aload_n 0, 1) := by decide +kernel
theorem dX12_product_1 : decode cX12_product 1 = .ok (.invokevirtual 223, 3) := by decide +kernel
theorem dX12_product_4 : decode cX12_product 4 = .ok (.aload_n 0, 1) := by decide +kernel
theorem dX12_product_5 : decode cX12_product 5 = .ok (.getfield 119, 3) := by decide +kernel
theorem dX12_product_8 : decode cX12_product 8 = .ok (.ifCond .ne 64, 3) := by decide +kernel
theorem dX12_product_11 : decode cX12_product 11 = .ok (.aload_n 0, 1) := by decide +kernel
theorem dX12_product_12 : decode cX12_product 12 = .ok (.bipush 42, 2) := by decide +kernel
theorem dX12_product_14 : decode cX12_product 14 = .ok (.invokevirtual 217, 3) := by decide +kernel
theorem dX12_product_17 : decode cX12_product 17 = .ok (.ifCond .eq 7, 3) := by decide +kernel
theorem dX12_product_20 : decode cX12_product 20 = .ok (.iconst 4, 1) := by decide +kernel
theorem dX12_product_21 : decode cX12_product 21 = .ok (.goto 31, 3) := by decide +kernel
theorem dX12_product_24 : decode cX12_product 24 = .ok (.aload_n 0, 1) := by decide +kernel
theorem dX12_product_25 : decode cX12_product 25 = .ok (.bipush 47, 2) := by decide +kernel
theorem dX12_product_27 : decode cX12_product 27 = .ok (.invokevirtual 217, 3) := by decide +kernel
theorem dX12_product_30 : decode cX12_product 30 = .ok (.ifCond .eq 7, 3) := by decide +kernel
theorem dX12_product_33 : decode cX12_product 33 = .ok (.iconst 5, 1) := by decide +kernel
theorem dX12_product_34 : decode cX12_product 34 = .ok (.goto 18, 3) := by decide +kernel
theorem dX12_product_37 : decode cX12_product 37 = .ok (.aload_n 0, 1) := by decide +kernel
theorem dX12_product_38 : decode cX12_product 38 = .ok (.bipush 37, 2) := by decide +kernel
theorem dX12_product_40 : decode cX12_product 40 = .ok (.invokevirtual 217, 3) := by decide +kernel
theorem dX12_product_43 : decode cX12_product 43 = .ok (.ifCond .eq 8, 3) := by decide +kernel
theorem dX12_product_46 : decode cX12_product 46 = .ok (.bipush 6, 2) := by decide +kernel
theorem dX12_product_48 : decode cX12_product 48 = .ok (.goto 4, 3) := by decide +kernel
theorem dX12_product_51 : decode cX12_product 51 = .ok (.iconst (-1), 1) := by decide +kernel
theorem dX12_product_52 : decode cX12_product 52 = .ok (.istore_n 1, 1) := by decide +kernel
theorem dX12_product_53 : decode cX12_product 53 = .ok (.iload_n 1, 1) := by decide +kernel
theorem dX12_product_54 : decode cX12_product 54 = .ok (.iconst (-1), 1) := by decide +kernel
theorem dX12_product_55 : decode cX12_product 55 = .ok (.if_icmp .ne 4, 3) := by decide +kernel
theorem dX12_product_58 : decode cX12_product 58 = .ok (.return_, 1) := by decide +kernel
theorem dX12_product_59 : decode cX12_product 59 = .ok (.aload_n 0, 1) := by decide +kernel
theorem dX12_product_60 : decode cX12_product 60 = .ok (.invokevirtual 223, 3) := by decide +kernel
theorem dX12_product_63 : decode cX12_product 63 = .ok (.aload_n 0, 1) := by decide +kernel
theorem dX12_product_64 : decode cX12_product 64 = .ok (.iload_n 1, 1) := by decide +kernel
theorem dX12_product_65 : decode cX12_product 65 = .ok (.iconst 0, 1) := by decide +kernel
theorem dX12_product_66 : decode cX12_product 66 = .ok (.invokevirtual 220, 3) := by decide +kernel
theorem dX12_product_69 : decode cX12_product 69 = .ok (.goto (-65), 3) := by decide +kernel
theorem dX12_product_72 : decode cX12_product 72 = .ok (.return_, 1) := by decide +kernel
theorem dX12_knownHere_0 : decode cX12_knownHere 0 = .ok (.aload_n 0, 1) := by decide +kernel
theorem dX12_knownHere_1 : decode cX12_knownHere 1 = .ok (.bipush 8, 2) := by decide +kernel
theorem dX12_knownHere_3 : decode cX12_knownHere 3 = .ok (.bipush 15, 2) := by decide +kernel
theorem dX12_knownHere_5 : decode cX12_knownHere 5 = .ok (.bipush 21, 2) := by decide +kernel
theorem dX12_knownHere_7 : decode cX12_knownHere 7 = .ok (.bipush 18, 2) := by decide +kernel
theorem dX12_knownHere_9 : decode cX12_knownHere 9 = .ok (.iconst 0, 1) := by decide +kernel
theorem dX12_knownHere_10 : decode cX12_knownHere 10 = .ok (.iconst 0, 1) := by decide +kernel
theorem dX12_knownHere_11 : decode cX12_knownHere 11 = .ok (.invokevirtual 226, 3) := by decide +kernel
theorem dX12_knownHere_14 : decode cX12_knownHere 14 = .ok (.ifCond .eq 5, 3) := by decide +kernel
theorem dX12_knownHere_17 : decode cX12_knownHere 17 = .ok (.iconst 0, 1) := by decide +kernel
theorem dX12_knownHere_18 : decode cX12_knownHere 18 = .ok (.ireturn, 1) := by decide +kernel
theorem dX12_knownHere_19 : decode cX12_knownHere 19 = .ok (.aload_n 0, 1) := by decide +kernel
theorem dX12_knownHere_20 : decode cX12_knownHere 20 = .ok (.iconst 4, 1) := by decide +kernel
theorem dX12_knownHere_21 : decode cX12_knownHere 21 = .ok (.iconst 1, 1) := by decide +kernel
theorem dX12_knownHere_22 : decode cX12_knownHere 22 = .ok (.bipush 25, 2) := by decide +kernel
theorem dX12_knownHere_24 : decode cX12_knownHere 24 = .ok (.iconst 0, 1) := by decide +kernel
theorem dX12_knownHere_25 : decode cX12_knownHere 25 = .ok (.iconst 0, 1) := by decide +kernel
theorem dX12_knownHere_26 : decode cX12_knownHere 26 = .ok (.iconst 0, 1) := by decide +kernel
theorem dX12_knownHere_27 : decode cX12_knownHere 27 = .ok (.invokevirtual 226, 3) := by decide +kernel
theorem dX12_knownHere_30 : decode cX12_knownHere 30 = .ok (.ifCond .eq 5, 3) := by decide +kernel
theorem dX12_knownHere_33 : decode cX12_knownHere 33 = .ok (.iconst 1, 1) := by decide +kernel
theorem dX12_knownHere_34 : decode cX12_knownHere 34 = .ok (.ireturn, 1) := by decide +kernel
theorem dX12_knownHere_35 : decode cX12_knownHere 35 = .ok (.aload_n 0, 1) := by decide +kernel
theorem dX12_knownHere_36 : decode cX12_knownHere 36 = .ok (.iconst 2, 1) := by decide +kernel
theorem dX12_knownHere_37 : decode cX12_knownHere 37 = .ok (.bipush 15, 2) := by decide +kernel
theorem dX12_knownHere_39 : decode cX12_knownHere 39 = .ok (.iconst 1, 1) := by decide +kernel
theorem dX12_knownHere_40 : decode cX12_knownHere 40 = .ok (.bipush 18, 2) := by decide +kernel
theorem dX12_knownHere_42 : decode cX12_knownHere 42 = .ok (.iconst 4, 1) := by decide +kernel
theorem dX12_knownHere_43 : decode cX12_knownHere 43 = .ok (.iconst 0, 1) := by decide +kernel
theorem dX12_knownHere_44 : decode cX12_knownHere 44 = .ok (.invokevirtual 226, 3) := by decide +kernel
theorem dX12_knownHere_47 : decode cX12_knownHere 47 = .ok (.ifCond .eq 5, 3) := by decide +kernel
theorem dX12_knownHere_50 : decode cX12_knownHere 50 = .ok (.iconst 2, 1) := by decide +kernel
theorem dX12_knownHere_51 : decode cX12_knownHere 51 = .ok (.ireturn, 1) := by decide +kernel
theorem dX12_knownHere_52 : decode cX12_knownHere 52 = .ok (.aload_n 0, 1) := by decide +kernel
theorem dX12_knownHere_53 : decode cX12_knownHere 53 = .ok (.iconst 3, 1) := by decide +kernel
theorem dX12_knownHere_54 : decode cX12_knownHere 54 = .ok (.bipush 12, 2) := by decide +kernel
theorem dX12_knownHere_56 : decode cX12_knownHere 56 = .ok (.iconst 5, 1) := by decide +kernel
theorem dX12_knownHere_57 : decode cX12_knownHere 57 = .ok (.iconst 1, 1) := by decide +kernel
theorem dX12_knownHere_58 : decode cX12_knownHere 58 = .ok (.bipush 18, 2) := by decide +kernel
theorem dX12_knownHere_60 : decode cX12_knownHere 60 = .ok (.iconst 0, 1) := by decide +kernel
theorem dX12_knownHere_61 : decode cX12_knownHere 61 = .ok (.invokevirtual 226, 3) := by decide +kernel
theorem dX12_knownHere_64 : decode cX12_knownHere 64 = .ok (.ifCond .eq 5, 3) := by decide +kernel
theorem dX12_knownHere_67 : decode cX12_knownHere 67 = .ok (.iconst 3, 1) := by decide +kernel
theorem dX12_knownHere_68 : decode cX12_knownHere 68 = .ok (.ireturn, 1) := by decide +kernel
theorem dX12_knownHere_69 : decode cX12_knownHere 69 = .ok (.aload_n 0, 1) := by decide +kernel
theorem dX12_knownHere_70 : decode cX12_knownHere 70 = .ok (.iconst 2, 1) := by decide +kernel
theorem dX12_knownHere_71 : decode cX12_knownHere 71 = .ok (.iconst 5, 1) := by decide +kernel
theorem dX12_knownHere_72 : decode cX12_knownHere 72 = .ok (.iconst 1, 1) := by decide +kernel
theorem dX12_knownHere_73 : decode cX12_knownHere 73 = .ok (.bipush 18, 2) := by decide +kernel
theorem dX12_knownHere_75 : decode cX12_knownHere 75 = .ok (.bipush 19, 2) := by decide +kernel
theorem dX12_knownHere_77 : decode cX12_knownHere 77 = .ok (.iconst 0, 1) := by decide +kernel
theorem dX12_knownHere_78 : decode cX12_knownHere 78 = .ok (.invokevirtual 226, 3) := by decide +kernel
theorem dX12_knownHere_81 : decode cX12_knownHere 81 = .ok (.ifCond .eq 5, 3) := by decide +kernel
theorem dX12_knownHere_84 : decode cX12_knownHere 84 = .ok (.iconst 4, 1) := by decide +kernel
theorem dX12_knownHere_85 : decode cX12_knownHere 85 = .ok (.ireturn, 1) := by decide +kernel
theorem dX12_knownHere_86 : decode cX12_knownHere 86 = .ok (.aload_n 0, 1) := by decide +kernel
theorem dX12_knownHere_87 : decode cX12_knownHere 87 = .ok (.iconst 4, 1) := by decide +kernel
theorem dX12_knownHere_88 : decode cX12_knownHere 88 = .ok (.bipush 18, 2) := by decide +kernel
theorem dX12_knownHere_90 : decode cX12_knownHere 90 = .ok (.iconst 1, 1) := by decide +kernel
theorem dX12_knownHere_91 : decode cX12_knownHere 91 = .ok (.bipush 9, 2) := by decide +kernel
theorem dX12_knownHere_93 : decode cX12_knownHere 93 = .ok (.bipush 14, 2) := by decide +kernel
theorem dX12_knownHere_95 : decode cX12_knownHere 95 = .ok (.bipush 19, 2) := by decide +kernel
theorem dX12_knownHere_97 : decode cX12_knownHere 97 = .ok (.invokevirtual 226, 3) := by decide +kernel
theorem dX12_knownHere_100 : decode cX12_knownHere 100 = .ok (.ifCond .eq 5, 3) := by decide +kernel
theorem dX12_knownHere_103 : decode cX12_knownHere 103 = .ok (.iconst 5, 1) := by decide +kernel
theorem dX12_knownHere_104 : decode cX12_knownHere 104 = .ok (.ireturn, 1) := by decide +kernel
theorem dX12_knownHere_105 : decode cX12_knownHere 105 = .ok (.aload_n 0, 1) := by decide +kernel
theorem dX12_knownHere_106 : decode cX12_knownHere 106 = .ok (.bipush 6, 2) := by decide +kernel
theorem dX12_knownHere_108 : decode cX12_knownHere 108 = .ok (.bipush 9, 2) := by decide +kernel
theorem dX12_knownHere_110 : decode cX12_knownHere 110 = .ok (.bipush 19, 2) := by decide +kernel
theorem dX12_knownHere_112 : decode cX12_knownHere 112 = .ok (.bipush 8, 2) := by decide +kernel
theorem dX12_knownHere_114 : decode cX12_knownHere 114 = .ok (.iconst 0, 1) := by decide +kernel
theorem dX12_knownHere_115 : decode cX12_knownHere 115 = .ok (.iconst 0, 1) := by decide +kernel
theorem dX12_knownHere_116 : decode cX12_knownHere 116 = .ok (.invokevirtual 226, 3) := by decide +kernel
theorem dX12_knownHere_119 : decode cX12_knownHere 119 = .ok (.ifCond .eq 6, 3) := by decide +kernel
theorem dX12_knownHere_122 : decode cX12_knownHere 122 = .ok (.bipush 6, 2) := by decide +kernel
theorem dX12_knownHere_124 : decode cX12_knownHere 124 = .ok (.ireturn, 1) := by decide +kernel
theorem dX12_knownHere_125 : decode cX12_knownHere 125 = .ok (.aload_n 0, 1) := by decide +kernel
theorem dX12_knownHere_126 : decode cX12_knownHere 126 = .ok (.bipush 6, 2) := by decide +kernel
theorem dX12_knownHere_128 : decode cX12_knownHere 128 = .ok (.bipush 9, 2) := by decide +kernel
theorem dX12_knownHere_130 : decode cX12_knownHere 130 = .ok (.bipush 14, 2) := by decide +kernel
theorem dX12_knownHere_132 : decode cX12_knownHere 132 = .ok (.iconst 5, 1) := by decide +kernel
theorem dX12_knownHere_133 : decode cX12_knownHere 133 = .ok (.iconst 4, 1) := by decide +kernel
theorem dX12_knownHere_134 : decode cX12_knownHere 134 = .ok (.iconst 0, 1) := by decide +kernel
theorem dX12_knownHere_135 : decode cX12_knownHere 135 = .ok (.invokevirtual 226, 3) := by decide +kernel
theorem dX12_knownHere_138 : decode cX12_knownHere 138 = .ok (.ifCond .eq 8, 3) := by decide +kernel
theorem dX12_knownHere_141 : decode cX12_knownHere 141 = .ok (.bipush 7, 2) := by decide +kernel
theorem dX12_knownHere_143 : decode cX12_knownHere 143 = .ok (.goto 4, 3) := by decide +kernel
theorem dX12_knownHere_146 : decode cX12_knownHere 146 = .ok (.iconst (-1), 1) := by decide +kernel
theorem dX12_knownHere_147 : decode cX12_knownHere 147 = .ok (.ireturn, 1) := by decide +kernel
theorem dX12_one_0 : decode cX12_one 0 = .ok (.aload_n 0, 1) := by decide +kernel
theorem dX12_one_1 : decode cX12_one 1 = .ok (.getfield 119, 3) := by decide +kernel
theorem dX12_one_4 : decode cX12_one 4 = .ok (.ifCond .eq 4, 3) := by decide +kernel
theorem dX12_one_7 : decode cX12_one 7 = .ok (.return_, 1) := by decide +kernel
theorem dX12_one_8 : decode cX12_one 8 = .ok (.aload_n 0, 1) := by decide +kernel
theorem dX12_one_9 : decode cX12_one 9 = .ok (.invokevirtual 125, 3) := by decide +kernel
theorem dX12_one_12 : decode cX12_one 12 = .ok (.aload_n 0, 1) := by decide +kernel
theorem dX12_one_13 : decode cX12_one 13 = .ok (.bipush 12, 2) := by decide +kernel
theorem dX12_one_15 : decode cX12_one 15 = .ok (.iconst 5, 1) := by decide +kernel
theorem dX12_one_16 : decode cX12_one 16 = .ok (.iconst 1, 1) := by decide +kernel
theorem dX12_one_17 : decode cX12_one 17 = .ok (.bipush 19, 2) := by decide +kernel
theorem dX12_one_19 : decode cX12_one 19 = .ok (.bipush 20, 2) := by decide +kernel
theorem dX12_one_21 : decode cX12_one 21 = .ok (.iconst 0, 1) := by decide +kernel
theorem dX12_one_22 : decode cX12_one 22 = .ok (.invokevirtual 152, 3) := by decide +kernel
theorem dX12_one_25 : decode cX12_one 25 = .ok (.ifCond .eq 8, 3) := by decide +kernel
theorem dX12_one_28 : decode cX12_one 28 = .ok (.bipush 7, 2) := by decide +kernel
theorem dX12_one_30 : decode cX12_one 30 = .ok (.goto 26, 3) := by decide +kernel
theorem dX12_one_33 : decode cX12_one 33 = .ok (.aload_n 0, 1) := by decide +kernel
theorem dX12_one_34 : decode cX12_one 34 = .ok (.bipush 13, 2) := by decide +kernel
theorem dX12_one_36 : decode cX12_one 36 = .ok (.bipush 15, 2) := by decide +kernel
theorem dX12_one_38 : decode cX12_one 38 = .ok (.bipush 19, 2) := by decide +kernel
theorem dX12_one_40 : decode cX12_one 40 = .ok (.bipush 20, 2) := by decide +kernel
theorem dX12_one_42 : decode cX12_one 42 = .ok (.iconst 0, 1) := by decide +kernel
theorem dX12_one_43 : decode cX12_one 43 = .ok (.iconst 0, 1) := by decide +kernel
theorem dX12_one_44 : decode cX12_one 44 = .ok (.invokevirtual 152, 3) := by decide +kernel
theorem dX12_one_47 : decode cX12_one 47 = .ok (.ifCond .eq 8, 3) := by decide +kernel
theorem dX12_one_50 : decode cX12_one 50 = .ok (.bipush 8, 2) := by decide +kernel
theorem dX12_one_52 : decode cX12_one 52 = .ok (.goto 4, 3) := by decide +kernel
theorem dX12_one_55 : decode cX12_one 55 = .ok (.iconst (-1), 1) := by decide +kernel
theorem dX12_one_56 : decode cX12_one 56 = .ok (.istore_n 1, 1) := by decide +kernel
theorem dX12_one_57 : decode cX12_one 57 = .ok (.iload_n 1, 1) := by decide +kernel
theorem dX12_one_58 : decode cX12_one 58 = .ok (.iconst (-1), 1) := by decide +kernel
theorem dX12_one_59 : decode cX12_one 59 = .ok (.if_icmp .eq 58, 3) := by decide +kernel
theorem dX12_one_62 : decode cX12_one 62 = .ok (.aload_n 0, 1) := by decide +kernel
theorem dX12_one_63 : decode cX12_one 63 = .ok (.invokevirtual 229, 3) := by decide +kernel
theorem dX12_one_66 : decode cX12_one 66 = .ok (.ifCond .ne 4, 3) := by decide +kernel
theorem dX12_one_69 : decode cX12_one 69 = .ok (.return_, 1) := by decide +kernel
theorem dX12_one_70 : decode cX12_one 70 = .ok (.aload_n 0, 1) := by decide +kernel
theorem dX12_one_71 : decode cX12_one 71 = .ok (.invokevirtual 156, 3) := by decide +kernel
theorem dX12_one_74 : decode cX12_one 74 = .ok (.aload_n 0, 1) := by decide +kernel
theorem dX12_one_75 : decode cX12_one 75 = .ok (.bipush 91, 2) := by decide +kernel
theorem dX12_one_77 : decode cX12_one 77 = .ok (.invokevirtual 175, 3) := by decide +kernel
theorem dX12_one_80 : decode cX12_one 80 = .ok (.aload_n 0, 1) := by decide +kernel
theorem dX12_one_81 : decode cX12_one 81 = .ok (.invokevirtual 233, 3) := by decide +kernel
theorem dX12_one_84 : decode cX12_one 84 = .ok (.aload_n 0, 1) := by decide +kernel
theorem dX12_one_85 : decode cX12_one 85 = .ok (.bipush 44, 2) := by decide +kernel
theorem dX12_one_87 : decode cX12_one 87 = .ok (.invokevirtual 175, 3) := by decide +kernel
theorem dX12_one_90 : decode cX12_one 90 = .ok (.aload_n 0, 1) := by decide +kernel
theorem dX12_one_91 : decode cX12_one 91 = .ok (.invokevirtual 233, 3) := by decide +kernel
theorem dX12_one_94 : decode cX12_one 94 = .ok (.aload_n 0, 1) := by decide +kernel
theorem dX12_one_95 : decode cX12_one 95 = .ok (.bipush 93, 2) := by decide +kernel
theorem dX12_one_97 : decode cX12_one 97 = .ok (.invokevirtual 175, 3) := by decide +kernel
theorem dX12_one_100 : decode cX12_one 100 = .ok (.aload_n 0, 1) := by decide +kernel
theorem dX12_one_101 : decode cX12_one 101 = .ok (.iload_n 1, 1) := by decide +kernel
theorem dX12_one_102 : decode cX12_one 102 = .ok (.iconst 0, 1) := by decide +kernel
theorem dX12_one_103 : decode cX12_one 103 = .ok (.invokevirtual 220, 3) := by decide +kernel
theorem dX12_one_106 : decode cX12_one 106 = .ok (.aload_n 0, 1) := by decide +kernel
theorem dX12_one_107 : decode cX12_one 107 = .ok (.dup, 1) := by decide +kernel
theorem dX12_one_108 : decode cX12_one 108 = .ok (.getfield 162, 3) := by decide +kernel
theorem dX12_one_111 : decode cX12_one 111 = .ok (.iconst 1, 1) := by decide +kernel
theorem dX12_one_112 : decode cX12_one 112 = .ok (.isub, 1) := by decide +kernel
theorem dX12_one_113 : decode cX12_one 113 = .ok (.putfield 162, 3) := by decide +kernel
theorem dX12_one_116 : decode cX12_one 116 = .ok (.return_, 1) := by decide +kernel
theorem dX12_one_117 : decode cX12_one 117 = .ok (.aload_n 0, 1) := by decide +kernel
theorem dX12_one_118 : decode cX12_one 118 = .ok (.aload_n 0, 1) := by decide +kernel
theorem dX12_one_119 : decode cX12_one 119 = .ok (.getfield 112, 3) := by decide +kernel
theorem dX12_one_122 : decode cX12_one 122 = .ok (.invokevirtual 115, 3) := by decide +kernel
theorem dX12_one_125 : decode cX12_one 125 = .ok (.bipush 40, 2) := by decide +kernel
theorem dX12_one_127 : decode cX12_one 127 = .ok (.if_icmp .ne 42, 3) := by decide +kernel
theorem dX12_one_130 : decode cX12_one 130 = .ok (.aload_n 0, 1) := by decide +kernel
theorem dX12_one_131 : decode cX12_one 131 = .ok (.invokevirtual 229, 3) := by decide +kernel
theorem dX12_one_134 : decode cX12_one 134 = .ok (.ifCond .ne 4, 3) := by decide +kernel
theorem dX12_one_137 : decode cX12_one 137 = .ok (.return_, 1) := by decide +kernel
theorem dX12_one_138 : decode cX12_one 138 = .ok (.aload_n 0, 1) := by decide +kernel
theorem dX12_one_139 : decode cX12_one 139 = .ok (.dup, 1) := by decide +kernel
theorem dX12_one_140 : decode cX12_one 140 = .ok (.getfield 112, 3) := by decide +kernel
theorem dX12_one_143 : decode cX12_one 143 = .ok (.iconst 1, 1) := by decide +kernel
theorem dX12_one_144 : decode cX12_one 144 = .ok (.iadd, 1) := by decide +kernel
theorem dX12_one_145 : decode cX12_one 145 = .ok (.putfield 112, 3) := by decide +kernel
theorem dX12_one_148 : decode cX12_one 148 = .ok (.aload_n 0, 1) := by decide +kernel
theorem dX12_one_149 : decode cX12_one 149 = .ok (.invokevirtual 233, 3) := by decide +kernel
theorem dX12_one_152 : decode cX12_one 152 = .ok (.aload_n 0, 1) := by decide +kernel
theorem dX12_one_153 : decode cX12_one 153 = .ok (.bipush 41, 2) := by decide +kernel
theorem dX12_one_155 : decode cX12_one 155 = .ok (.invokevirtual 175, 3) := by decide +kernel
theorem dX12_one_158 : decode cX12_one 158 = .ok (.aload_n 0, 1) := by decide +kernel
theorem dX12_one_159 : decode cX12_one 159 = .ok (.dup, 1) := by decide +kernel
theorem dX12_one_160 : decode cX12_one 160 = .ok (.getfield 162, 3) := by decide +kernel
theorem dX12_one_163 : decode cX12_one 163 = .ok (.iconst 1, 1) := by decide +kernel
theorem dX12_one_164 : decode cX12_one 164 = .ok (.isub, 1) := by decide +kernel
theorem dX12_one_165 : decode cX12_one 165 = .ok (.putfield 162, 3) := by decide +kernel
theorem dX12_one_168 : decode cX12_one 168 = .ok (.return_, 1) := by decide +kernel
theorem dX12_one_169 : decode cX12_one 169 = .ok (.aload_n 0, 1) := by decide +kernel
theorem dX12_one_170 : decode cX12_one 170 = .ok (.invokevirtual 236, 3) := by decide +kernel
theorem dX12_one_173 : decode cX12_one 173 = .ok (.istore_n 2, 1) := by decide +kernel
theorem dX12_one_174 : decode cX12_one 174 = .ok (.iload_n 2, 1) := by decide +kernel
theorem dX12_one_175 : decode cX12_one 175 = .ok (.iconst (-1), 1) := by decide +kernel
theorem dX12_one_176 : decode cX12_one 176 = .ok (.if_icmp .eq 12, 3) := by decide +kernel
theorem dX12_one_179 : decode cX12_one 179 = .ok (.aload_n 0, 1) := by decide +kernel
theorem dX12_one_180 : decode cX12_one 180 = .ok (.iconst 1, 1) := by decide +kernel
theorem dX12_one_181 : decode cX12_one 181 = .ok (.iload_n 2, 1) := by decide +kernel
theorem dX12_one_182 : decode cX12_one 182 = .ok (.invokevirtual 220, 3) := by decide +kernel
theorem dX12_one_185 : decode cX12_one 185 = .ok (.goto 16, 3) := by decide +kernel
theorem dX12_one_188 : decode cX12_one 188 = .ok (.aload_n 0, 1) := by decide +kernel
theorem dX12_one_189 : decode cX12_one 189 = .ok (.iconst 0, 1) := by decide +kernel
theorem dX12_one_190 : decode cX12_one 190 = .ok (.aload_n 0, 1) := by decide +kernel
theorem dX12_one_191 : decode cX12_one 191 = .ok (.iconst 0, 1) := by decide +kernel
theorem dX12_one_192 : decode cX12_one 192 = .ok (.sipush 999, 3) := by decide +kernel
theorem dX12_one_195 : decode cX12_one 195 = .ok (.invokevirtual 171, 3) := by decide +kernel
theorem dX12_one_198 : decode cX12_one 198 = .ok (.invokevirtual 220, 3) := by decide +kernel
theorem dX12_one_201 : decode cX12_one 201 = .ok (.return_, 1) := by decide +kernel
theorem dX12_law_0 : decode cX12_law 0 = .ok (.aload_n 0, 1) := by decide +kernel
theorem dX12_law_1 : decode cX12_law 1 = .ok (.iconst 0, 1) := by decide +kernel
theorem dX12_law_2 : decode cX12_law 2 = .ok (.putfield 103, 3) := by decide +kernel
theorem dX12_law_5 : decode cX12_law 5 = .ok (.aload_n 0, 1) := by decide +kernel
theorem dX12_law_6 : decode cX12_law 6 = .ok (.iload_n 1, 1) := by decide +kernel
theorem dX12_law_7 : decode cX12_law 7 = .ok (.iconst 0, 1) := by decide +kernel
theorem dX12_law_8 : decode cX12_law 8 = .ok (.aload_n 0, 1) := by decide +kernel
theorem dX12_law_9 : decode cX12_law 9 = .ok (.getfield 106, 3) := by decide +kernel
theorem dX12_law_12 : decode cX12_law 12 = .ok (.invokestatic 137, 3) := by decide +kernel
theorem dX12_law_15 : decode cX12_law 15 = .ok (.ifCond .eq 10, 3) := by decide +kernel
theorem dX12_law_18 : decode cX12_law 18 = .ok (.iload_n 1, 1) := by decide +kernel
theorem dX12_law_19 : decode cX12_law 19 = .ok (.sipush 150, 3) := by decide +kernel
theorem dX12_law_22 : decode cX12_law 22 = .ok (.if_icmp .le 7, 3) := by decide +kernel
theorem dX12_law_25 : decode cX12_law 25 = .ok (.iconst 1, 1) := by decide +kernel
theorem dX12_law_26 : decode cX12_law 26 = .ok (.goto 4, 3) := by decide +kernel
theorem dX12_law_29 : decode cX12_law 29 = .ok (.iconst 0, 1) := by decide +kernel
theorem dX12_law_30 : decode cX12_law 30 = .ok (.iconst 1, 1) := by decide +kernel
theorem dX12_law_31 : decode cX12_law 31 = .ok (.iconst 1, 1) := by decide +kernel
theorem dX12_law_32 : decode cX12_law 32 = .ok (.invokevirtual 179, 3) := by decide +kernel
theorem dX12_law_35 : decode cX12_law 35 = .ok (.ifCond .eq 5, 3) := by decide +kernel
theorem dX12_law_38 : decode cX12_law 38 = .ok (.iconst 0, 1) := by decide +kernel
theorem dX12_law_39 : decode cX12_law 39 = .ok (.ireturn, 1) := by decide +kernel
theorem dX12_law_40 : decode cX12_law 40 = .ok (.aload_n 0, 1) := by decide +kernel
theorem dX12_law_41 : decode cX12_law 41 = .ok (.iload_n 1, 1) := by decide +kernel
theorem dX12_law_42 : decode cX12_law 42 = .ok (.invokevirtual 183, 3) := by decide +kernel
theorem dX12_law_45 : decode cX12_law 45 = .ok (.aload_n 0, 1) := by decide +kernel
theorem dX12_law_46 : decode cX12_law 46 = .ok (.iconst 0, 1) := by decide +kernel
theorem dX12_law_47 : decode cX12_law 47 = .ok (.putfield 211, 3) := by decide +kernel
theorem dX12_law_50 : decode cX12_law 50 = .ok (.aload_n 0, 1) := by decide +kernel
theorem dX12_law_51 : decode cX12_law 51 = .ok (.invokevirtual 233, 3) := by decide +kernel
theorem dX12_law_54 : decode cX12_law 54 = .ok (.aload_n 0, 1) := by decide +kernel
theorem dX12_law_55 : decode cX12_law 55 = .ok (.invokevirtual 125, 3) := by decide +kernel
theorem dX12_law_58 : decode cX12_law 58 = .ok (.aload_n 0, 1) := by decide +kernel
theorem dX12_law_59 : decode cX12_law 59 = .ok (.getfield 119, 3) := by decide +kernel
theorem dX12_law_62 : decode cX12_law 62 = .ok (.ifCond .ne 23, 3) := by decide +kernel
theorem dX12_law_65 : decode cX12_law 65 = .ok (.aload_n 0, 1) := by decide +kernel
theorem dX12_law_66 : decode cX12_law 66 = .ok (.getfield 112, 3) := by decide +kernel
theorem dX12_law_69 : decode cX12_law 69 = .ok (.aload_n 0, 1) := by decide +kernel
theorem dX12_law_70 : decode cX12_law 70 = .ok (.getfield 109, 3) := by decide +kernel
theorem dX12_law_73 : decode cX12_law 73 = .ok (.if_icmp .ge 12, 3) := by decide +kernel
theorem dX12_law_76 : decode cX12_law 76 = .ok (.aload_n 0, 1) := by decide +kernel
theorem dX12_law_77 : decode cX12_law 77 = .ok (.iconst 1, 1) := by decide +kernel
theorem dX12_law_78 : decode cX12_law 78 = .ok (.aload_n 0, 1) := by decide +kernel
theorem dX12_law_79 : decode cX12_law 79 = .ok (.getfield 112, 3) := by decide +kernel
theorem dX12_law_82 : decode cX12_law 82 = .ok (.invokevirtual 132, 3) := by decide +kernel
theorem dX12_law_85 : decode cX12_law 85 = .ok (.aload_n 0, 1) := by decide +kernel
theorem dX12_law_86 : decode cX12_law 86 = .ok (.getfield 119, 3) := by decide +kernel
theorem dX12_law_89 : decode cX12_law 89 = .ok (.ifCond .eq 8, 3) := by decide +kernel
theorem dX12_law_92 : decode cX12_law 92 = .ok (.aload_n 0, 1) := by decide +kernel
theorem dX12_law_93 : decode cX12_law 93 = .ok (.invokevirtual 189, 3) := by decide +kernel
theorem dX12_law_96 : decode cX12_law 96 = .ok (.ireturn, 1) := by decide +kernel
theorem dX12_law_97 : decode cX12_law 97 = .ok (.aload_n 0, 1) := by decide +kernel
theorem dX12_law_98 : decode cX12_law 98 = .ok (.iconst (-1), 1) := by decide +kernel
theorem dX12_law_99 : decode cX12_law 99 = .ok (.putfield 9, 3) := by decide +kernel
theorem dX12_law_102 : decode cX12_law 102 = .ok (.aload_n 0, 1) := by decide +kernel
theorem dX12_law_103 : decode cX12_law 103 = .ok (.aload_n 0, 1) := by decide +kernel
theorem dX12_law_104 : decode cX12_law 104 = .ok (.getfield 211, 3) := by decide +kernel
theorem dX12_law_107 : decode cX12_law 107 = .ok (.putfield 196, 3) := by decide +kernel
theorem dX12_law_110 : decode cX12_law 110 = .ok (.aload_n 0, 1) := by decide +kernel
theorem dX12_law_111 : decode cX12_law 111 = .ok (.getfield 49, 3) := by decide +kernel
theorem dX12_law_114 : decode cX12_law 114 = .ok (.aload_n 0, 1) := by decide +kernel
theorem dX12_law_115 : decode cX12_law 115 = .ok (.getfield 46, 3) := by decide +kernel
theorem dX12_law_118 : decode cX12_law 118 = .ok (.aload_n 0, 1) := by decide +kernel
theorem dX12_law_119 : decode cX12_law 119 = .ok (.getfield 196, 3) := by decide +kernel
theorem dX12_law_122 : decode cX12_law 122 = .ok (.invokestatic 192, 3) := by decide +kernel
theorem dX12_law_125 : decode cX12_law 125 = .ok (.iconst 1, 1) := by decide +kernel
theorem dX12_law_126 : decode cX12_law 126 = .ok (.ireturn, 1) := by decide +kernel
theorem dX12_by_0 : decode cX12_by 0 = .ok (.iload_n 0, 1) := by decide +kernel
theorem dX12_by_1 : decode cX12_by 1 = .ok (.tableswitch 96 2 7 #[39, 43, 47, 51, 73, 90], 39) := by decide +kernel
theorem dX12_by_40 : decode cX12_by 40 = .ok (.iload_n 1, 1) := by decide +kernel
theorem dX12_by_41 : decode cX12_by 41 = .ok (.iload_n 2, 1) := by decide +kernel
theorem dX12_by_42 : decode cX12_by 42 = .ok (.iadd, 1) := by decide +kernel
theorem dX12_by_43 : decode cX12_by 43 = .ok (.ireturn, 1) := by decide +kernel
theorem dX12_by_44 : decode cX12_by 44 = .ok (.iload_n 1, 1) := by decide +kernel
theorem dX12_by_45 : decode cX12_by 45 = .ok (.iload_n 2, 1) := by decide +kernel
theorem dX12_by_46 : decode cX12_by 46 = .ok (.isub, 1) := by decide +kernel
theorem dX12_by_47 : decode cX12_by 47 = .ok (.ireturn, 1) := by decide +kernel
theorem dX12_by_48 : decode cX12_by 48 = .ok (.iload_n 1, 1) := by decide +kernel
theorem dX12_by_49 : decode cX12_by 49 = .ok (.iload_n 2, 1) := by decide +kernel
theorem dX12_by_50 : decode cX12_by 50 = .ok (.imul, 1) := by decide +kernel
theorem dX12_by_51 : decode cX12_by 51 = .ok (.ireturn, 1) := by decide +kernel
theorem dX12_by_52 : decode cX12_by 52 = .ok (.iload_n 2, 1) := by decide +kernel
theorem dX12_by_53 : decode cX12_by 53 = .ok (.ifCond .ne 7, 3) := by decide +kernel
theorem dX12_by_56 : decode cX12_by 56 = .ok (.iconst 0, 1) := by decide +kernel
theorem dX12_by_57 : decode cX12_by 57 = .ok (.goto 16, 3) := by decide +kernel
theorem dX12_by_60 : decode cX12_by 60 = .ok (.iload_n 2, 1) := by decide +kernel
theorem dX12_by_61 : decode cX12_by 61 = .ok (.iconst (-1), 1) := by decide +kernel
theorem dX12_by_62 : decode cX12_by 62 = .ok (.if_icmp .ne 8, 3) := by decide +kernel
theorem dX12_by_65 : decode cX12_by 65 = .ok (.iload_n 1, 1) := by decide +kernel
theorem dX12_by_66 : decode cX12_by 66 = .ok (.ineg, 1) := by decide +kernel
theorem dX12_by_67 : decode cX12_by 67 = .ok (.goto 6, 3) := by decide +kernel
theorem dX12_by_70 : decode cX12_by 70 = .ok (.iload_n 1, 1) := by decide +kernel
theorem dX12_by_71 : decode cX12_by 71 = .ok (.iload_n 2, 1) := by decide +kernel
theorem dX12_by_72 : decode cX12_by 72 = .ok (.idiv, 1) := by decide +kernel
theorem dX12_by_73 : decode cX12_by 73 = .ok (.ireturn, 1) := by decide +kernel
theorem dX12_by_74 : decode cX12_by 74 = .ok (.iload_n 2, 1) := by decide +kernel
theorem dX12_by_75 : decode cX12_by 75 = .ok (.ifCond .eq 8, 3) := by decide +kernel
theorem dX12_by_78 : decode cX12_by 78 = .ok (.iload_n 2, 1) := by decide +kernel
theorem dX12_by_79 : decode cX12_by 79 = .ok (.iconst (-1), 1) := by decide +kernel
theorem dX12_by_80 : decode cX12_by 80 = .ok (.if_icmp .ne 7, 3) := by decide +kernel
theorem dX12_by_83 : decode cX12_by 83 = .ok (.iconst 0, 1) := by decide +kernel
theorem dX12_by_84 : decode cX12_by 84 = .ok (.goto 6, 3) := by decide +kernel
theorem dX12_by_87 : decode cX12_by 87 = .ok (.iload_n 1, 1) := by decide +kernel
theorem dX12_by_88 : decode cX12_by 88 = .ok (.iload_n 2, 1) := by decide +kernel
theorem dX12_by_89 : decode cX12_by 89 = .ok (.irem, 1) := by decide +kernel
theorem dX12_by_90 : decode cX12_by 90 = .ok (.ireturn, 1) := by decide +kernel
theorem dX12_by_91 : decode cX12_by 91 = .ok (.iload_n 1, 1) := by decide +kernel
theorem dX12_by_92 : decode cX12_by 92 = .ok (.iload_n 2, 1) := by decide +kernel
theorem dX12_by_93 : decode cX12_by 93 = .ok (.invokestatic 239, 3) := by decide +kernel
theorem dX12_by_96 : decode cX12_by 96 = .ok (.ireturn, 1) := by decide +kernel
theorem dX12_by_97 : decode cX12_by 97 = .ok (.iload_n 1, 1) := by decide +kernel
theorem dX12_by_98 : decode cX12_by 98 = .ok (.iload_n 2, 1) := by decide +kernel
theorem dX12_by_99 : decode cX12_by 99 = .ok (.invokestatic 242, 3) := by decide +kernel
theorem dX12_by_102 : decode cX12_by 102 = .ok (.ireturn, 1) := by decide +kernel
theorem dX12_byLaw_0 : decode cX12_byLaw 0 = .ok (.aload_n 0, 1) := by decide +kernel
theorem dX12_byLaw_1 : decode cX12_byLaw 1 = .ok (.getfield 196, 3) := by decide +kernel
theorem dX12_byLaw_4 : decode cX12_byLaw 4 = .ok (.ifCond .ne 27, 3) := by decide +kernel
theorem dX12_byLaw_7 : decode cX12_byLaw 7 = .ok (.iconst 1, 1) := by decide +kernel
theorem dX12_byLaw_8 : decode cX12_byLaw 8 = .ok (.aload_n 0, 1) := by decide +kernel
theorem dX12_byLaw_9 : decode cX12_byLaw 9 = .ok (.getfield 61, 3) := by decide +kernel
theorem dX12_byLaw_12 : decode cX12_byLaw 12 = .ok (.iconst 0, 1) := by decide +kernel
theorem dX12_byLaw_13 : decode cX12_byLaw 13 = .ok (.iaload, 1) := by decide +kernel
theorem dX12_byLaw_14 : decode cX12_byLaw 14 = .ok (.bipush 12, 2) := by decide +kernel
theorem dX12_byLaw_16 : decode cX12_byLaw 16 = .ok (.isub, 1) := by decide +kernel
theorem dX12_byLaw_17 : decode cX12_byLaw 17 = .ok (.bipush 12, 2) := by decide +kernel
theorem dX12_byLaw_19 : decode cX12_byLaw 19 = .ok (.aload_n 0, 1) := by decide +kernel
theorem dX12_byLaw_20 : decode cX12_byLaw 20 = .ok (.getfield 61, 3) := by decide +kernel
theorem dX12_byLaw_23 : decode cX12_byLaw 23 = .ok (.iconst 0, 1) := by decide +kernel
theorem dX12_byLaw_24 : decode cX12_byLaw 24 = .ok (.iaload, 1) := by decide +kernel
theorem dX12_byLaw_25 : decode cX12_byLaw 25 = .ok (.isub, 1) := by decide +kernel
theorem dX12_byLaw_26 : decode cX12_byLaw 26 = .ok (.invokestatic 242, 3) := by decide +kernel
theorem dX12_byLaw_29 : decode cX12_byLaw 29 = .ok (.isub, 1) := by decide +kernel
theorem dX12_byLaw_30 : decode cX12_byLaw 30 = .ok (.ireturn, 1) := by decide +kernel
theorem dX12_byLaw_31 : decode cX12_byLaw 31 = .ok (.iconst 0, 1) := by decide +kernel
theorem dX12_byLaw_32 : decode cX12_byLaw 32 = .ok (.istore_n 1, 1) := by decide +kernel
theorem dX12_byLaw_33 : decode cX12_byLaw 33 = .ok (.iconst 0, 1) := by decide +kernel
theorem dX12_byLaw_34 : decode cX12_byLaw 34 = .ok (.istore_n 2, 1) := by decide +kernel
theorem dX12_byLaw_35 : decode cX12_byLaw 35 = .ok (.iload_n 2, 1) := by decide +kernel
theorem dX12_byLaw_36 : decode cX12_byLaw 36 = .ok (.aload_n 0, 1) := by decide +kernel
theorem dX12_byLaw_37 : decode cX12_byLaw 37 = .ok (.getfield 196, 3) := by decide +kernel
theorem dX12_byLaw_40 : decode cX12_byLaw 40 = .ok (.if_icmp .ge 104, 3) := by decide +kernel
theorem dX12_byLaw_43 : decode cX12_byLaw 43 = .ok (.aload_n 0, 1) := by decide +kernel
theorem dX12_byLaw_44 : decode cX12_byLaw 44 = .ok (.getfield 46, 3) := by decide +kernel
theorem dX12_byLaw_47 : decode cX12_byLaw 47 = .ok (.iload_n 2, 1) := by decide +kernel
theorem dX12_byLaw_48 : decode cX12_byLaw 48 = .ok (.aaload, 1) := by decide +kernel
theorem dX12_byLaw_49 : decode cX12_byLaw 49 = .ok (.iconst 0, 1) := by decide +kernel
theorem dX12_byLaw_50 : decode cX12_byLaw 50 = .ok (.iaload, 1) := by decide +kernel
theorem dX12_byLaw_51 : decode cX12_byLaw 51 = .ok (.iconst 2, 1) := by decide +kernel
theorem dX12_byLaw_52 : decode cX12_byLaw 52 = .ok (.if_icmp .ge 50, 3) := by decide +kernel
theorem dX12_byLaw_55 : decode cX12_byLaw 55 = .ok (.aload_n 0, 1) := by decide +kernel
theorem dX12_byLaw_56 : decode cX12_byLaw 56 = .ok (.getfield 58, 3) := by decide +kernel
theorem dX12_byLaw_59 : decode cX12_byLaw 59 = .ok (.iload_n 1, 1) := by decide +kernel
theorem dX12_byLaw_60 : decode cX12_byLaw 60 = .ok (.aload_n 0, 1) := by decide +kernel
theorem dX12_byLaw_61 : decode cX12_byLaw 61 = .ok (.getfield 46, 3) := by decide +kernel
theorem dX12_byLaw_64 : decode cX12_byLaw 64 = .ok (.iload_n 2, 1) := by decide +kernel
theorem dX12_byLaw_65 : decode cX12_byLaw 65 = .ok (.aaload, 1) := by decide +kernel
theorem dX12_byLaw_66 : decode cX12_byLaw 66 = .ok (.iconst 0, 1) := by decide +kernel
theorem dX12_byLaw_67 : decode cX12_byLaw 67 = .ok (.iaload, 1) := by decide +kernel
theorem dX12_byLaw_68 : decode cX12_byLaw 68 = .ok (.ifCond .ne 14, 3) := by decide +kernel
theorem dX12_byLaw_71 : decode cX12_byLaw 71 = .ok (.aload_n 0, 1) := by decide +kernel
theorem dX12_byLaw_72 : decode cX12_byLaw 72 = .ok (.getfield 46, 3) := by decide +kernel
theorem dX12_byLaw_75 : decode cX12_byLaw 75 = .ok (.iload_n 2, 1) := by decide +kernel
theorem dX12_byLaw_76 : decode cX12_byLaw 76 = .ok (.aaload, 1) := by decide +kernel
theorem dX12_byLaw_77 : decode cX12_byLaw 77 = .ok (.iconst 1, 1) := by decide +kernel
theorem dX12_byLaw_78 : decode cX12_byLaw 78 = .ok (.iaload, 1) := by decide +kernel
theorem dX12_byLaw_79 : decode cX12_byLaw 79 = .ok (.goto 16, 3) := by decide +kernel
theorem dX12_byLaw_82 : decode cX12_byLaw 82 = .ok (.aload_n 0, 1) := by decide +kernel
theorem dX12_byLaw_83 : decode cX12_byLaw 83 = .ok (.getfield 61, 3) := by decide +kernel
theorem dX12_byLaw_86 : decode cX12_byLaw 86 = .ok (.aload_n 0, 1) := by decide +kernel
theorem dX12_byLaw_87 : decode cX12_byLaw 87 = .ok (.getfield 46, 3) := by decide +kernel
theorem dX12_byLaw_90 : decode cX12_byLaw 90 = .ok (.iload_n 2, 1) := by decide +kernel
theorem dX12_byLaw_91 : decode cX12_byLaw 91 = .ok (.aaload, 1) := by decide +kernel
theorem dX12_byLaw_92 : decode cX12_byLaw 92 = .ok (.iconst 1, 1) := by decide +kernel
theorem dX12_byLaw_93 : decode cX12_byLaw 93 = .ok (.iaload, 1) := by decide +kernel
theorem dX12_byLaw_94 : decode cX12_byLaw 94 = .ok (.iaload, 1) := by decide +kernel
theorem dX12_byLaw_95 : decode cX12_byLaw 95 = .ok (.iastore, 1) := by decide +kernel
theorem dX12_byLaw_96 : decode cX12_byLaw 96 = .ok (.iinc 1 1, 3) := by decide +kernel
theorem dX12_byLaw_99 : decode cX12_byLaw 99 = .ok (.goto 39, 3) := by decide +kernel
theorem dX12_byLaw_102 : decode cX12_byLaw 102 = .ok (.iinc 1 (-1), 3) := by decide +kernel
theorem dX12_byLaw_105 : decode cX12_byLaw 105 = .ok (.aload_n 0, 1) := by decide +kernel
theorem dX12_byLaw_106 : decode cX12_byLaw 106 = .ok (.getfield 58, 3) := by decide +kernel
theorem dX12_byLaw_109 : decode cX12_byLaw 109 = .ok (.iload_n 1, 1) := by decide +kernel
theorem dX12_byLaw_110 : decode cX12_byLaw 110 = .ok (.iconst 1, 1) := by decide +kernel
theorem dX12_byLaw_111 : decode cX12_byLaw 111 = .ok (.isub, 1) := by decide +kernel
theorem dX12_byLaw_112 : decode cX12_byLaw 112 = .ok (.aload_n 0, 1) := by decide +kernel
theorem dX12_byLaw_113 : decode cX12_byLaw 113 = .ok (.getfield 46, 3) := by decide +kernel
theorem dX12_byLaw_116 : decode cX12_byLaw 116 = .ok (.iload_n 2, 1) := by decide +kernel
theorem dX12_byLaw_117 : decode cX12_byLaw 117 = .ok (.aaload, 1) := by decide +kernel
theorem dX12_byLaw_118 : decode cX12_byLaw 118 = .ok (.iconst 0, 1) := by decide +kernel
theorem dX12_byLaw_119 : decode cX12_byLaw 119 = .ok (.iaload, 1) := by decide +kernel
theorem dX12_byLaw_120 : decode cX12_byLaw 120 = .ok (.aload_n 0, 1) := by decide +kernel
theorem dX12_byLaw_121 : decode cX12_byLaw 121 = .ok (.getfield 58, 3) := by decide +kernel
theorem dX12_byLaw_124 : decode cX12_byLaw 124 = .ok (.iload_n 1, 1) := by decide +kernel
theorem dX12_byLaw_125 : decode cX12_byLaw 125 = .ok (.iconst 1, 1) := by decide +kernel
theorem dX12_byLaw_126 : decode cX12_byLaw 126 = .ok (.isub, 1) := by decide +kernel
theorem dX12_byLaw_127 : decode cX12_byLaw 127 = .ok (.iaload, 1) := by decide +kernel
theorem dX12_byLaw_128 : decode cX12_byLaw 128 = .ok (.aload_n 0, 1) := by decide +kernel
theorem dX12_byLaw_129 : decode cX12_byLaw 129 = .ok (.getfield 58, 3) := by decide +kernel
theorem dX12_byLaw_132 : decode cX12_byLaw 132 = .ok (.iload_n 1, 1) := by decide +kernel
theorem dX12_byLaw_133 : decode cX12_byLaw 133 = .ok (.iaload, 1) := by decide +kernel
theorem dX12_byLaw_134 : decode cX12_byLaw 134 = .ok (.invokestatic 245, 3) := by decide +kernel
theorem dX12_byLaw_137 : decode cX12_byLaw 137 = .ok (.iastore, 1) := by decide +kernel
theorem dX12_byLaw_138 : decode cX12_byLaw 138 = .ok (.iinc 2 1, 3) := by decide +kernel
theorem dX12_byLaw_141 : decode cX12_byLaw 141 = .ok (.goto (-106), 3) := by decide +kernel
theorem dX12_byLaw_144 : decode cX12_byLaw 144 = .ok (.aload_n 0, 1) := by decide +kernel
theorem dX12_byLaw_145 : decode cX12_byLaw 145 = .ok (.getfield 58, 3) := by decide +kernel
theorem dX12_byLaw_148 : decode cX12_byLaw 148 = .ok (.iconst 0, 1) := by decide +kernel
theorem dX12_byLaw_149 : decode cX12_byLaw 149 = .ok (.iaload, 1) := by decide +kernel
theorem dX12_byLaw_150 : decode cX12_byLaw 150 = .ok (.ireturn, 1) := by decide +kernel
theorem dX12_stepHere_0 : decode cX12_stepHere 0 = .ok (.aload_n 0, 1) := by decide +kernel
theorem dX12_stepHere_1 : decode cX12_stepHere 1 = .ok (.bipush 12, 2) := by decide +kernel
theorem dX12_stepHere_3 : decode cX12_stepHere 3 = .ok (.bipush 9, 2) := by decide +kernel
theorem dX12_stepHere_5 : decode cX12_stepHere 5 = .ok (.bipush 6, 2) := by decide +kernel
theorem dX12_stepHere_7 : decode cX12_stepHere 7 = .ok (.bipush 20, 2) := by decide +kernel
theorem dX12_stepHere_9 : decode cX12_stepHere 9 = .ok (.iconst 0, 1) := by decide +kernel
theorem dX12_stepHere_10 : decode cX12_stepHere 10 = .ok (.iconst 0, 1) := by decide +kernel
theorem dX12_stepHere_11 : decode cX12_stepHere 11 = .ok (.invokevirtual 152, 3) := by decide +kernel
theorem dX12_stepHere_14 : decode cX12_stepHere 14 = .ok (.ifCond .eq 5, 3) := by decide +kernel
theorem dX12_stepHere_17 : decode cX12_stepHere 17 = .ok (.iconst 0, 1) := by decide +kernel
theorem dX12_stepHere_18 : decode cX12_stepHere 18 = .ok (.ireturn, 1) := by decide +kernel
theorem dX12_stepHere_19 : decode cX12_stepHere 19 = .ok (.aload_n 0, 1) := by decide +kernel
theorem dX12_stepHere_20 : decode cX12_stepHere 20 = .ok (.bipush 19, 2) := by decide +kernel
theorem dX12_stepHere_22 : decode cX12_stepHere 22 = .ok (.bipush 8, 2) := by decide +kernel
theorem dX12_stepHere_24 : decode cX12_stepHere 24 = .ok (.bipush 21, 2) := by decide +kernel
theorem dX12_stepHere_26 : decode cX12_stepHere 26 = .ok (.bipush 20, 2) := by decide +kernel
theorem dX12_stepHere_28 : decode cX12_stepHere 28 = .ok (.iconst 0, 1) := by decide +kernel
theorem dX12_stepHere_29 : decode cX12_stepHere 29 = .ok (.iconst 0, 1) := by decide +kernel
theorem dX12_stepHere_30 : decode cX12_stepHere 30 = .ok (.invokevirtual 152, 3) := by decide +kernel
theorem dX12_stepHere_33 : decode cX12_stepHere 33 = .ok (.ifCond .eq 5, 3) := by decide +kernel
theorem dX12_stepHere_36 : decode cX12_stepHere 36 = .ok (.iconst 1, 1) := by decide +kernel
theorem dX12_stepHere_37 : decode cX12_stepHere 37 = .ok (.ireturn, 1) := by decide +kernel
theorem dX12_stepHere_38 : decode cX12_stepHere 38 = .ok (.aload_n 0, 1) := by decide +kernel
theorem dX12_stepHere_39 : decode cX12_stepHere 39 = .ok (.bipush 12, 2) := by decide +kernel
theorem dX12_stepHere_41 : decode cX12_stepHere 41 = .ok (.iconst 5, 1) := by decide +kernel
theorem dX12_stepHere_42 : decode cX12_stepHere 42 = .ok (.iconst 1, 1) := by decide +kernel
theorem dX12_stepHere_43 : decode cX12_stepHere 43 = .ok (.bipush 22, 2) := by decide +kernel
theorem dX12_stepHere_45 : decode cX12_stepHere 45 = .ok (.iconst 5, 1) := by decide +kernel
theorem dX12_stepHere_46 : decode cX12_stepHere 46 = .ok (.iconst 0, 1) := by decide +kernel
theorem dX12_stepHere_47 : decode cX12_stepHere 47 = .ok (.invokevirtual 152, 3) := by decide +kernel
theorem dX12_stepHere_50 : decode cX12_stepHere 50 = .ok (.ifCond .eq 5, 3) := by decide +kernel
theorem dX12_stepHere_53 : decode cX12_stepHere 53 = .ok (.iconst 2, 1) := by decide +kernel
theorem dX12_stepHere_54 : decode cX12_stepHere 54 = .ok (.ireturn, 1) := by decide +kernel
theorem dX12_stepHere_55 : decode cX12_stepHere 55 = .ok (.aload_n 0, 1) := by decide +kernel
theorem dX12_stepHere_56 : decode cX12_stepHere 56 = .ok (.bipush 8, 2) := by decide +kernel
theorem dX12_stepHere_58 : decode cX12_stepHere 58 = .ok (.bipush 15, 2) := by decide +kernel
theorem dX12_stepHere_60 : decode cX12_stepHere 60 = .ok (.bipush 21, 2) := by decide +kernel
theorem dX12_stepHere_62 : decode cX12_stepHere 62 = .ok (.bipush 18, 2) := by decide +kernel
theorem dX12_stepHere_64 : decode cX12_stepHere 64 = .ok (.iconst 0, 1) := by decide +kernel
theorem dX12_stepHere_65 : decode cX12_stepHere 65 = .ok (.iconst 0, 1) := by decide +kernel
theorem dX12_stepHere_66 : decode cX12_stepHere 66 = .ok (.invokevirtual 152, 3) := by decide +kernel
theorem dX12_stepHere_69 : decode cX12_stepHere 69 = .ok (.ifCond .eq 5, 3) := by decide +kernel
theorem dX12_stepHere_72 : decode cX12_stepHere 72 = .ok (.iconst 3, 1) := by decide +kernel
theorem dX12_stepHere_73 : decode cX12_stepHere 73 = .ok (.ireturn, 1) := by decide +kernel
theorem dX12_stepHere_74 : decode cX12_stepHere 74 = .ok (.aload_n 0, 1) := by decide +kernel
theorem dX12_stepHere_75 : decode cX12_stepHere 75 = .ok (.iconst 1, 1) := by decide +kernel
theorem dX12_stepHere_76 : decode cX12_stepHere 76 = .ok (.bipush 7, 2) := by decide +kernel
theorem dX12_stepHere_78 : decode cX12_stepHere 78 = .ok (.iconst 1, 1) := by decide +kernel
theorem dX12_stepHere_79 : decode cX12_stepHere 79 = .ok (.bipush 9, 2) := by decide +kernel
theorem dX12_stepHere_81 : decode cX12_stepHere 81 = .ok (.bipush 14, 2) := by decide +kernel
theorem dX12_stepHere_83 : decode cX12_stepHere 83 = .ok (.iconst 0, 1) := by decide +kernel
theorem dX12_stepHere_84 : decode cX12_stepHere 84 = .ok (.invokevirtual 152, 3) := by decide +kernel
theorem dX12_stepHere_87 : decode cX12_stepHere 87 = .ok (.ifCond .eq 7, 3) := by decide +kernel
theorem dX12_stepHere_90 : decode cX12_stepHere 90 = .ok (.iconst 4, 1) := by decide +kernel
theorem dX12_stepHere_91 : decode cX12_stepHere 91 = .ok (.goto 4, 3) := by decide +kernel
theorem dX12_stepHere_94 : decode cX12_stepHere 94 = .ok (.iconst (-1), 1) := by decide +kernel
theorem dX12_stepHere_95 : decode cX12_stepHere 95 = .ok (.ireturn, 1) := by decide +kernel
theorem dX12_readsStep_0 : decode cX12_readsStep 0 = .ok (.aload_n 0, 1) := by decide +kernel
theorem dX12_readsStep_1 : decode cX12_readsStep 1 = .ok (.invokevirtual 249, 3) := by decide +kernel
theorem dX12_readsStep_4 : decode cX12_readsStep 4 = .ok (.istore_n 1, 1) := by decide +kernel
theorem dX12_readsStep_5 : decode cX12_readsStep 5 = .ok (.iload_n 1, 1) := by decide +kernel
theorem dX12_readsStep_6 : decode cX12_readsStep 6 = .ok (.iconst (-1), 1) := by decide +kernel
theorem dX12_readsStep_7 : decode cX12_readsStep 7 = .ok (.if_icmp .ne 12, 3) := by decide +kernel
theorem dX12_readsStep_10 : decode cX12_readsStep 10 = .ok (.aload_n 0, 1) := by decide +kernel
theorem dX12_readsStep_11 : decode cX12_readsStep 11 = .ok (.iconst 1, 1) := by decide +kernel
theorem dX12_readsStep_12 : decode cX12_readsStep 12 = .ok (.aload_n 0, 1) := by decide +kernel
theorem dX12_readsStep_13 : decode cX12_readsStep 13 = .ok (.getfield 112, 3) := by decide +kernel
theorem dX12_readsStep_16 : decode cX12_readsStep 16 = .ok (.invokevirtual 132, 3) := by decide +kernel
theorem dX12_readsStep_19 : decode cX12_readsStep 19 = .ok (.iload_n 1, 1) := by decide +kernel
theorem dX12_readsStep_20 : decode cX12_readsStep 20 = .ok (.iconst 4, 1) := by decide +kernel
theorem dX12_readsStep_21 : decode cX12_readsStep 21 = .ok (.if_icmp .ne 11, 3) := by decide +kernel
theorem dX12_readsStep_24 : decode cX12_readsStep 24 = .ok (.aload_n 0, 1) := by decide +kernel
theorem dX12_readsStep_25 : decode cX12_readsStep 25 = .ok (.invokevirtual 229, 3) := by decide +kernel
theorem dX12_readsStep_28 : decode cX12_readsStep 28 = .ok (.ifCond .ne 4, 3) := by decide +kernel
theorem dX12_readsStep_31 : decode cX12_readsStep 31 = .ok (.return_, 1) := by decide +kernel
theorem dX12_readsStep_32 : decode cX12_readsStep 32 = .ok (.aload_n 0, 1) := by decide +kernel
theorem dX12_readsStep_33 : decode cX12_readsStep 33 = .ok (.getfield 119, 3) := by decide +kernel
theorem dX12_readsStep_36 : decode cX12_readsStep 36 = .ok (.ifCond .eq 4, 3) := by decide +kernel
theorem dX12_readsStep_39 : decode cX12_readsStep 39 = .ok (.return_, 1) := by decide +kernel
theorem dX12_readsStep_40 : decode cX12_readsStep 40 = .ok (.aload_n 0, 1) := by decide +kernel
theorem dX12_readsStep_41 : decode cX12_readsStep 41 = .ok (.invokevirtual 156, 3) := by decide +kernel
theorem dX12_readsStep_44 : decode cX12_readsStep 44 = .ok (.aload_n 0, 1) := by decide +kernel
theorem dX12_readsStep_45 : decode cX12_readsStep 45 = .ok (.getfield 64, 3) := by decide +kernel
theorem dX12_readsStep_48 : decode cX12_readsStep 48 = .ok (.aload_n 0, 1) := by decide +kernel
theorem dX12_readsStep_49 : decode cX12_readsStep 49 = .ok (.getfield 252, 3) := by decide +kernel
theorem dX12_readsStep_52 : decode cX12_readsStep 52 = .ok (.aaload, 1) := by decide +kernel
theorem dX12_readsStep_53 : decode cX12_readsStep 53 = .ok (.astore_n 2, 1) := by decide +kernel
theorem dX12_readsStep_54 : decode cX12_readsStep 54 = .ok (.aload_n 0, 1) := by decide +kernel
theorem dX12_readsStep_55 : decode cX12_readsStep 55 = .ok (.dup, 1) := by decide +kernel
theorem dX12_readsStep_56 : decode cX12_readsStep 56 = .ok (.getfield 252, 3) := by decide +kernel
theorem dX12_readsStep_59 : decode cX12_readsStep 59 = .ok (.iconst 1, 1) := by decide +kernel
theorem dX12_readsStep_60 : decode cX12_readsStep 60 = .ok (.iadd, 1) := by decide +kernel
theorem dX12_readsStep_61 : decode cX12_readsStep 61 = .ok (.putfield 252, 3) := by decide +kernel
theorem dX12_readsStep_64 : decode cX12_readsStep 64 = .ok (.aload_n 2, 1) := by decide +kernel
theorem dX12_readsStep_65 : decode cX12_readsStep 65 = .ok (.iconst 0, 1) := by decide +kernel
theorem dX12_readsStep_66 : decode cX12_readsStep 66 = .ok (.iload_n 1, 1) := by decide +kernel
theorem dX12_readsStep_67 : decode cX12_readsStep 67 = .ok (.iastore, 1) := by decide +kernel
theorem dX12_readsStep_68 : decode cX12_readsStep 68 = .ok (.iload_n 1, 1) := by decide +kernel
theorem dX12_readsStep_69 : decode cX12_readsStep 69 = .ok (.iconst 3, 1) := by decide +kernel
theorem dX12_readsStep_70 : decode cX12_readsStep 70 = .ok (.if_icmp .ge 19, 3) := by decide +kernel
theorem dX12_readsStep_73 : decode cX12_readsStep 73 = .ok (.aload_n 2, 1) := by decide +kernel
theorem dX12_readsStep_74 : decode cX12_readsStep 74 = .ok (.iconst 1, 1) := by decide +kernel
theorem dX12_readsStep_75 : decode cX12_readsStep 75 = .ok (.aload_n 0, 1) := by decide +kernel
theorem dX12_readsStep_76 : decode cX12_readsStep 76 = .ok (.iconst 0, 1) := by decide +kernel
theorem dX12_readsStep_77 : decode cX12_readsStep 77 = .ok (.aload_n 0, 1) := by decide +kernel
theorem dX12_readsStep_78 : decode cX12_readsStep 78 = .ok (.getfield 23, 3) := by decide +kernel
theorem dX12_readsStep_81 : decode cX12_readsStep 81 = .ok (.iconst 0, 1) := by decide +kernel
theorem dX12_readsStep_82 : decode cX12_readsStep 82 = .ok (.iaload, 1) := by decide +kernel
theorem dX12_readsStep_83 : decode cX12_readsStep 83 = .ok (.iconst 1, 1) := by decide +kernel
theorem dX12_readsStep_84 : decode cX12_readsStep 84 = .ok (.isub, 1) := by decide +kernel
theorem dX12_readsStep_85 : decode cX12_readsStep 85 = .ok (.invokevirtual 171, 3) := by decide +kernel
theorem dX12_readsStep_88 : decode cX12_readsStep 88 = .ok (.iastore, 1) := by decide +kernel
theorem dX12_readsStep_89 : decode cX12_readsStep 89 = .ok (.iload_n 1, 1) := by decide +kernel
theorem dX12_readsStep_90 : decode cX12_readsStep 90 = .ok (.iconst 4, 1) := by decide +kernel
theorem dX12_readsStep_91 : decode cX12_readsStep 91 = .ok (.if_icmp .ne 70, 3) := by decide +kernel
theorem dX12_readsStep_94 : decode cX12_readsStep 94 = .ok (.aload_n 2, 1) := by decide +kernel
theorem dX12_readsStep_95 : decode cX12_readsStep 95 = .ok (.iconst 1, 1) := by decide +kernel
theorem dX12_readsStep_96 : decode cX12_readsStep 96 = .ok (.aload_n 0, 1) := by decide +kernel
theorem dX12_readsStep_97 : decode cX12_readsStep 97 = .ok (.iconst 0, 1) := by decide +kernel
theorem dX12_readsStep_98 : decode cX12_readsStep 98 = .ok (.bipush 60, 2) := by decide +kernel
theorem dX12_readsStep_100 : decode cX12_readsStep 100 = .ok (.invokevirtual 171, 3) := by decide +kernel
theorem dX12_readsStep_103 : decode cX12_readsStep 103 = .ok (.iastore, 1) := by decide +kernel
theorem dX12_readsStep_104 : decode cX12_readsStep 104 = .ok (.aload_n 0, 1) := by decide +kernel
theorem dX12_readsStep_105 : decode cX12_readsStep 105 = .ok (.bipush 91, 2) := by decide +kernel
theorem dX12_readsStep_107 : decode cX12_readsStep 107 = .ok (.invokevirtual 175, 3) := by decide +kernel
theorem dX12_readsStep_110 : decode cX12_readsStep 110 = .ok (.aload_n 0, 1) := by decide +kernel
theorem dX12_readsStep_111 : decode cX12_readsStep 111 = .ok (.invokevirtual 125, 3) := by decide +kernel
theorem dX12_readsStep_114 : decode cX12_readsStep 114 = .ok (.aload_n 0, 1) := by decide +kernel
theorem dX12_readsStep_115 : decode cX12_readsStep 115 = .ok (.getfield 119, 3) := by decide +kernel
theorem dX12_readsStep_118 : decode cX12_readsStep 118 = .ok (.ifCond .ne 27, 3) := by decide +kernel
theorem dX12_readsStep_121 : decode cX12_readsStep 121 = .ok (.aload_n 0, 1) := by decide +kernel
theorem dX12_readsStep_122 : decode cX12_readsStep 122 = .ok (.aload_n 0, 1) := by decide +kernel
theorem dX12_readsStep_123 : decode cX12_readsStep 123 = .ok (.getfield 112, 3) := by decide +kernel
theorem dX12_readsStep_126 : decode cX12_readsStep 126 = .ok (.invokevirtual 115, 3) := by decide +kernel
theorem dX12_readsStep_129 : decode cX12_readsStep 129 = .ok (.bipush 93, 2) := by decide +kernel
theorem dX12_readsStep_131 : decode cX12_readsStep 131 = .ok (.if_icmp .eq 14, 3) := by decide +kernel
theorem dX12_readsStep_134 : decode cX12_readsStep 134 = .ok (.aload_n 0, 1) := by decide +kernel
theorem dX12_readsStep_135 : decode cX12_readsStep 135 = .ok (.invokevirtual 255, 3) := by decide +kernel
theorem dX12_readsStep_138 : decode cX12_readsStep 138 = .ok (.aload_n 0, 1) := by decide +kernel
theorem dX12_readsStep_139 : decode cX12_readsStep 139 = .ok (.invokevirtual 125, 3) := by decide +kernel
theorem dX12_readsStep_142 : decode cX12_readsStep 142 = .ok (.goto (-28), 3) := by decide +kernel
theorem dX12_readsStep_145 : decode cX12_readsStep 145 = .ok (.aload_n 0, 1) := by decide +kernel
theorem dX12_readsStep_146 : decode cX12_readsStep 146 = .ok (.bipush 93, 2) := by decide +kernel
theorem dX12_readsStep_148 : decode cX12_readsStep 148 = .ok (.invokevirtual 175, 3) := by decide +kernel
theorem dX12_readsStep_151 : decode cX12_readsStep 151 = .ok (.aload_n 0, 1) := by decide +kernel
theorem dX12_readsStep_152 : decode cX12_readsStep 152 = .ok (.dup, 1) := by decide +kernel
theorem dX12_readsStep_153 : decode cX12_readsStep 153 = .ok (.getfield 162, 3) := by decide +kernel
theorem dX12_readsStep_156 : decode cX12_readsStep 156 = .ok (.iconst 1, 1) := by decide +kernel
theorem dX12_readsStep_157 : decode cX12_readsStep 157 = .ok (.isub, 1) := by decide +kernel
theorem dX12_readsStep_158 : decode cX12_readsStep 158 = .ok (.putfield 162, 3) := by decide +kernel
theorem dX12_readsStep_161 : decode cX12_readsStep 161 = .ok (.aload_n 2, 1) := by decide +kernel
theorem dX12_readsStep_162 : decode cX12_readsStep 162 = .ok (.iconst 2, 1) := by decide +kernel
theorem dX12_readsStep_163 : decode cX12_readsStep 163 = .ok (.aload_n 0, 1) := by decide +kernel
theorem dX12_readsStep_164 : decode cX12_readsStep 164 = .ok (.getfield 252, 3) := by decide +kernel
theorem dX12_readsStep_167 : decode cX12_readsStep 167 = .ok (.iastore, 1) := by decide +kernel
theorem dX12_readsStep_168 : decode cX12_readsStep 168 = .ok (.aload_n 0, 1) := by decide +kernel
theorem dX12_readsStep_169 : decode cX12_readsStep 169 = .ok (.bipush 59, 2) := by decide +kernel
theorem dX12_readsStep_171 : decode cX12_readsStep 171 = .ok (.invokevirtual 175, 3) := by decide +kernel
theorem dX12_readsStep_174 : decode cX12_readsStep 174 = .ok (.return_, 1) := by decide +kernel
theorem dX12_book_0 : decode cX12_book 0 = .ok (.aload_n 0, 1) := by decide +kernel
theorem dX12_book_1 : decode cX12_book 1 = .ok (.iconst 0, 1) := by decide +kernel
theorem dX12_book_2 : decode cX12_book 2 = .ok (.putfield 103, 3) := by decide +kernel
theorem dX12_book_5 : decode cX12_book 5 = .ok (.aload_n 0, 1) := by decide +kernel
theorem dX12_book_6 : decode cX12_book 6 = .ok (.iload_n 1, 1) := by decide +kernel
theorem dX12_book_7 : decode cX12_book 7 = .ok (.iconst 0, 1) := by decide +kernel
theorem dX12_book_8 : decode cX12_book 8 = .ok (.aload_n 0, 1) := by decide +kernel
theorem dX12_book_9 : decode cX12_book 9 = .ok (.getfield 106, 3) := by decide +kernel
theorem dX12_book_12 : decode cX12_book 12 = .ok (.invokestatic 137, 3) := by decide +kernel
theorem dX12_book_15 : decode cX12_book 15 = .ok (.ifCond .eq 9, 3) := by decide +kernel
theorem dX12_book_18 : decode cX12_book 18 = .ok (.iload_n 1, 1) := by decide +kernel
theorem dX12_book_19 : decode cX12_book 19 = .ok (.bipush 100, 2) := by decide +kernel
theorem dX12_book_21 : decode cX12_book 21 = .ok (.if_icmp .le 7, 3) := by decide +kernel
theorem dX12_book_24 : decode cX12_book 24 = .ok (.iconst 1, 1) := by decide +kernel
theorem dX12_book_25 : decode cX12_book 25 = .ok (.goto 4, 3) := by decide +kernel
theorem dX12_book_28 : decode cX12_book 28 = .ok (.iconst 0, 1) := by decide +kernel
theorem dX12_book_29 : decode cX12_book 29 = .ok (.iconst 1, 1) := by decide +kernel
theorem dX12_book_30 : decode cX12_book 30 = .ok (.iconst 1, 1) := by decide +kernel
theorem dX12_book_31 : decode cX12_book 31 = .ok (.invokevirtual 179, 3) := by decide +kernel
theorem dX12_book_34 : decode cX12_book 34 = .ok (.ifCond .eq 5, 3) := by decide +kernel
theorem dX12_book_37 : decode cX12_book 37 = .ok (.iconst 0, 1) := by decide +kernel
theorem dX12_book_38 : decode cX12_book 38 = .ok (.ireturn, 1) := by decide +kernel
theorem dX12_book_39 : decode cX12_book 39 = .ok (.aload_n 0, 1) := by decide +kernel
theorem dX12_book_40 : decode cX12_book 40 = .ok (.iload_n 1, 1) := by decide +kernel
theorem dX12_book_41 : decode cX12_book 41 = .ok (.invokevirtual 183, 3) := by decide +kernel
theorem dX12_book_44 : decode cX12_book 44 = .ok (.iconst 0, 1) := by decide +kernel
theorem dX12_book_45 : decode cX12_book 45 = .ok (.istore_n 2, 1) := by decide +kernel
theorem dX12_book_46 : decode cX12_book 46 = .ok (.iconst 0, 1) := by decide +kernel
theorem dX12_book_47 : decode cX12_book 47 = .ok (.istore_n 3, 1) := by decide +kernel
theorem dX12_book_48 : decode cX12_book 48 = .ok (.aload_n 0, 1) := by decide +kernel
theorem dX12_book_49 : decode cX12_book 49 = .ok (.getfield 119, 3) := by decide +kernel
theorem dX12_book_52 : decode cX12_book 52 = .ok (.ifCond .ne 137, 3) := by decide +kernel
theorem dX12_book_55 : decode cX12_book 55 = .ok (.aload_n 0, 1) := by decide +kernel
theorem dX12_book_56 : decode cX12_book 56 = .ok (.getfield 112, 3) := by decide +kernel
theorem dX12_book_59 : decode cX12_book 59 = .ok (.aload_n 0, 1) := by decide +kernel
theorem dX12_book_60 : decode cX12_book 60 = .ok (.getfield 109, 3) := by decide +kernel
theorem dX12_book_63 : decode cX12_book 63 = .ok (.if_icmp .ge 126, 3) := by decide +kernel
theorem dX12_book_66 : decode cX12_book 66 = .ok (.aload_n 0, 1) := by decide +kernel
theorem dX12_book_67 : decode cX12_book 67 = .ok (.getfield 112, 3) := by decide +kernel
theorem dX12_book_70 : decode cX12_book 70 = .ok (.istore 4, 2) := by decide +kernel
theorem dX12_book_72 : decode cX12_book 72 = .ok (.aload_n 0, 1) := by decide +kernel
theorem dX12_book_73 : decode cX12_book 73 = .ok (.iconst 0, 1) := by decide +kernel
theorem dX12_book_74 : decode cX12_book 74 = .ok (.aload_n 0, 1) := by decide +kernel
theorem dX12_book_75 : decode cX12_book 75 = .ok (.getfield 23, 3) := by decide +kernel
theorem dX12_book_78 : decode cX12_book 78 = .ok (.iconst 0, 1) := by decide +kernel
theorem dX12_book_79 : decode cX12_book 79 = .ok (.iaload, 1) := by decide +kernel
theorem dX12_book_80 : decode cX12_book 80 = .ok (.iconst 1, 1) := by decide +kernel
theorem dX12_book_81 : decode cX12_book 81 = .ok (.isub, 1) := by decide +kernel
theorem dX12_book_82 : decode cX12_book 82 = .ok (.invokevirtual 171, 3) := by decide +kernel
theorem dX12_book_85 : decode cX12_book 85 = .ok (.istore 5, 2) := by decide +kernel
theorem dX12_book_87 : decode cX12_book 87 = .ok (.aload_n 0, 1) := by decide +kernel
theorem dX12_book_88 : decode cX12_book 88 = .ok (.getfield 119, 3) := by decide +kernel
theorem dX12_book_91 : decode cX12_book 91 = .ok (.ifCond .ne 19, 3) := by decide +kernel
theorem dX12_book_94 : decode cX12_book 94 = .ok (.iload_n 3, 1) := by decide +kernel
theorem dX12_book_95 : decode cX12_book 95 = .ok (.iload 5, 2) := by decide +kernel
theorem dX12_book_97 : decode cX12_book 97 = .ok (.invokestatic 258, 3) := by decide +kernel
theorem dX12_book_100 : decode cX12_book 100 = .ok (.ifCond .eq 10, 3) := by decide +kernel
theorem dX12_book_103 : decode cX12_book 103 = .ok (.aload_n 0, 1) := by decide +kernel
theorem dX12_book_104 : decode cX12_book 104 = .ok (.iconst 2, 1) := by decide +kernel
theorem dX12_book_105 : decode cX12_book 105 = .ok (.iload 4, 2) := by decide +kernel
theorem dX12_book_107 : decode cX12_book 107 = .ok (.invokevirtual 132, 3) := by decide +kernel
theorem dX12_book_110 : decode cX12_book 110 = .ok (.aload_n 0, 1) := by decide +kernel
theorem dX12_book_111 : decode cX12_book 111 = .ok (.getfield 119, 3) := by decide +kernel
theorem dX12_book_114 : decode cX12_book 114 = .ok (.ifCond .ne 16, 3) := by decide +kernel
theorem dX12_book_117 : decode cX12_book 117 = .ok (.iload_n 2, 1) := by decide +kernel
theorem dX12_book_118 : decode cX12_book 118 = .ok (.bipush 12, 2) := by decide +kernel
theorem dX12_book_120 : decode cX12_book 120 = .ok (.if_icmp .ne 10, 3) := by decide +kernel
theorem dX12_book_123 : decode cX12_book 123 = .ok (.aload_n 0, 1) := by decide +kernel
theorem dX12_book_124 : decode cX12_book 124 = .ok (.iconst 3, 1) := by decide +kernel
theorem dX12_book_125 : decode cX12_book 125 = .ok (.iload 4, 2) := by decide +kernel
theorem dX12_book_127 : decode cX12_book 127 = .ok (.invokevirtual 132, 3) := by decide +kernel
theorem dX12_book_130 : decode cX12_book 130 = .ok (.aload_n 0, 1) := by decide +kernel
theorem dX12_book_131 : decode cX12_book 131 = .ok (.iconst 0, 1) := by decide +kernel
theorem dX12_book_132 : decode cX12_book 132 = .ok (.bipush 99, 2) := by decide +kernel
theorem dX12_book_134 : decode cX12_book 134 = .ok (.invokevirtual 171, 3) := by decide +kernel
theorem dX12_book_137 : decode cX12_book 137 = .ok (.istore 6, 2) := by decide +kernel
theorem dX12_book_139 : decode cX12_book 139 = .ok (.aload_n 0, 1) := by decide +kernel
theorem dX12_book_140 : decode cX12_book 140 = .ok (.bipush 59, 2) := by decide +kernel
theorem dX12_book_142 : decode cX12_book 142 = .ok (.invokevirtual 175, 3) := by decide +kernel
theorem dX12_book_145 : decode cX12_book 145 = .ok (.aload_n 0, 1) := by decide +kernel
theorem dX12_book_146 : decode cX12_book 146 = .ok (.getfield 119, 3) := by decide +kernel
theorem dX12_book_149 : decode cX12_book 149 = .ok (.ifCond .ne 33, 3) := by decide +kernel
theorem dX12_book_152 : decode cX12_book 152 = .ok (.iload_n 3, 1) := by decide +kernel
theorem dX12_book_153 : decode cX12_book 153 = .ok (.iconst 1, 1) := by decide +kernel
theorem dX12_book_154 : decode cX12_book 154 = .ok (.iload 5, 2) := by decide +kernel
theorem dX12_book_156 : decode cX12_book 156 = .ok (.ishl, 1) := by decide +kernel
theorem dX12_book_157 : decode cX12_book 157 = .ok (.ior, 1) := by decide +kernel
theorem dX12_book_158 : decode cX12_book 158 = .ok (.istore_n 3, 1) := by decide +kernel
theorem dX12_book_159 : decode cX12_book 159 = .ok (.aload_n 0, 1) := by decide +kernel
theorem dX12_book_160 : decode cX12_book 160 = .ok (.getfield 55, 3) := by decide +kernel
theorem dX12_book_163 : decode cX12_book 163 = .ok (.iload_n 2, 1) := by decide +kernel
theorem dX12_book_164 : decode cX12_book 164 = .ok (.aaload, 1) := by decide +kernel
theorem dX12_book_165 : decode cX12_book 165 = .ok (.iconst 0, 1) := by decide +kernel
theorem dX12_book_166 : decode cX12_book 166 = .ok (.iload 5, 2) := by decide +kernel
theorem dX12_book_168 : decode cX12_book 168 = .ok (.iastore, 1) := by decide +kernel
theorem dX12_book_169 : decode cX12_book 169 = .ok (.aload_n 0, 1) := by decide +kernel
theorem dX12_book_170 : decode cX12_book 170 = .ok (.getfield 55, 3) := by decide +kernel
theorem dX12_book_173 : decode cX12_book 173 = .ok (.iload_n 2, 1) := by decide +kernel
theorem dX12_book_174 : decode cX12_book 174 = .ok (.aaload, 1) := by decide +kernel
theorem dX12_book_175 : decode cX12_book 175 = .ok (.iconst 1, 1) := by decide +kernel
theorem dX12_book_176 : decode cX12_book 176 = .ok (.iload 6, 2) := by decide +kernel
theorem dX12_book_178 : decode cX12_book 178 = .ok (.iastore, 1) := by decide +kernel
theorem dX12_book_179 : decode cX12_book 179 = .ok (.iinc 2 1, 3) := by decide +kernel
theorem dX12_book_182 : decode cX12_book 182 = .ok (.aload_n 0, 1) := by decide +kernel
theorem dX12_book_183 : decode cX12_book 183 = .ok (.invokevirtual 125, 3) := by decide +kernel
theorem dX12_book_186 : decode cX12_book 186 = .ok (.goto (-138), 3) := by decide +kernel
theorem dX12_book_189 : decode cX12_book 189 = .ok (.aload_n 0, 1) := by decide +kernel
theorem dX12_book_190 : decode cX12_book 190 = .ok (.getfield 119, 3) := by decide +kernel
theorem dX12_book_193 : decode cX12_book 193 = .ok (.ifCond .eq 8, 3) := by decide +kernel
theorem dX12_book_196 : decode cX12_book 196 = .ok (.aload_n 0, 1) := by decide +kernel
theorem dX12_book_197 : decode cX12_book 197 = .ok (.invokevirtual 189, 3) := by decide +kernel
theorem dX12_book_200 : decode cX12_book 200 = .ok (.ireturn, 1) := by decide +kernel
theorem dX12_book_201 : decode cX12_book 201 = .ok (.aload_n 0, 1) := by decide +kernel
theorem dX12_book_202 : decode cX12_book 202 = .ok (.iconst (-1), 1) := by decide +kernel
theorem dX12_book_203 : decode cX12_book 203 = .ok (.putfield 9, 3) := by decide +kernel
theorem dX12_book_206 : decode cX12_book 206 = .ok (.aload_n 0, 1) := by decide +kernel
theorem dX12_book_207 : decode cX12_book 207 = .ok (.iload_n 2, 1) := by decide +kernel
theorem dX12_book_208 : decode cX12_book 208 = .ok (.putfield 199, 3) := by decide +kernel
theorem dX12_book_211 : decode cX12_book 211 = .ok (.aload_n 0, 1) := by decide +kernel
theorem dX12_book_212 : decode cX12_book 212 = .ok (.getfield 55, 3) := by decide +kernel
theorem dX12_book_215 : decode cX12_book 215 = .ok (.aload_n 0, 1) := by decide +kernel
theorem dX12_book_216 : decode cX12_book 216 = .ok (.getfield 52, 3) := by decide +kernel
theorem dX12_book_219 : decode cX12_book 219 = .ok (.iload_n 2, 1) := by decide +kernel
theorem dX12_book_220 : decode cX12_book 220 = .ok (.invokestatic 192, 3) := by decide +kernel
theorem dX12_book_223 : decode cX12_book 223 = .ok (.iload_n 2, 1) := by decide +kernel
theorem dX12_book_224 : decode cX12_book 224 = .ok (.ireturn, 1) := by decide +kernel
theorem dX12_fault_0 : decode cX12_fault 0 = .ok (.aload_n 0, 1) := by decide +kernel
theorem dX12_fault_1 : decode cX12_fault 1 = .ok (.iconst 0, 1) := by decide +kernel
theorem dX12_fault_2 : decode cX12_fault 2 = .ok (.putfield 103, 3) := by decide +kernel
theorem dX12_fault_5 : decode cX12_fault 5 = .ok (.aload_n 0, 1) := by decide +kernel
theorem dX12_fault_6 : decode cX12_fault 6 = .ok (.getfield 9, 3) := by decide +kernel
theorem dX12_fault_9 : decode cX12_fault 9 = .ok (.ireturn, 1) := by decide +kernel
theorem dX12_isLawful_0 : decode cX12_isLawful 0 = .ok (.aload_n 0, 1) := by decide +kernel
theorem dX12_isLawful_1 : decode cX12_isLawful 1 = .ok (.getfield 61, 3) := by decide +kernel
theorem dX12_isLawful_4 : decode cX12_isLawful 4 = .ok (.iconst 0, 1) := by decide +kernel
theorem dX12_isLawful_5 : decode cX12_isLawful 5 = .ok (.iload_n 2, 1) := by decide +kernel
theorem dX12_isLawful_6 : decode cX12_isLawful 6 = .ok (.iastore, 1) := by decide +kernel
theorem dX12_isLawful_7 : decode cX12_isLawful 7 = .ok (.aload_n 0, 1) := by decide +kernel
theorem dX12_isLawful_8 : decode cX12_isLawful 8 = .ok (.getfield 61, 3) := by decide +kernel
theorem dX12_isLawful_11 : decode cX12_isLawful 11 = .ok (.iconst 1, 1) := by decide +kernel
theorem dX12_isLawful_12 : decode cX12_isLawful 12 = .ok (.iload_n 3, 1) := by decide +kernel
theorem dX12_isLawful_13 : decode cX12_isLawful 13 = .ok (.iastore, 1) := by decide +kernel
theorem dX12_isLawful_14 : decode cX12_isLawful 14 = .ok (.aload_n 0, 1) := by decide +kernel
theorem dX12_isLawful_15 : decode cX12_isLawful 15 = .ok (.getfield 61, 3) := by decide +kernel
theorem dX12_isLawful_18 : decode cX12_isLawful 18 = .ok (.iconst 2, 1) := by decide +kernel
theorem dX12_isLawful_19 : decode cX12_isLawful 19 = .ok (.iload_n 1, 1) := by decide +kernel
theorem dX12_isLawful_20 : decode cX12_isLawful 20 = .ok (.iastore, 1) := by decide +kernel
theorem dX12_isLawful_21 : decode cX12_isLawful 21 = .ok (.iconst 0, 1) := by decide +kernel
theorem dX12_isLawful_22 : decode cX12_isLawful 22 = .ok (.istore 5, 2) := by decide +kernel
theorem dX12_isLawful_24 : decode cX12_isLawful 24 = .ok (.iload 5, 2) := by decide +kernel
theorem dX12_isLawful_26 : decode cX12_isLawful 26 = .ok (.iconst 4, 1) := by decide +kernel
theorem dX12_isLawful_27 : decode cX12_isLawful 27 = .ok (.if_icmp .ge 27, 3) := by decide +kernel
theorem dX12_isLawful_30 : decode cX12_isLawful 30 = .ok (.aload_n 0, 1) := by decide +kernel
theorem dX12_isLawful_31 : decode cX12_isLawful 31 = .ok (.getfield 61, 3) := by decide +kernel
theorem dX12_isLawful_34 : decode cX12_isLawful 34 = .ok (.iconst 3, 1) := by decide +kernel
theorem dX12_isLawful_35 : decode cX12_isLawful 35 = .ok (.iload 5, 2) := by decide +kernel
theorem dX12_isLawful_37 : decode cX12_isLawful 37 = .ok (.iadd, 1) := by decide +kernel
theorem dX12_isLawful_38 : decode cX12_isLawful 38 = .ok (.aload_n 0, 1) := by decide +kernel
theorem dX12_isLawful_39 : decode cX12_isLawful 39 = .ok (.getfield 31, 3) := by decide +kernel
theorem dX12_isLawful_42 : decode cX12_isLawful 42 = .ok (.iload_n 1, 1) := by decide +kernel
theorem dX12_isLawful_43 : decode cX12_isLawful 43 = .ok (.aaload, 1) := by decide +kernel
theorem dX12_isLawful_44 : decode cX12_isLawful 44 = .ok (.iload 5, 2) := by decide +kernel
theorem dX12_isLawful_46 : decode cX12_isLawful 46 = .ok (.iaload, 1) := by decide +kernel
theorem dX12_isLawful_47 : decode cX12_isLawful 47 = .ok (.iastore, 1) := by decide +kernel
theorem dX12_isLawful_48 : decode cX12_isLawful 48 = .ok (.iinc 5 1, 3) := by decide +kernel
theorem dX12_isLawful_51 : decode cX12_isLawful 51 = .ok (.goto (-27), 3) := by decide +kernel
theorem dX12_isLawful_54 : decode cX12_isLawful 54 = .ok (.aload_n 0, 1) := by decide +kernel
theorem dX12_isLawful_55 : decode cX12_isLawful 55 = .ok (.getfield 61, 3) := by decide +kernel
theorem dX12_isLawful_58 : decode cX12_isLawful 58 = .ok (.bipush 7, 2) := by decide +kernel
theorem dX12_isLawful_60 : decode cX12_isLawful 60 = .ok (.iload 4, 2) := by decide +kernel
theorem dX12_isLawful_62 : decode cX12_isLawful 62 = .ok (.iastore, 1) := by decide +kernel
theorem dX12_isLawful_63 : decode cX12_isLawful 63 = .ok (.aload_n 0, 1) := by decide +kernel
theorem dX12_isLawful_64 : decode cX12_isLawful 64 = .ok (.invokevirtual 262, 3) := by decide +kernel
theorem dX12_isLawful_67 : decode cX12_isLawful 67 = .ok (.ifCond .le 7, 3) := by decide +kernel
theorem dX12_isLawful_70 : decode cX12_isLawful 70 = .ok (.iconst 1, 1) := by decide +kernel
theorem dX12_isLawful_71 : decode cX12_isLawful 71 = .ok (.goto 4, 3) := by decide +kernel
theorem dX12_isLawful_74 : decode cX12_isLawful 74 = .ok (.iconst 0, 1) := by decide +kernel
theorem dX12_isLawful_75 : decode cX12_isLawful 75 = .ok (.ireturn, 1) := by decide +kernel
theorem dX12_isLawfulNow_0 : decode cX12_isLawfulNow 0 = .ok (.aload_n 0, 1) := by decide +kernel
theorem dX12_isLawfulNow_1 : decode cX12_isLawfulNow 1 = .ok (.iload_n 2, 1) := by decide +kernel
theorem dX12_isLawfulNow_2 : decode cX12_isLawfulNow 2 = .ok (.aload_n 1, 1) := by decide +kernel
theorem dX12_isLawfulNow_3 : decode cX12_isLawfulNow 3 = .ok (.bipush 63, 2) := by decide +kernel
theorem dX12_isLawfulNow_5 : decode cX12_isLawfulNow 5 = .ok (.iaload, 1) := by decide +kernel
theorem dX12_isLawfulNow_6 : decode cX12_isLawfulNow 6 = .ok (.bipush 24, 2) := by decide +kernel
theorem dX12_isLawfulNow_8 : decode cX12_isLawfulNow 8 = .ok (.irem, 1) := by decide +kernel
theorem dX12_isLawfulNow_9 : decode cX12_isLawfulNow 9 = .ok (.aload_n 1, 1) := by decide +kernel
theorem dX12_isLawfulNow_10 : decode cX12_isLawfulNow 10 = .ok (.bipush 63, 2) := by decide +kernel
theorem dX12_isLawfulNow_12 : decode cX12_isLawfulNow 12 = .ok (.iaload, 1) := by decide +kernel
theorem dX12_isLawfulNow_13 : decode cX12_isLawfulNow 13 = .ok (.bipush 24, 2) := by decide +kernel
theorem dX12_isLawfulNow_15 : decode cX12_isLawfulNow 15 = .ok (.idiv, 1) := by decide +kernel
theorem dX12_isLawfulNow_16 : decode cX12_isLawfulNow 16 = .ok (.aload_n 1, 1) := by decide +kernel
theorem dX12_isLawfulNow_17 : decode cX12_isLawfulNow 17 = .ok (.bipush 16, 2) := by decide +kernel
theorem dX12_isLawfulNow_19 : decode cX12_isLawfulNow 19 = .ok (.iload_n 2, 1) := by decide +kernel
theorem dX12_isLawfulNow_20 : decode cX12_isLawfulNow 20 = .ok (.iadd, 1) := by decide +kernel
theorem dX12_isLawfulNow_21 : decode cX12_isLawfulNow 21 = .ok (.iaload, 1) := by decide +kernel
theorem dX12_isLawfulNow_22 : decode cX12_isLawfulNow 22 = .ok (.invokevirtual 265, 3) := by decide +kernel
theorem dX12_isLawfulNow_25 : decode cX12_isLawfulNow 25 = .ok (.ireturn, 1) := by decide +kernel
theorem dX12_opensIn_0 : decode cX12_opensIn 0 = .ok (.aload_n 1, 1) := by decide +kernel
theorem dX12_opensIn_1 : decode cX12_opensIn 1 = .ok (.iconst 0, 1) := by decide +kernel
theorem dX12_opensIn_2 : decode cX12_opensIn 2 = .ok (.iload_n 2, 1) := by decide +kernel
theorem dX12_opensIn_3 : decode cX12_opensIn 3 = .ok (.iadd, 1) := by decide +kernel
theorem dX12_opensIn_4 : decode cX12_opensIn 4 = .ok (.iaload, 1) := by decide +kernel
theorem dX12_opensIn_5 : decode cX12_opensIn 5 = .ok (.iconst 1, 1) := by decide +kernel
theorem dX12_opensIn_6 : decode cX12_opensIn 6 = .ok (.if_icmp .eq 20, 3) := by decide +kernel
theorem dX12_opensIn_9 : decode cX12_opensIn 9 = .ok (.aload_n 1, 1) := by decide +kernel
theorem dX12_opensIn_10 : decode cX12_opensIn 10 = .ok (.iconst 0, 1) := by decide +kernel
theorem dX12_opensIn_11 : decode cX12_opensIn 11 = .ok (.iload_n 2, 1) := by decide +kernel
theorem dX12_opensIn_12 : decode cX12_opensIn 12 = .ok (.iadd, 1) := by decide +kernel
theorem dX12_opensIn_13 : decode cX12_opensIn 13 = .ok (.iaload, 1) := by decide +kernel
theorem dX12_opensIn_14 : decode cX12_opensIn 14 = .ok (.ifCond .ne 16, 3) := by decide +kernel
theorem dX12_opensIn_17 : decode cX12_opensIn 17 = .ok (.aload_n 0, 1) := by decide +kernel
theorem dX12_opensIn_18 : decode cX12_opensIn 18 = .ok (.aload_n 1, 1) := by decide +kernel
theorem dX12_opensIn_19 : decode cX12_opensIn 19 = .ok (.iload_n 2, 1) := by decide +kernel
theorem dX12_opensIn_20 : decode cX12_opensIn 20 = .ok (.invokevirtual 269, 3) := by decide +kernel
theorem dX12_opensIn_23 : decode cX12_opensIn 23 = .ok (.ifCond .eq 7, 3) := by decide +kernel
theorem dX12_opensIn_26 : decode cX12_opensIn 26 = .ok (.iconst 1, 1) := by decide +kernel
theorem dX12_opensIn_27 : decode cX12_opensIn 27 = .ok (.goto 4, 3) := by decide +kernel
theorem dX12_opensIn_30 : decode cX12_opensIn 30 = .ok (.iconst 0, 1) := by decide +kernel
theorem dX12_opensIn_31 : decode cX12_opensIn 31 = .ok (.ireturn, 1) := by decide +kernel
theorem dX12_openBits_0 : decode cX12_openBits 0 = .ok (.iconst 0, 1) := by decide +kernel
theorem dX12_openBits_1 : decode cX12_openBits 1 = .ok (.istore_n 2, 1) := by decide +kernel
theorem dX12_openBits_2 : decode cX12_openBits 2 = .ok (.iconst 0, 1) := by decide +kernel
theorem dX12_openBits_3 : decode cX12_openBits 3 = .ok (.istore_n 3, 1) := by decide +kernel
theorem dX12_openBits_4 : decode cX12_openBits 4 = .ok (.iload_n 3, 1) := by decide +kernel
theorem dX12_openBits_5 : decode cX12_openBits 5 = .ok (.aload_n 0, 1) := by decide +kernel
theorem dX12_openBits_6 : decode cX12_openBits 6 = .ok (.getfield 23, 3) := by decide +kernel
theorem dX12_openBits_9 : decode cX12_openBits 9 = .ok (.iconst 0, 1) := by decide +kernel
theorem dX12_openBits_10 : decode cX12_openBits 10 = .ok (.iaload, 1) := by decide +kernel
theorem dX12_openBits_11 : decode cX12_openBits 11 = .ok (.if_icmp .ge 28, 3) := by decide +kernel
theorem dX12_openBits_14 : decode cX12_openBits 14 = .ok (.iload_n 2, 1) := by decide +kernel
theorem dX12_openBits_15 : decode cX12_openBits 15 = .ok (.aload_n 0, 1) := by decide +kernel
theorem dX12_openBits_16 : decode cX12_openBits 16 = .ok (.aload_n 1, 1) := by decide +kernel
theorem dX12_openBits_17 : decode cX12_openBits 17 = .ok (.iload_n 3, 1) := by decide +kernel
theorem dX12_openBits_18 : decode cX12_openBits 18 = .ok (.invokevirtual 273, 3) := by decide +kernel
theorem dX12_openBits_21 : decode cX12_openBits 21 = .ok (.ifCond .eq 9, 3) := by decide +kernel
theorem dX12_openBits_24 : decode cX12_openBits 24 = .ok (.iconst 1, 1) := by decide +kernel
theorem dX12_openBits_25 : decode cX12_openBits 25 = .ok (.iload_n 3, 1) := by decide +kernel
theorem dX12_openBits_26 : decode cX12_openBits 26 = .ok (.ishl, 1) := by decide +kernel
theorem dX12_openBits_27 : decode cX12_openBits 27 = .ok (.goto 4, 3) := by decide +kernel
theorem dX12_openBits_30 : decode cX12_openBits 30 = .ok (.iconst 0, 1) := by decide +kernel
theorem dX12_openBits_31 : decode cX12_openBits 31 = .ok (.ior, 1) := by decide +kernel
theorem dX12_openBits_32 : decode cX12_openBits 32 = .ok (.istore_n 2, 1) := by decide +kernel
theorem dX12_openBits_33 : decode cX12_openBits 33 = .ok (.iinc 3 1, 3) := by decide +kernel
theorem dX12_openBits_36 : decode cX12_openBits 36 = .ok (.goto (-32), 3) := by decide +kernel
theorem dX12_openBits_39 : decode cX12_openBits 39 = .ok (.iload_n 2, 1) := by decide +kernel
theorem dX12_openBits_40 : decode cX12_openBits 40 = .ok (.ireturn, 1) := by decide +kernel
theorem dX12_mastOf_0 : decode cX12_mastOf 0 = .ok (.iload_n 2, 1) := by decide +kernel
theorem dX12_mastOf_1 : decode cX12_mastOf 1 = .ok (.iconst 4, 1) := by decide +kernel
theorem dX12_mastOf_2 : decode cX12_mastOf 2 = .ok (.if_icmp .ne 10, 3) := by decide +kernel
theorem dX12_mastOf_5 : decode cX12_mastOf 5 = .ok (.aload_n 1, 1) := by decide +kernel
theorem dX12_mastOf_6 : decode cX12_mastOf 6 = .ok (.bipush 65, 2) := by decide +kernel
theorem dX12_mastOf_8 : decode cX12_mastOf 8 = .ok (.iaload, 1) := by decide +kernel
theorem dX12_mastOf_9 : decode cX12_mastOf 9 = .ok (.goto 11, 3) := by decide +kernel
theorem dX12_mastOf_12 : decode cX12_mastOf 12 = .ok (.aload_n 0, 1) := by decide +kernel
theorem dX12_mastOf_13 : decode cX12_mastOf 13 = .ok (.getfield 37, 3) := by decide +kernel
theorem dX12_mastOf_16 : decode cX12_mastOf 16 = .ok (.iload_n 2, 1) := by decide +kernel
theorem dX12_mastOf_17 : decode cX12_mastOf 17 = .ok (.aaload, 1) := by decide +kernel
theorem dX12_mastOf_18 : decode cX12_mastOf 18 = .ok (.iconst 0, 1) := by decide +kernel
theorem dX12_mastOf_19 : decode cX12_mastOf 19 = .ok (.iaload, 1) := by decide +kernel
theorem dX12_mastOf_20 : decode cX12_mastOf 20 = .ok (.ireturn, 1) := by decide +kernel
theorem dX12_comesIn_0 : decode cX12_comesIn 0 = .ok (.iload_n 2, 1) := by decide +kernel
theorem dX12_comesIn_1 : decode cX12_comesIn 1 = .ok (.iconst 4, 1) := by decide +kernel
theorem dX12_comesIn_2 : decode cX12_comesIn 2 = .ok (.if_icmp .ne 10, 3) := by decide +kernel
theorem dX12_comesIn_5 : decode cX12_comesIn 5 = .ok (.aload_n 1, 1) := by decide +kernel
theorem dX12_comesIn_6 : decode cX12_comesIn 6 = .ok (.bipush 64, 2) := by decide +kernel
theorem dX12_comesIn_8 : decode cX12_comesIn 8 = .ok (.iaload, 1) := by decide +kernel
theorem dX12_comesIn_9 : decode cX12_comesIn 9 = .ok (.goto 11, 3) := by decide +kernel
theorem dX12_comesIn_12 : decode cX12_comesIn 12 = .ok (.aload_n 0, 1) := by decide +kernel
theorem dX12_comesIn_13 : decode cX12_comesIn 13 = .ok (.getfield 37, 3) := by decide +kernel
theorem dX12_comesIn_16 : decode cX12_comesIn 16 = .ok (.iload_n 2, 1) := by decide +kernel
theorem dX12_comesIn_17 : decode cX12_comesIn 17 = .ok (.aaload, 1) := by decide +kernel
theorem dX12_comesIn_18 : decode cX12_comesIn 18 = .ok (.iconst 1, 1) := by decide +kernel
theorem dX12_comesIn_19 : decode cX12_comesIn 19 = .ok (.iaload, 1) := by decide +kernel
theorem dX12_comesIn_20 : decode cX12_comesIn 20 = .ok (.ireturn, 1) := by decide +kernel
theorem dX12_isBarge_0 : decode cX12_isBarge 0 = .ok (.iload_n 2, 1) := by decide +kernel
theorem dX12_isBarge_1 : decode cX12_isBarge 1 = .ok (.aload_n 0, 1) := by decide +kernel
theorem dX12_isBarge_2 : decode cX12_isBarge 2 = .ok (.getfield 23, 3) := by decide +kernel
theorem dX12_isBarge_5 : decode cX12_isBarge 5 = .ok (.iconst 1, 1) := by decide +kernel
theorem dX12_isBarge_6 : decode cX12_isBarge 6 = .ok (.iaload, 1) := by decide +kernel
theorem dX12_isBarge_7 : decode cX12_isBarge 7 = .ok (.if_icmp .lt 16, 3) := by decide +kernel
theorem dX12_isBarge_10 : decode cX12_isBarge 10 = .ok (.iload_n 2, 1) := by decide +kernel
theorem dX12_isBarge_11 : decode cX12_isBarge 11 = .ok (.iconst 4, 1) := by decide +kernel
theorem dX12_isBarge_12 : decode cX12_isBarge 12 = .ok (.if_icmp .ne 15, 3) := by decide +kernel
theorem dX12_isBarge_15 : decode cX12_isBarge 15 = .ok (.aload_n 1, 1) := by decide +kernel
theorem dX12_isBarge_16 : decode cX12_isBarge 16 = .ok (.bipush 64, 2) := by decide +kernel
theorem dX12_isBarge_18 : decode cX12_isBarge 18 = .ok (.iaload, 1) := by decide +kernel
theorem dX12_isBarge_19 : decode cX12_isBarge 19 = .ok (.iconst (-1), 1) := by decide +kernel
theorem dX12_isBarge_20 : decode cX12_isBarge 20 = .ok (.if_icmp .eq 7, 3) := by decide +kernel
theorem dX12_isBarge_23 : decode cX12_isBarge 23 = .ok (.iconst 1, 1) := by decide +kernel
theorem dX12_isBarge_24 : decode cX12_isBarge 24 = .ok (.goto 4, 3) := by decide +kernel
theorem dX12_isBarge_27 : decode cX12_isBarge 27 = .ok (.iconst 0, 1) := by decide +kernel
theorem dX12_isBarge_28 : decode cX12_isBarge 28 = .ok (.ireturn, 1) := by decide +kernel
theorem dX12_hourEnds_0 : decode cX12_hourEnds 0 = .ok (.aload_n 0, 1) := by decide +kernel
theorem dX12_hourEnds_1 : decode cX12_hourEnds 1 = .ok (.aload_n 1, 1) := by decide +kernel
theorem dX12_hourEnds_2 : decode cX12_hourEnds 2 = .ok (.invokevirtual 276, 3) := by decide +kernel
theorem dX12_hourEnds_5 : decode cX12_hourEnds 5 = .ok (.aload_n 0, 1) := by decide +kernel
theorem dX12_hourEnds_6 : decode cX12_hourEnds 6 = .ok (.getfield 280, 3) := by decide +kernel
theorem dX12_hourEnds_9 : decode cX12_hourEnds 9 = .ok (.iconst (-1), 1) := by decide +kernel
theorem dX12_hourEnds_10 : decode cX12_hourEnds 10 = .ok (.ixor, 1) := by decide +kernel
theorem dX12_hourEnds_11 : decode cX12_hourEnds 11 = .ok (.iand, 1) := by decide +kernel
theorem dX12_hourEnds_12 : decode cX12_hourEnds 12 = .ok (.istore_n 2, 1) := by decide +kernel
theorem dX12_hourEnds_13 : decode cX12_hourEnds 13 = .ok (.iconst 0, 1) := by decide +kernel
theorem dX12_hourEnds_14 : decode cX12_hourEnds 14 = .ok (.istore_n 3, 1) := by decide +kernel
theorem dX12_hourEnds_15 : decode cX12_hourEnds 15 = .ok (.iload_n 3, 1) := by decide +kernel
theorem dX12_hourEnds_16 : decode cX12_hourEnds 16 = .ok (.aload_n 0, 1) := by decide +kernel
theorem dX12_hourEnds_17 : decode cX12_hourEnds 17 = .ok (.getfield 23, 3) := by decide +kernel
theorem dX12_hourEnds_20 : decode cX12_hourEnds 20 = .ok (.iconst 0, 1) := by decide +kernel
theorem dX12_hourEnds_21 : decode cX12_hourEnds 21 = .ok (.iaload, 1) := by decide +kernel
theorem dX12_hourEnds_22 : decode cX12_hourEnds 22 = .ok (.if_icmp .ge 20, 3) := by decide +kernel
theorem dX12_hourEnds_25 : decode cX12_hourEnds 25 = .ok (.aload_n 0, 1) := by decide +kernel
theorem dX12_hourEnds_26 : decode cX12_hourEnds 26 = .ok (.getfield 73, 3) := by decide +kernel
theorem dX12_hourEnds_29 : decode cX12_hourEnds 29 = .ok (.iload_n 3, 1) := by decide +kernel
theorem dX12_hourEnds_30 : decode cX12_hourEnds 30 = .ok (.iload_n 2, 1) := by decide +kernel
theorem dX12_hourEnds_31 : decode cX12_hourEnds 31 = .ok (.iload_n 3, 1) := by decide +kernel
theorem dX12_hourEnds_32 : decode cX12_hourEnds 32 = .ok (.ishr, 1) := by decide +kernel
theorem dX12_hourEnds_33 : decode cX12_hourEnds 33 = .ok (.iconst 1, 1) := by decide +kernel
theorem dX12_hourEnds_34 : decode cX12_hourEnds 34 = .ok (.iand, 1) := by decide +kernel
theorem dX12_hourEnds_35 : decode cX12_hourEnds 35 = .ok (.iastore, 1) := by decide +kernel
theorem dX12_hourEnds_36 : decode cX12_hourEnds 36 = .ok (.iinc 3 1, 3) := by decide +kernel
theorem dX12_hourEnds_39 : decode cX12_hourEnds 39 = .ok (.goto (-24), 3) := by decide +kernel
theorem dX12_hourEnds_42 : decode cX12_hourEnds 42 = .ok (.iconst 0, 1) := by decide +kernel
theorem dX12_hourEnds_43 : decode cX12_hourEnds 43 = .ok (.istore_n 3, 1) := by decide +kernel
theorem dX12_hourEnds_44 : decode cX12_hourEnds 44 = .ok (.iload_n 3, 1) := by decide +kernel
theorem dX12_hourEnds_45 : decode cX12_hourEnds 45 = .ok (.aload_n 0, 1) := by decide +kernel
theorem dX12_hourEnds_46 : decode cX12_hourEnds 46 = .ok (.getfield 23, 3) := by decide +kernel
theorem dX12_hourEnds_49 : decode cX12_hourEnds 49 = .ok (.iconst 0, 1) := by decide +kernel
theorem dX12_hourEnds_50 : decode cX12_hourEnds 50 = .ok (.iaload, 1) := by decide +kernel
theorem dX12_hourEnds_51 : decode cX12_hourEnds 51 = .ok (.if_icmp .ge 68, 3) := by decide +kernel
theorem dX12_hourEnds_54 : decode cX12_hourEnds 54 = .ok (.aload_n 0, 1) := by decide +kernel
theorem dX12_hourEnds_55 : decode cX12_hourEnds 55 = .ok (.getfield 280, 3) := by decide +kernel
theorem dX12_hourEnds_58 : decode cX12_hourEnds 58 = .ok (.iload_n 3, 1) := by decide +kernel
theorem dX12_hourEnds_59 : decode cX12_hourEnds 59 = .ok (.invokestatic 258, 3) := by decide +kernel
theorem dX12_hourEnds_62 : decode cX12_hourEnds 62 = .ok (.ifCond .ne 51, 3) := by decide +kernel
theorem dX12_hourEnds_65 : decode cX12_hourEnds 65 = .ok (.aload_n 1, 1) := by decide +kernel
theorem dX12_hourEnds_66 : decode cX12_hourEnds 66 = .ok (.iconst 0, 1) := by decide +kernel
theorem dX12_hourEnds_67 : decode cX12_hourEnds 67 = .ok (.iload_n 3, 1) := by decide +kernel
theorem dX12_hourEnds_68 : decode cX12_hourEnds 68 = .ok (.iadd, 1) := by decide +kernel
theorem dX12_hourEnds_69 : decode cX12_hourEnds 69 = .ok (.iaload, 1) := by decide +kernel
theorem dX12_hourEnds_70 : decode cX12_hourEnds 70 = .ok (.ifCond .ne 6, 3) := by decide +kernel
theorem dX12_hourEnds_73 : decode cX12_hourEnds 73 = .ok (.goto 40, 3) := by decide +kernel
theorem dX12_hourEnds_76 : decode cX12_hourEnds 76 = .ok (.aload_n 1, 1) := by decide +kernel
theorem dX12_hourEnds_77 : decode cX12_hourEnds 77 = .ok (.bipush 16, 2) := by decide +kernel
theorem dX12_hourEnds_79 : decode cX12_hourEnds 79 = .ok (.iload_n 3, 1) := by decide +kernel
theorem dX12_hourEnds_80 : decode cX12_hourEnds 80 = .ok (.iadd, 1) := by decide +kernel
theorem dX12_hourEnds_81 : decode cX12_hourEnds 81 = .ok (.dup2, 1) := by decide +kernel
theorem dX12_hourEnds_82 : decode cX12_hourEnds 82 = .ok (.iaload, 1) := by decide +kernel
theorem dX12_hourEnds_83 : decode cX12_hourEnds 83 = .ok (.aload_n 0, 1) := by decide +kernel
theorem dX12_hourEnds_84 : decode cX12_hourEnds 84 = .ok (.aload_n 1, 1) := by decide +kernel
theorem dX12_hourEnds_85 : decode cX12_hourEnds 85 = .ok (.iload_n 3, 1) := by decide +kernel
theorem dX12_hourEnds_86 : decode cX12_hourEnds 86 = .ok (.invokevirtual 269, 3) := by decide +kernel
theorem dX12_hourEnds_89 : decode cX12_hourEnds 89 = .ok (.aload_n 1, 1) := by decide +kernel
theorem dX12_hourEnds_90 : decode cX12_hourEnds 90 = .ok (.iconst 0, 1) := by decide +kernel
theorem dX12_hourEnds_91 : decode cX12_hourEnds 91 = .ok (.iload_n 3, 1) := by decide +kernel
theorem dX12_hourEnds_92 : decode cX12_hourEnds 92 = .ok (.iadd, 1) := by decide +kernel
theorem dX12_hourEnds_93 : decode cX12_hourEnds 93 = .ok (.iaload, 1) := by decide +kernel
theorem dX12_hourEnds_94 : decode cX12_hourEnds 94 = .ok (.iconst 1, 1) := by decide +kernel
theorem dX12_hourEnds_95 : decode cX12_hourEnds 95 = .ok (.if_icmp .ne 7, 3) := by decide +kernel
theorem dX12_hourEnds_98 : decode cX12_hourEnds 98 = .ok (.iconst 1, 1) := by decide +kernel
theorem dX12_hourEnds_99 : decode cX12_hourEnds 99 = .ok (.goto 4, 3) := by decide +kernel
theorem dX12_hourEnds_102 : decode cX12_hourEnds 102 = .ok (.iconst 0, 1) := by decide +kernel
theorem dX12_hourEnds_103 : decode cX12_hourEnds 103 = .ok (.if_icmp .eq 7, 3) := by decide +kernel
theorem dX12_hourEnds_106 : decode cX12_hourEnds 106 = .ok (.iconst 1, 1) := by decide +kernel
theorem dX12_hourEnds_107 : decode cX12_hourEnds 107 = .ok (.goto 4, 3) := by decide +kernel
theorem dX12_hourEnds_110 : decode cX12_hourEnds 110 = .ok (.iconst 0, 1) := by decide +kernel
theorem dX12_hourEnds_111 : decode cX12_hourEnds 111 = .ok (.iadd, 1) := by decide +kernel
theorem dX12_hourEnds_112 : decode cX12_hourEnds 112 = .ok (.iastore, 1) := by decide +kernel
theorem dX12_hourEnds_113 : decode cX12_hourEnds 113 = .ok (.iinc 3 1, 3) := by decide +kernel
theorem dX12_hourEnds_116 : decode cX12_hourEnds 116 = .ok (.goto (-72), 3) := by decide +kernel
theorem dX12_hourEnds_119 : decode cX12_hourEnds 119 = .ok (.iconst 0, 1) := by decide +kernel
theorem dX12_hourEnds_120 : decode cX12_hourEnds 120 = .ok (.istore_n 3, 1) := by decide +kernel
theorem dX12_hourEnds_121 : decode cX12_hourEnds 121 = .ok (.iload_n 3, 1) := by decide +kernel
theorem dX12_hourEnds_122 : decode cX12_hourEnds 122 = .ok (.iconst 4, 1) := by decide +kernel
theorem dX12_hourEnds_123 : decode cX12_hourEnds 123 = .ok (.if_icmp .gt 24, 3) := by decide +kernel
theorem dX12_hourEnds_126 : decode cX12_hourEnds 126 = .ok (.aload_n 0, 1) := by decide +kernel
theorem dX12_hourEnds_127 : decode cX12_hourEnds 127 = .ok (.aload_n 1, 1) := by decide +kernel
theorem dX12_hourEnds_128 : decode cX12_hourEnds 128 = .ok (.iload_n 3, 1) := by decide +kernel
theorem dX12_hourEnds_129 : decode cX12_hourEnds 129 = .ok (.invokevirtual 283, 3) := by decide +kernel
theorem dX12_hourEnds_132 : decode cX12_hourEnds 132 = .ok (.ifCond .eq 9, 3) := by decide +kernel
theorem dX12_hourEnds_135 : decode cX12_hourEnds 135 = .ok (.aload_n 0, 1) := by decide +kernel
theorem dX12_hourEnds_136 : decode cX12_hourEnds 136 = .ok (.aload_n 1, 1) := by decide +kernel
theorem dX12_hourEnds_137 : decode cX12_hourEnds 137 = .ok (.iload_n 3, 1) := by decide +kernel
theorem dX12_hourEnds_138 : decode cX12_hourEnds 138 = .ok (.invokevirtual 286, 3) := by decide +kernel
theorem dX12_hourEnds_141 : decode cX12_hourEnds 141 = .ok (.iinc 3 1, 3) := by decide +kernel
theorem dX12_hourEnds_144 : decode cX12_hourEnds 144 = .ok (.goto (-23), 3) := by decide +kernel
theorem dX12_hourEnds_147 : decode cX12_hourEnds 147 = .ok (.aload_n 1, 1) := by decide +kernel
theorem dX12_hourEnds_148 : decode cX12_hourEnds 148 = .ok (.bipush 63, 2) := by decide +kernel
theorem dX12_hourEnds_150 : decode cX12_hourEnds 150 = .ok (.dup2, 1) := by decide +kernel
theorem dX12_hourEnds_151 : decode cX12_hourEnds 151 = .ok (.iaload, 1) := by decide +kernel
theorem dX12_hourEnds_152 : decode cX12_hourEnds 152 = .ok (.iconst 1, 1) := by decide +kernel
theorem dX12_hourEnds_153 : decode cX12_hourEnds 153 = .ok (.iadd, 1) := by decide +kernel
theorem dX12_hourEnds_154 : decode cX12_hourEnds 154 = .ok (.iastore, 1) := by decide +kernel
theorem dX12_hourEnds_155 : decode cX12_hourEnds 155 = .ok (.return_, 1) := by decide +kernel
theorem dX12_goesOn_0 : decode cX12_goesOn 0 = .ok (.aload_n 1, 1) := by decide +kernel
theorem dX12_goesOn_1 : decode cX12_goesOn 1 = .ok (.bipush 53, 2) := by decide +kernel
theorem dX12_goesOn_3 : decode cX12_goesOn 3 = .ok (.iload_n 2, 1) := by decide +kernel
theorem dX12_goesOn_4 : decode cX12_goesOn 4 = .ok (.iadd, 1) := by decide +kernel
theorem dX12_goesOn_5 : decode cX12_goesOn 5 = .ok (.iaload, 1) := by decide +kernel
theorem dX12_goesOn_6 : decode cX12_goesOn 6 = .ok (.ifCond .ne 23, 3) := by decide +kernel
theorem dX12_goesOn_9 : decode cX12_goesOn 9 = .ok (.aload_n 0, 1) := by decide +kernel
theorem dX12_goesOn_10 : decode cX12_goesOn 10 = .ok (.aload_n 1, 1) := by decide +kernel
theorem dX12_goesOn_11 : decode cX12_goesOn 11 = .ok (.iload_n 2, 1) := by decide +kernel
theorem dX12_goesOn_12 : decode cX12_goesOn 12 = .ok (.invokevirtual 290, 3) := by decide +kernel
theorem dX12_goesOn_15 : decode cX12_goesOn 15 = .ok (.aload_n 1, 1) := by decide +kernel
theorem dX12_goesOn_16 : decode cX12_goesOn 16 = .ok (.bipush 63, 2) := by decide +kernel
theorem dX12_goesOn_18 : decode cX12_goesOn 18 = .ok (.iaload, 1) := by decide +kernel
theorem dX12_goesOn_19 : decode cX12_goesOn 19 = .ok (.if_icmp .ne 10, 3) := by decide +kernel
theorem dX12_goesOn_22 : decode cX12_goesOn 22 = .ok (.aload_n 1, 1) := by decide +kernel
theorem dX12_goesOn_23 : decode cX12_goesOn 23 = .ok (.bipush 53, 2) := by decide +kernel
theorem dX12_goesOn_25 : decode cX12_goesOn 25 = .ok (.iload_n 2, 1) := by decide +kernel
theorem dX12_goesOn_26 : decode cX12_goesOn 26 = .ok (.iadd, 1) := by decide +kernel
theorem dX12_goesOn_27 : decode cX12_goesOn 27 = .ok (.iconst 1, 1) := by decide +kernel
theorem dX12_goesOn_28 : decode cX12_goesOn 28 = .ok (.iastore, 1) := by decide +kernel
theorem dX12_goesOn_29 : decode cX12_goesOn 29 = .ok (.aload_n 1, 1) := by decide +kernel
theorem dX12_goesOn_30 : decode cX12_goesOn 30 = .ok (.bipush 53, 2) := by decide +kernel
theorem dX12_goesOn_32 : decode cX12_goesOn 32 = .ok (.iload_n 2, 1) := by decide +kernel
theorem dX12_goesOn_33 : decode cX12_goesOn 33 = .ok (.iadd, 1) := by decide +kernel
theorem dX12_goesOn_34 : decode cX12_goesOn 34 = .ok (.iaload, 1) := by decide +kernel
theorem dX12_goesOn_35 : decode cX12_goesOn 35 = .ok (.iconst 1, 1) := by decide +kernel
theorem dX12_goesOn_36 : decode cX12_goesOn 36 = .ok (.if_icmp .eq 4, 3) := by decide +kernel
theorem dX12_goesOn_39 : decode cX12_goesOn 39 = .ok (.return_, 1) := by decide +kernel
theorem dX12_goesOn_40 : decode cX12_goesOn 40 = .ok (.aload_n 0, 1) := by decide +kernel
theorem dX12_goesOn_41 : decode cX12_goesOn 41 = .ok (.getfield 23, 3) := by decide +kernel
theorem dX12_goesOn_44 : decode cX12_goesOn 44 = .ok (.iconst 3, 1) := by decide +kernel
theorem dX12_goesOn_45 : decode cX12_goesOn 45 = .ok (.iaload, 1) := by decide +kernel
theorem dX12_goesOn_46 : decode cX12_goesOn 46 = .ok (.istore_n 3, 1) := by decide +kernel
theorem dX12_goesOn_47 : decode cX12_goesOn 47 = .ok (.iload_n 3, 1) := by decide +kernel
theorem dX12_goesOn_48 : decode cX12_goesOn 48 = .ok (.ifCond .le 86, 3) := by decide +kernel
theorem dX12_goesOn_51 : decode cX12_goesOn 51 = .ok (.aload_n 1, 1) := by decide +kernel
theorem dX12_goesOn_52 : decode cX12_goesOn 52 = .ok (.bipush 48, 2) := by decide +kernel
theorem dX12_goesOn_54 : decode cX12_goesOn 54 = .ok (.iload_n 2, 1) := by decide +kernel
theorem dX12_goesOn_55 : decode cX12_goesOn 55 = .ok (.iadd, 1) := by decide +kernel
theorem dX12_goesOn_56 : decode cX12_goesOn 56 = .ok (.iaload, 1) := by decide +kernel
theorem dX12_goesOn_57 : decode cX12_goesOn 57 = .ok (.aload_n 0, 1) := by decide +kernel
theorem dX12_goesOn_58 : decode cX12_goesOn 58 = .ok (.getfield 23, 3) := by decide +kernel
theorem dX12_goesOn_61 : decode cX12_goesOn 61 = .ok (.iconst 0, 1) := by decide +kernel
theorem dX12_goesOn_62 : decode cX12_goesOn 62 = .ok (.iaload, 1) := by decide +kernel
theorem dX12_goesOn_63 : decode cX12_goesOn 63 = .ok (.if_icmp .ge 71, 3) := by decide +kernel
theorem dX12_goesOn_66 : decode cX12_goesOn 66 = .ok (.aload_n 1, 1) := by decide +kernel
theorem dX12_goesOn_67 : decode cX12_goesOn 67 = .ok (.bipush 48, 2) := by decide +kernel
theorem dX12_goesOn_69 : decode cX12_goesOn 69 = .ok (.iload_n 2, 1) := by decide +kernel
theorem dX12_goesOn_70 : decode cX12_goesOn 70 = .ok (.iadd, 1) := by decide +kernel
theorem dX12_goesOn_71 : decode cX12_goesOn 71 = .ok (.iaload, 1) := by decide +kernel
theorem dX12_goesOn_72 : decode cX12_goesOn 72 = .ok (.istore 4, 2) := by decide +kernel
theorem dX12_goesOn_74 : decode cX12_goesOn 74 = .ok (.aload_n 0, 1) := by decide +kernel
theorem dX12_goesOn_75 : decode cX12_goesOn 75 = .ok (.getfield 73, 3) := by decide +kernel
theorem dX12_goesOn_78 : decode cX12_goesOn 78 = .ok (.iload 4, 2) := by decide +kernel
theorem dX12_goesOn_80 : decode cX12_goesOn 80 = .ok (.iaload, 1) := by decide +kernel
theorem dX12_goesOn_81 : decode cX12_goesOn 81 = .ok (.ifCond .ne 37, 3) := by decide +kernel
theorem dX12_goesOn_84 : decode cX12_goesOn 84 = .ok (.aload_n 0, 1) := by decide +kernel
theorem dX12_goesOn_85 : decode cX12_goesOn 85 = .ok (.aload_n 1, 1) := by decide +kernel
theorem dX12_goesOn_86 : decode cX12_goesOn 86 = .ok (.iload_n 2, 1) := by decide +kernel
theorem dX12_goesOn_87 : decode cX12_goesOn 87 = .ok (.invokevirtual 294, 3) := by decide +kernel
theorem dX12_goesOn_90 : decode cX12_goesOn 90 = .ok (.aload_n 0, 1) := by decide +kernel
theorem dX12_goesOn_91 : decode cX12_goesOn 91 = .ok (.getfield 31, 3) := by decide +kernel
theorem dX12_goesOn_94 : decode cX12_goesOn 94 = .ok (.iload 4, 2) := by decide +kernel
theorem dX12_goesOn_96 : decode cX12_goesOn 96 = .ok (.aaload, 1) := by decide +kernel
theorem dX12_goesOn_97 : decode cX12_goesOn 97 = .ok (.iconst 0, 1) := by decide +kernel
theorem dX12_goesOn_98 : decode cX12_goesOn 98 = .ok (.iaload, 1) := by decide +kernel
theorem dX12_goesOn_99 : decode cX12_goesOn 99 = .ok (.if_icmp .le 19, 3) := by decide +kernel
theorem dX12_goesOn_102 : decode cX12_goesOn 102 = .ok (.aload_n 1, 1) := by decide +kernel
theorem dX12_goesOn_103 : decode cX12_goesOn 103 = .ok (.bipush 32, 2) := by decide +kernel
theorem dX12_goesOn_105 : decode cX12_goesOn 105 = .ok (.iload 4, 2) := by decide +kernel
theorem dX12_goesOn_107 : decode cX12_goesOn 107 = .ok (.iadd, 1) := by decide +kernel
theorem dX12_goesOn_108 : decode cX12_goesOn 108 = .ok (.dup2, 1) := by decide +kernel
theorem dX12_goesOn_109 : decode cX12_goesOn 109 = .ok (.iaload, 1) := by decide +kernel
theorem dX12_goesOn_110 : decode cX12_goesOn 110 = .ok (.iconst 1, 1) := by decide +kernel
theorem dX12_goesOn_111 : decode cX12_goesOn 111 = .ok (.iadd, 1) := by decide +kernel
theorem dX12_goesOn_112 : decode cX12_goesOn 112 = .ok (.iastore, 1) := by decide +kernel
theorem dX12_goesOn_113 : decode cX12_goesOn 113 = .ok (.iconst 0, 1) := by decide +kernel
theorem dX12_goesOn_114 : decode cX12_goesOn 114 = .ok (.istore_n 3, 1) := by decide +kernel
theorem dX12_goesOn_115 : decode cX12_goesOn 115 = .ok (.goto 16, 3) := by decide +kernel
theorem dX12_goesOn_118 : decode cX12_goesOn 118 = .ok (.aload_n 1, 1) := by decide +kernel
theorem dX12_goesOn_119 : decode cX12_goesOn 119 = .ok (.bipush 48, 2) := by decide +kernel
theorem dX12_goesOn_121 : decode cX12_goesOn 121 = .ok (.iload_n 2, 1) := by decide +kernel
theorem dX12_goesOn_122 : decode cX12_goesOn 122 = .ok (.iadd, 1) := by decide +kernel
theorem dX12_goesOn_123 : decode cX12_goesOn 123 = .ok (.dup2, 1) := by decide +kernel
theorem dX12_goesOn_124 : decode cX12_goesOn 124 = .ok (.iaload, 1) := by decide +kernel
theorem dX12_goesOn_125 : decode cX12_goesOn 125 = .ok (.iconst 1, 1) := by decide +kernel
theorem dX12_goesOn_126 : decode cX12_goesOn 126 = .ok (.iadd, 1) := by decide +kernel
theorem dX12_goesOn_127 : decode cX12_goesOn 127 = .ok (.iastore, 1) := by decide +kernel
theorem dX12_goesOn_128 : decode cX12_goesOn 128 = .ok (.iinc 3 (-1), 3) := by decide +kernel
theorem dX12_goesOn_131 : decode cX12_goesOn 131 = .ok (.goto (-84), 3) := by decide +kernel
theorem dX12_goesOn_134 : decode cX12_goesOn 134 = .ok (.aload_n 1, 1) := by decide +kernel
theorem dX12_goesOn_135 : decode cX12_goesOn 135 = .ok (.bipush 48, 2) := by decide +kernel
theorem dX12_goesOn_137 : decode cX12_goesOn 137 = .ok (.iload_n 2, 1) := by decide +kernel
theorem dX12_goesOn_138 : decode cX12_goesOn 138 = .ok (.iadd, 1) := by decide +kernel
theorem dX12_goesOn_139 : decode cX12_goesOn 139 = .ok (.iaload, 1) := by decide +kernel
theorem dX12_goesOn_140 : decode cX12_goesOn 140 = .ok (.aload_n 0, 1) := by decide +kernel
theorem dX12_goesOn_141 : decode cX12_goesOn 141 = .ok (.getfield 23, 3) := by decide +kernel
theorem dX12_goesOn_144 : decode cX12_goesOn 144 = .ok (.iconst 0, 1) := by decide +kernel
theorem dX12_goesOn_145 : decode cX12_goesOn 145 = .ok (.iaload, 1) := by decide +kernel
theorem dX12_goesOn_146 : decode cX12_goesOn 146 = .ok (.if_icmp .ge 4, 3) := by decide +kernel
theorem dX12_goesOn_149 : decode cX12_goesOn 149 = .ok (.return_, 1) := by decide +kernel
theorem dX12_goesOn_150 : decode cX12_goesOn 150 = .ok (.aload_n 1, 1) := by decide +kernel
theorem dX12_goesOn_151 : decode cX12_goesOn 151 = .ok (.bipush 53, 2) := by decide +kernel
theorem dX12_goesOn_153 : decode cX12_goesOn 153 = .ok (.iload_n 2, 1) := by decide +kernel
theorem dX12_goesOn_154 : decode cX12_goesOn 154 = .ok (.iadd, 1) := by decide +kernel
theorem dX12_goesOn_155 : decode cX12_goesOn 155 = .ok (.iconst 2, 1) := by decide +kernel
theorem dX12_goesOn_156 : decode cX12_goesOn 156 = .ok (.iastore, 1) := by decide +kernel
theorem dX12_goesOn_157 : decode cX12_goesOn 157 = .ok (.aload_n 1, 1) := by decide +kernel
theorem dX12_goesOn_158 : decode cX12_goesOn 158 = .ok (.bipush 58, 2) := by decide +kernel
theorem dX12_goesOn_160 : decode cX12_goesOn 160 = .ok (.iload_n 2, 1) := by decide +kernel
theorem dX12_goesOn_161 : decode cX12_goesOn 161 = .ok (.iadd, 1) := by decide +kernel
theorem dX12_goesOn_162 : decode cX12_goesOn 162 = .ok (.aload_n 1, 1) := by decide +kernel
theorem dX12_goesOn_163 : decode cX12_goesOn 163 = .ok (.bipush 63, 2) := by decide +kernel
theorem dX12_goesOn_165 : decode cX12_goesOn 165 = .ok (.iaload, 1) := by decide +kernel
theorem dX12_goesOn_166 : decode cX12_goesOn 166 = .ok (.iastore, 1) := by decide +kernel
theorem dX12_goesOn_167 : decode cX12_goesOn 167 = .ok (.return_, 1) := by decide +kernel
theorem dX12_does_0 : decode cX12_does 0 = .ok (.aload_n 2, 1) := by decide +kernel
theorem dX12_does_1 : decode cX12_does 1 = .ok (.iconst 0, 1) := by decide +kernel
theorem dX12_does_2 : decode cX12_does 2 = .ok (.iaload, 1) := by decide +kernel
theorem dX12_does_3 : decode cX12_does 3 = .ok (.iconst 3, 1) := by decide +kernel
theorem dX12_does_4 : decode cX12_does 4 = .ok (.if_icmp .ne 22, 3) := by decide +kernel
theorem dX12_does_7 : decode cX12_does 7 = .ok (.aload_n 1, 1) := by decide +kernel
theorem dX12_does_8 : decode cX12_does 8 = .ok (.bipush 63, 2) := by decide +kernel
theorem dX12_does_10 : decode cX12_does 10 = .ok (.iaload, 1) := by decide +kernel
theorem dX12_does_11 : decode cX12_does 11 = .ok (.sipush 960, 3) := by decide +kernel
theorem dX12_does_14 : decode cX12_does 14 = .ok (.if_icmp .lt 5, 3) := by decide +kernel
theorem dX12_does_17 : decode cX12_does 17 = .ok (.iconst 0, 1) := by decide +kernel
theorem dX12_does_18 : decode cX12_does 18 = .ok (.ireturn, 1) := by decide +kernel
theorem dX12_does_19 : decode cX12_does 19 = .ok (.aload_n 0, 1) := by decide +kernel
theorem dX12_does_20 : decode cX12_does 20 = .ok (.aload_n 1, 1) := by decide +kernel
theorem dX12_does_21 : decode cX12_does 21 = .ok (.invokevirtual 297, 3) := by decide +kernel
theorem dX12_does_24 : decode cX12_does 24 = .ok (.iconst 1, 1) := by decide +kernel
theorem dX12_does_25 : decode cX12_does 25 = .ok (.ireturn, 1) := by decide +kernel
theorem dX12_does_26 : decode cX12_does 26 = .ok (.aload_n 2, 1) := by decide +kernel
theorem dX12_does_27 : decode cX12_does 27 = .ok (.iconst 0, 1) := by decide +kernel
theorem dX12_does_28 : decode cX12_does 28 = .ok (.iaload, 1) := by decide +kernel
theorem dX12_does_29 : decode cX12_does 29 = .ok (.iconst 2, 1) := by decide +kernel
theorem dX12_does_30 : decode cX12_does 30 = .ok (.if_icmp .ne 7, 3) := by decide +kernel
theorem dX12_does_33 : decode cX12_does 33 = .ok (.iconst 0, 1) := by decide +kernel
theorem dX12_does_34 : decode cX12_does 34 = .ok (.goto 8, 3) := by decide +kernel
theorem dX12_does_37 : decode cX12_does 37 = .ok (.aload_n 2, 1) := by decide +kernel
theorem dX12_does_38 : decode cX12_does 38 = .ok (.iconst 0, 1) := by decide +kernel
theorem dX12_does_39 : decode cX12_does 39 = .ok (.iaload, 1) := by decide +kernel
theorem dX12_does_40 : decode cX12_does 40 = .ok (.iconst 1, 1) := by decide +kernel
theorem dX12_does_41 : decode cX12_does 41 = .ok (.iadd, 1) := by decide +kernel
theorem dX12_does_42 : decode cX12_does 42 = .ok (.istore_n 3, 1) := by decide +kernel
theorem dX12_does_43 : decode cX12_does 43 = .ok (.aload_n 1, 1) := by decide +kernel
theorem dX12_does_44 : decode cX12_does 44 = .ok (.iconst 0, 1) := by decide +kernel
theorem dX12_does_45 : decode cX12_does 45 = .ok (.aload_n 2, 1) := by decide +kernel
theorem dX12_does_46 : decode cX12_does 46 = .ok (.iconst 1, 1) := by decide +kernel
theorem dX12_does_47 : decode cX12_does 47 = .ok (.iaload, 1) := by decide +kernel
theorem dX12_does_48 : decode cX12_does 48 = .ok (.iadd, 1) := by decide +kernel
theorem dX12_does_49 : decode cX12_does 49 = .ok (.iaload, 1) := by decide +kernel
theorem dX12_does_50 : decode cX12_does 50 = .ok (.iload_n 3, 1) := by decide +kernel
theorem dX12_does_51 : decode cX12_does 51 = .ok (.if_icmp .ne 5, 3) := by decide +kernel
theorem dX12_does_54 : decode cX12_does 54 = .ok (.iconst 0, 1) := by decide +kernel
theorem dX12_does_55 : decode cX12_does 55 = .ok (.ireturn, 1) := by decide +kernel
theorem dX12_does_56 : decode cX12_does 56 = .ok (.aload_n 1, 1) := by decide +kernel
theorem dX12_does_57 : decode cX12_does 57 = .ok (.iconst 0, 1) := by decide +kernel
theorem dX12_does_58 : decode cX12_does 58 = .ok (.aload_n 2, 1) := by decide +kernel
theorem dX12_does_59 : decode cX12_does 59 = .ok (.iconst 1, 1) := by decide +kernel
theorem dX12_does_60 : decode cX12_does 60 = .ok (.iaload, 1) := by decide +kernel
theorem dX12_does_61 : decode cX12_does 61 = .ok (.iadd, 1) := by decide +kernel
theorem dX12_does_62 : decode cX12_does 62 = .ok (.iload_n 3, 1) := by decide +kernel
theorem dX12_does_63 : decode cX12_does 63 = .ok (.iastore, 1) := by decide +kernel
theorem dX12_does_64 : decode cX12_does 64 = .ok (.iconst 1, 1) := by decide +kernel
theorem dX12_does_65 : decode cX12_does 65 = .ok (.ireturn, 1) := by decide +kernel
theorem dX12_goes_0 : decode cX12_goes 0 = .ok (.iload_n 1, 1) := by decide +kernel
theorem dX12_goes_1 : decode cX12_goes 1 = .ok (.istore_n 3, 1) := by decide +kernel
theorem dX12_goes_2 : decode cX12_goes 2 = .ok (.iload_n 3, 1) := by decide +kernel
theorem dX12_goes_3 : decode cX12_goes 3 = .ok (.iload_n 2, 1) := by decide +kernel
theorem dX12_goes_4 : decode cX12_goes 4 = .ok (.if_icmp .ge 151, 3) := by decide +kernel
theorem dX12_goes_7 : decode cX12_goes 7 = .ok (.aload_n 0, 1) := by decide +kernel
theorem dX12_goes_8 : decode cX12_goes 8 = .ok (.getfield 301, 3) := by decide +kernel
theorem dX12_goes_11 : decode cX12_goes 11 = .ok (.sipush 240, 3) := by decide +kernel
theorem dX12_goes_14 : decode cX12_goes 14 = .ok (.if_icmp .ge 141, 3) := by decide +kernel
theorem dX12_goes_17 : decode cX12_goes 17 = .ok (.aload_n 0, 1) := by decide +kernel
theorem dX12_goes_18 : decode cX12_goes 18 = .ok (.dup, 1) := by decide +kernel
theorem dX12_goes_19 : decode cX12_goes 19 = .ok (.getfield 301, 3) := by decide +kernel
theorem dX12_goes_22 : decode cX12_goes 22 = .ok (.iconst 1, 1) := by decide +kernel
theorem dX12_goes_23 : decode cX12_goes 23 = .ok (.iadd, 1) := by decide +kernel
theorem dX12_goes_24 : decode cX12_goes 24 = .ok (.putfield 301, 3) := by decide +kernel
theorem dX12_goes_27 : decode cX12_goes 27 = .ok (.aload_n 0, 1) := by decide +kernel
theorem dX12_goes_28 : decode cX12_goes 28 = .ok (.getfield 64, 3) := by decide +kernel
theorem dX12_goes_31 : decode cX12_goes 31 = .ok (.iload_n 3, 1) := by decide +kernel
theorem dX12_goes_32 : decode cX12_goes 32 = .ok (.aaload, 1) := by decide +kernel
theorem dX12_goes_33 : decode cX12_goes 33 = .ok (.iconst 0, 1) := by decide +kernel
theorem dX12_goes_34 : decode cX12_goes 34 = .ok (.iaload, 1) := by decide +kernel
theorem dX12_goes_35 : decode cX12_goes 35 = .ok (.iconst 4, 1) := by decide +kernel
theorem dX12_goes_36 : decode cX12_goes 36 = .ok (.if_icmp .ne 53, 3) := by decide +kernel
theorem dX12_goes_39 : decode cX12_goes 39 = .ok (.iconst 0, 1) := by decide +kernel
theorem dX12_goes_40 : decode cX12_goes 40 = .ok (.istore 4, 2) := by decide +kernel
theorem dX12_goes_42 : decode cX12_goes 42 = .ok (.iload 4, 2) := by decide +kernel
theorem dX12_goes_44 : decode cX12_goes 44 = .ok (.aload_n 0, 1) := by decide +kernel
theorem dX12_goes_45 : decode cX12_goes 45 = .ok (.getfield 64, 3) := by decide +kernel
theorem dX12_goes_48 : decode cX12_goes 48 = .ok (.iload_n 3, 1) := by decide +kernel
theorem dX12_goes_49 : decode cX12_goes 49 = .ok (.aaload, 1) := by decide +kernel
theorem dX12_goes_50 : decode cX12_goes 50 = .ok (.iconst 1, 1) := by decide +kernel
theorem dX12_goes_51 : decode cX12_goes 51 = .ok (.iaload, 1) := by decide +kernel
theorem dX12_goes_52 : decode cX12_goes 52 = .ok (.if_icmp .ge 34, 3) := by decide +kernel
theorem dX12_goes_55 : decode cX12_goes 55 = .ok (.aload_n 0, 1) := by decide +kernel
theorem dX12_goes_56 : decode cX12_goes 56 = .ok (.getfield 301, 3) := by decide +kernel
theorem dX12_goes_59 : decode cX12_goes 59 = .ok (.sipush 240, 3) := by decide +kernel
theorem dX12_goes_62 : decode cX12_goes 62 = .ok (.if_icmp .ge 24, 3) := by decide +kernel
theorem dX12_goes_65 : decode cX12_goes 65 = .ok (.aload_n 0, 1) := by decide +kernel
theorem dX12_goes_66 : decode cX12_goes 66 = .ok (.iload_n 3, 1) := by decide +kernel
theorem dX12_goes_67 : decode cX12_goes 67 = .ok (.iconst 1, 1) := by decide +kernel
theorem dX12_goes_68 : decode cX12_goes 68 = .ok (.iadd, 1) := by decide +kernel
theorem dX12_goes_69 : decode cX12_goes 69 = .ok (.aload_n 0, 1) := by decide +kernel
theorem dX12_goes_70 : decode cX12_goes 70 = .ok (.getfield 64, 3) := by decide +kernel
theorem dX12_goes_73 : decode cX12_goes 73 = .ok (.iload_n 3, 1) := by decide +kernel
theorem dX12_goes_74 : decode cX12_goes 74 = .ok (.aaload, 1) := by decide +kernel
theorem dX12_goes_75 : decode cX12_goes 75 = .ok (.iconst 2, 1) := by decide +kernel
theorem dX12_goes_76 : decode cX12_goes 76 = .ok (.iaload, 1) := by decide +kernel
theorem dX12_goes_77 : decode cX12_goes 77 = .ok (.invokevirtual 304, 3) := by decide +kernel
theorem dX12_goes_80 : decode cX12_goes 80 = .ok (.iinc 4 1, 3) := by decide +kernel
theorem dX12_goes_83 : decode cX12_goes 83 = .ok (.goto (-41), 3) := by decide +kernel
theorem dX12_goes_86 : decode cX12_goes 86 = .ok (.goto 57, 3) := by decide +kernel
theorem dX12_goes_89 : decode cX12_goes 89 = .ok (.aload_n 0, 1) := by decide +kernel
theorem dX12_goes_90 : decode cX12_goes 90 = .ok (.aload_n 0, 1) := by decide +kernel
theorem dX12_goes_91 : decode cX12_goes 91 = .ok (.getfield 67, 3) := by decide +kernel
theorem dX12_goes_94 : decode cX12_goes 94 = .ok (.aload_n 0, 1) := by decide +kernel
theorem dX12_goes_95 : decode cX12_goes 95 = .ok (.getfield 64, 3) := by decide +kernel
theorem dX12_goes_98 : decode cX12_goes 98 = .ok (.iload_n 3, 1) := by decide +kernel
theorem dX12_goes_99 : decode cX12_goes 99 = .ok (.aaload, 1) := by decide +kernel
theorem dX12_goes_100 : decode cX12_goes 100 = .ok (.invokevirtual 307, 3) := by decide +kernel
theorem dX12_goes_103 : decode cX12_goes 103 = .ok (.istore 4, 2) := by decide +kernel
theorem dX12_goes_105 : decode cX12_goes 105 = .ok (.aload_n 0, 1) := by decide +kernel
theorem dX12_goes_106 : decode cX12_goes 106 = .ok (.dup, 1) := by decide +kernel
theorem dX12_goes_107 : decode cX12_goes 107 = .ok (.getfield 311, 3) := by decide +kernel
theorem dX12_goes_110 : decode cX12_goes 110 = .ok (.iload 4, 2) := by decide +kernel
theorem dX12_goes_112 : decode cX12_goes 112 = .ok (.ifCond .eq 7, 3) := by decide +kernel
theorem dX12_goes_115 : decode cX12_goes 115 = .ok (.iconst 1, 1) := by decide +kernel
theorem dX12_goes_116 : decode cX12_goes 116 = .ok (.goto 4, 3) := by decide +kernel
theorem dX12_goes_119 : decode cX12_goes 119 = .ok (.iconst 0, 1) := by decide +kernel
theorem dX12_goes_120 : decode cX12_goes 120 = .ok (.iadd, 1) := by decide +kernel
theorem dX12_goes_121 : decode cX12_goes 121 = .ok (.putfield 311, 3) := by decide +kernel
theorem dX12_goes_124 : decode cX12_goes 124 = .ok (.aload_n 0, 1) := by decide +kernel
theorem dX12_goes_125 : decode cX12_goes 125 = .ok (.dup, 1) := by decide +kernel
theorem dX12_goes_126 : decode cX12_goes 126 = .ok (.getfield 205, 3) := by decide +kernel
theorem dX12_goes_129 : decode cX12_goes 129 = .ok (.iload 4, 2) := by decide +kernel
theorem dX12_goes_131 : decode cX12_goes 131 = .ok (.ifCond .eq 7, 3) := by decide +kernel
theorem dX12_goes_134 : decode cX12_goes 134 = .ok (.iconst 0, 1) := by decide +kernel
theorem dX12_goes_135 : decode cX12_goes 135 = .ok (.goto 4, 3) := by decide +kernel
theorem dX12_goes_138 : decode cX12_goes 138 = .ok (.iconst 1, 1) := by decide +kernel
theorem dX12_goes_139 : decode cX12_goes 139 = .ok (.iadd, 1) := by decide +kernel
theorem dX12_goes_140 : decode cX12_goes 140 = .ok (.putfield 205, 3) := by decide +kernel
theorem dX12_goes_143 : decode cX12_goes 143 = .ok (.aload_n 0, 1) := by decide +kernel
theorem dX12_goes_144 : decode cX12_goes 144 = .ok (.getfield 64, 3) := by decide +kernel
theorem dX12_goes_147 : decode cX12_goes 147 = .ok (.iload_n 3, 1) := by decide +kernel
theorem dX12_goes_148 : decode cX12_goes 148 = .ok (.aaload, 1) := by decide +kernel
theorem dX12_goes_149 : decode cX12_goes 149 = .ok (.iconst 2, 1) := by decide +kernel
theorem dX12_goes_150 : decode cX12_goes 150 = .ok (.iaload, 1) := by decide +kernel
theorem dX12_goes_151 : decode cX12_goes 151 = .ok (.istore_n 3, 1) := by decide +kernel
theorem dX12_goes_152 : decode cX12_goes 152 = .ok (.goto (-150), 3) := by decide +kernel
theorem dX12_goes_155 : decode cX12_goes 155 = .ok (.return_, 1) := by decide +kernel
theorem dX12_work_0 : decode cX12_work 0 = .ok (.aload_n 0, 1) := by decide +kernel
theorem dX12_work_1 : decode cX12_work 1 = .ok (.iconst 0, 1) := by decide +kernel
theorem dX12_work_2 : decode cX12_work 2 = .ok (.putfield 103, 3) := by decide +kernel
theorem dX12_work_5 : decode cX12_work 5 = .ok (.aload_n 0, 1) := by decide +kernel
theorem dX12_work_6 : decode cX12_work 6 = .ok (.iload_n 1, 1) := by decide +kernel
theorem dX12_work_7 : decode cX12_work 7 = .ok (.iconst 0, 1) := by decide +kernel
theorem dX12_work_8 : decode cX12_work 8 = .ok (.aload_n 0, 1) := by decide +kernel
theorem dX12_work_9 : decode cX12_work 9 = .ok (.getfield 106, 3) := by decide +kernel
theorem dX12_work_12 : decode cX12_work 12 = .ok (.invokestatic 137, 3) := by decide +kernel
theorem dX12_work_15 : decode cX12_work 15 = .ok (.ifCond .eq 10, 3) := by decide +kernel
theorem dX12_work_18 : decode cX12_work 18 = .ok (.iload_n 1, 1) := by decide +kernel
theorem dX12_work_19 : decode cX12_work 19 = .ok (.sipush 150, 3) := by decide +kernel
theorem dX12_work_22 : decode cX12_work 22 = .ok (.if_icmp .le 7, 3) := by decide +kernel
theorem dX12_work_25 : decode cX12_work 25 = .ok (.iconst 1, 1) := by decide +kernel
theorem dX12_work_26 : decode cX12_work 26 = .ok (.goto 4, 3) := by decide +kernel
theorem dX12_work_29 : decode cX12_work 29 = .ok (.iconst 0, 1) := by decide +kernel
theorem dX12_work_30 : decode cX12_work 30 = .ok (.iconst 1, 1) := by decide +kernel
theorem dX12_work_31 : decode cX12_work 31 = .ok (.iconst 1, 1) := by decide +kernel
theorem dX12_work_32 : decode cX12_work 32 = .ok (.invokevirtual 179, 3) := by decide +kernel
theorem dX12_work_35 : decode cX12_work 35 = .ok (.ifCond .eq 5, 3) := by decide +kernel
theorem dX12_work_38 : decode cX12_work 38 = .ok (.iconst 0, 1) := by decide +kernel
theorem dX12_work_39 : decode cX12_work 39 = .ok (.ireturn, 1) := by decide +kernel
theorem dX12_work_40 : decode cX12_work 40 = .ok (.aload_n 0, 1) := by decide +kernel
theorem dX12_work_41 : decode cX12_work 41 = .ok (.getfield 202, 3) := by decide +kernel
theorem dX12_work_44 : decode cX12_work 44 = .ok (.bipush 16, 2) := by decide +kernel
theorem dX12_work_46 : decode cX12_work 46 = .ok (.if_icmp .ne 16, 3) := by decide +kernel
theorem dX12_work_49 : decode cX12_work 49 = .ok (.aload_n 0, 1) := by decide +kernel
theorem dX12_work_50 : decode cX12_work 50 = .ok (.iconst 0, 1) := by decide +kernel
theorem dX12_work_51 : decode cX12_work 51 = .ok (.putfield 106, 3) := by decide +kernel
theorem dX12_work_54 : decode cX12_work 54 = .ok (.aload_n 0, 1) := by decide +kernel
theorem dX12_work_55 : decode cX12_work 55 = .ok (.iconst (-1), 1) := by decide +kernel
theorem dX12_work_56 : decode cX12_work 56 = .ok (.putfield 9, 3) := by decide +kernel
theorem dX12_work_59 : decode cX12_work 59 = .ok (.bipush (-20), 2) := by decide +kernel
theorem dX12_work_61 : decode cX12_work 61 = .ok (.ireturn, 1) := by decide +kernel
theorem dX12_work_62 : decode cX12_work 62 = .ok (.aload_n 0, 1) := by decide +kernel
theorem dX12_work_63 : decode cX12_work 63 = .ok (.iload_n 1, 1) := by decide +kernel
theorem dX12_work_64 : decode cX12_work 64 = .ok (.invokevirtual 183, 3) := by decide +kernel
theorem dX12_work_67 : decode cX12_work 67 = .ok (.aload_n 0, 1) := by decide +kernel
theorem dX12_work_68 : decode cX12_work 68 = .ok (.iconst 0, 1) := by decide +kernel
theorem dX12_work_69 : decode cX12_work 69 = .ok (.putfield 252, 3) := by decide +kernel
theorem dX12_work_72 : decode cX12_work 72 = .ok (.aload_n 0, 1) := by decide +kernel
theorem dX12_work_73 : decode cX12_work 73 = .ok (.getfield 119, 3) := by decide +kernel
theorem dX12_work_76 : decode cX12_work 76 = .ok (.ifCond .ne 25, 3) := by decide +kernel
theorem dX12_work_79 : decode cX12_work 79 = .ok (.aload_n 0, 1) := by decide +kernel
theorem dX12_work_80 : decode cX12_work 80 = .ok (.getfield 112, 3) := by decide +kernel
theorem dX12_work_83 : decode cX12_work 83 = .ok (.aload_n 0, 1) := by decide +kernel
theorem dX12_work_84 : decode cX12_work 84 = .ok (.getfield 109, 3) := by decide +kernel
theorem dX12_work_87 : decode cX12_work 87 = .ok (.if_icmp .ge 14, 3) := by decide +kernel
theorem dX12_work_90 : decode cX12_work 90 = .ok (.aload_n 0, 1) := by decide +kernel
theorem dX12_work_91 : decode cX12_work 91 = .ok (.invokevirtual 255, 3) := by decide +kernel
theorem dX12_work_94 : decode cX12_work 94 = .ok (.aload_n 0, 1) := by decide +kernel
theorem dX12_work_95 : decode cX12_work 95 = .ok (.invokevirtual 125, 3) := by decide +kernel
theorem dX12_work_98 : decode cX12_work 98 = .ok (.goto (-26), 3) := by decide +kernel
theorem dX12_work_101 : decode cX12_work 101 = .ok (.aload_n 0, 1) := by decide +kernel
theorem dX12_work_102 : decode cX12_work 102 = .ok (.getfield 119, 3) := by decide +kernel
theorem dX12_work_105 : decode cX12_work 105 = .ok (.ifCond .eq 8, 3) := by decide +kernel
theorem dX12_work_108 : decode cX12_work 108 = .ok (.aload_n 0, 1) := by decide +kernel
theorem dX12_work_109 : decode cX12_work 109 = .ok (.invokevirtual 189, 3) := by decide +kernel
theorem dX12_work_112 : decode cX12_work 112 = .ok (.ireturn, 1) := by decide +kernel
theorem dX12_work_113 : decode cX12_work 113 = .ok (.aload_n 0, 1) := by decide +kernel
theorem dX12_work_114 : decode cX12_work 114 = .ok (.iconst (-1), 1) := by decide +kernel
theorem dX12_work_115 : decode cX12_work 115 = .ok (.putfield 9, 3) := by decide +kernel
theorem dX12_work_118 : decode cX12_work 118 = .ok (.aload_n 0, 1) := by decide +kernel
theorem dX12_work_119 : decode cX12_work 119 = .ok (.getfield 67, 3) := by decide +kernel
theorem dX12_work_122 : decode cX12_work 122 = .ok (.aload_n 0, 1) := by decide +kernel
theorem dX12_work_123 : decode cX12_work 123 = .ok (.getfield 76, 3) := by decide +kernel
theorem dX12_work_126 : decode cX12_work 126 = .ok (.aload_n 0, 1) := by decide +kernel
theorem dX12_work_127 : decode cX12_work 127 = .ok (.getfield 202, 3) := by decide +kernel
theorem dX12_work_130 : decode cX12_work 130 = .ok (.aaload, 1) := by decide +kernel
theorem dX12_work_131 : decode cX12_work 131 = .ok (.invokestatic 314, 3) := by decide +kernel
theorem dX12_work_134 : decode cX12_work 134 = .ok (.aload_n 0, 1) := by decide +kernel
theorem dX12_work_135 : decode cX12_work 135 = .ok (.dup, 1) := by decide +kernel
theorem dX12_work_136 : decode cX12_work 136 = .ok (.getfield 202, 3) := by decide +kernel
theorem dX12_work_139 : decode cX12_work 139 = .ok (.iconst 1, 1) := by decide +kernel
theorem dX12_work_140 : decode cX12_work 140 = .ok (.iadd, 1) := by decide +kernel
theorem dX12_work_141 : decode cX12_work 141 = .ok (.putfield 202, 3) := by decide +kernel
theorem dX12_work_144 : decode cX12_work 144 = .ok (.aload_n 0, 1) := by decide +kernel
theorem dX12_work_145 : decode cX12_work 145 = .ok (.iconst 0, 1) := by decide +kernel
theorem dX12_work_146 : decode cX12_work 146 = .ok (.putfield 301, 3) := by decide +kernel
theorem dX12_work_149 : decode cX12_work 149 = .ok (.aload_n 0, 1) := by decide +kernel
theorem dX12_work_150 : decode cX12_work 150 = .ok (.iconst 0, 1) := by decide +kernel
theorem dX12_work_151 : decode cX12_work 151 = .ok (.putfield 311, 3) := by decide +kernel
theorem dX12_work_154 : decode cX12_work 154 = .ok (.aload_n 0, 1) := by decide +kernel
theorem dX12_work_155 : decode cX12_work 155 = .ok (.iconst 0, 1) := by decide +kernel
theorem dX12_work_156 : decode cX12_work 156 = .ok (.putfield 205, 3) := by decide +kernel
theorem dX12_work_159 : decode cX12_work 159 = .ok (.aload_n 0, 1) := by decide +kernel
theorem dX12_work_160 : decode cX12_work 160 = .ok (.iconst 0, 1) := by decide +kernel
theorem dX12_work_161 : decode cX12_work 161 = .ok (.aload_n 0, 1) := by decide +kernel
theorem dX12_work_162 : decode cX12_work 162 = .ok (.getfield 252, 3) := by decide +kernel
theorem dX12_work_165 : decode cX12_work 165 = .ok (.invokevirtual 304, 3) := by decide +kernel
theorem dX12_work_168 : decode cX12_work 168 = .ok (.aload_n 0, 1) := by decide +kernel
theorem dX12_work_169 : decode cX12_work 169 = .ok (.getfield 311, 3) := by decide +kernel
theorem dX12_work_172 : decode cX12_work 172 = .ok (.ireturn, 1) := by decide +kernel
theorem dX12_undo_0 : decode cX12_undo 0 = .ok (.aload_n 0, 1) := by decide +kernel
theorem dX12_undo_1 : decode cX12_undo 1 = .ok (.iconst 0, 1) := by decide +kernel
theorem dX12_undo_2 : decode cX12_undo 2 = .ok (.putfield 103, 3) := by decide +kernel
theorem dX12_undo_5 : decode cX12_undo 5 = .ok (.aload_n 0, 1) := by decide +kernel
theorem dX12_undo_6 : decode cX12_undo 6 = .ok (.getfield 202, 3) := by decide +kernel
theorem dX12_undo_9 : decode cX12_undo 9 = .ok (.ifCond .ne 5, 3) := by decide +kernel
theorem dX12_undo_12 : decode cX12_undo 12 = .ok (.iconst (-1), 1) := by decide +kernel
theorem dX12_undo_13 : decode cX12_undo 13 = .ok (.ireturn, 1) := by decide +kernel
theorem dX12_undo_14 : decode cX12_undo 14 = .ok (.aload_n 0, 1) := by decide +kernel
theorem dX12_undo_15 : decode cX12_undo 15 = .ok (.dup, 1) := by decide +kernel
theorem dX12_undo_16 : decode cX12_undo 16 = .ok (.getfield 202, 3) := by decide +kernel
theorem dX12_undo_19 : decode cX12_undo 19 = .ok (.iconst 1, 1) := by decide +kernel
theorem dX12_undo_20 : decode cX12_undo 20 = .ok (.isub, 1) := by decide +kernel
theorem dX12_undo_21 : decode cX12_undo 21 = .ok (.putfield 202, 3) := by decide +kernel
theorem dX12_undo_24 : decode cX12_undo 24 = .ok (.aload_n 0, 1) := by decide +kernel
theorem dX12_undo_25 : decode cX12_undo 25 = .ok (.getfield 76, 3) := by decide +kernel
theorem dX12_undo_28 : decode cX12_undo 28 = .ok (.aload_n 0, 1) := by decide +kernel
theorem dX12_undo_29 : decode cX12_undo 29 = .ok (.getfield 202, 3) := by decide +kernel
theorem dX12_undo_32 : decode cX12_undo 32 = .ok (.aaload, 1) := by decide +kernel
theorem dX12_undo_33 : decode cX12_undo 33 = .ok (.aload_n 0, 1) := by decide +kernel
theorem dX12_undo_34 : decode cX12_undo 34 = .ok (.getfield 67, 3) := by decide +kernel
theorem dX12_undo_37 : decode cX12_undo 37 = .ok (.invokestatic 314, 3) := by decide +kernel
theorem dX12_undo_40 : decode cX12_undo 40 = .ok (.aload_n 0, 1) := by decide +kernel
theorem dX12_undo_41 : decode cX12_undo 41 = .ok (.iconst 0, 1) := by decide +kernel
theorem dX12_undo_42 : decode cX12_undo 42 = .ok (.putfield 205, 3) := by decide +kernel
theorem dX12_undo_45 : decode cX12_undo 45 = .ok (.aload_n 0, 1) := by decide +kernel
theorem dX12_undo_46 : decode cX12_undo 46 = .ok (.getfield 202, 3) := by decide +kernel
theorem dX12_undo_49 : decode cX12_undo 49 = .ok (.ireturn, 1) := by decide +kernel
theorem dX12_ones_0 : decode cX12_ones 0 = .ok (.iconst 0, 1) := by decide +kernel
theorem dX12_ones_1 : decode cX12_ones 1 = .ok (.istore_n 1, 1) := by decide +kernel
theorem dX12_ones_2 : decode cX12_ones 2 = .ok (.iconst 0, 1) := by decide +kernel
theorem dX12_ones_3 : decode cX12_ones 3 = .ok (.istore_n 2, 1) := by decide +kernel
theorem dX12_ones_4 : decode cX12_ones 4 = .ok (.iload_n 2, 1) := by decide +kernel
theorem dX12_ones_5 : decode cX12_ones 5 = .ok (.bipush 16, 2) := by decide +kernel
theorem dX12_ones_7 : decode cX12_ones 7 = .ok (.if_icmp .ge 17, 3) := by decide +kernel
theorem dX12_ones_10 : decode cX12_ones 10 = .ok (.iload_n 1, 1) := by decide +kernel
theorem dX12_ones_11 : decode cX12_ones 11 = .ok (.iload_n 0, 1) := by decide +kernel
theorem dX12_ones_12 : decode cX12_ones 12 = .ok (.iload_n 2, 1) := by decide +kernel
theorem dX12_ones_13 : decode cX12_ones 13 = .ok (.ishr, 1) := by decide +kernel
theorem dX12_ones_14 : decode cX12_ones 14 = .ok (.iconst 1, 1) := by decide +kernel
theorem dX12_ones_15 : decode cX12_ones 15 = .ok (.iand, 1) := by decide +kernel
theorem dX12_ones_16 : decode cX12_ones 16 = .ok (.iadd, 1) := by decide +kernel
theorem dX12_ones_17 : decode cX12_ones 17 = .ok (.istore_n 1, 1) := by decide +kernel
theorem dX12_ones_18 : decode cX12_ones 18 = .ok (.iinc 2 1, 3) := by decide +kernel
theorem dX12_ones_21 : decode cX12_ones 21 = .ok (.goto (-17), 3) := by decide +kernel
theorem dX12_ones_24 : decode cX12_ones 24 = .ok (.iload_n 1, 1) := by decide +kernel
theorem dX12_ones_25 : decode cX12_ones 25 = .ok (.ireturn, 1) := by decide +kernel
theorem dX12_sumOf_0 : decode cX12_sumOf 0 = .ok (.iconst 0, 1) := by decide +kernel
theorem dX12_sumOf_1 : decode cX12_sumOf 1 = .ok (.istore_n 3, 1) := by decide +kernel
theorem dX12_sumOf_2 : decode cX12_sumOf 2 = .ok (.iconst 0, 1) := by decide +kernel
theorem dX12_sumOf_3 : decode cX12_sumOf 3 = .ok (.istore 4, 2) := by decide +kernel
theorem dX12_sumOf_5 : decode cX12_sumOf 5 = .ok (.iload 4, 2) := by decide +kernel
theorem dX12_sumOf_7 : decode cX12_sumOf 7 = .ok (.aload_n 0, 1) := by decide +kernel
theorem dX12_sumOf_8 : decode cX12_sumOf 8 = .ok (.getfield 23, 3) := by decide +kernel
theorem dX12_sumOf_11 : decode cX12_sumOf 11 = .ok (.iconst 0, 1) := by decide +kernel
theorem dX12_sumOf_12 : decode cX12_sumOf 12 = .ok (.iaload, 1) := by decide +kernel
theorem dX12_sumOf_13 : decode cX12_sumOf 13 = .ok (.if_icmp .ge 18, 3) := by decide +kernel
theorem dX12_sumOf_16 : decode cX12_sumOf 16 = .ok (.iload_n 3, 1) := by decide +kernel
theorem dX12_sumOf_17 : decode cX12_sumOf 17 = .ok (.aload_n 1, 1) := by decide +kernel
theorem dX12_sumOf_18 : decode cX12_sumOf 18 = .ok (.iload_n 2, 1) := by decide +kernel
theorem dX12_sumOf_19 : decode cX12_sumOf 19 = .ok (.iload 4, 2) := by decide +kernel
theorem dX12_sumOf_21 : decode cX12_sumOf 21 = .ok (.iadd, 1) := by decide +kernel
theorem dX12_sumOf_22 : decode cX12_sumOf 22 = .ok (.iaload, 1) := by decide +kernel
theorem dX12_sumOf_23 : decode cX12_sumOf 23 = .ok (.iadd, 1) := by decide +kernel
theorem dX12_sumOf_24 : decode cX12_sumOf 24 = .ok (.istore_n 3, 1) := by decide +kernel
theorem dX12_sumOf_25 : decode cX12_sumOf 25 = .ok (.iinc 4 1, 3) := by decide +kernel
theorem dX12_sumOf_28 : decode cX12_sumOf 28 = .ok (.goto (-23), 3) := by decide +kernel
theorem dX12_sumOf_31 : decode cX12_sumOf 31 = .ok (.iload_n 3, 1) := by decide +kernel
theorem dX12_sumOf_32 : decode cX12_sumOf 32 = .ok (.ireturn, 1) := by decide +kernel
theorem dX12_throughIn_0 : decode cX12_throughIn 0 = .ok (.iconst 0, 1) := by decide +kernel
theorem dX12_throughIn_1 : decode cX12_throughIn 1 = .ok (.istore_n 2, 1) := by decide +kernel
theorem dX12_throughIn_2 : decode cX12_throughIn 2 = .ok (.iconst 0, 1) := by decide +kernel
theorem dX12_throughIn_3 : decode cX12_throughIn 3 = .ok (.istore_n 3, 1) := by decide +kernel
theorem dX12_throughIn_4 : decode cX12_throughIn 4 = .ok (.iload_n 3, 1) := by decide +kernel
theorem dX12_throughIn_5 : decode cX12_throughIn 5 = .ok (.aload_n 0, 1) := by decide +kernel
theorem dX12_throughIn_6 : decode cX12_throughIn 6 = .ok (.getfield 23, 3) := by decide +kernel
theorem dX12_throughIn_9 : decode cX12_throughIn 9 = .ok (.iconst 1, 1) := by decide +kernel
theorem dX12_throughIn_10 : decode cX12_throughIn 10 = .ok (.iaload, 1) := by decide +kernel
theorem dX12_throughIn_11 : decode cX12_throughIn 11 = .ok (.if_icmp .ge 27, 3) := by decide +kernel
theorem dX12_throughIn_14 : decode cX12_throughIn 14 = .ok (.iload_n 2, 1) := by decide +kernel
theorem dX12_throughIn_15 : decode cX12_throughIn 15 = .ok (.aload_n 1, 1) := by decide +kernel
theorem dX12_throughIn_16 : decode cX12_throughIn 16 = .ok (.bipush 53, 2) := by decide +kernel
theorem dX12_throughIn_18 : decode cX12_throughIn 18 = .ok (.iload_n 3, 1) := by decide +kernel
theorem dX12_throughIn_19 : decode cX12_throughIn 19 = .ok (.iadd, 1) := by decide +kernel
theorem dX12_throughIn_20 : decode cX12_throughIn 20 = .ok (.iaload, 1) := by decide +kernel
theorem dX12_throughIn_21 : decode cX12_throughIn 21 = .ok (.iconst 2, 1) := by decide +kernel
theorem dX12_throughIn_22 : decode cX12_throughIn 22 = .ok (.if_icmp .ne 7, 3) := by decide +kernel
theorem dX12_throughIn_25 : decode cX12_throughIn 25 = .ok (.iconst 1, 1) := by decide +kernel
theorem dX12_throughIn_26 : decode cX12_throughIn 26 = .ok (.goto 4, 3) := by decide +kernel
theorem dX12_throughIn_29 : decode cX12_throughIn 29 = .ok (.iconst 0, 1) := by decide +kernel
theorem dX12_throughIn_30 : decode cX12_throughIn 30 = .ok (.iadd, 1) := by decide +kernel
theorem dX12_throughIn_31 : decode cX12_throughIn 31 = .ok (.istore_n 2, 1) := by decide +kernel
theorem dX12_throughIn_32 : decode cX12_throughIn 32 = .ok (.iinc 3 1, 3) := by decide +kernel
theorem dX12_throughIn_35 : decode cX12_throughIn 35 = .ok (.goto (-31), 3) := by decide +kernel
theorem dX12_throughIn_38 : decode cX12_throughIn 38 = .ok (.iload_n 2, 1) := by decide +kernel
theorem dX12_throughIn_39 : decode cX12_throughIn 39 = .ok (.ireturn, 1) := by decide +kernel
theorem dX12_told_0 : decode cX12_told 0 = .ok (.aload_n 0, 1) := by decide +kernel
theorem dX12_told_1 : decode cX12_told 1 = .ok (.iconst 0, 1) := by decide +kernel
theorem dX12_told_2 : decode cX12_told 2 = .ok (.putfield 103, 3) := by decide +kernel
theorem dX12_told_5 : decode cX12_told 5 = .ok (.aload_n 0, 1) := by decide +kernel
theorem dX12_told_6 : decode cX12_told 6 = .ok (.iload_n 1, 1) := by decide +kernel
theorem dX12_told_7 : decode cX12_told 7 = .ok (.iconst 0, 1) := by decide +kernel
theorem dX12_told_8 : decode cX12_told 8 = .ok (.bipush 9, 2) := by decide +kernel
theorem dX12_told_10 : decode cX12_told 10 = .ok (.invokestatic 137, 3) := by decide +kernel
theorem dX12_told_13 : decode cX12_told 13 = .ok (.ifCond .ne 7, 3) := by decide +kernel
theorem dX12_told_16 : decode cX12_told 16 = .ok (.iconst 1, 1) := by decide +kernel
theorem dX12_told_17 : decode cX12_told 17 = .ok (.goto 4, 3) := by decide +kernel
theorem dX12_told_20 : decode cX12_told 20 = .ok (.iconst 0, 1) := by decide +kernel
theorem dX12_told_21 : decode cX12_told 21 = .ok (.iconst 1, 1) := by decide +kernel
theorem dX12_told_22 : decode cX12_told 22 = .ok (.iconst 1, 1) := by decide +kernel
theorem dX12_told_23 : decode cX12_told 23 = .ok (.invokevirtual 179, 3) := by decide +kernel
theorem dX12_told_26 : decode cX12_told 26 = .ok (.ifCond .eq 5, 3) := by decide +kernel
theorem dX12_told_29 : decode cX12_told 29 = .ok (.iconst 0, 1) := by decide +kernel
theorem dX12_told_30 : decode cX12_told 30 = .ok (.ireturn, 1) := by decide +kernel
theorem dX12_told_31 : decode cX12_told 31 = .ok (.iload_n 1, 1) := by decide +kernel
theorem dX12_told_32 : decode cX12_told 32 = .ok (.tableswitch 115 0 8 #[52, 52, 52, 59, 67, 79, 90, 101, 110], 52) := by decide +kernel
theorem dX12_told_84 : decode cX12_told 84 = .ok (.aload_n 0, 1) := by decide +kernel
theorem dX12_told_85 : decode cX12_told 85 = .ok (.getfield 23, 3) := by decide +kernel
theorem dX12_told_88 : decode cX12_told 88 = .ok (.iload_n 1, 1) := by decide +kernel
theorem dX12_told_89 : decode cX12_told 89 = .ok (.iaload, 1) := by decide +kernel
theorem dX12_told_90 : decode cX12_told 90 = .ok (.ireturn, 1) := by decide +kernel
theorem dX12_told_91 : decode cX12_told 91 = .ok (.aload_n 0, 1) := by decide +kernel
theorem dX12_told_92 : decode cX12_told 92 = .ok (.getfield 67, 3) := by decide +kernel
theorem dX12_told_95 : decode cX12_told 95 = .ok (.bipush 63, 2) := by decide +kernel
theorem dX12_told_97 : decode cX12_told 97 = .ok (.iaload, 1) := by decide +kernel
theorem dX12_told_98 : decode cX12_told 98 = .ok (.ireturn, 1) := by decide +kernel
theorem dX12_told_99 : decode cX12_told 99 = .ok (.aload_n 0, 1) := by decide +kernel
theorem dX12_told_100 : decode cX12_told 100 = .ok (.aload_n 0, 1) := by decide +kernel
theorem dX12_told_101 : decode cX12_told 101 = .ok (.getfield 67, 3) := by decide +kernel
theorem dX12_told_104 : decode cX12_told 104 = .ok (.invokevirtual 276, 3) := by decide +kernel
theorem dX12_told_107 : decode cX12_told 107 = .ok (.invokestatic 318, 3) := by decide +kernel
theorem dX12_told_110 : decode cX12_told 110 = .ok (.ireturn, 1) := by decide +kernel
theorem dX12_told_111 : decode cX12_told 111 = .ok (.aload_n 0, 1) := by decide +kernel
theorem dX12_told_112 : decode cX12_told 112 = .ok (.aload_n 0, 1) := by decide +kernel
theorem dX12_told_113 : decode cX12_told 113 = .ok (.getfield 67, 3) := by decide +kernel
theorem dX12_told_116 : decode cX12_told 116 = .ok (.bipush 16, 2) := by decide +kernel
theorem dX12_told_118 : decode cX12_told 118 = .ok (.invokevirtual 321, 3) := by decide +kernel
theorem dX12_told_121 : decode cX12_told 121 = .ok (.ireturn, 1) := by decide +kernel
theorem dX12_told_122 : decode cX12_told 122 = .ok (.aload_n 0, 1) := by decide +kernel
theorem dX12_told_123 : decode cX12_told 123 = .ok (.aload_n 0, 1) := by decide +kernel
theorem dX12_told_124 : decode cX12_told 124 = .ok (.getfield 67, 3) := by decide +kernel
theorem dX12_told_127 : decode cX12_told 127 = .ok (.bipush 32, 2) := by decide +kernel
theorem dX12_told_129 : decode cX12_told 129 = .ok (.invokevirtual 321, 3) := by decide +kernel
theorem dX12_told_132 : decode cX12_told 132 = .ok (.ireturn, 1) := by decide +kernel
theorem dX12_told_133 : decode cX12_told 133 = .ok (.aload_n 0, 1) := by decide +kernel
theorem dX12_told_134 : decode cX12_told 134 = .ok (.aload_n 0, 1) := by decide +kernel
theorem dX12_told_135 : decode cX12_told 135 = .ok (.getfield 67, 3) := by decide +kernel
theorem dX12_told_138 : decode cX12_told 138 = .ok (.invokevirtual 324, 3) := by decide +kernel
theorem dX12_told_141 : decode cX12_told 141 = .ok (.ireturn, 1) := by decide +kernel
theorem dX12_told_142 : decode cX12_told 142 = .ok (.aload_n 0, 1) := by decide +kernel
theorem dX12_told_143 : decode cX12_told 143 = .ok (.getfield 199, 3) := by decide +kernel
theorem dX12_told_146 : decode cX12_told 146 = .ok (.ireturn, 1) := by decide +kernel
theorem dX12_told_147 : decode cX12_told 147 = .ok (.aload_n 0, 1) := by decide +kernel
theorem dX12_told_148 : decode cX12_told 148 = .ok (.getfield 205, 3) := by decide +kernel
theorem dX12_told_151 : decode cX12_told 151 = .ok (.ireturn, 1) := by decide +kernel
theorem dX12_isBoard_0 : decode cX12_isBoard 0 = .ok (.iload_n 1, 1) := by decide +kernel
theorem dX12_isBoard_1 : decode cX12_isBoard 1 = .ok (.iconst 0, 1) := by decide +kernel
theorem dX12_isBoard_2 : decode cX12_isBoard 2 = .ok (.aload_n 0, 1) := by decide +kernel
theorem dX12_isBoard_3 : decode cX12_isBoard 3 = .ok (.getfield 23, 3) := by decide +kernel
theorem dX12_isBoard_6 : decode cX12_isBoard 6 = .ok (.iconst 0, 1) := by decide +kernel
theorem dX12_isBoard_7 : decode cX12_isBoard 7 = .ok (.iaload, 1) := by decide +kernel
theorem dX12_isBoard_8 : decode cX12_isBoard 8 = .ok (.iconst 1, 1) := by decide +kernel
theorem dX12_isBoard_9 : decode cX12_isBoard 9 = .ok (.isub, 1) := by decide +kernel
theorem dX12_isBoard_10 : decode cX12_isBoard 10 = .ok (.invokestatic 137, 3) := by decide +kernel
theorem dX12_isBoard_13 : decode cX12_isBoard 13 = .ok (.ireturn, 1) := by decide +kernel
theorem dX12_board_0 : decode cX12_board 0 = .ok (.aload_n 0, 1) := by decide +kernel
theorem dX12_board_1 : decode cX12_board 1 = .ok (.iconst 0, 1) := by decide +kernel
theorem dX12_board_2 : decode cX12_board 2 = .ok (.putfield 103, 3) := by decide +kernel
theorem dX12_board_5 : decode cX12_board 5 = .ok (.aload_n 0, 1) := by decide +kernel
theorem dX12_board_6 : decode cX12_board 6 = .ok (.aload_n 0, 1) := by decide +kernel
theorem dX12_board_7 : decode cX12_board 7 = .ok (.iload_n 1, 1) := by decide +kernel
theorem dX12_board_8 : decode cX12_board 8 = .ok (.invokevirtual 327, 3) := by decide +kernel
theorem dX12_board_11 : decode cX12_board 11 = .ok (.ifCond .ne 7, 3) := by decide +kernel
theorem dX12_board_14 : decode cX12_board 14 = .ok (.iconst 1, 1) := by decide +kernel
theorem dX12_board_15 : decode cX12_board 15 = .ok (.goto 4, 3) := by decide +kernel
theorem dX12_board_18 : decode cX12_board 18 = .ok (.iconst 0, 1) := by decide +kernel
theorem dX12_board_19 : decode cX12_board 19 = .ok (.iconst 1, 1) := by decide +kernel
theorem dX12_board_20 : decode cX12_board 20 = .ok (.iconst 0, 1) := by decide +kernel
theorem dX12_board_21 : decode cX12_board 21 = .ok (.invokevirtual 179, 3) := by decide +kernel
theorem dX12_board_24 : decode cX12_board 24 = .ok (.ifCond .ne 27, 3) := by decide +kernel
theorem dX12_board_27 : decode cX12_board 27 = .ok (.aload_n 0, 1) := by decide +kernel
theorem dX12_board_28 : decode cX12_board 28 = .ok (.iload_n 2, 1) := by decide +kernel
theorem dX12_board_29 : decode cX12_board 29 = .ok (.iconst 0, 1) := by decide +kernel
theorem dX12_board_30 : decode cX12_board 30 = .ok (.bipush 7, 2) := by decide +kernel
theorem dX12_board_32 : decode cX12_board 32 = .ok (.invokestatic 137, 3) := by decide +kernel
theorem dX12_board_35 : decode cX12_board 35 = .ok (.ifCond .ne 7, 3) := by decide +kernel
theorem dX12_board_38 : decode cX12_board 38 = .ok (.iconst 1, 1) := by decide +kernel
theorem dX12_board_39 : decode cX12_board 39 = .ok (.goto 4, 3) := by decide +kernel
theorem dX12_board_42 : decode cX12_board 42 = .ok (.iconst 0, 1) := by decide +kernel
theorem dX12_board_43 : decode cX12_board 43 = .ok (.iconst 2, 1) := by decide +kernel
theorem dX12_board_44 : decode cX12_board 44 = .ok (.iconst 1, 1) := by decide +kernel
theorem dX12_board_45 : decode cX12_board 45 = .ok (.invokevirtual 179, 3) := by decide +kernel
theorem dX12_board_48 : decode cX12_board 48 = .ok (.ifCond .eq 5, 3) := by decide +kernel
theorem dX12_board_51 : decode cX12_board 51 = .ok (.iconst 0, 1) := by decide +kernel
theorem dX12_board_52 : decode cX12_board 52 = .ok (.ireturn, 1) := by decide +kernel
theorem dX12_board_53 : decode cX12_board 53 = .ok (.iload_n 2, 1) := by decide +kernel
theorem dX12_board_54 : decode cX12_board 54 = .ok (.tableswitch 88 0 6 #[42, 42, 42, 42, 51, 60, 78], 42) := by decide +kernel
theorem dX12_board_96 : decode cX12_board 96 = .ok (.aload_n 0, 1) := by decide +kernel
theorem dX12_board_97 : decode cX12_board 97 = .ok (.getfield 31, 3) := by decide +kernel
theorem dX12_board_100 : decode cX12_board 100 = .ok (.iload_n 1, 1) := by decide +kernel
theorem dX12_board_101 : decode cX12_board 101 = .ok (.aaload, 1) := by decide +kernel
theorem dX12_board_102 : decode cX12_board 102 = .ok (.iload_n 2, 1) := by decide +kernel
theorem dX12_board_103 : decode cX12_board 103 = .ok (.iaload, 1) := by decide +kernel
theorem dX12_board_104 : decode cX12_board 104 = .ok (.ireturn, 1) := by decide +kernel
theorem dX12_board_105 : decode cX12_board 105 = .ok (.aload_n 0, 1) := by decide +kernel
theorem dX12_board_106 : decode cX12_board 106 = .ok (.getfield 67, 3) := by decide +kernel
theorem dX12_board_109 : decode cX12_board 109 = .ok (.iconst 0, 1) := by decide +kernel
theorem dX12_board_110 : decode cX12_board 110 = .ok (.iload_n 1, 1) := by decide +kernel
theorem dX12_board_111 : decode cX12_board 111 = .ok (.iadd, 1) := by decide +kernel
theorem dX12_board_112 : decode cX12_board 112 = .ok (.iaload, 1) := by decide +kernel
theorem dX12_board_113 : decode cX12_board 113 = .ok (.ireturn, 1) := by decide +kernel
theorem dX12_board_114 : decode cX12_board 114 = .ok (.aload_n 0, 1) := by decide +kernel
theorem dX12_board_115 : decode cX12_board 115 = .ok (.aload_n 0, 1) := by decide +kernel
theorem dX12_board_116 : decode cX12_board 116 = .ok (.getfield 67, 3) := by decide +kernel
theorem dX12_board_119 : decode cX12_board 119 = .ok (.iload_n 1, 1) := by decide +kernel
theorem dX12_board_120 : decode cX12_board 120 = .ok (.invokevirtual 273, 3) := by decide +kernel
theorem dX12_board_123 : decode cX12_board 123 = .ok (.ifCond .eq 7, 3) := by decide +kernel
theorem dX12_board_126 : decode cX12_board 126 = .ok (.iconst 1, 1) := by decide +kernel
theorem dX12_board_127 : decode cX12_board 127 = .ok (.goto 4, 3) := by decide +kernel
theorem dX12_board_130 : decode cX12_board 130 = .ok (.iconst 0, 1) := by decide +kernel
theorem dX12_board_131 : decode cX12_board 131 = .ok (.ireturn, 1) := by decide +kernel
theorem dX12_board_132 : decode cX12_board 132 = .ok (.aload_n 0, 1) := by decide +kernel
theorem dX12_board_133 : decode cX12_board 133 = .ok (.getfield 67, 3) := by decide +kernel
theorem dX12_board_136 : decode cX12_board 136 = .ok (.bipush 16, 2) := by decide +kernel
theorem dX12_board_138 : decode cX12_board 138 = .ok (.iload_n 1, 1) := by decide +kernel
theorem dX12_board_139 : decode cX12_board 139 = .ok (.iadd, 1) := by decide +kernel
theorem dX12_board_140 : decode cX12_board 140 = .ok (.iaload, 1) := by decide +kernel
theorem dX12_board_141 : decode cX12_board 141 = .ok (.ireturn, 1) := by decide +kernel
theorem dX12_board_142 : decode cX12_board 142 = .ok (.aload_n 0, 1) := by decide +kernel
theorem dX12_board_143 : decode cX12_board 143 = .ok (.getfield 67, 3) := by decide +kernel
theorem dX12_board_146 : decode cX12_board 146 = .ok (.bipush 32, 2) := by decide +kernel
theorem dX12_board_148 : decode cX12_board 148 = .ok (.iload_n 1, 1) := by decide +kernel
theorem dX12_board_149 : decode cX12_board 149 = .ok (.iadd, 1) := by decide +kernel
theorem dX12_board_150 : decode cX12_board 150 = .ok (.iaload, 1) := by decide +kernel
theorem dX12_board_151 : decode cX12_board 151 = .ok (.ireturn, 1) := by decide +kernel
theorem dX12_barge_0 : decode cX12_barge 0 = .ok (.aload_n 0, 1) := by decide +kernel
theorem dX12_barge_1 : decode cX12_barge 1 = .ok (.iconst 0, 1) := by decide +kernel
theorem dX12_barge_2 : decode cX12_barge 2 = .ok (.putfield 103, 3) := by decide +kernel
theorem dX12_barge_5 : decode cX12_barge 5 = .ok (.aload_n 0, 1) := by decide +kernel
theorem dX12_barge_6 : decode cX12_barge 6 = .ok (.iload_n 1, 1) := by decide +kernel
theorem dX12_barge_7 : decode cX12_barge 7 = .ok (.iconst 0, 1) := by decide +kernel
theorem dX12_barge_8 : decode cX12_barge 8 = .ok (.aload_n 0, 1) := by decide +kernel
theorem dX12_barge_9 : decode cX12_barge 9 = .ok (.getfield 23, 3) := by decide +kernel
theorem dX12_barge_12 : decode cX12_barge 12 = .ok (.iconst 1, 1) := by decide +kernel
theorem dX12_barge_13 : decode cX12_barge 13 = .ok (.iaload, 1) := by decide +kernel
theorem dX12_barge_14 : decode cX12_barge 14 = .ok (.iconst 1, 1) := by decide +kernel
theorem dX12_barge_15 : decode cX12_barge 15 = .ok (.isub, 1) := by decide +kernel
theorem dX12_barge_16 : decode cX12_barge 16 = .ok (.invokestatic 137, 3) := by decide +kernel
theorem dX12_barge_19 : decode cX12_barge 19 = .ok (.ifCond .ne 7, 3) := by decide +kernel
theorem dX12_barge_22 : decode cX12_barge 22 = .ok (.iconst 1, 1) := by decide +kernel
theorem dX12_barge_23 : decode cX12_barge 23 = .ok (.goto 4, 3) := by decide +kernel
theorem dX12_barge_26 : decode cX12_barge 26 = .ok (.iconst 0, 1) := by decide +kernel
theorem dX12_barge_27 : decode cX12_barge 27 = .ok (.iconst 1, 1) := by decide +kernel
theorem dX12_barge_28 : decode cX12_barge 28 = .ok (.iconst 0, 1) := by decide +kernel
theorem dX12_barge_29 : decode cX12_barge 29 = .ok (.invokevirtual 179, 3) := by decide +kernel
theorem dX12_barge_32 : decode cX12_barge 32 = .ok (.ifCond .ne 26, 3) := by decide +kernel
theorem dX12_barge_35 : decode cX12_barge 35 = .ok (.aload_n 0, 1) := by decide +kernel
theorem dX12_barge_36 : decode cX12_barge 36 = .ok (.iload_n 2, 1) := by decide +kernel
theorem dX12_barge_37 : decode cX12_barge 37 = .ok (.iconst 0, 1) := by decide +kernel
theorem dX12_barge_38 : decode cX12_barge 38 = .ok (.iconst 4, 1) := by decide +kernel
theorem dX12_barge_39 : decode cX12_barge 39 = .ok (.invokestatic 137, 3) := by decide +kernel
theorem dX12_barge_42 : decode cX12_barge 42 = .ok (.ifCond .ne 7, 3) := by decide +kernel
theorem dX12_barge_45 : decode cX12_barge 45 = .ok (.iconst 1, 1) := by decide +kernel
theorem dX12_barge_46 : decode cX12_barge 46 = .ok (.goto 4, 3) := by decide +kernel
theorem dX12_barge_49 : decode cX12_barge 49 = .ok (.iconst 0, 1) := by decide +kernel
theorem dX12_barge_50 : decode cX12_barge 50 = .ok (.iconst 2, 1) := by decide +kernel
theorem dX12_barge_51 : decode cX12_barge 51 = .ok (.iconst 1, 1) := by decide +kernel
theorem dX12_barge_52 : decode cX12_barge 52 = .ok (.invokevirtual 179, 3) := by decide +kernel
theorem dX12_barge_55 : decode cX12_barge 55 = .ok (.ifCond .eq 5, 3) := by decide +kernel
theorem dX12_barge_58 : decode cX12_barge 58 = .ok (.iconst 0, 1) := by decide +kernel
theorem dX12_barge_59 : decode cX12_barge 59 = .ok (.ireturn, 1) := by decide +kernel
theorem dX12_barge_60 : decode cX12_barge 60 = .ok (.iload_n 2, 1) := by decide +kernel
theorem dX12_barge_61 : decode cX12_barge 61 = .ok (.tableswitch 60 0 3 #[31, 31, 40, 50], 31) := by decide +kernel
theorem dX12_barge_92 : decode cX12_barge 92 = .ok (.aload_n 0, 1) := by decide +kernel
theorem dX12_barge_93 : decode cX12_barge 93 = .ok (.getfield 37, 3) := by decide +kernel
theorem dX12_barge_96 : decode cX12_barge 96 = .ok (.iload_n 1, 1) := by decide +kernel
theorem dX12_barge_97 : decode cX12_barge 97 = .ok (.aaload, 1) := by decide +kernel
theorem dX12_barge_98 : decode cX12_barge 98 = .ok (.iload_n 2, 1) := by decide +kernel
theorem dX12_barge_99 : decode cX12_barge 99 = .ok (.iaload, 1) := by decide +kernel
theorem dX12_barge_100 : decode cX12_barge 100 = .ok (.ireturn, 1) := by decide +kernel
theorem dX12_barge_101 : decode cX12_barge 101 = .ok (.aload_n 0, 1) := by decide +kernel
theorem dX12_barge_102 : decode cX12_barge 102 = .ok (.getfield 67, 3) := by decide +kernel
theorem dX12_barge_105 : decode cX12_barge 105 = .ok (.bipush 48, 2) := by decide +kernel
theorem dX12_barge_107 : decode cX12_barge 107 = .ok (.iload_n 1, 1) := by decide +kernel
theorem dX12_barge_108 : decode cX12_barge 108 = .ok (.iadd, 1) := by decide +kernel
theorem dX12_barge_109 : decode cX12_barge 109 = .ok (.iaload, 1) := by decide +kernel
theorem dX12_barge_110 : decode cX12_barge 110 = .ok (.ireturn, 1) := by decide +kernel
theorem dX12_barge_111 : decode cX12_barge 111 = .ok (.aload_n 0, 1) := by decide +kernel
theorem dX12_barge_112 : decode cX12_barge 112 = .ok (.getfield 67, 3) := by decide +kernel
theorem dX12_barge_115 : decode cX12_barge 115 = .ok (.bipush 53, 2) := by decide +kernel
theorem dX12_barge_117 : decode cX12_barge 117 = .ok (.iload_n 1, 1) := by decide +kernel
theorem dX12_barge_118 : decode cX12_barge 118 = .ok (.iadd, 1) := by decide +kernel
theorem dX12_barge_119 : decode cX12_barge 119 = .ok (.iaload, 1) := by decide +kernel
theorem dX12_barge_120 : decode cX12_barge 120 = .ok (.ireturn, 1) := by decide +kernel
theorem dX12_barge_121 : decode cX12_barge 121 = .ok (.aload_n 0, 1) := by decide +kernel
theorem dX12_barge_122 : decode cX12_barge 122 = .ok (.getfield 67, 3) := by decide +kernel
theorem dX12_barge_125 : decode cX12_barge 125 = .ok (.bipush 58, 2) := by decide +kernel
theorem dX12_barge_127 : decode cX12_barge 127 = .ok (.iload_n 1, 1) := by decide +kernel
theorem dX12_barge_128 : decode cX12_barge 128 = .ok (.iadd, 1) := by decide +kernel
theorem dX12_barge_129 : decode cX12_barge 129 = .ok (.iaload, 1) := by decide +kernel
theorem dX12_barge_130 : decode cX12_barge 130 = .ok (.ireturn, 1) := by decide +kernel
theorem dX12_isHolding_0 : decode cX12_isHolding 0 = .ok (.iconst 0, 1) := by decide +kernel
theorem dX12_isHolding_1 : decode cX12_isHolding 1 = .ok (.istore_n 3, 1) := by decide +kernel
theorem dX12_isHolding_2 : decode cX12_isHolding 2 = .ok (.aload_n 0, 1) := by decide +kernel
theorem dX12_isHolding_3 : decode cX12_isHolding 3 = .ok (.getfield 43, 3) := by decide +kernel
theorem dX12_isHolding_6 : decode cX12_isHolding 6 = .ok (.iload_n 1, 1) := by decide +kernel
theorem dX12_isHolding_7 : decode cX12_isHolding 7 = .ok (.aaload, 1) := by decide +kernel
theorem dX12_isHolding_8 : decode cX12_isHolding 8 = .ok (.iconst 0, 1) := by decide +kernel
theorem dX12_isHolding_9 : decode cX12_isHolding 9 = .ok (.iaload, 1) := by decide +kernel
theorem dX12_isHolding_10 : decode cX12_isHolding 10 = .ok (.istore 4, 2) := by decide +kernel
theorem dX12_isHolding_12 : decode cX12_isHolding 12 = .ok (.iload 4, 2) := by decide +kernel
theorem dX12_isHolding_14 : decode cX12_isHolding 14 = .ok (.aload_n 0, 1) := by decide +kernel
theorem dX12_isHolding_15 : decode cX12_isHolding 15 = .ok (.getfield 43, 3) := by decide +kernel
theorem dX12_isHolding_18 : decode cX12_isHolding 18 = .ok (.iload_n 1, 1) := by decide +kernel
theorem dX12_isHolding_19 : decode cX12_isHolding 19 = .ok (.aaload, 1) := by decide +kernel
theorem dX12_isHolding_20 : decode cX12_isHolding 20 = .ok (.iconst 1, 1) := by decide +kernel
theorem dX12_isHolding_21 : decode cX12_isHolding 21 = .ok (.iaload, 1) := by decide +kernel
theorem dX12_isHolding_22 : decode cX12_isHolding 22 = .ok (.if_icmp .gt 34, 3) := by decide +kernel
theorem dX12_isHolding_25 : decode cX12_isHolding 25 = .ok (.iload_n 3, 1) := by decide +kernel
theorem dX12_isHolding_26 : decode cX12_isHolding 26 = .ok (.iload_n 2, 1) := by decide +kernel
theorem dX12_isHolding_27 : decode cX12_isHolding 27 = .ok (.iload 4, 2) := by decide +kernel
theorem dX12_isHolding_29 : decode cX12_isHolding 29 = .ok (.invokestatic 258, 3) := by decide +kernel
theorem dX12_isHolding_32 : decode cX12_isHolding 32 = .ok (.ifCond .eq 15, 3) := by decide +kernel
theorem dX12_isHolding_35 : decode cX12_isHolding 35 = .ok (.aload_n 0, 1) := by decide +kernel
theorem dX12_isHolding_36 : decode cX12_isHolding 36 = .ok (.getfield 31, 3) := by decide +kernel
theorem dX12_isHolding_39 : decode cX12_isHolding 39 = .ok (.iload 4, 2) := by decide +kernel
theorem dX12_isHolding_41 : decode cX12_isHolding 41 = .ok (.aaload, 1) := by decide +kernel
theorem dX12_isHolding_42 : decode cX12_isHolding 42 = .ok (.iconst 2, 1) := by decide +kernel
theorem dX12_isHolding_43 : decode cX12_isHolding 43 = .ok (.iaload, 1) := by decide +kernel
theorem dX12_isHolding_44 : decode cX12_isHolding 44 = .ok (.goto 4, 3) := by decide +kernel
theorem dX12_isHolding_47 : decode cX12_isHolding 47 = .ok (.iconst 0, 1) := by decide +kernel
theorem dX12_isHolding_48 : decode cX12_isHolding 48 = .ok (.iadd, 1) := by decide +kernel
theorem dX12_isHolding_49 : decode cX12_isHolding 49 = .ok (.istore_n 3, 1) := by decide +kernel
theorem dX12_isHolding_50 : decode cX12_isHolding 50 = .ok (.iinc 4 1, 3) := by decide +kernel
theorem dX12_isHolding_53 : decode cX12_isHolding 53 = .ok (.goto (-41), 3) := by decide +kernel
theorem dX12_isHolding_56 : decode cX12_isHolding 56 = .ok (.iload_n 3, 1) := by decide +kernel
theorem dX12_isHolding_57 : decode cX12_isHolding 57 = .ok (.aload_n 0, 1) := by decide +kernel
theorem dX12_isHolding_58 : decode cX12_isHolding 58 = .ok (.getfield 43, 3) := by decide +kernel
theorem dX12_isHolding_61 : decode cX12_isHolding 61 = .ok (.iload_n 1, 1) := by decide +kernel
theorem dX12_isHolding_62 : decode cX12_isHolding 62 = .ok (.aaload, 1) := by decide +kernel
theorem dX12_isHolding_63 : decode cX12_isHolding 63 = .ok (.iconst 2, 1) := by decide +kernel
theorem dX12_isHolding_64 : decode cX12_isHolding 64 = .ok (.iaload, 1) := by decide +kernel
theorem dX12_isHolding_65 : decode cX12_isHolding 65 = .ok (.if_icmp .lt 7, 3) := by decide +kernel
theorem dX12_isHolding_68 : decode cX12_isHolding 68 = .ok (.iconst 1, 1) := by decide +kernel
theorem dX12_isHolding_69 : decode cX12_isHolding 69 = .ok (.goto 4, 3) := by decide +kernel
theorem dX12_isHolding_72 : decode cX12_isHolding 72 = .ok (.iconst 0, 1) := by decide +kernel
theorem dX12_isHolding_73 : decode cX12_isHolding 73 = .ok (.ireturn, 1) := by decide +kernel
theorem dX12_street_0 : decode cX12_street 0 = .ok (.aload_n 0, 1) := by decide +kernel
theorem dX12_street_1 : decode cX12_street 1 = .ok (.iconst 0, 1) := by decide +kernel
theorem dX12_street_2 : decode cX12_street 2 = .ok (.putfield 103, 3) := by decide +kernel
theorem dX12_street_5 : decode cX12_street 5 = .ok (.aload_n 0, 1) := by decide +kernel
theorem dX12_street_6 : decode cX12_street 6 = .ok (.iload_n 1, 1) := by decide +kernel
theorem dX12_street_7 : decode cX12_street 7 = .ok (.iconst 0, 1) := by decide +kernel
theorem dX12_street_8 : decode cX12_street 8 = .ok (.aload_n 0, 1) := by decide +kernel
theorem dX12_street_9 : decode cX12_street 9 = .ok (.getfield 23, 3) := by decide +kernel
theorem dX12_street_12 : decode cX12_street 12 = .ok (.iconst 2, 1) := by decide +kernel
theorem dX12_street_13 : decode cX12_street 13 = .ok (.iaload, 1) := by decide +kernel
theorem dX12_street_14 : decode cX12_street 14 = .ok (.iconst 1, 1) := by decide +kernel
theorem dX12_street_15 : decode cX12_street 15 = .ok (.isub, 1) := by decide +kernel
theorem dX12_street_16 : decode cX12_street 16 = .ok (.invokestatic 137, 3) := by decide +kernel
theorem dX12_street_19 : decode cX12_street 19 = .ok (.ifCond .ne 7, 3) := by decide +kernel
theorem dX12_street_22 : decode cX12_street 22 = .ok (.iconst 1, 1) := by decide +kernel
theorem dX12_street_23 : decode cX12_street 23 = .ok (.goto 4, 3) := by decide +kernel
theorem dX12_street_26 : decode cX12_street 26 = .ok (.iconst 0, 1) := by decide +kernel
theorem dX12_street_27 : decode cX12_street 27 = .ok (.iconst 1, 1) := by decide +kernel
theorem dX12_street_28 : decode cX12_street 28 = .ok (.iconst 0, 1) := by decide +kernel
theorem dX12_street_29 : decode cX12_street 29 = .ok (.invokevirtual 179, 3) := by decide +kernel
theorem dX12_street_32 : decode cX12_street 32 = .ok (.ifCond .ne 26, 3) := by decide +kernel
theorem dX12_street_35 : decode cX12_street 35 = .ok (.aload_n 0, 1) := by decide +kernel
theorem dX12_street_36 : decode cX12_street 36 = .ok (.iload_n 2, 1) := by decide +kernel
theorem dX12_street_37 : decode cX12_street 37 = .ok (.iconst 0, 1) := by decide +kernel
theorem dX12_street_38 : decode cX12_street 38 = .ok (.iconst 3, 1) := by decide +kernel
theorem dX12_street_39 : decode cX12_street 39 = .ok (.invokestatic 137, 3) := by decide +kernel
theorem dX12_street_42 : decode cX12_street 42 = .ok (.ifCond .ne 7, 3) := by decide +kernel
theorem dX12_street_45 : decode cX12_street 45 = .ok (.iconst 1, 1) := by decide +kernel
theorem dX12_street_46 : decode cX12_street 46 = .ok (.goto 4, 3) := by decide +kernel
theorem dX12_street_49 : decode cX12_street 49 = .ok (.iconst 0, 1) := by decide +kernel
theorem dX12_street_50 : decode cX12_street 50 = .ok (.iconst 2, 1) := by decide +kernel
theorem dX12_street_51 : decode cX12_street 51 = .ok (.iconst 1, 1) := by decide +kernel
theorem dX12_street_52 : decode cX12_street 52 = .ok (.invokevirtual 179, 3) := by decide +kernel
theorem dX12_street_55 : decode cX12_street 55 = .ok (.ifCond .eq 5, 3) := by decide +kernel
theorem dX12_street_58 : decode cX12_street 58 = .ok (.iconst 0, 1) := by decide +kernel
theorem dX12_street_59 : decode cX12_street 59 = .ok (.ireturn, 1) := by decide +kernel
theorem dX12_street_60 : decode cX12_street 60 = .ok (.iload_n 2, 1) := by decide +kernel
theorem dX12_street_61 : decode cX12_street 61 = .ok (.iconst 3, 1) := by decide +kernel
theorem dX12_street_62 : decode cX12_street 62 = .ok (.if_icmp .ge 14, 3) := by decide +kernel
theorem dX12_street_65 : decode cX12_street 65 = .ok (.aload_n 0, 1) := by decide +kernel
theorem dX12_street_66 : decode cX12_street 66 = .ok (.getfield 43, 3) := by decide +kernel
theorem dX12_street_69 : decode cX12_street 69 = .ok (.iload_n 1, 1) := by decide +kernel
theorem dX12_street_70 : decode cX12_street 70 = .ok (.aaload, 1) := by decide +kernel
theorem dX12_street_71 : decode cX12_street 71 = .ok (.iload_n 2, 1) := by decide +kernel
theorem dX12_street_72 : decode cX12_street 72 = .ok (.iaload, 1) := by decide +kernel
theorem dX12_street_73 : decode cX12_street 73 = .ok (.goto 24, 3) := by decide +kernel
theorem dX12_street_76 : decode cX12_street 76 = .ok (.aload_n 0, 1) := by decide +kernel
theorem dX12_street_77 : decode cX12_street 77 = .ok (.iload_n 1, 1) := by decide +kernel
theorem dX12_street_78 : decode cX12_street 78 = .ok (.aload_n 0, 1) := by decide +kernel
theorem dX12_street_79 : decode cX12_street 79 = .ok (.aload_n 0, 1) := by decide +kernel
theorem dX12_street_80 : decode cX12_street 80 = .ok (.getfield 67, 3) := by decide +kernel
theorem dX12_street_83 : decode cX12_street 83 = .ok (.invokevirtual 276, 3) := by decide +kernel
theorem dX12_street_86 : decode cX12_street 86 = .ok (.invokevirtual 330, 3) := by decide +kernel
theorem dX12_street_89 : decode cX12_street 89 = .ok (.ifCond .eq 7, 3) := by decide +kernel
theorem dX12_street_92 : decode cX12_street 92 = .ok (.iconst 1, 1) := by decide +kernel
theorem dX12_street_93 : decode cX12_street 93 = .ok (.goto 4, 3) := by decide +kernel
theorem dX12_street_96 : decode cX12_street 96 = .ok (.iconst 0, 1) := by decide +kernel
theorem dX12_street_97 : decode cX12_street 97 = .ok (.ireturn, 1) := by decide +kernel
theorem dX12_lawful_0 : decode cX12_lawful 0 = .ok (.aload_n 0, 1) := by decide +kernel
theorem dX12_lawful_1 : decode cX12_lawful 1 = .ok (.iconst 0, 1) := by decide +kernel
theorem dX12_lawful_2 : decode cX12_lawful 2 = .ok (.putfield 103, 3) := by decide +kernel
theorem dX12_lawful_5 : decode cX12_lawful 5 = .ok (.aload_n 0, 1) := by decide +kernel
theorem dX12_lawful_6 : decode cX12_lawful 6 = .ok (.aload_n 0, 1) := by decide +kernel
theorem dX12_lawful_7 : decode cX12_lawful 7 = .ok (.iload_n 1, 1) := by decide +kernel
theorem dX12_lawful_8 : decode cX12_lawful 8 = .ok (.invokevirtual 327, 3) := by decide +kernel
theorem dX12_lawful_11 : decode cX12_lawful 11 = .ok (.ifCond .ne 7, 3) := by decide +kernel
theorem dX12_lawful_14 : decode cX12_lawful 14 = .ok (.iconst 1, 1) := by decide +kernel
theorem dX12_lawful_15 : decode cX12_lawful 15 = .ok (.goto 4, 3) := by decide +kernel
theorem dX12_lawful_18 : decode cX12_lawful 18 = .ok (.iconst 0, 1) := by decide +kernel
theorem dX12_lawful_19 : decode cX12_lawful 19 = .ok (.iconst 1, 1) := by decide +kernel
theorem dX12_lawful_20 : decode cX12_lawful 20 = .ok (.iconst 0, 1) := by decide +kernel
theorem dX12_lawful_21 : decode cX12_lawful 21 = .ok (.invokevirtual 179, 3) := by decide +kernel
theorem dX12_lawful_24 : decode cX12_lawful 24 = .ok (.ifCond .ne 37, 3) := by decide +kernel
theorem dX12_lawful_27 : decode cX12_lawful 27 = .ok (.aload_n 0, 1) := by decide +kernel
theorem dX12_lawful_28 : decode cX12_lawful 28 = .ok (.iload_n 2, 1) := by decide +kernel
theorem dX12_lawful_29 : decode cX12_lawful 29 = .ok (.iconst 0, 1) := by decide +kernel
theorem dX12_lawful_30 : decode cX12_lawful 30 = .ok (.bipush 23, 2) := by decide +kernel
theorem dX12_lawful_32 : decode cX12_lawful 32 = .ok (.invokestatic 137, 3) := by decide +kernel
theorem dX12_lawful_35 : decode cX12_lawful 35 = .ok (.ifCond .eq 13, 3) := by decide +kernel
theorem dX12_lawful_38 : decode cX12_lawful 38 = .ok (.iload_n 3, 1) := by decide +kernel
theorem dX12_lawful_39 : decode cX12_lawful 39 = .ok (.iconst 0, 1) := by decide +kernel
theorem dX12_lawful_40 : decode cX12_lawful 40 = .ok (.bipush 99, 2) := by decide +kernel
theorem dX12_lawful_42 : decode cX12_lawful 42 = .ok (.invokestatic 137, 3) := by decide +kernel
theorem dX12_lawful_45 : decode cX12_lawful 45 = .ok (.ifCond .ne 7, 3) := by decide +kernel
theorem dX12_lawful_48 : decode cX12_lawful 48 = .ok (.iconst 1, 1) := by decide +kernel
theorem dX12_lawful_49 : decode cX12_lawful 49 = .ok (.goto 4, 3) := by decide +kernel
theorem dX12_lawful_52 : decode cX12_lawful 52 = .ok (.iconst 0, 1) := by decide +kernel
theorem dX12_lawful_53 : decode cX12_lawful 53 = .ok (.iconst 2, 1) := by decide +kernel
theorem dX12_lawful_54 : decode cX12_lawful 54 = .ok (.iconst 1, 1) := by decide +kernel
theorem dX12_lawful_55 : decode cX12_lawful 55 = .ok (.invokevirtual 179, 3) := by decide +kernel
theorem dX12_lawful_58 : decode cX12_lawful 58 = .ok (.ifCond .eq 5, 3) := by decide +kernel
theorem dX12_lawful_61 : decode cX12_lawful 61 = .ok (.iconst 0, 1) := by decide +kernel
theorem dX12_lawful_62 : decode cX12_lawful 62 = .ok (.ireturn, 1) := by decide +kernel
theorem dX12_lawful_63 : decode cX12_lawful 63 = .ok (.aload_n 0, 1) := by decide +kernel
theorem dX12_lawful_64 : decode cX12_lawful 64 = .ok (.iload_n 1, 1) := by decide +kernel
theorem dX12_lawful_65 : decode cX12_lawful 65 = .ok (.iload_n 2, 1) := by decide +kernel
theorem dX12_lawful_66 : decode cX12_lawful 66 = .ok (.iload_n 3, 1) := by decide +kernel
theorem dX12_lawful_67 : decode cX12_lawful 67 = .ok (.aload_n 0, 1) := by decide +kernel
theorem dX12_lawful_68 : decode cX12_lawful 68 = .ok (.getfield 67, 3) := by decide +kernel
theorem dX12_lawful_71 : decode cX12_lawful 71 = .ok (.bipush 16, 2) := by decide +kernel
theorem dX12_lawful_73 : decode cX12_lawful 73 = .ok (.iload_n 1, 1) := by decide +kernel
theorem dX12_lawful_74 : decode cX12_lawful 74 = .ok (.iadd, 1) := by decide +kernel
theorem dX12_lawful_75 : decode cX12_lawful 75 = .ok (.iaload, 1) := by decide +kernel
theorem dX12_lawful_76 : decode cX12_lawful 76 = .ok (.invokevirtual 265, 3) := by decide +kernel
theorem dX12_lawful_79 : decode cX12_lawful 79 = .ok (.ireturn, 1) := by decide +kernel
theorem dX12_tries_0 : decode cX12_tries 0 = .ok (.aload_n 0, 1) := by decide +kernel
theorem dX12_tries_1 : decode cX12_tries 1 = .ok (.getfield 67, 3) := by decide +kernel
theorem dX12_tries_4 : decode cX12_tries 4 = .ok (.aload_n 0, 1) := by decide +kernel
theorem dX12_tries_5 : decode cX12_tries 5 = .ok (.getfield 70, 3) := by decide +kernel
theorem dX12_tries_8 : decode cX12_tries 8 = .ok (.invokestatic 314, 3) := by decide +kernel
theorem dX12_tries_11 : decode cX12_tries 11 = .ok (.aload_n 0, 1) := by decide +kernel
theorem dX12_tries_12 : decode cX12_tries 12 = .ok (.iconst 0, 1) := by decide +kernel
theorem dX12_tries_13 : decode cX12_tries 13 = .ok (.putfield 280, 3) := by decide +kernel
theorem dX12_tries_16 : decode cX12_tries 16 = .ok (.return_, 1) := by decide +kernel
theorem dX12_opens_0 : decode cX12_opens 0 = .ok (.aload_n 0, 1) := by decide +kernel
theorem dX12_opens_1 : decode cX12_opens 1 = .ok (.iconst 0, 1) := by decide +kernel
theorem dX12_opens_2 : decode cX12_opens 2 = .ok (.putfield 103, 3) := by decide +kernel
theorem dX12_opens_5 : decode cX12_opens 5 = .ok (.aload_n 0, 1) := by decide +kernel
theorem dX12_opens_6 : decode cX12_opens 6 = .ok (.aload_n 0, 1) := by decide +kernel
theorem dX12_opens_7 : decode cX12_opens 7 = .ok (.iload_n 1, 1) := by decide +kernel
theorem dX12_opens_8 : decode cX12_opens 8 = .ok (.invokevirtual 327, 3) := by decide +kernel
theorem dX12_opens_11 : decode cX12_opens 11 = .ok (.ifCond .ne 7, 3) := by decide +kernel
theorem dX12_opens_14 : decode cX12_opens 14 = .ok (.iconst 1, 1) := by decide +kernel
theorem dX12_opens_15 : decode cX12_opens 15 = .ok (.goto 4, 3) := by decide +kernel
theorem dX12_opens_18 : decode cX12_opens 18 = .ok (.iconst 0, 1) := by decide +kernel
theorem dX12_opens_19 : decode cX12_opens 19 = .ok (.iconst 1, 1) := by decide +kernel
theorem dX12_opens_20 : decode cX12_opens 20 = .ok (.iconst 0, 1) := by decide +kernel
theorem dX12_opens_21 : decode cX12_opens 21 = .ok (.invokevirtual 179, 3) := by decide +kernel
theorem dX12_opens_24 : decode cX12_opens 24 = .ok (.ifCond .eq 5, 3) := by decide +kernel
theorem dX12_opens_27 : decode cX12_opens 27 = .ok (.iconst 0, 1) := by decide +kernel
theorem dX12_opens_28 : decode cX12_opens 28 = .ok (.ireturn, 1) := by decide +kernel
theorem dX12_opens_29 : decode cX12_opens 29 = .ok (.aload_n 0, 1) := by decide +kernel
theorem dX12_opens_30 : decode cX12_opens 30 = .ok (.invokevirtual 333, 3) := by decide +kernel
theorem dX12_opens_33 : decode cX12_opens 33 = .ok (.iconst 0, 1) := by decide +kernel
theorem dX12_opens_34 : decode cX12_opens 34 = .ok (.istore_n 2, 1) := by decide +kernel
theorem dX12_opens_35 : decode cX12_opens 35 = .ok (.iload_n 2, 1) := by decide +kernel
theorem dX12_opens_36 : decode cX12_opens 36 = .ok (.sipush 240, 3) := by decide +kernel
theorem dX12_opens_39 : decode cX12_opens 39 = .ok (.if_icmp .gt 31, 3) := by decide +kernel
theorem dX12_opens_42 : decode cX12_opens 42 = .ok (.aload_n 0, 1) := by decide +kernel
theorem dX12_opens_43 : decode cX12_opens 43 = .ok (.aload_n 0, 1) := by decide +kernel
theorem dX12_opens_44 : decode cX12_opens 44 = .ok (.getfield 70, 3) := by decide +kernel
theorem dX12_opens_47 : decode cX12_opens 47 = .ok (.iload_n 1, 1) := by decide +kernel
theorem dX12_opens_48 : decode cX12_opens 48 = .ok (.invokevirtual 273, 3) := by decide +kernel
theorem dX12_opens_51 : decode cX12_opens 51 = .ok (.ifCond .eq 5, 3) := by decide +kernel
theorem dX12_opens_54 : decode cX12_opens 54 = .ok (.iload_n 2, 1) := by decide +kernel
theorem dX12_opens_55 : decode cX12_opens 55 = .ok (.ireturn, 1) := by decide +kernel
theorem dX12_opens_56 : decode cX12_opens 56 = .ok (.aload_n 0, 1) := by decide +kernel
theorem dX12_opens_57 : decode cX12_opens 57 = .ok (.aload_n 0, 1) := by decide +kernel
theorem dX12_opens_58 : decode cX12_opens 58 = .ok (.getfield 70, 3) := by decide +kernel
theorem dX12_opens_61 : decode cX12_opens 61 = .ok (.invokevirtual 297, 3) := by decide +kernel
theorem dX12_opens_64 : decode cX12_opens 64 = .ok (.iinc 2 1, 3) := by decide +kernel
theorem dX12_opens_67 : decode cX12_opens 67 = .ok (.goto (-32), 3) := by decide +kernel
theorem dX12_opens_70 : decode cX12_opens 70 = .ok (.iconst (-1), 1) := by decide +kernel
theorem dX12_opens_71 : decode cX12_opens 71 = .ok (.ireturn, 1) := by decide +kernel
theorem dX12_often_0 : decode cX12_often 0 = .ok (.aload_n 0, 1) := by decide +kernel
theorem dX12_often_1 : decode cX12_often 1 = .ok (.iconst 0, 1) := by decide +kernel
theorem dX12_often_2 : decode cX12_often 2 = .ok (.putfield 103, 3) := by decide +kernel
theorem dX12_often_5 : decode cX12_often 5 = .ok (.aload_n 0, 1) := by decide +kernel
theorem dX12_often_6 : decode cX12_often 6 = .ok (.aload_n 0, 1) := by decide +kernel
theorem dX12_often_7 : decode cX12_often 7 = .ok (.iload_n 1, 1) := by decide +kernel
theorem dX12_often_8 : decode cX12_often 8 = .ok (.invokevirtual 327, 3) := by decide +kernel
theorem dX12_often_11 : decode cX12_often 11 = .ok (.ifCond .ne 7, 3) := by decide +kernel
theorem dX12_often_14 : decode cX12_often 14 = .ok (.iconst 1, 1) := by decide +kernel
theorem dX12_often_15 : decode cX12_often 15 = .ok (.goto 4, 3) := by decide +kernel
theorem dX12_often_18 : decode cX12_often 18 = .ok (.iconst 0, 1) := by decide +kernel
theorem dX12_often_19 : decode cX12_often 19 = .ok (.iconst 1, 1) := by decide +kernel
theorem dX12_often_20 : decode cX12_often 20 = .ok (.iconst 0, 1) := by decide +kernel
theorem dX12_often_21 : decode cX12_often 21 = .ok (.invokevirtual 179, 3) := by decide +kernel
theorem dX12_often_24 : decode cX12_often 24 = .ok (.ifCond .ne 28, 3) := by decide +kernel
theorem dX12_often_27 : decode cX12_often 27 = .ok (.aload_n 0, 1) := by decide +kernel
theorem dX12_often_28 : decode cX12_often 28 = .ok (.iload_n 2, 1) := by decide +kernel
theorem dX12_often_29 : decode cX12_often 29 = .ok (.iconst 0, 1) := by decide +kernel
theorem dX12_often_30 : decode cX12_often 30 = .ok (.sipush 240, 3) := by decide +kernel
theorem dX12_often_33 : decode cX12_often 33 = .ok (.invokestatic 137, 3) := by decide +kernel
theorem dX12_often_36 : decode cX12_often 36 = .ok (.ifCond .ne 7, 3) := by decide +kernel
theorem dX12_often_39 : decode cX12_often 39 = .ok (.iconst 1, 1) := by decide +kernel
theorem dX12_often_40 : decode cX12_often 40 = .ok (.goto 4, 3) := by decide +kernel
theorem dX12_often_43 : decode cX12_often 43 = .ok (.iconst 0, 1) := by decide +kernel
theorem dX12_often_44 : decode cX12_often 44 = .ok (.iconst 2, 1) := by decide +kernel
theorem dX12_often_45 : decode cX12_often 45 = .ok (.iconst 1, 1) := by decide +kernel
theorem dX12_often_46 : decode cX12_often 46 = .ok (.invokevirtual 179, 3) := by decide +kernel
theorem dX12_often_49 : decode cX12_often 49 = .ok (.ifCond .eq 5, 3) := by decide +kernel
theorem dX12_often_52 : decode cX12_often 52 = .ok (.iconst 0, 1) := by decide +kernel
theorem dX12_often_53 : decode cX12_often 53 = .ok (.ireturn, 1) := by decide +kernel
theorem dX12_often_54 : decode cX12_often 54 = .ok (.iconst 0, 1) := by decide +kernel
theorem dX12_often_55 : decode cX12_often 55 = .ok (.istore_n 3, 1) := by decide +kernel
theorem dX12_often_56 : decode cX12_often 56 = .ok (.aload_n 0, 1) := by decide +kernel
theorem dX12_often_57 : decode cX12_often 57 = .ok (.invokevirtual 333, 3) := by decide +kernel
theorem dX12_often_60 : decode cX12_often 60 = .ok (.iconst 0, 1) := by decide +kernel
theorem dX12_often_61 : decode cX12_often 61 = .ok (.istore 4, 2) := by decide +kernel
theorem dX12_often_63 : decode cX12_often 63 = .ok (.iload 4, 2) := by decide +kernel
theorem dX12_often_65 : decode cX12_often 65 = .ok (.iload_n 2, 1) := by decide +kernel
theorem dX12_often_66 : decode cX12_often 66 = .ok (.if_icmp .ge 37, 3) := by decide +kernel
theorem dX12_often_69 : decode cX12_often 69 = .ok (.iload_n 3, 1) := by decide +kernel
theorem dX12_often_70 : decode cX12_often 70 = .ok (.aload_n 0, 1) := by decide +kernel
theorem dX12_often_71 : decode cX12_often 71 = .ok (.aload_n 0, 1) := by decide +kernel
theorem dX12_often_72 : decode cX12_often 72 = .ok (.getfield 70, 3) := by decide +kernel
theorem dX12_often_75 : decode cX12_often 75 = .ok (.iload_n 1, 1) := by decide +kernel
theorem dX12_often_76 : decode cX12_often 76 = .ok (.invokevirtual 273, 3) := by decide +kernel
theorem dX12_often_79 : decode cX12_often 79 = .ok (.ifCond .eq 7, 3) := by decide +kernel
theorem dX12_often_82 : decode cX12_often 82 = .ok (.iconst 1, 1) := by decide +kernel
theorem dX12_often_83 : decode cX12_often 83 = .ok (.goto 4, 3) := by decide +kernel
theorem dX12_often_86 : decode cX12_often 86 = .ok (.iconst 0, 1) := by decide +kernel
theorem dX12_often_87 : decode cX12_often 87 = .ok (.iadd, 1) := by decide +kernel
theorem dX12_often_88 : decode cX12_often 88 = .ok (.istore_n 3, 1) := by decide +kernel
theorem dX12_often_89 : decode cX12_often 89 = .ok (.aload_n 0, 1) := by decide +kernel
theorem dX12_often_90 : decode cX12_often 90 = .ok (.aload_n 0, 1) := by decide +kernel
theorem dX12_often_91 : decode cX12_often 91 = .ok (.getfield 70, 3) := by decide +kernel
theorem dX12_often_94 : decode cX12_often 94 = .ok (.invokevirtual 297, 3) := by decide +kernel
theorem dX12_often_97 : decode cX12_often 97 = .ok (.iinc 4 1, 3) := by decide +kernel
theorem dX12_often_100 : decode cX12_often 100 = .ok (.goto (-37), 3) := by decide +kernel
theorem dX12_often_103 : decode cX12_often 103 = .ok (.iload_n 3, 1) := by decide +kernel
theorem dX12_often_104 : decode cX12_often 104 = .ok (.ireturn, 1) := by decide +kernel
theorem dX12_busiest_0 : decode cX12_busiest 0 = .ok (.aload_n 0, 1) := by decide +kernel
theorem dX12_busiest_1 : decode cX12_busiest 1 = .ok (.iconst 0, 1) := by decide +kernel
theorem dX12_busiest_2 : decode cX12_busiest 2 = .ok (.putfield 103, 3) := by decide +kernel
theorem dX12_busiest_5 : decode cX12_busiest 5 = .ok (.iconst 0, 1) := by decide +kernel
theorem dX12_busiest_6 : decode cX12_busiest 6 = .ok (.istore_n 1, 1) := by decide +kernel
theorem dX12_busiest_7 : decode cX12_busiest 7 = .ok (.iconst (-1), 1) := by decide +kernel
theorem dX12_busiest_8 : decode cX12_busiest 8 = .ok (.istore_n 2, 1) := by decide +kernel
theorem dX12_busiest_9 : decode cX12_busiest 9 = .ok (.iconst 0, 1) := by decide +kernel
theorem dX12_busiest_10 : decode cX12_busiest 10 = .ok (.istore_n 3, 1) := by decide +kernel
theorem dX12_busiest_11 : decode cX12_busiest 11 = .ok (.iload_n 3, 1) := by decide +kernel
theorem dX12_busiest_12 : decode cX12_busiest 12 = .ok (.bipush 24, 2) := by decide +kernel
theorem dX12_busiest_14 : decode cX12_busiest 14 = .ok (.if_icmp .ge 86, 3) := by decide +kernel
theorem dX12_busiest_17 : decode cX12_busiest 17 = .ok (.iconst 0, 1) := by decide +kernel
theorem dX12_busiest_18 : decode cX12_busiest 18 = .ok (.istore 4, 2) := by decide +kernel
theorem dX12_busiest_20 : decode cX12_busiest 20 = .ok (.iconst 0, 1) := by decide +kernel
theorem dX12_busiest_21 : decode cX12_busiest 21 = .ok (.istore 5, 2) := by decide +kernel
theorem dX12_busiest_23 : decode cX12_busiest 23 = .ok (.iload 5, 2) := by decide +kernel
theorem dX12_busiest_25 : decode cX12_busiest 25 = .ok (.aload_n 0, 1) := by decide +kernel
theorem dX12_busiest_26 : decode cX12_busiest 26 = .ok (.getfield 23, 3) := by decide +kernel
theorem dX12_busiest_29 : decode cX12_busiest 29 = .ok (.iconst 0, 1) := by decide +kernel
theorem dX12_busiest_30 : decode cX12_busiest 30 = .ok (.iaload, 1) := by decide +kernel
theorem dX12_busiest_31 : decode cX12_busiest 31 = .ok (.if_icmp .ge 49, 3) := by decide +kernel
theorem dX12_busiest_34 : decode cX12_busiest 34 = .ok (.iload 4, 2) := by decide +kernel
theorem dX12_busiest_36 : decode cX12_busiest 36 = .ok (.aload_n 0, 1) := by decide +kernel
theorem dX12_busiest_37 : decode cX12_busiest 37 = .ok (.iload 5, 2) := by decide +kernel
theorem dX12_busiest_39 : decode cX12_busiest 39 = .ok (.iload_n 3, 1) := by decide +kernel
theorem dX12_busiest_40 : decode cX12_busiest 40 = .ok (.aload_n 0, 1) := by decide +kernel
theorem dX12_busiest_41 : decode cX12_busiest 41 = .ok (.getfield 67, 3) := by decide +kernel
theorem dX12_busiest_44 : decode cX12_busiest 44 = .ok (.bipush 63, 2) := by decide +kernel
theorem dX12_busiest_46 : decode cX12_busiest 46 = .ok (.iaload, 1) := by decide +kernel
theorem dX12_busiest_47 : decode cX12_busiest 47 = .ok (.bipush 24, 2) := by decide +kernel
theorem dX12_busiest_49 : decode cX12_busiest 49 = .ok (.idiv, 1) := by decide +kernel
theorem dX12_busiest_50 : decode cX12_busiest 50 = .ok (.aload_n 0, 1) := by decide +kernel
theorem dX12_busiest_51 : decode cX12_busiest 51 = .ok (.getfield 67, 3) := by decide +kernel
theorem dX12_busiest_54 : decode cX12_busiest 54 = .ok (.bipush 16, 2) := by decide +kernel
theorem dX12_busiest_56 : decode cX12_busiest 56 = .ok (.iload 5, 2) := by decide +kernel
theorem dX12_busiest_58 : decode cX12_busiest 58 = .ok (.iadd, 1) := by decide +kernel
theorem dX12_busiest_59 : decode cX12_busiest 59 = .ok (.iaload, 1) := by decide +kernel
theorem dX12_busiest_60 : decode cX12_busiest 60 = .ok (.invokevirtual 265, 3) := by decide +kernel
theorem dX12_busiest_63 : decode cX12_busiest 63 = .ok (.ifCond .eq 7, 3) := by decide +kernel
theorem dX12_busiest_66 : decode cX12_busiest 66 = .ok (.iconst 1, 1) := by decide +kernel
theorem dX12_busiest_67 : decode cX12_busiest 67 = .ok (.goto 4, 3) := by decide +kernel
theorem dX12_busiest_70 : decode cX12_busiest 70 = .ok (.iconst 0, 1) := by decide +kernel
theorem dX12_busiest_71 : decode cX12_busiest 71 = .ok (.iadd, 1) := by decide +kernel
theorem dX12_busiest_72 : decode cX12_busiest 72 = .ok (.istore 4, 2) := by decide +kernel
theorem dX12_busiest_74 : decode cX12_busiest 74 = .ok (.iinc 5 1, 3) := by decide +kernel
theorem dX12_busiest_77 : decode cX12_busiest 77 = .ok (.goto (-54), 3) := by decide +kernel
theorem dX12_busiest_80 : decode cX12_busiest 80 = .ok (.iload 4, 2) := by decide +kernel
theorem dX12_busiest_82 : decode cX12_busiest 82 = .ok (.iload_n 2, 1) := by decide +kernel
theorem dX12_busiest_83 : decode cX12_busiest 83 = .ok (.if_icmp .gt 6, 3) := by decide +kernel
theorem dX12_busiest_86 : decode cX12_busiest 86 = .ok (.goto 8, 3) := by decide +kernel
theorem dX12_busiest_89 : decode cX12_busiest 89 = .ok (.iload_n 3, 1) := by decide +kernel
theorem dX12_busiest_90 : decode cX12_busiest 90 = .ok (.istore_n 1, 1) := by decide +kernel
theorem dX12_busiest_91 : decode cX12_busiest 91 = .ok (.iload 4, 2) := by decide +kernel
theorem dX12_busiest_93 : decode cX12_busiest 93 = .ok (.istore_n 2, 1) := by decide +kernel
theorem dX12_busiest_94 : decode cX12_busiest 94 = .ok (.iinc 3 1, 3) := by decide +kernel
theorem dX12_busiest_97 : decode cX12_busiest 97 = .ok (.goto (-86), 3) := by decide +kernel
theorem dX12_busiest_100 : decode cX12_busiest 100 = .ok (.iload_n 1, 1) := by decide +kernel
theorem dX12_busiest_101 : decode cX12_busiest 101 = .ok (.ireturn, 1) := by decide +kernel
theorem dX12_peak_0 : decode cX12_peak 0 = .ok (.aload_n 0, 1) := by decide +kernel
theorem dX12_peak_1 : decode cX12_peak 1 = .ok (.iconst 0, 1) := by decide +kernel
theorem dX12_peak_2 : decode cX12_peak 2 = .ok (.putfield 103, 3) := by decide +kernel
theorem dX12_peak_5 : decode cX12_peak 5 = .ok (.aload_n 0, 1) := by decide +kernel
theorem dX12_peak_6 : decode cX12_peak 6 = .ok (.iload_n 1, 1) := by decide +kernel
theorem dX12_peak_7 : decode cX12_peak 7 = .ok (.iconst 0, 1) := by decide +kernel
theorem dX12_peak_8 : decode cX12_peak 8 = .ok (.iconst 1, 1) := by decide +kernel
theorem dX12_peak_9 : decode cX12_peak 9 = .ok (.invokestatic 137, 3) := by decide +kernel
theorem dX12_peak_12 : decode cX12_peak 12 = .ok (.ifCond .ne 7, 3) := by decide +kernel
theorem dX12_peak_15 : decode cX12_peak 15 = .ok (.iconst 1, 1) := by decide +kernel
theorem dX12_peak_16 : decode cX12_peak 16 = .ok (.goto 4, 3) := by decide +kernel
theorem dX12_peak_19 : decode cX12_peak 19 = .ok (.iconst 0, 1) := by decide +kernel
theorem dX12_peak_20 : decode cX12_peak 20 = .ok (.iconst 1, 1) := by decide +kernel
theorem dX12_peak_21 : decode cX12_peak 21 = .ok (.iconst 1, 1) := by decide +kernel
theorem dX12_peak_22 : decode cX12_peak 22 = .ok (.invokevirtual 179, 3) := by decide +kernel
theorem dX12_peak_25 : decode cX12_peak 25 = .ok (.ifCond .eq 5, 3) := by decide +kernel
theorem dX12_peak_28 : decode cX12_peak 28 = .ok (.iconst 0, 1) := by decide +kernel
theorem dX12_peak_29 : decode cX12_peak 29 = .ok (.ireturn, 1) := by decide +kernel
theorem dX12_peak_30 : decode cX12_peak 30 = .ok (.iconst 0, 1) := by decide +kernel
theorem dX12_peak_31 : decode cX12_peak 31 = .ok (.istore_n 2, 1) := by decide +kernel
theorem dX12_peak_32 : decode cX12_peak 32 = .ok (.iconst (-1), 1) := by decide +kernel
theorem dX12_peak_33 : decode cX12_peak 33 = .ok (.istore_n 3, 1) := by decide +kernel
theorem dX12_peak_34 : decode cX12_peak 34 = .ok (.aload_n 0, 1) := by decide +kernel
theorem dX12_peak_35 : decode cX12_peak 35 = .ok (.invokevirtual 333, 3) := by decide +kernel
theorem dX12_peak_38 : decode cX12_peak 38 = .ok (.iconst 0, 1) := by decide +kernel
theorem dX12_peak_39 : decode cX12_peak 39 = .ok (.istore 4, 2) := by decide +kernel
theorem dX12_peak_41 : decode cX12_peak 41 = .ok (.iload 4, 2) := by decide +kernel
theorem dX12_peak_43 : decode cX12_peak 43 = .ok (.sipush 240, 3) := by decide +kernel
theorem dX12_peak_46 : decode cX12_peak 46 = .ok (.if_icmp .ge 42, 3) := by decide +kernel
theorem dX12_peak_49 : decode cX12_peak 49 = .ok (.aload_n 0, 1) := by decide +kernel
theorem dX12_peak_50 : decode cX12_peak 50 = .ok (.aload_n 0, 1) := by decide +kernel
theorem dX12_peak_51 : decode cX12_peak 51 = .ok (.getfield 70, 3) := by decide +kernel
theorem dX12_peak_54 : decode cX12_peak 54 = .ok (.invokevirtual 276, 3) := by decide +kernel
theorem dX12_peak_57 : decode cX12_peak 57 = .ok (.invokestatic 318, 3) := by decide +kernel
theorem dX12_peak_60 : decode cX12_peak 60 = .ok (.istore 5, 2) := by decide +kernel
theorem dX12_peak_62 : decode cX12_peak 62 = .ok (.iload 5, 2) := by decide +kernel
theorem dX12_peak_64 : decode cX12_peak 64 = .ok (.iload_n 3, 1) := by decide +kernel
theorem dX12_peak_65 : decode cX12_peak 65 = .ok (.if_icmp .le 9, 3) := by decide +kernel
theorem dX12_peak_68 : decode cX12_peak 68 = .ok (.iload 4, 2) := by decide +kernel
theorem dX12_peak_70 : decode cX12_peak 70 = .ok (.istore_n 2, 1) := by decide +kernel
theorem dX12_peak_71 : decode cX12_peak 71 = .ok (.iload 5, 2) := by decide +kernel
theorem dX12_peak_73 : decode cX12_peak 73 = .ok (.istore_n 3, 1) := by decide +kernel
theorem dX12_peak_74 : decode cX12_peak 74 = .ok (.aload_n 0, 1) := by decide +kernel
theorem dX12_peak_75 : decode cX12_peak 75 = .ok (.aload_n 0, 1) := by decide +kernel
theorem dX12_peak_76 : decode cX12_peak 76 = .ok (.getfield 70, 3) := by decide +kernel
theorem dX12_peak_79 : decode cX12_peak 79 = .ok (.invokevirtual 297, 3) := by decide +kernel
theorem dX12_peak_82 : decode cX12_peak 82 = .ok (.iinc 4 1, 3) := by decide +kernel
theorem dX12_peak_85 : decode cX12_peak 85 = .ok (.goto (-44), 3) := by decide +kernel
theorem dX12_peak_88 : decode cX12_peak 88 = .ok (.iload_n 1, 1) := by decide +kernel
theorem dX12_peak_89 : decode cX12_peak 89 = .ok (.ifCond .ne 7, 3) := by decide +kernel
theorem dX12_peak_92 : decode cX12_peak 92 = .ok (.iload_n 2, 1) := by decide +kernel
theorem dX12_peak_93 : decode cX12_peak 93 = .ok (.goto 4, 3) := by decide +kernel
theorem dX12_peak_96 : decode cX12_peak 96 = .ok (.iload_n 3, 1) := by decide +kernel
theorem dX12_peak_97 : decode cX12_peak 97 = .ok (.ireturn, 1) := by decide +kernel
theorem dX12_trips_0 : decode cX12_trips 0 = .ok (.aload_n 0, 1) := by decide +kernel
theorem dX12_trips_1 : decode cX12_trips 1 = .ok (.invokevirtual 333, 3) := by decide +kernel
theorem dX12_trips_4 : decode cX12_trips 4 = .ok (.aload_n 0, 1) := by decide +kernel
theorem dX12_trips_5 : decode cX12_trips 5 = .ok (.getfield 70, 3) := by decide +kernel
theorem dX12_trips_8 : decode cX12_trips 8 = .ok (.bipush 65, 2) := by decide +kernel
theorem dX12_trips_10 : decode cX12_trips 10 = .ok (.iload_n 1, 1) := by decide +kernel
theorem dX12_trips_11 : decode cX12_trips 11 = .ok (.iastore, 1) := by decide +kernel
