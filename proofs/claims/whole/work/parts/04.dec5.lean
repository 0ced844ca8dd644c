theorem dX12_trips_12 : decode cX12_trips 12 = .ok (.aload_n 0, 1) := by decide +kernel
theorem dX12_trips_13 : decode cX12_trips 13 = .ok (.getfield 70, 3) := by decide +kernel
theorem dX12_trips_16 : decode cX12_trips 16 = .ok (.bipush 64, 2) := by decide +kernel
theorem dX12_trips_18 : decode cX12_trips 18 = .ok (.aload_n 0, 1) := by decide +kernel
theorem dX12_trips_19 : decode cX12_trips 19 = .ok (.getfield 67, 3) := by decide +kernel
theorem dX12_trips_22 : decode cX12_trips 22 = .ok (.bipush 63, 2) := by decide +kernel
theorem dX12_trips_24 : decode cX12_trips 24 = .ok (.iaload, 1) := by decide +kernel
theorem dX12_trips_25 : decode cX12_trips 25 = .ok (.iload_n 2, 1) := by decide +kernel
theorem dX12_trips_26 : decode cX12_trips 26 = .ok (.iadd, 1) := by decide +kernel
theorem dX12_trips_27 : decode cX12_trips 27 = .ok (.iastore, 1) := by decide +kernel
theorem dX12_trips_28 : decode cX12_trips 28 = .ok (.iconst 0, 1) := by decide +kernel
theorem dX12_trips_29 : decode cX12_trips 29 = .ok (.istore_n 3, 1) := by decide +kernel
theorem dX12_trips_30 : decode cX12_trips 30 = .ok (.iload_n 3, 1) := by decide +kernel
theorem dX12_trips_31 : decode cX12_trips 31 = .ok (.bipush 16, 2) := by decide +kernel
theorem dX12_trips_33 : decode cX12_trips 33 = .ok (.if_icmp .ge 16, 3) := by decide +kernel
theorem dX12_trips_36 : decode cX12_trips 36 = .ok (.aload_n 0, 1) := by decide +kernel
theorem dX12_trips_37 : decode cX12_trips 37 = .ok (.getfield 82, 3) := by decide +kernel
theorem dX12_trips_40 : decode cX12_trips 40 = .ok (.iload_n 3, 1) := by decide +kernel
theorem dX12_trips_41 : decode cX12_trips 41 = .ok (.iconst 0, 1) := by decide +kernel
theorem dX12_trips_42 : decode cX12_trips 42 = .ok (.iastore, 1) := by decide +kernel
theorem dX12_trips_43 : decode cX12_trips 43 = .ok (.iinc 3 1, 3) := by decide +kernel
theorem dX12_trips_46 : decode cX12_trips 46 = .ok (.goto (-16), 3) := by decide +kernel
theorem dX12_trips_49 : decode cX12_trips 49 = .ok (.iconst 0, 1) := by decide +kernel
theorem dX12_trips_50 : decode cX12_trips 50 = .ok (.istore_n 3, 1) := by decide +kernel
theorem dX12_trips_51 : decode cX12_trips 51 = .ok (.iload_n 3, 1) := by decide +kernel
theorem dX12_trips_52 : decode cX12_trips 52 = .ok (.sipush 240, 3) := by decide +kernel
theorem dX12_trips_55 : decode cX12_trips 55 = .ok (.if_icmp .ge 85, 3) := by decide +kernel
theorem dX12_trips_58 : decode cX12_trips 58 = .ok (.aload_n 0, 1) := by decide +kernel
theorem dX12_trips_59 : decode cX12_trips 59 = .ok (.getfield 70, 3) := by decide +kernel
theorem dX12_trips_62 : decode cX12_trips 62 = .ok (.bipush 52, 2) := by decide +kernel
theorem dX12_trips_64 : decode cX12_trips 64 = .ok (.iaload, 1) := by decide +kernel
theorem dX12_trips_65 : decode cX12_trips 65 = .ok (.istore 4, 2) := by decide +kernel
theorem dX12_trips_67 : decode cX12_trips 67 = .ok (.aload_n 0, 1) := by decide +kernel
theorem dX12_trips_68 : decode cX12_trips 68 = .ok (.aload_n 0, 1) := by decide +kernel
theorem dX12_trips_69 : decode cX12_trips 69 = .ok (.getfield 70, 3) := by decide +kernel
theorem dX12_trips_72 : decode cX12_trips 72 = .ok (.invokevirtual 297, 3) := by decide +kernel
theorem dX12_trips_75 : decode cX12_trips 75 = .ok (.aload_n 0, 1) := by decide +kernel
theorem dX12_trips_76 : decode cX12_trips 76 = .ok (.getfield 70, 3) := by decide +kernel
theorem dX12_trips_79 : decode cX12_trips 79 = .ok (.bipush 57, 2) := by decide +kernel
theorem dX12_trips_81 : decode cX12_trips 81 = .ok (.iaload, 1) := by decide +kernel
theorem dX12_trips_82 : decode cX12_trips 82 = .ok (.iconst 2, 1) := by decide +kernel
theorem dX12_trips_83 : decode cX12_trips 83 = .ok (.if_icmp .ne 5, 3) := by decide +kernel
theorem dX12_trips_86 : decode cX12_trips 86 = .ok (.iload_n 3, 1) := by decide +kernel
theorem dX12_trips_87 : decode cX12_trips 87 = .ok (.ireturn, 1) := by decide +kernel
theorem dX12_trips_88 : decode cX12_trips 88 = .ok (.aload_n 0, 1) := by decide +kernel
theorem dX12_trips_89 : decode cX12_trips 89 = .ok (.getfield 70, 3) := by decide +kernel
theorem dX12_trips_92 : decode cX12_trips 92 = .ok (.bipush 57, 2) := by decide +kernel
theorem dX12_trips_94 : decode cX12_trips 94 = .ok (.iaload, 1) := by decide +kernel
theorem dX12_trips_95 : decode cX12_trips 95 = .ok (.iconst 1, 1) := by decide +kernel
theorem dX12_trips_96 : decode cX12_trips 96 = .ok (.if_icmp .ne 38, 3) := by decide +kernel
theorem dX12_trips_99 : decode cX12_trips 99 = .ok (.aload_n 0, 1) := by decide +kernel
theorem dX12_trips_100 : decode cX12_trips 100 = .ok (.getfield 70, 3) := by decide +kernel
theorem dX12_trips_103 : decode cX12_trips 103 = .ok (.bipush 52, 2) := by decide +kernel
theorem dX12_trips_105 : decode cX12_trips 105 = .ok (.iaload, 1) := by decide +kernel
theorem dX12_trips_106 : decode cX12_trips 106 = .ok (.iload 4, 2) := by decide +kernel
theorem dX12_trips_108 : decode cX12_trips 108 = .ok (.isub, 1) := by decide +kernel
theorem dX12_trips_109 : decode cX12_trips 109 = .ok (.aload_n 0, 1) := by decide +kernel
theorem dX12_trips_110 : decode cX12_trips 110 = .ok (.getfield 23, 3) := by decide +kernel
theorem dX12_trips_113 : decode cX12_trips 113 = .ok (.iconst 3, 1) := by decide +kernel
theorem dX12_trips_114 : decode cX12_trips 114 = .ok (.iaload, 1) := by decide +kernel
theorem dX12_trips_115 : decode cX12_trips 115 = .ok (.if_icmp .ge 19, 3) := by decide +kernel
theorem dX12_trips_118 : decode cX12_trips 118 = .ok (.aload_n 0, 1) := by decide +kernel
theorem dX12_trips_119 : decode cX12_trips 119 = .ok (.getfield 82, 3) := by decide +kernel
theorem dX12_trips_122 : decode cX12_trips 122 = .ok (.aload_n 0, 1) := by decide +kernel
theorem dX12_trips_123 : decode cX12_trips 123 = .ok (.getfield 70, 3) := by decide +kernel
theorem dX12_trips_126 : decode cX12_trips 126 = .ok (.bipush 52, 2) := by decide +kernel
theorem dX12_trips_128 : decode cX12_trips 128 = .ok (.iaload, 1) := by decide +kernel
theorem dX12_trips_129 : decode cX12_trips 129 = .ok (.dup2, 1) := by decide +kernel
theorem dX12_trips_130 : decode cX12_trips 130 = .ok (.iaload, 1) := by decide +kernel
theorem dX12_trips_131 : decode cX12_trips 131 = .ok (.iconst 1, 1) := by decide +kernel
theorem dX12_trips_132 : decode cX12_trips 132 = .ok (.iadd, 1) := by decide +kernel
theorem dX12_trips_133 : decode cX12_trips 133 = .ok (.iastore, 1) := by decide +kernel
theorem dX12_trips_134 : decode cX12_trips 134 = .ok (.iinc 3 1, 3) := by decide +kernel
theorem dX12_trips_137 : decode cX12_trips 137 = .ok (.goto (-86), 3) := by decide +kernel
theorem dX12_trips_140 : decode cX12_trips 140 = .ok (.iconst (-1), 1) := by decide +kernel
theorem dX12_trips_141 : decode cX12_trips 141 = .ok (.ireturn, 1) := by decide +kernel
theorem dX12_isMast_0 : decode cX12_isMast 0 = .ok (.iload_n 0, 1) := by decide +kernel
theorem dX12_isMast_1 : decode cX12_isMast 1 = .ok (.iconst 0, 1) := by decide +kernel
theorem dX12_isMast_2 : decode cX12_isMast 2 = .ok (.bipush 9, 2) := by decide +kernel
theorem dX12_isMast_4 : decode cX12_isMast 4 = .ok (.invokestatic 137, 3) := by decide +kernel
theorem dX12_isMast_7 : decode cX12_isMast 7 = .ok (.ireturn, 1) := by decide +kernel
theorem dX12_trip_0 : decode cX12_trip 0 = .ok (.aload_n 0, 1) := by decide +kernel
theorem dX12_trip_1 : decode cX12_trip 1 = .ok (.iconst 0, 1) := by decide +kernel
theorem dX12_trip_2 : decode cX12_trip 2 = .ok (.putfield 103, 3) := by decide +kernel
theorem dX12_trip_5 : decode cX12_trip 5 = .ok (.aload_n 0, 1) := by decide +kernel
theorem dX12_trip_6 : decode cX12_trip 6 = .ok (.iload_n 1, 1) := by decide +kernel
theorem dX12_trip_7 : decode cX12_trip 7 = .ok (.invokestatic 336, 3) := by decide +kernel
theorem dX12_trip_10 : decode cX12_trip 10 = .ok (.ifCond .eq 22, 3) := by decide +kernel
theorem dX12_trip_13 : decode cX12_trip 13 = .ok (.iload_n 2, 1) := by decide +kernel
theorem dX12_trip_14 : decode cX12_trip 14 = .ok (.iconst 0, 1) := by decide +kernel
theorem dX12_trip_15 : decode cX12_trip 15 = .ok (.bipush 48, 2) := by decide +kernel
theorem dX12_trip_17 : decode cX12_trip 17 = .ok (.invokestatic 137, 3) := by decide +kernel
theorem dX12_trip_20 : decode cX12_trip 20 = .ok (.ifCond .eq 12, 3) := by decide +kernel
theorem dX12_trip_23 : decode cX12_trip 23 = .ok (.iload_n 3, 1) := by decide +kernel
theorem dX12_trip_24 : decode cX12_trip 24 = .ok (.iconst 0, 1) := by decide +kernel
theorem dX12_trip_25 : decode cX12_trip 25 = .ok (.iconst 2, 1) := by decide +kernel
theorem dX12_trip_26 : decode cX12_trip 26 = .ok (.invokestatic 137, 3) := by decide +kernel
theorem dX12_trip_29 : decode cX12_trip 29 = .ok (.ifCond .ne 7, 3) := by decide +kernel
theorem dX12_trip_32 : decode cX12_trip 32 = .ok (.iconst 1, 1) := by decide +kernel
theorem dX12_trip_33 : decode cX12_trip 33 = .ok (.goto 4, 3) := by decide +kernel
theorem dX12_trip_36 : decode cX12_trip 36 = .ok (.iconst 0, 1) := by decide +kernel
theorem dX12_trip_37 : decode cX12_trip 37 = .ok (.iconst 1, 1) := by decide +kernel
theorem dX12_trip_38 : decode cX12_trip 38 = .ok (.iconst 1, 1) := by decide +kernel
theorem dX12_trip_39 : decode cX12_trip 39 = .ok (.invokevirtual 179, 3) := by decide +kernel
theorem dX12_trip_42 : decode cX12_trip 42 = .ok (.ifCond .eq 5, 3) := by decide +kernel
theorem dX12_trip_45 : decode cX12_trip 45 = .ok (.iconst 0, 1) := by decide +kernel
theorem dX12_trip_46 : decode cX12_trip 46 = .ok (.ireturn, 1) := by decide +kernel
theorem dX12_trip_47 : decode cX12_trip 47 = .ok (.aload_n 0, 1) := by decide +kernel
theorem dX12_trip_48 : decode cX12_trip 48 = .ok (.iload_n 1, 1) := by decide +kernel
theorem dX12_trip_49 : decode cX12_trip 49 = .ok (.iload_n 2, 1) := by decide +kernel
theorem dX12_trip_50 : decode cX12_trip 50 = .ok (.invokevirtual 339, 3) := by decide +kernel
theorem dX12_trip_53 : decode cX12_trip 53 = .ok (.istore 4, 2) := by decide +kernel
theorem dX12_trip_55 : decode cX12_trip 55 = .ok (.iconst 0, 1) := by decide +kernel
theorem dX12_trip_56 : decode cX12_trip 56 = .ok (.istore 5, 2) := by decide +kernel
theorem dX12_trip_58 : decode cX12_trip 58 = .ok (.iconst 0, 1) := by decide +kernel
theorem dX12_trip_59 : decode cX12_trip 59 = .ok (.istore 6, 2) := by decide +kernel
theorem dX12_trip_61 : decode cX12_trip 61 = .ok (.iconst (-1), 1) := by decide +kernel
theorem dX12_trip_62 : decode cX12_trip 62 = .ok (.istore 7, 2) := by decide +kernel
theorem dX12_trip_64 : decode cX12_trip 64 = .ok (.iconst 0, 1) := by decide +kernel
theorem dX12_trip_65 : decode cX12_trip 65 = .ok (.istore 8, 2) := by decide +kernel
theorem dX12_trip_67 : decode cX12_trip 67 = .ok (.iload 8, 2) := by decide +kernel
theorem dX12_trip_69 : decode cX12_trip 69 = .ok (.aload_n 0, 1) := by decide +kernel
theorem dX12_trip_70 : decode cX12_trip 70 = .ok (.getfield 23, 3) := by decide +kernel
theorem dX12_trip_73 : decode cX12_trip 73 = .ok (.iconst 0, 1) := by decide +kernel
theorem dX12_trip_74 : decode cX12_trip 74 = .ok (.iaload, 1) := by decide +kernel
theorem dX12_trip_75 : decode cX12_trip 75 = .ok (.if_icmp .ge 49, 3) := by decide +kernel
theorem dX12_trip_78 : decode cX12_trip 78 = .ok (.iload 6, 2) := by decide +kernel
theorem dX12_trip_80 : decode cX12_trip 80 = .ok (.aload_n 0, 1) := by decide +kernel
theorem dX12_trip_81 : decode cX12_trip 81 = .ok (.getfield 82, 3) := by decide +kernel
theorem dX12_trip_84 : decode cX12_trip 84 = .ok (.iload 8, 2) := by decide +kernel
theorem dX12_trip_86 : decode cX12_trip 86 = .ok (.iaload, 1) := by decide +kernel
theorem dX12_trip_87 : decode cX12_trip 87 = .ok (.iadd, 1) := by decide +kernel
theorem dX12_trip_88 : decode cX12_trip 88 = .ok (.istore 6, 2) := by decide +kernel
theorem dX12_trip_90 : decode cX12_trip 90 = .ok (.aload_n 0, 1) := by decide +kernel
theorem dX12_trip_91 : decode cX12_trip 91 = .ok (.getfield 82, 3) := by decide +kernel
theorem dX12_trip_94 : decode cX12_trip 94 = .ok (.iload 8, 2) := by decide +kernel
theorem dX12_trip_96 : decode cX12_trip 96 = .ok (.iaload, 1) := by decide +kernel
theorem dX12_trip_97 : decode cX12_trip 97 = .ok (.iload 5, 2) := by decide +kernel
theorem dX12_trip_99 : decode cX12_trip 99 = .ok (.if_icmp .gt 6, 3) := by decide +kernel
theorem dX12_trip_102 : decode cX12_trip 102 = .ok (.goto 16, 3) := by decide +kernel
theorem dX12_trip_105 : decode cX12_trip 105 = .ok (.iload 8, 2) := by decide +kernel
theorem dX12_trip_107 : decode cX12_trip 107 = .ok (.istore 7, 2) := by decide +kernel
theorem dX12_trip_109 : decode cX12_trip 109 = .ok (.aload_n 0, 1) := by decide +kernel
theorem dX12_trip_110 : decode cX12_trip 110 = .ok (.getfield 82, 3) := by decide +kernel
theorem dX12_trip_113 : decode cX12_trip 113 = .ok (.iload 8, 2) := by decide +kernel
theorem dX12_trip_115 : decode cX12_trip 115 = .ok (.iaload, 1) := by decide +kernel
theorem dX12_trip_116 : decode cX12_trip 116 = .ok (.istore 5, 2) := by decide +kernel
theorem dX12_trip_118 : decode cX12_trip 118 = .ok (.iinc 8 1, 3) := by decide +kernel
theorem dX12_trip_121 : decode cX12_trip 121 = .ok (.goto (-54), 3) := by decide +kernel
theorem dX12_trip_124 : decode cX12_trip 124 = .ok (.iload_n 3, 1) := by decide +kernel
theorem dX12_trip_125 : decode cX12_trip 125 = .ok (.ifCond .ne 8, 3) := by decide +kernel
theorem dX12_trip_128 : decode cX12_trip 128 = .ok (.iload 4, 2) := by decide +kernel
theorem dX12_trip_130 : decode cX12_trip 130 = .ok (.goto 15, 3) := by decide +kernel
theorem dX12_trip_133 : decode cX12_trip 133 = .ok (.iload_n 3, 1) := by decide +kernel
theorem dX12_trip_134 : decode cX12_trip 134 = .ok (.iconst 1, 1) := by decide +kernel
theorem dX12_trip_135 : decode cX12_trip 135 = .ok (.if_icmp .ne 8, 3) := by decide +kernel
theorem dX12_trip_138 : decode cX12_trip 138 = .ok (.iload 6, 2) := by decide +kernel
theorem dX12_trip_140 : decode cX12_trip 140 = .ok (.goto 5, 3) := by decide +kernel
theorem dX12_trip_143 : decode cX12_trip 143 = .ok (.iload 7, 2) := by decide +kernel
theorem dX12_trip_145 : decode cX12_trip 145 = .ok (.ireturn, 1) := by decide +kernel
theorem dX12_soonest_0 : decode cX12_soonest 0 = .ok (.aload_n 0, 1) := by decide +kernel
theorem dX12_soonest_1 : decode cX12_soonest 1 = .ok (.iconst 0, 1) := by decide +kernel
theorem dX12_soonest_2 : decode cX12_soonest 2 = .ok (.putfield 103, 3) := by decide +kernel
theorem dX12_soonest_5 : decode cX12_soonest 5 = .ok (.aload_n 0, 1) := by decide +kernel
theorem dX12_soonest_6 : decode cX12_soonest 6 = .ok (.iload_n 1, 1) := by decide +kernel
theorem dX12_soonest_7 : decode cX12_soonest 7 = .ok (.invokestatic 336, 3) := by decide +kernel
theorem dX12_soonest_10 : decode cX12_soonest 10 = .ok (.ifCond .eq 22, 3) := by decide +kernel
theorem dX12_soonest_13 : decode cX12_soonest 13 = .ok (.iload_n 2, 1) := by decide +kernel
theorem dX12_soonest_14 : decode cX12_soonest 14 = .ok (.iconst 0, 1) := by decide +kernel
theorem dX12_soonest_15 : decode cX12_soonest 15 = .ok (.bipush 48, 2) := by decide +kernel
theorem dX12_soonest_17 : decode cX12_soonest 17 = .ok (.invokestatic 137, 3) := by decide +kernel
theorem dX12_soonest_20 : decode cX12_soonest 20 = .ok (.ifCond .eq 12, 3) := by decide +kernel
theorem dX12_soonest_23 : decode cX12_soonest 23 = .ok (.iload_n 3, 1) := by decide +kernel
theorem dX12_soonest_24 : decode cX12_soonest 24 = .ok (.iconst 0, 1) := by decide +kernel
theorem dX12_soonest_25 : decode cX12_soonest 25 = .ok (.iconst 1, 1) := by decide +kernel
theorem dX12_soonest_26 : decode cX12_soonest 26 = .ok (.invokestatic 137, 3) := by decide +kernel
theorem dX12_soonest_29 : decode cX12_soonest 29 = .ok (.ifCond .ne 7, 3) := by decide +kernel
theorem dX12_soonest_32 : decode cX12_soonest 32 = .ok (.iconst 1, 1) := by decide +kernel
theorem dX12_soonest_33 : decode cX12_soonest 33 = .ok (.goto 4, 3) := by decide +kernel
theorem dX12_soonest_36 : decode cX12_soonest 36 = .ok (.iconst 0, 1) := by decide +kernel
theorem dX12_soonest_37 : decode cX12_soonest 37 = .ok (.iconst 1, 1) := by decide +kernel
theorem dX12_soonest_38 : decode cX12_soonest 38 = .ok (.iconst 1, 1) := by decide +kernel
theorem dX12_soonest_39 : decode cX12_soonest 39 = .ok (.invokevirtual 179, 3) := by decide +kernel
theorem dX12_soonest_42 : decode cX12_soonest 42 = .ok (.ifCond .eq 5, 3) := by decide +kernel
theorem dX12_soonest_45 : decode cX12_soonest 45 = .ok (.iconst 0, 1) := by decide +kernel
theorem dX12_soonest_46 : decode cX12_soonest 46 = .ok (.ireturn, 1) := by decide +kernel
theorem dX12_soonest_47 : decode cX12_soonest 47 = .ok (.iconst (-1), 1) := by decide +kernel
theorem dX12_soonest_48 : decode cX12_soonest 48 = .ok (.istore 4, 2) := by decide +kernel
theorem dX12_soonest_50 : decode cX12_soonest 50 = .ok (.iconst (-1), 1) := by decide +kernel
theorem dX12_soonest_51 : decode cX12_soonest 51 = .ok (.istore 5, 2) := by decide +kernel
theorem dX12_soonest_53 : decode cX12_soonest 53 = .ok (.iconst 0, 1) := by decide +kernel
theorem dX12_soonest_54 : decode cX12_soonest 54 = .ok (.istore 6, 2) := by decide +kernel
theorem dX12_soonest_56 : decode cX12_soonest 56 = .ok (.iload 6, 2) := by decide +kernel
theorem dX12_soonest_58 : decode cX12_soonest 58 = .ok (.iload_n 2, 1) := by decide +kernel
theorem dX12_soonest_59 : decode cX12_soonest 59 = .ok (.if_icmp .gt 48, 3) := by decide +kernel
theorem dX12_soonest_62 : decode cX12_soonest 62 = .ok (.aload_n 0, 1) := by decide +kernel
theorem dX12_soonest_63 : decode cX12_soonest 63 = .ok (.iload_n 1, 1) := by decide +kernel
theorem dX12_soonest_64 : decode cX12_soonest 64 = .ok (.iload 6, 2) := by decide +kernel
theorem dX12_soonest_66 : decode cX12_soonest 66 = .ok (.invokevirtual 339, 3) := by decide +kernel
theorem dX12_soonest_69 : decode cX12_soonest 69 = .ok (.istore 7, 2) := by decide +kernel
theorem dX12_soonest_71 : decode cX12_soonest 71 = .ok (.iload 7, 2) := by decide +kernel
theorem dX12_soonest_73 : decode cX12_soonest 73 = .ok (.iconst (-1), 1) := by decide +kernel
theorem dX12_soonest_74 : decode cX12_soonest 74 = .ok (.if_icmp .eq 27, 3) := by decide +kernel
theorem dX12_soonest_77 : decode cX12_soonest 77 = .ok (.iload 4, 2) := by decide +kernel
theorem dX12_soonest_79 : decode cX12_soonest 79 = .ok (.iconst (-1), 1) := by decide +kernel
theorem dX12_soonest_80 : decode cX12_soonest 80 = .ok (.if_icmp .eq 13, 3) := by decide +kernel
theorem dX12_soonest_83 : decode cX12_soonest 83 = .ok (.iload 7, 2) := by decide +kernel
theorem dX12_soonest_85 : decode cX12_soonest 85 = .ok (.iload 5, 2) := by decide +kernel
theorem dX12_soonest_87 : decode cX12_soonest 87 = .ok (.if_icmp .le 6, 3) := by decide +kernel
theorem dX12_soonest_90 : decode cX12_soonest 90 = .ok (.goto 11, 3) := by decide +kernel
theorem dX12_soonest_93 : decode cX12_soonest 93 = .ok (.iload 6, 2) := by decide +kernel
theorem dX12_soonest_95 : decode cX12_soonest 95 = .ok (.istore 4, 2) := by decide +kernel
theorem dX12_soonest_97 : decode cX12_soonest 97 = .ok (.iload 7, 2) := by decide +kernel
theorem dX12_soonest_99 : decode cX12_soonest 99 = .ok (.istore 5, 2) := by decide +kernel
theorem dX12_soonest_101 : decode cX12_soonest 101 = .ok (.iinc 6 1, 3) := by decide +kernel
theorem dX12_soonest_104 : decode cX12_soonest 104 = .ok (.goto (-48), 3) := by decide +kernel
theorem dX12_soonest_107 : decode cX12_soonest 107 = .ok (.iload_n 3, 1) := by decide +kernel
theorem dX12_soonest_108 : decode cX12_soonest 108 = .ok (.ifCond .ne 8, 3) := by decide +kernel
theorem dX12_soonest_111 : decode cX12_soonest 111 = .ok (.iload 4, 2) := by decide +kernel
theorem dX12_soonest_113 : decode cX12_soonest 113 = .ok (.goto 5, 3) := by decide +kernel
theorem dX12_soonest_116 : decode cX12_soonest 116 = .ok (.iload 5, 2) := by decide +kernel
theorem dX12_soonest_118 : decode cX12_soonest 118 = .ok (.ireturn, 1) := by decide +kernel
theorem dX12_hold_0 : decode cX12_hold 0 = .ok (.aload_n 0, 1) := by decide +kernel
theorem dX12_hold_1 : decode cX12_hold 1 = .ok (.iconst 0, 1) := by decide +kernel
theorem dX12_hold_2 : decode cX12_hold 2 = .ok (.putfield 103, 3) := by decide +kernel
theorem dX12_hold_5 : decode cX12_hold 5 = .ok (.aload_n 0, 1) := by decide +kernel
theorem dX12_hold_6 : decode cX12_hold 6 = .ok (.iload_n 1, 1) := by decide +kernel
theorem dX12_hold_7 : decode cX12_hold 7 = .ok (.invokestatic 336, 3) := by decide +kernel
theorem dX12_hold_10 : decode cX12_hold 10 = .ok (.ifCond .eq 13, 3) := by decide +kernel
theorem dX12_hold_13 : decode cX12_hold 13 = .ok (.iload_n 2, 1) := by decide +kernel
theorem dX12_hold_14 : decode cX12_hold 14 = .ok (.iconst 0, 1) := by decide +kernel
theorem dX12_hold_15 : decode cX12_hold 15 = .ok (.bipush 48, 2) := by decide +kernel
theorem dX12_hold_17 : decode cX12_hold 17 = .ok (.invokestatic 137, 3) := by decide +kernel
theorem dX12_hold_20 : decode cX12_hold 20 = .ok (.ifCond .ne 7, 3) := by decide +kernel
theorem dX12_hold_23 : decode cX12_hold 23 = .ok (.iconst 1, 1) := by decide +kernel
theorem dX12_hold_24 : decode cX12_hold 24 = .ok (.goto 4, 3) := by decide +kernel
theorem dX12_hold_27 : decode cX12_hold 27 = .ok (.iconst 0, 1) := by decide +kernel
theorem dX12_hold_28 : decode cX12_hold 28 = .ok (.iconst 1, 1) := by decide +kernel
theorem dX12_hold_29 : decode cX12_hold 29 = .ok (.iconst 1, 1) := by decide +kernel
theorem dX12_hold_30 : decode cX12_hold 30 = .ok (.invokevirtual 179, 3) := by decide +kernel
theorem dX12_hold_33 : decode cX12_hold 33 = .ok (.ifCond .eq 5, 3) := by decide +kernel
theorem dX12_hold_36 : decode cX12_hold 36 = .ok (.iconst 0, 1) := by decide +kernel
theorem dX12_hold_37 : decode cX12_hold 37 = .ok (.ireturn, 1) := by decide +kernel
theorem dX12_hold_38 : decode cX12_hold 38 = .ok (.iconst 0, 1) := by decide +kernel
theorem dX12_hold_39 : decode cX12_hold 39 = .ok (.istore_n 3, 1) := by decide +kernel
theorem dX12_hold_40 : decode cX12_hold 40 = .ok (.aload_n 0, 1) := by decide +kernel
theorem dX12_hold_41 : decode cX12_hold 41 = .ok (.invokevirtual 333, 3) := by decide +kernel
theorem dX12_hold_44 : decode cX12_hold 44 = .ok (.iconst 0, 1) := by decide +kernel
theorem dX12_hold_45 : decode cX12_hold 45 = .ok (.istore 4, 2) := by decide +kernel
theorem dX12_hold_47 : decode cX12_hold 47 = .ok (.iload 4, 2) := by decide +kernel
theorem dX12_hold_49 : decode cX12_hold 49 = .ok (.iload_n 2, 1) := by decide +kernel
theorem dX12_hold_50 : decode cX12_hold 50 = .ok (.if_icmp .ge 17, 3) := by decide +kernel
theorem dX12_hold_53 : decode cX12_hold 53 = .ok (.aload_n 0, 1) := by decide +kernel
theorem dX12_hold_54 : decode cX12_hold 54 = .ok (.aload_n 0, 1) := by decide +kernel
theorem dX12_hold_55 : decode cX12_hold 55 = .ok (.getfield 70, 3) := by decide +kernel
theorem dX12_hold_58 : decode cX12_hold 58 = .ok (.invokevirtual 297, 3) := by decide +kernel
theorem dX12_hold_61 : decode cX12_hold 61 = .ok (.iinc 4 1, 3) := by decide +kernel
theorem dX12_hold_64 : decode cX12_hold 64 = .ok (.goto (-17), 3) := by decide +kernel
theorem dX12_hold_67 : decode cX12_hold 67 = .ok (.iconst 0, 1) := by decide +kernel
theorem dX12_hold_68 : decode cX12_hold 68 = .ok (.istore 4, 2) := by decide +kernel
theorem dX12_hold_70 : decode cX12_hold 70 = .ok (.iload 4, 2) := by decide +kernel
theorem dX12_hold_72 : decode cX12_hold 72 = .ok (.aload_n 0, 1) := by decide +kernel
theorem dX12_hold_73 : decode cX12_hold 73 = .ok (.getfield 23, 3) := by decide +kernel
theorem dX12_hold_76 : decode cX12_hold 76 = .ok (.iconst 0, 1) := by decide +kernel
theorem dX12_hold_77 : decode cX12_hold 77 = .ok (.iaload, 1) := by decide +kernel
theorem dX12_hold_78 : decode cX12_hold 78 = .ok (.if_icmp .ge 71, 3) := by decide +kernel
theorem dX12_hold_81 : decode cX12_hold 81 = .ok (.iload 4, 2) := by decide +kernel
theorem dX12_hold_83 : decode cX12_hold 83 = .ok (.ifCond .le 23, 3) := by decide +kernel
theorem dX12_hold_86 : decode cX12_hold 86 = .ok (.iload 4, 2) := by decide +kernel
theorem dX12_hold_88 : decode cX12_hold 88 = .ok (.aload_n 0, 1) := by decide +kernel
theorem dX12_hold_89 : decode cX12_hold 89 = .ok (.getfield 23, 3) := by decide +kernel
theorem dX12_hold_92 : decode cX12_hold 92 = .ok (.iconst 3, 1) := by decide +kernel
theorem dX12_hold_93 : decode cX12_hold 93 = .ok (.iaload, 1) := by decide +kernel
theorem dX12_hold_94 : decode cX12_hold 94 = .ok (.irem, 1) := by decide +kernel
theorem dX12_hold_95 : decode cX12_hold 95 = .ok (.ifCond .ne 11, 3) := by decide +kernel
theorem dX12_hold_98 : decode cX12_hold 98 = .ok (.aload_n 0, 1) := by decide +kernel
theorem dX12_hold_99 : decode cX12_hold 99 = .ok (.aload_n 0, 1) := by decide +kernel
theorem dX12_hold_100 : decode cX12_hold 100 = .ok (.getfield 70, 3) := by decide +kernel
theorem dX12_hold_103 : decode cX12_hold 103 = .ok (.invokevirtual 297, 3) := by decide +kernel
theorem dX12_hold_106 : decode cX12_hold 106 = .ok (.iload_n 3, 1) := by decide +kernel
theorem dX12_hold_107 : decode cX12_hold 107 = .ok (.iload_n 1, 1) := by decide +kernel
theorem dX12_hold_108 : decode cX12_hold 108 = .ok (.aload_n 0, 1) := by decide +kernel
theorem dX12_hold_109 : decode cX12_hold 109 = .ok (.getfield 31, 3) := by decide +kernel
theorem dX12_hold_112 : decode cX12_hold 112 = .ok (.iload 4, 2) := by decide +kernel
theorem dX12_hold_114 : decode cX12_hold 114 = .ok (.aaload, 1) := by decide +kernel
theorem dX12_hold_115 : decode cX12_hold 115 = .ok (.iconst 0, 1) := by decide +kernel
theorem dX12_hold_116 : decode cX12_hold 116 = .ok (.iaload, 1) := by decide +kernel
theorem dX12_hold_117 : decode cX12_hold 117 = .ok (.if_icmp .le 23, 3) := by decide +kernel
theorem dX12_hold_120 : decode cX12_hold 120 = .ok (.aload_n 0, 1) := by decide +kernel
theorem dX12_hold_121 : decode cX12_hold 121 = .ok (.aload_n 0, 1) := by decide +kernel
theorem dX12_hold_122 : decode cX12_hold 122 = .ok (.getfield 70, 3) := by decide +kernel
theorem dX12_hold_125 : decode cX12_hold 125 = .ok (.iload 4, 2) := by decide +kernel
theorem dX12_hold_127 : decode cX12_hold 127 = .ok (.invokevirtual 273, 3) := by decide +kernel
theorem dX12_hold_130 : decode cX12_hold 130 = .ok (.ifCond .ne 10, 3) := by decide +kernel
theorem dX12_hold_133 : decode cX12_hold 133 = .ok (.iconst 1, 1) := by decide +kernel
theorem dX12_hold_134 : decode cX12_hold 134 = .ok (.iload 4, 2) := by decide +kernel
theorem dX12_hold_136 : decode cX12_hold 136 = .ok (.ishl, 1) := by decide +kernel
theorem dX12_hold_137 : decode cX12_hold 137 = .ok (.goto 4, 3) := by decide +kernel
theorem dX12_hold_140 : decode cX12_hold 140 = .ok (.iconst 0, 1) := by decide +kernel
theorem dX12_hold_141 : decode cX12_hold 141 = .ok (.ior, 1) := by decide +kernel
theorem dX12_hold_142 : decode cX12_hold 142 = .ok (.istore_n 3, 1) := by decide +kernel
theorem dX12_hold_143 : decode cX12_hold 143 = .ok (.iinc 4 1, 3) := by decide +kernel
theorem dX12_hold_146 : decode cX12_hold 146 = .ok (.goto (-76), 3) := by decide +kernel
theorem dX12_hold_149 : decode cX12_hold 149 = .ok (.iload_n 3, 1) := by decide +kernel
theorem dX12_hold_150 : decode cX12_hold 150 = .ok (.ireturn, 1) := by decide +kernel
theorem dX12_tallest_0 : decode cX12_tallest 0 = .ok (.aload_n 0, 1) := by decide +kernel
theorem dX12_tallest_1 : decode cX12_tallest 1 = .ok (.iconst 0, 1) := by decide +kernel
theorem dX12_tallest_2 : decode cX12_tallest 2 = .ok (.putfield 103, 3) := by decide +kernel
theorem dX12_tallest_5 : decode cX12_tallest 5 = .ok (.aload_n 0, 1) := by decide +kernel
theorem dX12_tallest_6 : decode cX12_tallest 6 = .ok (.iload_n 1, 1) := by decide +kernel
theorem dX12_tallest_7 : decode cX12_tallest 7 = .ok (.iconst 0, 1) := by decide +kernel
theorem dX12_tallest_8 : decode cX12_tallest 8 = .ok (.bipush 48, 2) := by decide +kernel
theorem dX12_tallest_10 : decode cX12_tallest 10 = .ok (.invokestatic 137, 3) := by decide +kernel
theorem dX12_tallest_13 : decode cX12_tallest 13 = .ok (.ifCond .ne 7, 3) := by decide +kernel
theorem dX12_tallest_16 : decode cX12_tallest 16 = .ok (.iconst 1, 1) := by decide +kernel
theorem dX12_tallest_17 : decode cX12_tallest 17 = .ok (.goto 4, 3) := by decide +kernel
theorem dX12_tallest_20 : decode cX12_tallest 20 = .ok (.iconst 0, 1) := by decide +kernel
theorem dX12_tallest_21 : decode cX12_tallest 21 = .ok (.iconst 1, 1) := by decide +kernel
theorem dX12_tallest_22 : decode cX12_tallest 22 = .ok (.iconst 1, 1) := by decide +kernel
theorem dX12_tallest_23 : decode cX12_tallest 23 = .ok (.invokevirtual 179, 3) := by decide +kernel
theorem dX12_tallest_26 : decode cX12_tallest 26 = .ok (.ifCond .eq 5, 3) := by decide +kernel
theorem dX12_tallest_29 : decode cX12_tallest 29 = .ok (.iconst 0, 1) := by decide +kernel
theorem dX12_tallest_30 : decode cX12_tallest 30 = .ok (.ireturn, 1) := by decide +kernel
theorem dX12_tallest_31 : decode cX12_tallest 31 = .ok (.bipush 9, 2) := by decide +kernel
theorem dX12_tallest_33 : decode cX12_tallest 33 = .ok (.istore_n 2, 1) := by decide +kernel
theorem dX12_tallest_34 : decode cX12_tallest 34 = .ok (.iload_n 2, 1) := by decide +kernel
theorem dX12_tallest_35 : decode cX12_tallest 35 = .ok (.ifCond .lt 21, 3) := by decide +kernel
theorem dX12_tallest_38 : decode cX12_tallest 38 = .ok (.aload_n 0, 1) := by decide +kernel
theorem dX12_tallest_39 : decode cX12_tallest 39 = .ok (.iload_n 2, 1) := by decide +kernel
theorem dX12_tallest_40 : decode cX12_tallest 40 = .ok (.iload_n 1, 1) := by decide +kernel
theorem dX12_tallest_41 : decode cX12_tallest 41 = .ok (.invokevirtual 339, 3) := by decide +kernel
theorem dX12_tallest_44 : decode cX12_tallest 44 = .ok (.iconst (-1), 1) := by decide +kernel
theorem dX12_tallest_45 : decode cX12_tallest 45 = .ok (.if_icmp .eq 5, 3) := by decide +kernel
theorem dX12_tallest_48 : decode cX12_tallest 48 = .ok (.iload_n 2, 1) := by decide +kernel
theorem dX12_tallest_49 : decode cX12_tallest 49 = .ok (.ireturn, 1) := by decide +kernel
theorem dX12_tallest_50 : decode cX12_tallest 50 = .ok (.iinc 2 (-1), 3) := by decide +kernel
theorem dX12_tallest_53 : decode cX12_tallest 53 = .ok (.goto (-19), 3) := by decide +kernel
theorem dX12_tallest_56 : decode cX12_tallest 56 = .ok (.iconst (-1), 1) := by decide +kernel
theorem dX12_tallest_57 : decode cX12_tallest 57 = .ok (.ireturn, 1) := by decide +kernel
theorem dX12_letter_0 : decode cX12_letter 0 = .ok (.aload_n 0, 1) := by decide +kernel
theorem dX12_letter_1 : decode cX12_letter 1 = .ok (.iconst 0, 1) := by decide +kernel
theorem dX12_letter_2 : decode cX12_letter 2 = .ok (.putfield 103, 3) := by decide +kernel
theorem dX12_letter_5 : decode cX12_letter 5 = .ok (.aload_n 0, 1) := by decide +kernel
theorem dX12_letter_6 : decode cX12_letter 6 = .ok (.aload_n 0, 1) := by decide +kernel
theorem dX12_letter_7 : decode cX12_letter 7 = .ok (.iload_n 1, 1) := by decide +kernel
theorem dX12_letter_8 : decode cX12_letter 8 = .ok (.invokevirtual 327, 3) := by decide +kernel
theorem dX12_letter_11 : decode cX12_letter 11 = .ok (.ifCond .ne 7, 3) := by decide +kernel
theorem dX12_letter_14 : decode cX12_letter 14 = .ok (.iconst 1, 1) := by decide +kernel
theorem dX12_letter_15 : decode cX12_letter 15 = .ok (.goto 4, 3) := by decide +kernel
theorem dX12_letter_18 : decode cX12_letter 18 = .ok (.iconst 0, 1) := by decide +kernel
theorem dX12_letter_19 : decode cX12_letter 19 = .ok (.iconst 1, 1) := by decide +kernel
theorem dX12_letter_20 : decode cX12_letter 20 = .ok (.iconst 0, 1) := by decide +kernel
theorem dX12_letter_21 : decode cX12_letter 21 = .ok (.invokevirtual 179, 3) := by decide +kernel
theorem dX12_letter_24 : decode cX12_letter 24 = .ok (.ifCond .ne 26, 3) := by decide +kernel
theorem dX12_letter_27 : decode cX12_letter 27 = .ok (.aload_n 0, 1) := by decide +kernel
theorem dX12_letter_28 : decode cX12_letter 28 = .ok (.iload_n 2, 1) := by decide +kernel
theorem dX12_letter_29 : decode cX12_letter 29 = .ok (.iconst 0, 1) := by decide +kernel
theorem dX12_letter_30 : decode cX12_letter 30 = .ok (.iconst 2, 1) := by decide +kernel
theorem dX12_letter_31 : decode cX12_letter 31 = .ok (.invokestatic 137, 3) := by decide +kernel
theorem dX12_letter_34 : decode cX12_letter 34 = .ok (.ifCond .ne 7, 3) := by decide +kernel
theorem dX12_letter_37 : decode cX12_letter 37 = .ok (.iconst 1, 1) := by decide +kernel
theorem dX12_letter_38 : decode cX12_letter 38 = .ok (.goto 4, 3) := by decide +kernel
theorem dX12_letter_41 : decode cX12_letter 41 = .ok (.iconst 0, 1) := by decide +kernel
theorem dX12_letter_42 : decode cX12_letter 42 = .ok (.iconst 2, 1) := by decide +kernel
theorem dX12_letter_43 : decode cX12_letter 43 = .ok (.iconst 1, 1) := by decide +kernel
theorem dX12_letter_44 : decode cX12_letter 44 = .ok (.invokevirtual 179, 3) := by decide +kernel
theorem dX12_letter_47 : decode cX12_letter 47 = .ok (.ifCond .eq 5, 3) := by decide +kernel
theorem dX12_letter_50 : decode cX12_letter 50 = .ok (.iconst 0, 1) := by decide +kernel
theorem dX12_letter_51 : decode cX12_letter 51 = .ok (.ireturn, 1) := by decide +kernel
theorem dX12_letter_52 : decode cX12_letter 52 = .ok (.iconst (-1), 1) := by decide +kernel
theorem dX12_letter_53 : decode cX12_letter 53 = .ok (.istore_n 3, 1) := by decide +kernel
theorem dX12_letter_54 : decode cX12_letter 54 = .ok (.iconst (-1), 1) := by decide +kernel
theorem dX12_letter_55 : decode cX12_letter 55 = .ok (.istore 4, 2) := by decide +kernel
theorem dX12_letter_57 : decode cX12_letter 57 = .ok (.iconst 0, 1) := by decide +kernel
theorem dX12_letter_58 : decode cX12_letter 58 = .ok (.istore 5, 2) := by decide +kernel
theorem dX12_letter_60 : decode cX12_letter 60 = .ok (.iconst 0, 1) := by decide +kernel
theorem dX12_letter_61 : decode cX12_letter 61 = .ok (.istore 6, 2) := by decide +kernel
theorem dX12_letter_63 : decode cX12_letter 63 = .ok (.aload_n 0, 1) := by decide +kernel
theorem dX12_letter_64 : decode cX12_letter 64 = .ok (.invokevirtual 333, 3) := by decide +kernel
theorem dX12_letter_67 : decode cX12_letter 67 = .ok (.iload_n 1, 1) := by decide +kernel
theorem dX12_letter_68 : decode cX12_letter 68 = .ok (.istore 7, 2) := by decide +kernel
theorem dX12_letter_70 : decode cX12_letter 70 = .ok (.iload 7, 2) := by decide +kernel
theorem dX12_letter_72 : decode cX12_letter 72 = .ok (.aload_n 0, 1) := by decide +kernel
theorem dX12_letter_73 : decode cX12_letter 73 = .ok (.getfield 23, 3) := by decide +kernel
theorem dX12_letter_76 : decode cX12_letter 76 = .ok (.iconst 0, 1) := by decide +kernel
theorem dX12_letter_77 : decode cX12_letter 77 = .ok (.iaload, 1) := by decide +kernel
theorem dX12_letter_78 : decode cX12_letter 78 = .ok (.if_icmp .ge 70, 3) := by decide +kernel
theorem dX12_letter_81 : decode cX12_letter 81 = .ok (.aload_n 0, 1) := by decide +kernel
theorem dX12_letter_82 : decode cX12_letter 82 = .ok (.aload_n 0, 1) := by decide +kernel
theorem dX12_letter_83 : decode cX12_letter 83 = .ok (.getfield 70, 3) := by decide +kernel
theorem dX12_letter_86 : decode cX12_letter 86 = .ok (.iload 7, 2) := by decide +kernel
theorem dX12_letter_88 : decode cX12_letter 88 = .ok (.invokevirtual 273, 3) := by decide +kernel
theorem dX12_letter_91 : decode cX12_letter 91 = .ok (.ifCond .eq 32, 3) := by decide +kernel
theorem dX12_letter_94 : decode cX12_letter 94 = .ok (.iload 5, 2) := by decide +kernel
theorem dX12_letter_96 : decode cX12_letter 96 = .ok (.ifCond .ne 8, 3) := by decide +kernel
theorem dX12_letter_99 : decode cX12_letter 99 = .ok (.iload 6, 2) := by decide +kernel
theorem dX12_letter_101 : decode cX12_letter 101 = .ok (.goto 4, 3) := by decide +kernel
theorem dX12_letter_104 : decode cX12_letter 104 = .ok (.iload_n 3, 1) := by decide +kernel
theorem dX12_letter_105 : decode cX12_letter 105 = .ok (.istore_n 3, 1) := by decide +kernel
theorem dX12_letter_106 : decode cX12_letter 106 = .ok (.iload 5, 2) := by decide +kernel
theorem dX12_letter_108 : decode cX12_letter 108 = .ok (.ifCond .ne 8, 3) := by decide +kernel
theorem dX12_letter_111 : decode cX12_letter 111 = .ok (.iload 7, 2) := by decide +kernel
theorem dX12_letter_113 : decode cX12_letter 113 = .ok (.goto 5, 3) := by decide +kernel
theorem dX12_letter_116 : decode cX12_letter 116 = .ok (.iload 4, 2) := by decide +kernel
theorem dX12_letter_118 : decode cX12_letter 118 = .ok (.istore 4, 2) := by decide +kernel
theorem dX12_letter_120 : decode cX12_letter 120 = .ok (.iinc 5 1, 3) := by decide +kernel
theorem dX12_letter_123 : decode cX12_letter 123 = .ok (.aload_n 0, 1) := by decide +kernel
theorem dX12_letter_124 : decode cX12_letter 124 = .ok (.aload_n 0, 1) := by decide +kernel
theorem dX12_letter_125 : decode cX12_letter 125 = .ok (.getfield 70, 3) := by decide +kernel
theorem dX12_letter_128 : decode cX12_letter 128 = .ok (.invokevirtual 297, 3) := by decide +kernel
theorem dX12_letter_131 : decode cX12_letter 131 = .ok (.iinc 6 1, 3) := by decide +kernel
theorem dX12_letter_134 : decode cX12_letter 134 = .ok (.iload 7, 2) := by decide +kernel
theorem dX12_letter_136 : decode cX12_letter 136 = .ok (.aload_n 0, 1) := by decide +kernel
theorem dX12_letter_137 : decode cX12_letter 137 = .ok (.getfield 23, 3) := by decide +kernel
theorem dX12_letter_140 : decode cX12_letter 140 = .ok (.iconst 3, 1) := by decide +kernel
theorem dX12_letter_141 : decode cX12_letter 141 = .ok (.iaload, 1) := by decide +kernel
theorem dX12_letter_142 : decode cX12_letter 142 = .ok (.iadd, 1) := by decide +kernel
theorem dX12_letter_143 : decode cX12_letter 143 = .ok (.istore 7, 2) := by decide +kernel
theorem dX12_letter_145 : decode cX12_letter 145 = .ok (.goto (-75), 3) := by decide +kernel
theorem dX12_letter_148 : decode cX12_letter 148 = .ok (.iload_n 2, 1) := by decide +kernel
theorem dX12_letter_149 : decode cX12_letter 149 = .ok (.ifCond .ne 7, 3) := by decide +kernel
theorem dX12_letter_152 : decode cX12_letter 152 = .ok (.iload_n 3, 1) := by decide +kernel
theorem dX12_letter_153 : decode cX12_letter 153 = .ok (.goto 15, 3) := by decide +kernel
theorem dX12_letter_156 : decode cX12_letter 156 = .ok (.iload_n 2, 1) := by decide +kernel
theorem dX12_letter_157 : decode cX12_letter 157 = .ok (.iconst 1, 1) := by decide +kernel
theorem dX12_letter_158 : decode cX12_letter 158 = .ok (.if_icmp .ne 8, 3) := by decide +kernel
theorem dX12_letter_161 : decode cX12_letter 161 = .ok (.iload 4, 2) := by decide +kernel
theorem dX12_letter_163 : decode cX12_letter 163 = .ok (.goto 5, 3) := by decide +kernel
theorem dX12_letter_166 : decode cX12_letter 166 = .ok (.iload 5, 2) := by decide +kernel
theorem dX12_letter_168 : decode cX12_letter 168 = .ok (.ireturn, 1) := by decide +kernel
theorem dX12_flood_0 : decode cX12_flood 0 = .ok (.aload_n 0, 1) := by decide +kernel
theorem dX12_flood_1 : decode cX12_flood 1 = .ok (.iconst 0, 1) := by decide +kernel
theorem dX12_flood_2 : decode cX12_flood 2 = .ok (.putfield 103, 3) := by decide +kernel
theorem dX12_flood_5 : decode cX12_flood 5 = .ok (.aload_n 0, 1) := by decide +kernel
theorem dX12_flood_6 : decode cX12_flood 6 = .ok (.iload_n 1, 1) := by decide +kernel
theorem dX12_flood_7 : decode cX12_flood 7 = .ok (.iconst 0, 1) := by decide +kernel
theorem dX12_flood_8 : decode cX12_flood 8 = .ok (.iconst 1, 1) := by decide +kernel
theorem dX12_flood_9 : decode cX12_flood 9 = .ok (.aload_n 0, 1) := by decide +kernel
theorem dX12_flood_10 : decode cX12_flood 10 = .ok (.getfield 23, 3) := by decide +kernel
theorem dX12_flood_13 : decode cX12_flood 13 = .ok (.iconst 2, 1) := by decide +kernel
theorem dX12_flood_14 : decode cX12_flood 14 = .ok (.iaload, 1) := by decide +kernel
theorem dX12_flood_15 : decode cX12_flood 15 = .ok (.ishl, 1) := by decide +kernel
theorem dX12_flood_16 : decode cX12_flood 16 = .ok (.iconst 1, 1) := by decide +kernel
theorem dX12_flood_17 : decode cX12_flood 17 = .ok (.isub, 1) := by decide +kernel
theorem dX12_flood_18 : decode cX12_flood 18 = .ok (.invokestatic 137, 3) := by decide +kernel
theorem dX12_flood_21 : decode cX12_flood 21 = .ok (.ifCond .ne 7, 3) := by decide +kernel
theorem dX12_flood_24 : decode cX12_flood 24 = .ok (.iconst 1, 1) := by decide +kernel
theorem dX12_flood_25 : decode cX12_flood 25 = .ok (.goto 4, 3) := by decide +kernel
theorem dX12_flood_28 : decode cX12_flood 28 = .ok (.iconst 0, 1) := by decide +kernel
theorem dX12_flood_29 : decode cX12_flood 29 = .ok (.iconst 1, 1) := by decide +kernel
theorem dX12_flood_30 : decode cX12_flood 30 = .ok (.iconst 1, 1) := by decide +kernel
theorem dX12_flood_31 : decode cX12_flood 31 = .ok (.invokevirtual 179, 3) := by decide +kernel
theorem dX12_flood_34 : decode cX12_flood 34 = .ok (.ifCond .eq 5, 3) := by decide +kernel
theorem dX12_flood_37 : decode cX12_flood 37 = .ok (.iconst 0, 1) := by decide +kernel
theorem dX12_flood_38 : decode cX12_flood 38 = .ok (.ireturn, 1) := by decide +kernel
theorem dX12_flood_39 : decode cX12_flood 39 = .ok (.iconst (-1), 1) := by decide +kernel
theorem dX12_flood_40 : decode cX12_flood 40 = .ok (.istore_n 2, 1) := by decide +kernel
theorem dX12_flood_41 : decode cX12_flood 41 = .ok (.iconst 0, 1) := by decide +kernel
theorem dX12_flood_42 : decode cX12_flood 42 = .ok (.istore_n 3, 1) := by decide +kernel
theorem dX12_flood_43 : decode cX12_flood 43 = .ok (.iload_n 3, 1) := by decide +kernel
theorem dX12_flood_44 : decode cX12_flood 44 = .ok (.iconst 1, 1) := by decide +kernel
theorem dX12_flood_45 : decode cX12_flood 45 = .ok (.aload_n 0, 1) := by decide +kernel
theorem dX12_flood_46 : decode cX12_flood 46 = .ok (.getfield 23, 3) := by decide +kernel
theorem dX12_flood_49 : decode cX12_flood 49 = .ok (.iconst 0, 1) := by decide +kernel
theorem dX12_flood_50 : decode cX12_flood 50 = .ok (.iaload, 1) := by decide +kernel
theorem dX12_flood_51 : decode cX12_flood 51 = .ok (.ishl, 1) := by decide +kernel
theorem dX12_flood_52 : decode cX12_flood 52 = .ok (.if_icmp .ge 93, 3) := by decide +kernel
theorem dX12_flood_55 : decode cX12_flood 55 = .ok (.iload_n 2, 1) := by decide +kernel
theorem dX12_flood_56 : decode cX12_flood 56 = .ok (.iconst (-1), 1) := by decide +kernel
theorem dX12_flood_57 : decode cX12_flood 57 = .ok (.if_icmp .eq 17, 3) := by decide +kernel
theorem dX12_flood_60 : decode cX12_flood 60 = .ok (.iload_n 3, 1) := by decide +kernel
theorem dX12_flood_61 : decode cX12_flood 61 = .ok (.invokestatic 318, 3) := by decide +kernel
theorem dX12_flood_64 : decode cX12_flood 64 = .ok (.iload_n 2, 1) := by decide +kernel
theorem dX12_flood_65 : decode cX12_flood 65 = .ok (.invokestatic 318, 3) := by decide +kernel
theorem dX12_flood_68 : decode cX12_flood 68 = .ok (.if_icmp .lt 6, 3) := by decide +kernel
theorem dX12_flood_71 : decode cX12_flood 71 = .ok (.goto 68, 3) := by decide +kernel
theorem dX12_flood_74 : decode cX12_flood 74 = .ok (.iconst 1, 1) := by decide +kernel
theorem dX12_flood_75 : decode cX12_flood 75 = .ok (.istore 4, 2) := by decide +kernel
theorem dX12_flood_77 : decode cX12_flood 77 = .ok (.iconst 0, 1) := by decide +kernel
theorem dX12_flood_78 : decode cX12_flood 78 = .ok (.istore 5, 2) := by decide +kernel
theorem dX12_flood_80 : decode cX12_flood 80 = .ok (.iload 5, 2) := by decide +kernel
theorem dX12_flood_82 : decode cX12_flood 82 = .ok (.aload_n 0, 1) := by decide +kernel
theorem dX12_flood_83 : decode cX12_flood 83 = .ok (.getfield 23, 3) := by decide +kernel
theorem dX12_flood_86 : decode cX12_flood 86 = .ok (.iconst 2, 1) := by decide +kernel
theorem dX12_flood_87 : decode cX12_flood 87 = .ok (.iaload, 1) := by decide +kernel
theorem dX12_flood_88 : decode cX12_flood 88 = .ok (.if_icmp .ge 40, 3) := by decide +kernel
theorem dX12_flood_91 : decode cX12_flood 91 = .ok (.iload 4, 2) := by decide +kernel
theorem dX12_flood_93 : decode cX12_flood 93 = .ok (.ifCond .eq 35, 3) := by decide +kernel
theorem dX12_flood_96 : decode cX12_flood 96 = .ok (.iload_n 1, 1) := by decide +kernel
theorem dX12_flood_97 : decode cX12_flood 97 = .ok (.iload 5, 2) := by decide +kernel
theorem dX12_flood_99 : decode cX12_flood 99 = .ok (.invokestatic 258, 3) := by decide +kernel
theorem dX12_flood_102 : decode cX12_flood 102 = .ok (.ifCond .eq 13, 3) := by decide +kernel
theorem dX12_flood_105 : decode cX12_flood 105 = .ok (.aload_n 0, 1) := by decide +kernel
theorem dX12_flood_106 : decode cX12_flood 106 = .ok (.iload 5, 2) := by decide +kernel
theorem dX12_flood_108 : decode cX12_flood 108 = .ok (.iload_n 3, 1) := by decide +kernel
theorem dX12_flood_109 : decode cX12_flood 109 = .ok (.invokevirtual 330, 3) := by decide +kernel
theorem dX12_flood_112 : decode cX12_flood 112 = .ok (.ifCond .eq 7, 3) := by decide +kernel
theorem dX12_flood_115 : decode cX12_flood 115 = .ok (.iconst 1, 1) := by decide +kernel
theorem dX12_flood_116 : decode cX12_flood 116 = .ok (.goto 4, 3) := by decide +kernel
theorem dX12_flood_119 : decode cX12_flood 119 = .ok (.iconst 0, 1) := by decide +kernel
theorem dX12_flood_120 : decode cX12_flood 120 = .ok (.istore 4, 2) := by decide +kernel
theorem dX12_flood_122 : decode cX12_flood 122 = .ok (.iinc 5 1, 3) := by decide +kernel
theorem dX12_flood_125 : decode cX12_flood 125 = .ok (.goto (-45), 3) := by decide +kernel
theorem dX12_flood_128 : decode cX12_flood 128 = .ok (.iload 4, 2) := by decide +kernel
theorem dX12_flood_130 : decode cX12_flood 130 = .ok (.ifCond .eq 7, 3) := by decide +kernel
theorem dX12_flood_133 : decode cX12_flood 133 = .ok (.iload_n 3, 1) := by decide +kernel
theorem dX12_flood_134 : decode cX12_flood 134 = .ok (.goto 4, 3) := by decide +kernel
theorem dX12_flood_137 : decode cX12_flood 137 = .ok (.iload_n 2, 1) := by decide +kernel
theorem dX12_flood_138 : decode cX12_flood 138 = .ok (.istore_n 2, 1) := by decide +kernel
theorem dX12_flood_139 : decode cX12_flood 139 = .ok (.iinc 3 1, 3) := by decide +kernel
theorem dX12_flood_142 : decode cX12_flood 142 = .ok (.goto (-99), 3) := by decide +kernel
theorem dX12_flood_145 : decode cX12_flood 145 = .ok (.iload_n 2, 1) := by decide +kernel
theorem dX12_flood_146 : decode cX12_flood 146 = .ok (.ireturn, 1) := by decide +kernel
theorem dX12_areBoards_0 : decode cX12_areBoards 0 = .ok (.iload_n 1, 1) := by decide +kernel
theorem dX12_areBoards_1 : decode cX12_areBoards 1 = .ok (.iconst 0, 1) := by decide +kernel
theorem dX12_areBoards_2 : decode cX12_areBoards 2 = .ok (.iconst 1, 1) := by decide +kernel
theorem dX12_areBoards_3 : decode cX12_areBoards 3 = .ok (.aload_n 0, 1) := by decide +kernel
theorem dX12_areBoards_4 : decode cX12_areBoards 4 = .ok (.getfield 23, 3) := by decide +kernel
theorem dX12_areBoards_7 : decode cX12_areBoards 7 = .ok (.iconst 0, 1) := by decide +kernel
theorem dX12_areBoards_8 : decode cX12_areBoards 8 = .ok (.iaload, 1) := by decide +kernel
theorem dX12_areBoards_9 : decode cX12_areBoards 9 = .ok (.ishl, 1) := by decide +kernel
theorem dX12_areBoards_10 : decode cX12_areBoards 10 = .ok (.iconst 1, 1) := by decide +kernel
theorem dX12_areBoards_11 : decode cX12_areBoards 11 = .ok (.isub, 1) := by decide +kernel
theorem dX12_areBoards_12 : decode cX12_areBoards 12 = .ok (.invokestatic 137, 3) := by decide +kernel
theorem dX12_areBoards_15 : decode cX12_areBoards 15 = .ok (.ireturn, 1) := by decide +kernel
theorem dX12_holds_0 : decode cX12_holds 0 = .ok (.aload_n 0, 1) := by decide +kernel
theorem dX12_holds_1 : decode cX12_holds 1 = .ok (.iconst 0, 1) := by decide +kernel
theorem dX12_holds_2 : decode cX12_holds 2 = .ok (.putfield 103, 3) := by decide +kernel
theorem dX12_holds_5 : decode cX12_holds 5 = .ok (.aload_n 0, 1) := by decide +kernel
theorem dX12_holds_6 : decode cX12_holds 6 = .ok (.aload_n 0, 1) := by decide +kernel
theorem dX12_holds_7 : decode cX12_holds 7 = .ok (.iload_n 1, 1) := by decide +kernel
theorem dX12_holds_8 : decode cX12_holds 8 = .ok (.invokevirtual 342, 3) := by decide +kernel
theorem dX12_holds_11 : decode cX12_holds 11 = .ok (.ifCond .ne 7, 3) := by decide +kernel
theorem dX12_holds_14 : decode cX12_holds 14 = .ok (.iconst 1, 1) := by decide +kernel
theorem dX12_holds_15 : decode cX12_holds 15 = .ok (.goto 4, 3) := by decide +kernel
theorem dX12_holds_18 : decode cX12_holds 18 = .ok (.iconst 0, 1) := by decide +kernel
theorem dX12_holds_19 : decode cX12_holds 19 = .ok (.iconst 1, 1) := by decide +kernel
theorem dX12_holds_20 : decode cX12_holds 20 = .ok (.iconst 1, 1) := by decide +kernel
theorem dX12_holds_21 : decode cX12_holds 21 = .ok (.invokevirtual 179, 3) := by decide +kernel
theorem dX12_holds_24 : decode cX12_holds 24 = .ok (.ifCond .eq 5, 3) := by decide +kernel
theorem dX12_holds_27 : decode cX12_holds 27 = .ok (.iconst 0, 1) := by decide +kernel
theorem dX12_holds_28 : decode cX12_holds 28 = .ok (.ireturn, 1) := by decide +kernel
theorem dX12_holds_29 : decode cX12_holds 29 = .ok (.iconst 0, 1) := by decide +kernel
theorem dX12_holds_30 : decode cX12_holds 30 = .ok (.istore_n 2, 1) := by decide +kernel
theorem dX12_holds_31 : decode cX12_holds 31 = .ok (.iconst 0, 1) := by decide +kernel
theorem dX12_holds_32 : decode cX12_holds 32 = .ok (.istore_n 3, 1) := by decide +kernel
theorem dX12_holds_33 : decode cX12_holds 33 = .ok (.iload_n 3, 1) := by decide +kernel
theorem dX12_holds_34 : decode cX12_holds 34 = .ok (.aload_n 0, 1) := by decide +kernel
theorem dX12_holds_35 : decode cX12_holds 35 = .ok (.getfield 23, 3) := by decide +kernel
theorem dX12_holds_38 : decode cX12_holds 38 = .ok (.iconst 2, 1) := by decide +kernel
theorem dX12_holds_39 : decode cX12_holds 39 = .ok (.iaload, 1) := by decide +kernel
theorem dX12_holds_40 : decode cX12_holds 40 = .ok (.if_icmp .ge 28, 3) := by decide +kernel
theorem dX12_holds_43 : decode cX12_holds 43 = .ok (.iload_n 2, 1) := by decide +kernel
theorem dX12_holds_44 : decode cX12_holds 44 = .ok (.aload_n 0, 1) := by decide +kernel
theorem dX12_holds_45 : decode cX12_holds 45 = .ok (.iload_n 3, 1) := by decide +kernel
theorem dX12_holds_46 : decode cX12_holds 46 = .ok (.iload_n 1, 1) := by decide +kernel
theorem dX12_holds_47 : decode cX12_holds 47 = .ok (.invokevirtual 330, 3) := by decide +kernel
theorem dX12_holds_50 : decode cX12_holds 50 = .ok (.ifCond .eq 9, 3) := by decide +kernel
theorem dX12_holds_53 : decode cX12_holds 53 = .ok (.iconst 1, 1) := by decide +kernel
theorem dX12_holds_54 : decode cX12_holds 54 = .ok (.iload_n 3, 1) := by decide +kernel
theorem dX12_holds_55 : decode cX12_holds 55 = .ok (.ishl, 1) := by decide +kernel
theorem dX12_holds_56 : decode cX12_holds 56 = .ok (.goto 4, 3) := by decide +kernel
theorem dX12_holds_59 : decode cX12_holds 59 = .ok (.iconst 0, 1) := by decide +kernel
theorem dX12_holds_60 : decode cX12_holds 60 = .ok (.ior, 1) := by decide +kernel
theorem dX12_holds_61 : decode cX12_holds 61 = .ok (.istore_n 2, 1) := by decide +kernel
theorem dX12_holds_62 : decode cX12_holds 62 = .ok (.iinc 3 1, 3) := by decide +kernel
theorem dX12_holds_65 : decode cX12_holds 65 = .ok (.goto (-32), 3) := by decide +kernel
theorem dX12_holds_68 : decode cX12_holds 68 = .ok (.iload_n 2, 1) := by decide +kernel
theorem dX12_holds_69 : decode cX12_holds 69 = .ok (.ireturn, 1) := by decide +kernel
theorem dX12_smellAt_0 : decode cX12_smellAt 0 = .ok (.iconst 0, 1) := by decide +kernel
theorem dX12_smellAt_1 : decode cX12_smellAt 1 = .ok (.istore_n 3, 1) := by decide +kernel
theorem dX12_smellAt_2 : decode cX12_smellAt 2 = .ok (.iconst 0, 1) := by decide +kernel
theorem dX12_smellAt_3 : decode cX12_smellAt 3 = .ok (.iload_n 1, 1) := by decide +kernel
theorem dX12_smellAt_4 : decode cX12_smellAt 4 = .ok (.aload_n 0, 1) := by decide +kernel
theorem dX12_smellAt_5 : decode cX12_smellAt 5 = .ok (.getfield 23, 3) := by decide +kernel
theorem dX12_smellAt_8 : decode cX12_smellAt 8 = .ok (.iconst 4, 1) := by decide +kernel
theorem dX12_smellAt_9 : decode cX12_smellAt 9 = .ok (.iaload, 1) := by decide +kernel
theorem dX12_smellAt_10 : decode cX12_smellAt 10 = .ok (.isub, 1) := by decide +kernel
theorem dX12_smellAt_11 : decode cX12_smellAt 11 = .ok (.invokestatic 242, 3) := by decide +kernel
theorem dX12_smellAt_14 : decode cX12_smellAt 14 = .ok (.istore 4, 2) := by decide +kernel
theorem dX12_smellAt_16 : decode cX12_smellAt 16 = .ok (.iload 4, 2) := by decide +kernel
theorem dX12_smellAt_18 : decode cX12_smellAt 18 = .ok (.iload_n 1, 1) := by decide +kernel
theorem dX12_smellAt_19 : decode cX12_smellAt 19 = .ok (.if_icmp .gt 38, 3) := by decide +kernel
theorem dX12_smellAt_22 : decode cX12_smellAt 22 = .ok (.iload_n 3, 1) := by decide +kernel
theorem dX12_smellAt_23 : decode cX12_smellAt 23 = .ok (.iload_n 2, 1) := by decide +kernel
theorem dX12_smellAt_24 : decode cX12_smellAt 24 = .ok (.iload 4, 2) := by decide +kernel
theorem dX12_smellAt_26 : decode cX12_smellAt 26 = .ok (.invokestatic 258, 3) := by decide +kernel
theorem dX12_smellAt_29 : decode cX12_smellAt 29 = .ok (.ifCond .eq 19, 3) := by decide +kernel
theorem dX12_smellAt_32 : decode cX12_smellAt 32 = .ok (.aload_n 0, 1) := by decide +kernel
theorem dX12_smellAt_33 : decode cX12_smellAt 33 = .ok (.getfield 23, 3) := by decide +kernel
theorem dX12_smellAt_36 : decode cX12_smellAt 36 = .ok (.iconst 4, 1) := by decide +kernel
theorem dX12_smellAt_37 : decode cX12_smellAt 37 = .ok (.iaload, 1) := by decide +kernel
theorem dX12_smellAt_38 : decode cX12_smellAt 38 = .ok (.iconst 1, 1) := by decide +kernel
theorem dX12_smellAt_39 : decode cX12_smellAt 39 = .ok (.iadd, 1) := by decide +kernel
theorem dX12_smellAt_40 : decode cX12_smellAt 40 = .ok (.iload_n 1, 1) := by decide +kernel
theorem dX12_smellAt_41 : decode cX12_smellAt 41 = .ok (.isub, 1) := by decide +kernel
theorem dX12_smellAt_42 : decode cX12_smellAt 42 = .ok (.iload 4, 2) := by decide +kernel
theorem dX12_smellAt_44 : decode cX12_smellAt 44 = .ok (.iadd, 1) := by decide +kernel
theorem dX12_smellAt_45 : decode cX12_smellAt 45 = .ok (.goto 4, 3) := by decide +kernel
theorem dX12_smellAt_48 : decode cX12_smellAt 48 = .ok (.iconst 0, 1) := by decide +kernel
theorem dX12_smellAt_49 : decode cX12_smellAt 49 = .ok (.iadd, 1) := by decide +kernel
theorem dX12_smellAt_50 : decode cX12_smellAt 50 = .ok (.istore_n 3, 1) := by decide +kernel
theorem dX12_smellAt_51 : decode cX12_smellAt 51 = .ok (.iinc 4 1, 3) := by decide +kernel
theorem dX12_smellAt_54 : decode cX12_smellAt 54 = .ok (.goto (-38), 3) := by decide +kernel
theorem dX12_smellAt_57 : decode cX12_smellAt 57 = .ok (.iload_n 3, 1) := by decide +kernel
theorem dX12_smellAt_58 : decode cX12_smellAt 58 = .ok (.ireturn, 1) := by decide +kernel
theorem dX12_smells_0 : decode cX12_smells 0 = .ok (.aload_n 0, 1) := by decide +kernel
theorem dX12_smells_1 : decode cX12_smells 1 = .ok (.iconst 0, 1) := by decide +kernel
theorem dX12_smells_2 : decode cX12_smells 2 = .ok (.putfield 103, 3) := by decide +kernel
theorem dX12_smells_5 : decode cX12_smells 5 = .ok (.aload_n 0, 1) := by decide +kernel
theorem dX12_smells_6 : decode cX12_smells 6 = .ok (.aload_n 0, 1) := by decide +kernel
theorem dX12_smells_7 : decode cX12_smells 7 = .ok (.iload_n 1, 1) := by decide +kernel
theorem dX12_smells_8 : decode cX12_smells 8 = .ok (.invokevirtual 327, 3) := by decide +kernel
theorem dX12_smells_11 : decode cX12_smells 11 = .ok (.ifCond .ne 7, 3) := by decide +kernel
theorem dX12_smells_14 : decode cX12_smells 14 = .ok (.iconst 1, 1) := by decide +kernel
theorem dX12_smells_15 : decode cX12_smells 15 = .ok (.goto 4, 3) := by decide +kernel
theorem dX12_smells_18 : decode cX12_smells 18 = .ok (.iconst 0, 1) := by decide +kernel
theorem dX12_smells_19 : decode cX12_smells 19 = .ok (.iconst 1, 1) := by decide +kernel
theorem dX12_smells_20 : decode cX12_smells 20 = .ok (.iconst 0, 1) := by decide +kernel
theorem dX12_smells_21 : decode cX12_smells 21 = .ok (.invokevirtual 179, 3) := by decide +kernel
theorem dX12_smells_24 : decode cX12_smells 24 = .ok (.ifCond .ne 25, 3) := by decide +kernel
theorem dX12_smells_27 : decode cX12_smells 27 = .ok (.aload_n 0, 1) := by decide +kernel
theorem dX12_smells_28 : decode cX12_smells 28 = .ok (.aload_n 0, 1) := by decide +kernel
theorem dX12_smells_29 : decode cX12_smells 29 = .ok (.iload_n 2, 1) := by decide +kernel
theorem dX12_smells_30 : decode cX12_smells 30 = .ok (.invokevirtual 342, 3) := by decide +kernel
theorem dX12_smells_33 : decode cX12_smells 33 = .ok (.ifCond .ne 7, 3) := by decide +kernel
theorem dX12_smells_36 : decode cX12_smells 36 = .ok (.iconst 1, 1) := by decide +kernel
theorem dX12_smells_37 : decode cX12_smells 37 = .ok (.goto 4, 3) := by decide +kernel
theorem dX12_smells_40 : decode cX12_smells 40 = .ok (.iconst 0, 1) := by decide +kernel
theorem dX12_smells_41 : decode cX12_smells 41 = .ok (.iconst 2, 1) := by decide +kernel
theorem dX12_smells_42 : decode cX12_smells 42 = .ok (.iconst 1, 1) := by decide +kernel
theorem dX12_smells_43 : decode cX12_smells 43 = .ok (.invokevirtual 179, 3) := by decide +kernel
theorem dX12_smells_46 : decode cX12_smells 46 = .ok (.ifCond .eq 5, 3) := by decide +kernel
theorem dX12_smells_49 : decode cX12_smells 49 = .ok (.iconst 0, 1) := by decide +kernel
theorem dX12_smells_50 : decode cX12_smells 50 = .ok (.ireturn, 1) := by decide +kernel
theorem dX12_smells_51 : decode cX12_smells 51 = .ok (.aload_n 0, 1) := by decide +kernel
theorem dX12_smells_52 : decode cX12_smells 52 = .ok (.iload_n 1, 1) := by decide +kernel
theorem dX12_smells_53 : decode cX12_smells 53 = .ok (.iload_n 2, 1) := by decide +kernel
theorem dX12_smells_54 : decode cX12_smells 54 = .ok (.invokevirtual 345, 3) := by decide +kernel
theorem dX12_smells_57 : decode cX12_smells 57 = .ok (.ireturn, 1) := by decide +kernel
theorem dX12_isOpener_0 : decode cX12_isOpener 0 = .ok (.iconst 0, 1) := by decide +kernel
theorem dX12_isOpener_1 : decode cX12_isOpener 1 = .ok (.istore_n 2, 1) := by decide +kernel
theorem dX12_isOpener_2 : decode cX12_isOpener 2 = .ok (.iload_n 2, 1) := by decide +kernel
theorem dX12_isOpener_3 : decode cX12_isOpener 3 = .ok (.aload_n 0, 1) := by decide +kernel
theorem dX12_isOpener_4 : decode cX12_isOpener 4 = .ok (.getfield 199, 3) := by decide +kernel
theorem dX12_isOpener_7 : decode cX12_isOpener 7 = .ok (.if_icmp .ge 35, 3) := by decide +kernel
theorem dX12_isOpener_10 : decode cX12_isOpener 10 = .ok (.aload_n 0, 1) := by decide +kernel
theorem dX12_isOpener_11 : decode cX12_isOpener 11 = .ok (.aload_n 0, 1) := by decide +kernel
theorem dX12_isOpener_12 : decode cX12_isOpener 12 = .ok (.getfield 52, 3) := by decide +kernel
theorem dX12_isOpener_15 : decode cX12_isOpener 15 = .ok (.iload_n 2, 1) := by decide +kernel
theorem dX12_isOpener_16 : decode cX12_isOpener 16 = .ok (.aaload, 1) := by decide +kernel
theorem dX12_isOpener_17 : decode cX12_isOpener 17 = .ok (.iconst 0, 1) := by decide +kernel
theorem dX12_isOpener_18 : decode cX12_isOpener 18 = .ok (.iaload, 1) := by decide +kernel
theorem dX12_isOpener_19 : decode cX12_isOpener 19 = .ok (.iload_n 1, 1) := by decide +kernel
theorem dX12_isOpener_20 : decode cX12_isOpener 20 = .ok (.invokevirtual 345, 3) := by decide +kernel
theorem dX12_isOpener_23 : decode cX12_isOpener 23 = .ok (.aload_n 0, 1) := by decide +kernel
theorem dX12_isOpener_24 : decode cX12_isOpener 24 = .ok (.getfield 52, 3) := by decide +kernel
theorem dX12_isOpener_27 : decode cX12_isOpener 27 = .ok (.iload_n 2, 1) := by decide +kernel
theorem dX12_isOpener_28 : decode cX12_isOpener 28 = .ok (.aaload, 1) := by decide +kernel
theorem dX12_isOpener_29 : decode cX12_isOpener 29 = .ok (.iconst 1, 1) := by decide +kernel
theorem dX12_isOpener_30 : decode cX12_isOpener 30 = .ok (.iaload, 1) := by decide +kernel
theorem dX12_isOpener_31 : decode cX12_isOpener 31 = .ok (.if_icmp .eq 5, 3) := by decide +kernel
theorem dX12_isOpener_34 : decode cX12_isOpener 34 = .ok (.iconst 0, 1) := by decide +kernel
theorem dX12_isOpener_35 : decode cX12_isOpener 35 = .ok (.ireturn, 1) := by decide +kernel
theorem dX12_isOpener_36 : decode cX12_isOpener 36 = .ok (.iinc 2 1, 3) := by decide +kernel
theorem dX12_isOpener_39 : decode cX12_isOpener 39 = .ok (.goto (-37), 3) := by decide +kernel
theorem dX12_isOpener_42 : decode cX12_isOpener 42 = .ok (.iconst 1, 1) := by decide +kernel
theorem dX12_isOpener_43 : decode cX12_isOpener 43 = .ok (.ireturn, 1) := by decide +kernel
theorem dX12_openers_0 : decode cX12_openers 0 = .ok (.aload_n 0, 1) := by decide +kernel
theorem dX12_openers_1 : decode cX12_openers 1 = .ok (.iconst 0, 1) := by decide +kernel
theorem dX12_openers_2 : decode cX12_openers 2 = .ok (.putfield 103, 3) := by decide +kernel
theorem dX12_openers_5 : decode cX12_openers 5 = .ok (.aload_n 0, 1) := by decide +kernel
theorem dX12_openers_6 : decode cX12_openers 6 = .ok (.iload_n 1, 1) := by decide +kernel
theorem dX12_openers_7 : decode cX12_openers 7 = .ok (.iconst 0, 1) := by decide +kernel
theorem dX12_openers_8 : decode cX12_openers 8 = .ok (.iconst 3, 1) := by decide +kernel
theorem dX12_openers_9 : decode cX12_openers 9 = .ok (.invokestatic 137, 3) := by decide +kernel
theorem dX12_openers_12 : decode cX12_openers 12 = .ok (.ifCond .ne 7, 3) := by decide +kernel
theorem dX12_openers_15 : decode cX12_openers 15 = .ok (.iconst 1, 1) := by decide +kernel
theorem dX12_openers_16 : decode cX12_openers 16 = .ok (.goto 4, 3) := by decide +kernel
theorem dX12_openers_19 : decode cX12_openers 19 = .ok (.iconst 0, 1) := by decide +kernel
theorem dX12_openers_20 : decode cX12_openers 20 = .ok (.iconst 1, 1) := by decide +kernel
theorem dX12_openers_21 : decode cX12_openers 21 = .ok (.iconst 1, 1) := by decide +kernel
theorem dX12_openers_22 : decode cX12_openers 22 = .ok (.invokevirtual 179, 3) := by decide +kernel
theorem dX12_openers_25 : decode cX12_openers 25 = .ok (.ifCond .eq 5, 3) := by decide +kernel
theorem dX12_openers_28 : decode cX12_openers 28 = .ok (.iconst 0, 1) := by decide +kernel
theorem dX12_openers_29 : decode cX12_openers 29 = .ok (.ireturn, 1) := by decide +kernel
theorem dX12_openers_30 : decode cX12_openers 30 = .ok (.iconst 1, 1) := by decide +kernel
theorem dX12_openers_31 : decode cX12_openers 31 = .ok (.aload_n 0, 1) := by decide +kernel
theorem dX12_openers_32 : decode cX12_openers 32 = .ok (.getfield 23, 3) := by decide +kernel
theorem dX12_openers_35 : decode cX12_openers 35 = .ok (.iconst 0, 1) := by decide +kernel
theorem dX12_openers_36 : decode cX12_openers 36 = .ok (.iaload, 1) := by decide +kernel
theorem dX12_openers_37 : decode cX12_openers 37 = .ok (.ishl, 1) := by decide +kernel
theorem dX12_openers_38 : decode cX12_openers 38 = .ok (.iconst 1, 1) := by decide +kernel
theorem dX12_openers_39 : decode cX12_openers 39 = .ok (.isub, 1) := by decide +kernel
theorem dX12_openers_40 : decode cX12_openers 40 = .ok (.istore_n 2, 1) := by decide +kernel
theorem dX12_openers_41 : decode cX12_openers 41 = .ok (.iconst 0, 1) := by decide +kernel
theorem dX12_openers_42 : decode cX12_openers 42 = .ok (.istore_n 3, 1) := by decide +kernel
theorem dX12_openers_43 : decode cX12_openers 43 = .ok (.iconst (-1), 1) := by decide +kernel
theorem dX12_openers_44 : decode cX12_openers 44 = .ok (.istore 4, 2) := by decide +kernel
theorem dX12_openers_46 : decode cX12_openers 46 = .ok (.iload_n 2, 1) := by decide +kernel
theorem dX12_openers_47 : decode cX12_openers 47 = .ok (.istore 5, 2) := by decide +kernel
theorem dX12_openers_49 : decode cX12_openers 49 = .ok (.iload_n 2, 1) := by decide +kernel
theorem dX12_openers_50 : decode cX12_openers 50 = .ok (.istore 6, 2) := by decide +kernel
theorem dX12_openers_52 : decode cX12_openers 52 = .ok (.iconst 0, 1) := by decide +kernel
theorem dX12_openers_53 : decode cX12_openers 53 = .ok (.istore 7, 2) := by decide +kernel
theorem dX12_openers_55 : decode cX12_openers 55 = .ok (.iload 7, 2) := by decide +kernel
theorem dX12_openers_57 : decode cX12_openers 57 = .ok (.iload_n 2, 1) := by decide +kernel
theorem dX12_openers_58 : decode cX12_openers 58 = .ok (.if_icmp .gt 53, 3) := by decide +kernel
theorem dX12_openers_61 : decode cX12_openers 61 = .ok (.aload_n 0, 1) := by decide +kernel
theorem dX12_openers_62 : decode cX12_openers 62 = .ok (.iload 7, 2) := by decide +kernel
theorem dX12_openers_64 : decode cX12_openers 64 = .ok (.invokevirtual 348, 3) := by decide +kernel
theorem dX12_openers_67 : decode cX12_openers 67 = .ok (.ifCond .ne 6, 3) := by decide +kernel
theorem dX12_openers_70 : decode cX12_openers 70 = .ok (.goto 35, 3) := by decide +kernel
theorem dX12_openers_73 : decode cX12_openers 73 = .ok (.iload_n 3, 1) := by decide +kernel
theorem dX12_openers_74 : decode cX12_openers 74 = .ok (.ifCond .ne 8, 3) := by decide +kernel
theorem dX12_openers_77 : decode cX12_openers 77 = .ok (.iload 7, 2) := by decide +kernel
theorem dX12_openers_79 : decode cX12_openers 79 = .ok (.goto 5, 3) := by decide +kernel
theorem dX12_openers_82 : decode cX12_openers 82 = .ok (.iload 4, 2) := by decide +kernel
theorem dX12_openers_84 : decode cX12_openers 84 = .ok (.istore 4, 2) := by decide +kernel
theorem dX12_openers_86 : decode cX12_openers 86 = .ok (.iinc 3 1, 3) := by decide +kernel
theorem dX12_openers_89 : decode cX12_openers 89 = .ok (.iload 5, 2) := by decide +kernel
theorem dX12_openers_91 : decode cX12_openers 91 = .ok (.iload 7, 2) := by decide +kernel
theorem dX12_openers_93 : decode cX12_openers 93 = .ok (.iand, 1) := by decide +kernel
theorem dX12_openers_94 : decode cX12_openers 94 = .ok (.istore 5, 2) := by decide +kernel
theorem dX12_openers_96 : decode cX12_openers 96 = .ok (.iload 6, 2) := by decide +kernel
theorem dX12_openers_98 : decode cX12_openers 98 = .ok (.iload 7, 2) := by decide +kernel
theorem dX12_openers_100 : decode cX12_openers 100 = .ok (.iconst (-1), 1) := by decide +kernel
theorem dX12_openers_101 : decode cX12_openers 101 = .ok (.ixor, 1) := by decide +kernel
theorem dX12_openers_102 : decode cX12_openers 102 = .ok (.iand, 1) := by decide +kernel
theorem dX12_openers_103 : decode cX12_openers 103 = .ok (.istore 6, 2) := by decide +kernel
theorem dX12_openers_105 : decode cX12_openers 105 = .ok (.iinc 7 1, 3) := by decide +kernel
theorem dX12_openers_108 : decode cX12_openers 108 = .ok (.goto (-53), 3) := by decide +kernel
theorem dX12_openers_111 : decode cX12_openers 111 = .ok (.iload_n 1, 1) := by decide +kernel
theorem dX12_openers_112 : decode cX12_openers 112 = .ok (.ifCond .ne 7, 3) := by decide +kernel
theorem dX12_openers_115 : decode cX12_openers 115 = .ok (.iload_n 3, 1) := by decide +kernel
theorem dX12_openers_116 : decode cX12_openers 116 = .ok (.goto 33, 3) := by decide +kernel
theorem dX12_openers_119 : decode cX12_openers 119 = .ok (.iload_n 1, 1) := by decide +kernel
theorem dX12_openers_120 : decode cX12_openers 120 = .ok (.iconst 1, 1) := by decide +kernel
theorem dX12_openers_121 : decode cX12_openers 121 = .ok (.if_icmp .ne 8, 3) := by decide +kernel
theorem dX12_openers_124 : decode cX12_openers 124 = .ok (.iload 4, 2) := by decide +kernel
theorem dX12_openers_126 : decode cX12_openers 126 = .ok (.goto 23, 3) := by decide +kernel
theorem dX12_openers_129 : decode cX12_openers 129 = .ok (.iload_n 3, 1) := by decide +kernel
theorem dX12_openers_130 : decode cX12_openers 130 = .ok (.ifCond .ne 7, 3) := by decide +kernel
theorem dX12_openers_133 : decode cX12_openers 133 = .ok (.iconst 0, 1) := by decide +kernel
theorem dX12_openers_134 : decode cX12_openers 134 = .ok (.goto 15, 3) := by decide +kernel
theorem dX12_openers_137 : decode cX12_openers 137 = .ok (.iload_n 1, 1) := by decide +kernel
theorem dX12_openers_138 : decode cX12_openers 138 = .ok (.iconst 2, 1) := by decide +kernel
theorem dX12_openers_139 : decode cX12_openers 139 = .ok (.if_icmp .ne 8, 3) := by decide +kernel
theorem dX12_openers_142 : decode cX12_openers 142 = .ok (.iload 5, 2) := by decide +kernel
theorem dX12_openers_144 : decode cX12_openers 144 = .ok (.goto 5, 3) := by decide +kernel
theorem dX12_openers_147 : decode cX12_openers 147 = .ok (.iload 6, 2) := by decide +kernel
theorem dX12_openers_149 : decode cX12_openers 149 = .ok (.ireturn, 1) := by decide +kernel
theorem dX12_nose_0 : decode cX12_nose 0 = .ok (.aload_n 0, 1) := by decide +kernel
theorem dX12_nose_1 : decode cX12_nose 1 = .ok (.iconst 0, 1) := by decide +kernel
theorem dX12_nose_2 : decode cX12_nose 2 = .ok (.putfield 103, 3) := by decide +kernel
theorem dX12_nose_5 : decode cX12_nose 5 = .ok (.aload_n 0, 1) := by decide +kernel
theorem dX12_nose_6 : decode cX12_nose 6 = .ok (.iload_n 1, 1) := by decide +kernel
theorem dX12_nose_7 : decode cX12_nose 7 = .ok (.iconst 0, 1) := by decide +kernel
theorem dX12_nose_8 : decode cX12_nose 8 = .ok (.iconst 1, 1) := by decide +kernel
theorem dX12_nose_9 : decode cX12_nose 9 = .ok (.invokestatic 137, 3) := by decide +kernel
theorem dX12_nose_12 : decode cX12_nose 12 = .ok (.ifCond .ne 7, 3) := by decide +kernel
theorem dX12_nose_15 : decode cX12_nose 15 = .ok (.iconst 1, 1) := by decide +kernel
theorem dX12_nose_16 : decode cX12_nose 16 = .ok (.goto 4, 3) := by decide +kernel
theorem dX12_nose_19 : decode cX12_nose 19 = .ok (.iconst 0, 1) := by decide +kernel
theorem dX12_nose_20 : decode cX12_nose 20 = .ok (.iconst 1, 1) := by decide +kernel
theorem dX12_nose_21 : decode cX12_nose 21 = .ok (.iconst 1, 1) := by decide +kernel
theorem dX12_nose_22 : decode cX12_nose 22 = .ok (.invokevirtual 179, 3) := by decide +kernel
theorem dX12_nose_25 : decode cX12_nose 25 = .ok (.ifCond .eq 5, 3) := by decide +kernel
theorem dX12_nose_28 : decode cX12_nose 28 = .ok (.iconst 0, 1) := by decide +kernel
theorem dX12_nose_29 : decode cX12_nose 29 = .ok (.ireturn, 1) := by decide +kernel
theorem dX12_nose_30 : decode cX12_nose 30 = .ok (.iconst 0, 1) := by decide +kernel
theorem dX12_nose_31 : decode cX12_nose 31 = .ok (.istore_n 2, 1) := by decide +kernel
theorem dX12_nose_32 : decode cX12_nose 32 = .ok (.iload_n 2, 1) := by decide +kernel
theorem dX12_nose_33 : decode cX12_nose 33 = .ok (.bipush 16, 2) := by decide +kernel
theorem dX12_nose_35 : decode cX12_nose 35 = .ok (.if_icmp .ge 32, 3) := by decide +kernel
theorem dX12_nose_38 : decode cX12_nose 38 = .ok (.iconst 0, 1) := by decide +kernel
theorem dX12_nose_39 : decode cX12_nose 39 = .ok (.istore_n 3, 1) := by decide +kernel
theorem dX12_nose_40 : decode cX12_nose 40 = .ok (.iload_n 3, 1) := by decide +kernel
theorem dX12_nose_41 : decode cX12_nose 41 = .ok (.bipush 16, 2) := by decide +kernel
theorem dX12_nose_43 : decode cX12_nose 43 = .ok (.if_icmp .ge 18, 3) := by decide +kernel
theorem dX12_nose_46 : decode cX12_nose 46 = .ok (.aload_n 0, 1) := by decide +kernel
theorem dX12_nose_47 : decode cX12_nose 47 = .ok (.getfield 85, 3) := by decide +kernel
theorem dX12_nose_50 : decode cX12_nose 50 = .ok (.iload_n 2, 1) := by decide +kernel
theorem dX12_nose_51 : decode cX12_nose 51 = .ok (.aaload, 1) := by decide +kernel
theorem dX12_nose_52 : decode cX12_nose 52 = .ok (.iload_n 3, 1) := by decide +kernel
theorem dX12_nose_53 : decode cX12_nose 53 = .ok (.iconst 0, 1) := by decide +kernel
theorem dX12_nose_54 : decode cX12_nose 54 = .ok (.iastore, 1) := by decide +kernel
theorem dX12_nose_55 : decode cX12_nose 55 = .ok (.iinc 3 1, 3) := by decide +kernel
theorem dX12_nose_58 : decode cX12_nose 58 = .ok (.goto (-18), 3) := by decide +kernel
theorem dX12_nose_61 : decode cX12_nose 61 = .ok (.iinc 2 1, 3) := by decide +kernel
theorem dX12_nose_64 : decode cX12_nose 64 = .ok (.goto (-32), 3) := by decide +kernel
theorem dX12_nose_67 : decode cX12_nose 67 = .ok (.iconst 0, 1) := by decide +kernel
theorem dX12_nose_68 : decode cX12_nose 68 = .ok (.istore_n 2, 1) := by decide +kernel
theorem dX12_nose_69 : decode cX12_nose 69 = .ok (.iload_n 2, 1) := by decide +kernel
theorem dX12_nose_70 : decode cX12_nose 70 = .ok (.iconst 1, 1) := by decide +kernel
theorem dX12_nose_71 : decode cX12_nose 71 = .ok (.aload_n 0, 1) := by decide +kernel
theorem dX12_nose_72 : decode cX12_nose 72 = .ok (.getfield 23, 3) := by decide +kernel
theorem dX12_nose_75 : decode cX12_nose 75 = .ok (.iconst 0, 1) := by decide +kernel
theorem dX12_nose_76 : decode cX12_nose 76 = .ok (.iaload, 1) := by decide +kernel
theorem dX12_nose_77 : decode cX12_nose 77 = .ok (.ishl, 1) := by decide +kernel
theorem dX12_nose_78 : decode cX12_nose 78 = .ok (.if_icmp .ge 55, 3) := by decide +kernel
theorem dX12_nose_81 : decode cX12_nose 81 = .ok (.aload_n 0, 1) := by decide +kernel
theorem dX12_nose_82 : decode cX12_nose 82 = .ok (.iload_n 2, 1) := by decide +kernel
theorem dX12_nose_83 : decode cX12_nose 83 = .ok (.invokevirtual 348, 3) := by decide +kernel
theorem dX12_nose_86 : decode cX12_nose 86 = .ok (.ifCond .ne 6, 3) := by decide +kernel
theorem dX12_nose_89 : decode cX12_nose 89 = .ok (.goto 38, 3) := by decide +kernel
theorem dX12_nose_92 : decode cX12_nose 92 = .ok (.iconst 0, 1) := by decide +kernel
theorem dX12_nose_93 : decode cX12_nose 93 = .ok (.istore_n 3, 1) := by decide +kernel
theorem dX12_nose_94 : decode cX12_nose 94 = .ok (.iload_n 3, 1) := by decide +kernel
theorem dX12_nose_95 : decode cX12_nose 95 = .ok (.aload_n 0, 1) := by decide +kernel
theorem dX12_nose_96 : decode cX12_nose 96 = .ok (.getfield 23, 3) := by decide +kernel
theorem dX12_nose_99 : decode cX12_nose 99 = .ok (.iconst 0, 1) := by decide +kernel
theorem dX12_nose_100 : decode cX12_nose 100 = .ok (.iaload, 1) := by decide +kernel
theorem dX12_nose_101 : decode cX12_nose 101 = .ok (.if_icmp .ge 26, 3) := by decide +kernel
theorem dX12_nose_104 : decode cX12_nose 104 = .ok (.aload_n 0, 1) := by decide +kernel
theorem dX12_nose_105 : decode cX12_nose 105 = .ok (.getfield 85, 3) := by decide +kernel
theorem dX12_nose_108 : decode cX12_nose 108 = .ok (.iload_n 3, 1) := by decide +kernel
theorem dX12_nose_109 : decode cX12_nose 109 = .ok (.aaload, 1) := by decide +kernel
theorem dX12_nose_110 : decode cX12_nose 110 = .ok (.aload_n 0, 1) := by decide +kernel
theorem dX12_nose_111 : decode cX12_nose 111 = .ok (.iload_n 3, 1) := by decide +kernel
theorem dX12_nose_112 : decode cX12_nose 112 = .ok (.iload_n 2, 1) := by decide +kernel
theorem dX12_nose_113 : decode cX12_nose 113 = .ok (.invokevirtual 345, 3) := by decide +kernel
theorem dX12_nose_116 : decode cX12_nose 116 = .ok (.dup2, 1) := by decide +kernel
theorem dX12_nose_117 : decode cX12_nose 117 = .ok (.iaload, 1) := by decide +kernel
theorem dX12_nose_118 : decode cX12_nose 118 = .ok (.iconst 1, 1) := by decide +kernel
theorem dX12_nose_119 : decode cX12_nose 119 = .ok (.iadd, 1) := by decide +kernel
theorem dX12_nose_120 : decode cX12_nose 120 = .ok (.iastore, 1) := by decide +kernel
theorem dX12_nose_121 : decode cX12_nose 121 = .ok (.iinc 3 1, 3) := by decide +kernel
theorem dX12_nose_124 : decode cX12_nose 124 = .ok (.goto (-30), 3) := by decide +kernel
theorem dX12_nose_127 : decode cX12_nose 127 = .ok (.iinc 2 1, 3) := by decide +kernel
theorem dX12_nose_130 : decode cX12_nose 130 = .ok (.goto (-61), 3) := by decide +kernel
theorem dX12_nose_133 : decode cX12_nose 133 = .ok (.iconst (-1), 1) := by decide +kernel
theorem dX12_nose_134 : decode cX12_nose 134 = .ok (.istore_n 2, 1) := by decide +kernel
theorem dX12_nose_135 : decode cX12_nose 135 = .ok (.iconst (-1), 1) := by decide +kernel
theorem dX12_nose_136 : decode cX12_nose 136 = .ok (.istore_n 3, 1) := by decide +kernel
theorem dX12_nose_137 : decode cX12_nose 137 = .ok (.iconst 0, 1) := by decide +kernel
theorem dX12_nose_138 : decode cX12_nose 138 = .ok (.istore 4, 2) := by decide +kernel
theorem dX12_nose_140 : decode cX12_nose 140 = .ok (.iload 4, 2) := by decide +kernel
theorem dX12_nose_142 : decode cX12_nose 142 = .ok (.aload_n 0, 1) := by decide +kernel
theorem dX12_nose_143 : decode cX12_nose 143 = .ok (.getfield 23, 3) := by decide +kernel
theorem dX12_nose_146 : decode cX12_nose 146 = .ok (.iconst 0, 1) := by decide +kernel
theorem dX12_nose_147 : decode cX12_nose 147 = .ok (.iaload, 1) := by decide +kernel
theorem dX12_nose_148 : decode cX12_nose 148 = .ok (.if_icmp .ge 117, 3) := by decide +kernel
theorem dX12_nose_151 : decode cX12_nose 151 = .ok (.iconst 0, 1) := by decide +kernel
theorem dX12_nose_152 : decode cX12_nose 152 = .ok (.istore 5, 2) := by decide +kernel
theorem dX12_nose_154 : decode cX12_nose 154 = .ok (.iconst 0, 1) := by decide +kernel
theorem dX12_nose_155 : decode cX12_nose 155 = .ok (.istore 6, 2) := by decide +kernel
theorem dX12_nose_157 : decode cX12_nose 157 = .ok (.iconst 0, 1) := by decide +kernel
theorem dX12_nose_158 : decode cX12_nose 158 = .ok (.istore 7, 2) := by decide +kernel
theorem dX12_nose_160 : decode cX12_nose 160 = .ok (.iload 7, 2) := by decide +kernel
theorem dX12_nose_162 : decode cX12_nose 162 = .ok (.aload_n 0, 1) := by decide +kernel
theorem dX12_nose_163 : decode cX12_nose 163 = .ok (.getfield 199, 3) := by decide +kernel
theorem dX12_nose_166 : decode cX12_nose 166 = .ok (.if_icmp .ge 35, 3) := by decide +kernel
theorem dX12_nose_169 : decode cX12_nose 169 = .ok (.iload 6, 2) := by decide +kernel
theorem dX12_nose_171 : decode cX12_nose 171 = .ok (.ifCond .ne 17, 3) := by decide +kernel
theorem dX12_nose_174 : decode cX12_nose 174 = .ok (.aload_n 0, 1) := by decide +kernel
theorem dX12_nose_175 : decode cX12_nose 175 = .ok (.getfield 52, 3) := by decide +kernel
theorem dX12_nose_178 : decode cX12_nose 178 = .ok (.iload 7, 2) := by decide +kernel
theorem dX12_nose_180 : decode cX12_nose 180 = .ok (.aaload, 1) := by decide +kernel
theorem dX12_nose_181 : decode cX12_nose 181 = .ok (.iconst 0, 1) := by decide +kernel
theorem dX12_nose_182 : decode cX12_nose 182 = .ok (.iaload, 1) := by decide +kernel
theorem dX12_nose_183 : decode cX12_nose 183 = .ok (.iload 4, 2) := by decide +kernel
theorem dX12_nose_185 : decode cX12_nose 185 = .ok (.if_icmp .ne 7, 3) := by decide +kernel
theorem dX12_nose_188 : decode cX12_nose 188 = .ok (.iconst 1, 1) := by decide +kernel
theorem dX12_nose_189 : decode cX12_nose 189 = .ok (.goto 4, 3) := by decide +kernel
theorem dX12_nose_192 : decode cX12_nose 192 = .ok (.iconst 0, 1) := by decide +kernel
theorem dX12_nose_193 : decode cX12_nose 193 = .ok (.istore 6, 2) := by decide +kernel
theorem dX12_nose_195 : decode cX12_nose 195 = .ok (.iinc 7 1, 3) := by decide +kernel
theorem dX12_nose_198 : decode cX12_nose 198 = .ok (.goto (-38), 3) := by decide +kernel
theorem dX12_nose_201 : decode cX12_nose 201 = .ok (.iconst 0, 1) := by decide +kernel
theorem dX12_nose_202 : decode cX12_nose 202 = .ok (.istore 7, 2) := by decide +kernel
theorem dX12_nose_204 : decode cX12_nose 204 = .ok (.iload 7, 2) := by decide +kernel
theorem dX12_nose_206 : decode cX12_nose 206 = .ok (.bipush 16, 2) := by decide +kernel
theorem dX12_nose_208 : decode cX12_nose 208 = .ok (.if_icmp .ge 26, 3) := by decide +kernel
theorem dX12_nose_211 : decode cX12_nose 211 = .ok (.iload 5, 2) := by decide +kernel
theorem dX12_nose_213 : decode cX12_nose 213 = .ok (.aload_n 0, 1) := by decide +kernel
theorem dX12_nose_214 : decode cX12_nose 214 = .ok (.getfield 85, 3) := by decide +kernel
theorem dX12_nose_217 : decode cX12_nose 217 = .ok (.iload 4, 2) := by decide +kernel
theorem dX12_nose_219 : decode cX12_nose 219 = .ok (.aaload, 1) := by decide +kernel
theorem dX12_nose_220 : decode cX12_nose 220 = .ok (.iload 7, 2) := by decide +kernel
theorem dX12_nose_222 : decode cX12_nose 222 = .ok (.iaload, 1) := by decide +kernel
theorem dX12_nose_223 : decode cX12_nose 223 = .ok (.invokestatic 242, 3) := by decide +kernel
theorem dX12_nose_226 : decode cX12_nose 226 = .ok (.istore 5, 2) := by decide +kernel
theorem dX12_nose_228 : decode cX12_nose 228 = .ok (.iinc 7 1, 3) := by decide +kernel
theorem dX12_nose_231 : decode cX12_nose 231 = .ok (.goto (-27), 3) := by decide +kernel
theorem dX12_nose_234 : decode cX12_nose 234 = .ok (.iload 6, 2) := by decide +kernel
theorem dX12_nose_236 : decode cX12_nose 236 = .ok (.ifCond .ne 23, 3) := by decide +kernel
theorem dX12_nose_239 : decode cX12_nose 239 = .ok (.iload_n 2, 1) := by decide +kernel
theorem dX12_nose_240 : decode cX12_nose 240 = .ok (.iconst (-1), 1) := by decide +kernel
theorem dX12_nose_241 : decode cX12_nose 241 = .ok (.if_icmp .eq 12, 3) := by decide +kernel
theorem dX12_nose_244 : decode cX12_nose 244 = .ok (.iload 5, 2) := by decide +kernel
theorem dX12_nose_246 : decode cX12_nose 246 = .ok (.iload_n 3, 1) := by decide +kernel
theorem dX12_nose_247 : decode cX12_nose 247 = .ok (.if_icmp .lt 6, 3) := by decide +kernel
theorem dX12_nose_250 : decode cX12_nose 250 = .ok (.goto 9, 3) := by decide +kernel
theorem dX12_nose_253 : decode cX12_nose 253 = .ok (.iload 4, 2) := by decide +kernel
theorem dX12_nose_255 : decode cX12_nose 255 = .ok (.istore_n 2, 1) := by decide +kernel
theorem dX12_nose_256 : decode cX12_nose 256 = .ok (.iload 5, 2) := by decide +kernel
theorem dX12_nose_258 : decode cX12_nose 258 = .ok (.istore_n 3, 1) := by decide +kernel
theorem dX12_nose_259 : decode cX12_nose 259 = .ok (.iinc 4 1, 3) := by decide +kernel
theorem dX12_nose_262 : decode cX12_nose 262 = .ok (.goto (-122), 3) := by decide +kernel
theorem dX12_nose_265 : decode cX12_nose 265 = .ok (.iload_n 1, 1) := by decide +kernel
theorem dX12_nose_266 : decode cX12_nose 266 = .ok (.ifCond .ne 7, 3) := by decide +kernel
theorem dX12_nose_269 : decode cX12_nose 269 = .ok (.iload_n 2, 1) := by decide +kernel
theorem dX12_nose_270 : decode cX12_nose 270 = .ok (.goto 4, 3) := by decide +kernel
theorem dX12_nose_273 : decode cX12_nose 273 = .ok (.iload_n 3, 1) := by decide +kernel
theorem dX12_nose_274 : decode cX12_nose 274 = .ok (.ireturn, 1) := by decide +kernel
theorem dX12_isRest_0 : decode cX12_isRest 0 = .ok (.iconst 0, 1) := by decide +kernel
theorem dX12_isRest_1 : decode cX12_isRest 1 = .ok (.istore_n 1, 1) := by decide +kernel
theorem dX12_isRest_2 : decode cX12_isRest 2 = .ok (.iload_n 1, 1) := by decide +kernel
theorem dX12_isRest_3 : decode cX12_isRest 3 = .ok (.aload_n 0, 1) := by decide +kernel
theorem dX12_isRest_4 : decode cX12_isRest 4 = .ok (.getfield 23, 3) := by decide +kernel
theorem dX12_isRest_7 : decode cX12_isRest 7 = .ok (.iconst 0, 1) := by decide +kernel
theorem dX12_isRest_8 : decode cX12_isRest 8 = .ok (.iaload, 1) := by decide +kernel
theorem dX12_isRest_9 : decode cX12_isRest 9 = .ok (.if_icmp .ge 83, 3) := by decide +kernel
theorem dX12_isRest_12 : decode cX12_isRest 12 = .ok (.aload_n 0, 1) := by decide +kernel
theorem dX12_isRest_13 : decode cX12_isRest 13 = .ok (.getfield 88, 3) := by decide +kernel
theorem dX12_isRest_16 : decode cX12_isRest 16 = .ok (.iload_n 1, 1) := by decide +kernel
theorem dX12_isRest_17 : decode cX12_isRest 17 = .ok (.iaload, 1) := by decide +kernel
theorem dX12_isRest_18 : decode cX12_isRest 18 = .ok (.ifCond .ne 6, 3) := by decide +kernel
theorem dX12_isRest_21 : decode cX12_isRest 21 = .ok (.goto 65, 3) := by decide +kernel
theorem dX12_isRest_24 : decode cX12_isRest 24 = .ok (.aload_n 0, 1) := by decide +kernel
theorem dX12_isRest_25 : decode cX12_isRest 25 = .ok (.getfield 31, 3) := by decide +kernel
theorem dX12_isRest_28 : decode cX12_isRest 28 = .ok (.iload_n 1, 1) := by decide +kernel
theorem dX12_isRest_29 : decode cX12_isRest 29 = .ok (.aaload, 1) := by decide +kernel
theorem dX12_isRest_30 : decode cX12_isRest 30 = .ok (.iconst 3, 1) := by decide +kernel
theorem dX12_isRest_31 : decode cX12_isRest 31 = .ok (.iaload, 1) := by decide +kernel
theorem dX12_isRest_32 : decode cX12_isRest 32 = .ok (.aload_n 0, 1) := by decide +kernel
theorem dX12_isRest_33 : decode cX12_isRest 33 = .ok (.getfield 88, 3) := by decide +kernel
theorem dX12_isRest_36 : decode cX12_isRest 36 = .ok (.iload_n 1, 1) := by decide +kernel
theorem dX12_isRest_37 : decode cX12_isRest 37 = .ok (.iaload, 1) := by decide +kernel
theorem dX12_isRest_38 : decode cX12_isRest 38 = .ok (.idiv, 1) := by decide +kernel
theorem dX12_isRest_39 : decode cX12_isRest 39 = .ok (.istore_n 2, 1) := by decide +kernel
theorem dX12_isRest_40 : decode cX12_isRest 40 = .ok (.iconst 0, 1) := by decide +kernel
theorem dX12_isRest_41 : decode cX12_isRest 41 = .ok (.istore_n 3, 1) := by decide +kernel
theorem dX12_isRest_42 : decode cX12_isRest 42 = .ok (.iload_n 3, 1) := by decide +kernel
theorem dX12_isRest_43 : decode cX12_isRest 43 = .ok (.aload_n 0, 1) := by decide +kernel
theorem dX12_isRest_44 : decode cX12_isRest 44 = .ok (.getfield 23, 3) := by decide +kernel
theorem dX12_isRest_47 : decode cX12_isRest 47 = .ok (.iconst 0, 1) := by decide +kernel
theorem dX12_isRest_48 : decode cX12_isRest 48 = .ok (.iaload, 1) := by decide +kernel
theorem dX12_isRest_49 : decode cX12_isRest 49 = .ok (.if_icmp .ge 37, 3) := by decide +kernel
theorem dX12_isRest_52 : decode cX12_isRest 52 = .ok (.iload_n 3, 1) := by decide +kernel
theorem dX12_isRest_53 : decode cX12_isRest 53 = .ok (.iload_n 1, 1) := by decide +kernel
theorem dX12_isRest_54 : decode cX12_isRest 54 = .ok (.if_icmp .eq 26, 3) := by decide +kernel
theorem dX12_isRest_57 : decode cX12_isRest 57 = .ok (.aload_n 0, 1) := by decide +kernel
theorem dX12_isRest_58 : decode cX12_isRest 58 = .ok (.getfield 31, 3) := by decide +kernel
theorem dX12_isRest_61 : decode cX12_isRest 61 = .ok (.iload_n 3, 1) := by decide +kernel
theorem dX12_isRest_62 : decode cX12_isRest 62 = .ok (.aaload, 1) := by decide +kernel
theorem dX12_isRest_63 : decode cX12_isRest 63 = .ok (.iconst 3, 1) := by decide +kernel
theorem dX12_isRest_64 : decode cX12_isRest 64 = .ok (.iaload, 1) := by decide +kernel
theorem dX12_isRest_65 : decode cX12_isRest 65 = .ok (.aload_n 0, 1) := by decide +kernel
theorem dX12_isRest_66 : decode cX12_isRest 66 = .ok (.getfield 88, 3) := by decide +kernel
theorem dX12_isRest_69 : decode cX12_isRest 69 = .ok (.iload_n 3, 1) := by decide +kernel
theorem dX12_isRest_70 : decode cX12_isRest 70 = .ok (.iaload, 1) := by decide +kernel
theorem dX12_isRest_71 : decode cX12_isRest 71 = .ok (.iconst 1, 1) := by decide +kernel
theorem dX12_isRest_72 : decode cX12_isRest 72 = .ok (.iadd, 1) := by decide +kernel
theorem dX12_isRest_73 : decode cX12_isRest 73 = .ok (.idiv, 1) := by decide +kernel
theorem dX12_isRest_74 : decode cX12_isRest 74 = .ok (.iload_n 2, 1) := by decide +kernel
theorem dX12_isRest_75 : decode cX12_isRest 75 = .ok (.if_icmp .le 5, 3) := by decide +kernel
theorem dX12_isRest_78 : decode cX12_isRest 78 = .ok (.iconst 0, 1) := by decide +kernel
theorem dX12_isRest_79 : decode cX12_isRest 79 = .ok (.ireturn, 1) := by decide +kernel
theorem dX12_isRest_80 : decode cX12_isRest 80 = .ok (.iinc 3 1, 3) := by decide +kernel
theorem dX12_isRest_83 : decode cX12_isRest 83 = .ok (.goto (-41), 3) := by decide +kernel
theorem dX12_isRest_86 : decode cX12_isRest 86 = .ok (.iinc 1 1, 3) := by decide +kernel
theorem dX12_isRest_89 : decode cX12_isRest 89 = .ok (.goto (-87), 3) := by decide +kernel
theorem dX12_isRest_92 : decode cX12_isRest 92 = .ok (.iconst 1, 1) := by decide +kernel
theorem dX12_isRest_93 : decode cX12_isRest 93 = .ok (.ireturn, 1) := by decide +kernel
theorem dX12_angles_0 : decode cX12_angles 0 = .ok (.iload_n 1, 1) := by decide +kernel
theorem dX12_angles_1 : decode cX12_angles 1 = .ok (.aload_n 0, 1) := by decide +kernel
theorem dX12_angles_2 : decode cX12_angles 2 = .ok (.getfield 23, 3) := by decide +kernel
theorem dX12_angles_5 : decode cX12_angles 5 = .ok (.iconst 0, 1) := by decide +kernel
theorem dX12_angles_6 : decode cX12_angles 6 = .ok (.iaload, 1) := by decide +kernel
theorem dX12_angles_7 : decode cX12_angles 7 = .ok (.if_icmp .ne 59, 3) := by decide +kernel
theorem dX12_angles_10 : decode cX12_angles 10 = .ok (.iload_n 2, 1) := by decide +kernel
theorem dX12_angles_11 : decode cX12_angles 11 = .ok (.ifCond .gt 10, 3) := by decide +kernel
theorem dX12_angles_14 : decode cX12_angles 14 = .ok (.aload_n 0, 1) := by decide +kernel
theorem dX12_angles_15 : decode cX12_angles 15 = .ok (.invokevirtual 351, 3) := by decide +kernel
theorem dX12_angles_18 : decode cX12_angles 18 = .ok (.ifCond .ne 4, 3) := by decide +kernel
theorem dX12_angles_21 : decode cX12_angles 21 = .ok (.return_, 1) := by decide +kernel
theorem dX12_angles_22 : decode cX12_angles 22 = .ok (.iconst 0, 1) := by decide +kernel
theorem dX12_angles_23 : decode cX12_angles 23 = .ok (.istore_n 3, 1) := by decide +kernel
theorem dX12_angles_24 : decode cX12_angles 24 = .ok (.iload_n 3, 1) := by decide +kernel
theorem dX12_angles_25 : decode cX12_angles 25 = .ok (.bipush 16, 2) := by decide +kernel
theorem dX12_angles_27 : decode cX12_angles 27 = .ok (.if_icmp .ge 28, 3) := by decide +kernel
theorem dX12_angles_30 : decode cX12_angles 30 = .ok (.aload_n 0, 1) := by decide +kernel
theorem dX12_angles_31 : decode cX12_angles 31 = .ok (.getfield 354, 3) := by decide +kernel
theorem dX12_angles_34 : decode cX12_angles 34 = .ok (.ifCond .ne 21, 3) := by decide +kernel
theorem dX12_angles_37 : decode cX12_angles 37 = .ok (.aload_n 0, 1) := by decide +kernel
theorem dX12_angles_38 : decode cX12_angles 38 = .ok (.getfield 91, 3) := by decide +kernel
theorem dX12_angles_41 : decode cX12_angles 41 = .ok (.iload_n 3, 1) := by decide +kernel
theorem dX12_angles_42 : decode cX12_angles 42 = .ok (.aload_n 0, 1) := by decide +kernel
theorem dX12_angles_43 : decode cX12_angles 43 = .ok (.getfield 88, 3) := by decide +kernel
theorem dX12_angles_46 : decode cX12_angles 46 = .ok (.iload_n 3, 1) := by decide +kernel
theorem dX12_angles_47 : decode cX12_angles 47 = .ok (.iaload, 1) := by decide +kernel
theorem dX12_angles_48 : decode cX12_angles 48 = .ok (.iastore, 1) := by decide +kernel
theorem dX12_angles_49 : decode cX12_angles 49 = .ok (.iinc 3 1, 3) := by decide +kernel
theorem dX12_angles_52 : decode cX12_angles 52 = .ok (.goto (-28), 3) := by decide +kernel
theorem dX12_angles_55 : decode cX12_angles 55 = .ok (.aload_n 0, 1) := by decide +kernel
theorem dX12_angles_56 : decode cX12_angles 56 = .ok (.dup, 1) := by decide +kernel
theorem dX12_angles_57 : decode cX12_angles 57 = .ok (.getfield 354, 3) := by decide +kernel
theorem dX12_angles_60 : decode cX12_angles 60 = .ok (.iconst 1, 1) := by decide +kernel
theorem dX12_angles_61 : decode cX12_angles 61 = .ok (.iadd, 1) := by decide +kernel
theorem dX12_angles_62 : decode cX12_angles 62 = .ok (.putfield 354, 3) := by decide +kernel
theorem dX12_angles_65 : decode cX12_angles 65 = .ok (.return_, 1) := by decide +kernel
theorem dX12_angles_66 : decode cX12_angles 66 = .ok (.iconst 0, 1) := by decide +kernel
theorem dX12_angles_67 : decode cX12_angles 67 = .ok (.istore_n 3, 1) := by decide +kernel
theorem dX12_angles_68 : decode cX12_angles 68 = .ok (.iload_n 3, 1) := by decide +kernel
theorem dX12_angles_69 : decode cX12_angles 69 = .ok (.iload_n 2, 1) := by decide +kernel
theorem dX12_angles_70 : decode cX12_angles 70 = .ok (.if_icmp .gt 26, 3) := by decide +kernel
theorem dX12_angles_73 : decode cX12_angles 73 = .ok (.aload_n 0, 1) := by decide +kernel
theorem dX12_angles_74 : decode cX12_angles 74 = .ok (.getfield 88, 3) := by decide +kernel
theorem dX12_angles_77 : decode cX12_angles 77 = .ok (.iload_n 1, 1) := by decide +kernel
theorem dX12_angles_78 : decode cX12_angles 78 = .ok (.iload_n 3, 1) := by decide +kernel
theorem dX12_angles_79 : decode cX12_angles 79 = .ok (.iastore, 1) := by decide +kernel
theorem dX12_angles_80 : decode cX12_angles 80 = .ok (.aload_n 0, 1) := by decide +kernel
theorem dX12_angles_81 : decode cX12_angles 81 = .ok (.iload_n 1, 1) := by decide +kernel
theorem dX12_angles_82 : decode cX12_angles 82 = .ok (.iconst 1, 1) := by decide +kernel
theorem dX12_angles_83 : decode cX12_angles 83 = .ok (.iadd, 1) := by decide +kernel
theorem dX12_angles_84 : decode cX12_angles 84 = .ok (.iload_n 2, 1) := by decide +kernel
theorem dX12_angles_85 : decode cX12_angles 85 = .ok (.iload_n 3, 1) := by decide +kernel
theorem dX12_angles_86 : decode cX12_angles 86 = .ok (.isub, 1) := by decide +kernel
theorem dX12_angles_87 : decode cX12_angles 87 = .ok (.invokevirtual 357, 3) := by decide +kernel
theorem dX12_angles_90 : decode cX12_angles 90 = .ok (.iinc 3 1, 3) := by decide +kernel
theorem dX12_angles_93 : decode cX12_angles 93 = .ok (.goto (-25), 3) := by decide +kernel
theorem dX12_angles_96 : decode cX12_angles 96 = .ok (.aload_n 0, 1) := by decide +kernel
theorem dX12_angles_97 : decode cX12_angles 97 = .ok (.getfield 88, 3) := by decide +kernel
theorem dX12_angles_100 : decode cX12_angles 100 = .ok (.iload_n 1, 1) := by decide +kernel
theorem dX12_angles_101 : decode cX12_angles 101 = .ok (.iconst 0, 1) := by decide +kernel
theorem dX12_angles_102 : decode cX12_angles 102 = .ok (.iastore, 1) := by decide +kernel
theorem dX12_angles_103 : decode cX12_angles 103 = .ok (.return_, 1) := by decide +kernel
theorem dX12_laysAnglers_0 : decode cX12_laysAnglers 0 = .ok (.aload_n 0, 1) := by decide +kernel
theorem dX12_laysAnglers_1 : decode cX12_laysAnglers 1 = .ok (.iconst 0, 1) := by decide +kernel
theorem dX12_laysAnglers_2 : decode cX12_laysAnglers 2 = .ok (.putfield 354, 3) := by decide +kernel
theorem dX12_laysAnglers_5 : decode cX12_laysAnglers 5 = .ok (.iconst 0, 1) := by decide +kernel
theorem dX12_laysAnglers_6 : decode cX12_laysAnglers 6 = .ok (.istore_n 2, 1) := by decide +kernel
theorem dX12_laysAnglers_7 : decode cX12_laysAnglers 7 = .ok (.iload_n 2, 1) := by decide +kernel
theorem dX12_laysAnglers_8 : decode cX12_laysAnglers 8 = .ok (.bipush 16, 2) := by decide +kernel
theorem dX12_laysAnglers_10 : decode cX12_laysAnglers 10 = .ok (.if_icmp .ge 23, 3) := by decide +kernel
theorem dX12_laysAnglers_13 : decode cX12_laysAnglers 13 = .ok (.aload_n 0, 1) := by decide +kernel
theorem dX12_laysAnglers_14 : decode cX12_laysAnglers 14 = .ok (.getfield 88, 3) := by decide +kernel
theorem dX12_laysAnglers_17 : decode cX12_laysAnglers 17 = .ok (.iload_n 2, 1) := by decide +kernel
theorem dX12_laysAnglers_18 : decode cX12_laysAnglers 18 = .ok (.iconst 0, 1) := by decide +kernel
theorem dX12_laysAnglers_19 : decode cX12_laysAnglers 19 = .ok (.iastore, 1) := by decide +kernel
theorem dX12_laysAnglers_20 : decode cX12_laysAnglers 20 = .ok (.aload_n 0, 1) := by decide +kernel
theorem dX12_laysAnglers_21 : decode cX12_laysAnglers 21 = .ok (.getfield 91, 3) := by decide +kernel
theorem dX12_laysAnglers_24 : decode cX12_laysAnglers 24 = .ok (.iload_n 2, 1) := by decide +kernel
theorem dX12_laysAnglers_25 : decode cX12_laysAnglers 25 = .ok (.iconst 0, 1) := by decide +kernel
theorem dX12_laysAnglers_26 : decode cX12_laysAnglers 26 = .ok (.iastore, 1) := by decide +kernel
theorem dX12_laysAnglers_27 : decode cX12_laysAnglers 27 = .ok (.iinc 2 1, 3) := by decide +kernel
theorem dX12_laysAnglers_30 : decode cX12_laysAnglers 30 = .ok (.goto (-23), 3) := by decide +kernel
theorem dX12_laysAnglers_33 : decode cX12_laysAnglers 33 = .ok (.aload_n 0, 1) := by decide +kernel
theorem dX12_laysAnglers_34 : decode cX12_laysAnglers 34 = .ok (.iconst 0, 1) := by decide +kernel
theorem dX12_laysAnglers_35 : decode cX12_laysAnglers 35 = .ok (.iload_n 1, 1) := by decide +kernel
theorem dX12_laysAnglers_36 : decode cX12_laysAnglers 36 = .ok (.invokevirtual 357, 3) := by decide +kernel
theorem dX12_laysAnglers_39 : decode cX12_laysAnglers 39 = .ok (.return_, 1) := by decide +kernel
theorem dX12_anglers_0 : decode cX12_anglers 0 = .ok (.aload_n 0, 1) := by decide +kernel
theorem dX12_anglers_1 : decode cX12_anglers 1 = .ok (.iconst 0, 1) := by decide +kernel
theorem dX12_anglers_2 : decode cX12_anglers 2 = .ok (.putfield 103, 3) := by decide +kernel
theorem dX12_anglers_5 : decode cX12_anglers 5 = .ok (.aload_n 0, 1) := by decide +kernel
theorem dX12_anglers_6 : decode cX12_anglers 6 = .ok (.iload_n 1, 1) := by decide +kernel
theorem dX12_anglers_7 : decode cX12_anglers 7 = .ok (.iconst 0, 1) := by decide +kernel
theorem dX12_anglers_8 : decode cX12_anglers 8 = .ok (.iconst 4, 1) := by decide +kernel
theorem dX12_anglers_9 : decode cX12_anglers 9 = .ok (.invokestatic 137, 3) := by decide +kernel
theorem dX12_anglers_12 : decode cX12_anglers 12 = .ok (.ifCond .eq 12, 3) := by decide +kernel
theorem dX12_anglers_15 : decode cX12_anglers 15 = .ok (.iload_n 2, 1) := by decide +kernel
theorem dX12_anglers_16 : decode cX12_anglers 16 = .ok (.iconst 0, 1) := by decide +kernel
theorem dX12_anglers_17 : decode cX12_anglers 17 = .ok (.iconst 1, 1) := by decide +kernel
theorem dX12_anglers_18 : decode cX12_anglers 18 = .ok (.invokestatic 137, 3) := by decide +kernel
theorem dX12_anglers_21 : decode cX12_anglers 21 = .ok (.ifCond .ne 7, 3) := by decide +kernel
theorem dX12_anglers_24 : decode cX12_anglers 24 = .ok (.iconst 1, 1) := by decide +kernel
theorem dX12_anglers_25 : decode cX12_anglers 25 = .ok (.goto 4, 3) := by decide +kernel
theorem dX12_anglers_28 : decode cX12_anglers 28 = .ok (.iconst 0, 1) := by decide +kernel
theorem dX12_anglers_29 : decode cX12_anglers 29 = .ok (.iconst 1, 1) := by decide +kernel
theorem dX12_anglers_30 : decode cX12_anglers 30 = .ok (.iconst 1, 1) := by decide +kernel
theorem dX12_anglers_31 : decode cX12_anglers 31 = .ok (.invokevirtual 179, 3) := by decide +kernel
theorem dX12_anglers_34 : decode cX12_anglers 34 = .ok (.ifCond .eq 5, 3) := by decide +kernel
theorem dX12_anglers_37 : decode cX12_anglers 37 = .ok (.iconst 0, 1) := by decide +kernel
theorem dX12_anglers_38 : decode cX12_anglers 38 = .ok (.ireturn, 1) := by decide +kernel
theorem dX12_anglers_39 : decode cX12_anglers 39 = .ok (.aload_n 0, 1) := by decide +kernel
theorem dX12_anglers_40 : decode cX12_anglers 40 = .ok (.iload_n 1, 1) := by decide +kernel
theorem dX12_anglers_41 : decode cX12_anglers 41 = .ok (.invokevirtual 360, 3) := by decide +kernel
theorem dX12_anglers_44 : decode cX12_anglers 44 = .ok (.iload_n 2, 1) := by decide +kernel
theorem dX12_anglers_45 : decode cX12_anglers 45 = .ok (.ifCond .ne 8, 3) := by decide +kernel
theorem dX12_anglers_48 : decode cX12_anglers 48 = .ok (.aload_n 0, 1) := by decide +kernel
theorem dX12_anglers_49 : decode cX12_anglers 49 = .ok (.getfield 354, 3) := by decide +kernel
theorem dX12_anglers_52 : decode cX12_anglers 52 = .ok (.ireturn, 1) := by decide +kernel
theorem dX12_anglers_53 : decode cX12_anglers 53 = .ok (.iconst 0, 1) := by decide +kernel
theorem dX12_anglers_54 : decode cX12_anglers 54 = .ok (.istore_n 3, 1) := by decide +kernel
theorem dX12_anglers_55 : decode cX12_anglers 55 = .ok (.iconst 0, 1) := by decide +kernel
theorem dX12_anglers_56 : decode cX12_anglers 56 = .ok (.istore 4, 2) := by decide +kernel
theorem dX12_anglers_58 : decode cX12_anglers 58 = .ok (.iload 4, 2) := by decide +kernel
theorem dX12_anglers_60 : decode cX12_anglers 60 = .ok (.aload_n 0, 1) := by decide +kernel
theorem dX12_anglers_61 : decode cX12_anglers 61 = .ok (.getfield 23, 3) := by decide +kernel
theorem dX12_anglers_64 : decode cX12_anglers 64 = .ok (.iconst 0, 1) := by decide +kernel
theorem dX12_anglers_65 : decode cX12_anglers 65 = .ok (.iaload, 1) := by decide +kernel
theorem dX12_anglers_66 : decode cX12_anglers 66 = .ok (.if_icmp .ge 51, 3) := by decide +kernel
theorem dX12_anglers_69 : decode cX12_anglers 69 = .ok (.iload_n 3, 1) := by decide +kernel
theorem dX12_anglers_70 : decode cX12_anglers 70 = .ok (.aload_n 0, 1) := by decide +kernel
theorem dX12_anglers_71 : decode cX12_anglers 71 = .ok (.getfield 91, 3) := by decide +kernel
theorem dX12_anglers_74 : decode cX12_anglers 74 = .ok (.iload 4, 2) := by decide +kernel
theorem dX12_anglers_76 : decode cX12_anglers 76 = .ok (.iaload, 1) := by decide +kernel
theorem dX12_anglers_77 : decode cX12_anglers 77 = .ok (.ifCond .ne 7, 3) := by decide +kernel
theorem dX12_anglers_80 : decode cX12_anglers 80 = .ok (.iconst 0, 1) := by decide +kernel
theorem dX12_anglers_81 : decode cX12_anglers 81 = .ok (.goto 28, 3) := by decide +kernel
theorem dX12_anglers_84 : decode cX12_anglers 84 = .ok (.aload_n 0, 1) := by decide +kernel
theorem dX12_anglers_85 : decode cX12_anglers 85 = .ok (.getfield 91, 3) := by decide +kernel
theorem dX12_anglers_88 : decode cX12_anglers 88 = .ok (.iload 4, 2) := by decide +kernel
theorem dX12_anglers_90 : decode cX12_anglers 90 = .ok (.iaload, 1) := by decide +kernel
theorem dX12_anglers_91 : decode cX12_anglers 91 = .ok (.aload_n 0, 1) := by decide +kernel
theorem dX12_anglers_92 : decode cX12_anglers 92 = .ok (.getfield 31, 3) := by decide +kernel
theorem dX12_anglers_95 : decode cX12_anglers 95 = .ok (.iload 4, 2) := by decide +kernel
theorem dX12_anglers_97 : decode cX12_anglers 97 = .ok (.aaload, 1) := by decide +kernel
theorem dX12_anglers_98 : decode cX12_anglers 98 = .ok (.iconst 3, 1) := by decide +kernel
theorem dX12_anglers_99 : decode cX12_anglers 99 = .ok (.iaload, 1) := by decide +kernel
theorem dX12_anglers_100 : decode cX12_anglers 100 = .ok (.aload_n 0, 1) := by decide +kernel
theorem dX12_anglers_101 : decode cX12_anglers 101 = .ok (.getfield 91, 3) := by decide +kernel
theorem dX12_anglers_104 : decode cX12_anglers 104 = .ok (.iload 4, 2) := by decide +kernel
theorem dX12_anglers_106 : decode cX12_anglers 106 = .ok (.iaload, 1) := by decide +kernel
theorem dX12_anglers_107 : decode cX12_anglers 107 = .ok (.idiv, 1) := by decide +kernel
theorem dX12_anglers_108 : decode cX12_anglers 108 = .ok (.imul, 1) := by decide +kernel
theorem dX12_anglers_109 : decode cX12_anglers 109 = .ok (.iadd, 1) := by decide +kernel
theorem dX12_anglers_110 : decode cX12_anglers 110 = .ok (.istore_n 3, 1) := by decide +kernel
theorem dX12_anglers_111 : decode cX12_anglers 111 = .ok (.iinc 4 1, 3) := by decide +kernel
theorem dX12_anglers_114 : decode cX12_anglers 114 = .ok (.goto (-56), 3) := by decide +kernel
theorem dX12_anglers_117 : decode cX12_anglers 117 = .ok (.aload_n 0, 1) := by decide +kernel
theorem dX12_anglers_118 : decode cX12_anglers 118 = .ok (.getfield 354, 3) := by decide +kernel
theorem dX12_anglers_121 : decode cX12_anglers 121 = .ok (.ifCond .ne 7, 3) := by decide +kernel
theorem dX12_anglers_124 : decode cX12_anglers 124 = .ok (.iconst (-1), 1) := by decide +kernel
theorem dX12_anglers_125 : decode cX12_anglers 125 = .ok (.goto 4, 3) := by decide +kernel
theorem dX12_anglers_128 : decode cX12_anglers 128 = .ok (.iload_n 3, 1) := by decide +kernel
theorem dX12_anglers_129 : decode cX12_anglers 129 = .ok (.ireturn, 1) := by decide +kernel
theorem dX12_stand_0 : decode cX12_stand 0 = .ok (.aload_n 0, 1) := by decide +kernel
theorem dX12_stand_1 : decode cX12_stand 1 = .ok (.iconst 0, 1) := by decide +kernel
theorem dX12_stand_2 : decode cX12_stand 2 = .ok (.putfield 103, 3) := by decide +kernel
theorem dX12_stand_5 : decode cX12_stand 5 = .ok (.aload_n 0, 1) := by decide +kernel
theorem dX12_stand_6 : decode cX12_stand 6 = .ok (.aload_n 0, 1) := by decide +kernel
theorem dX12_stand_7 : decode cX12_stand 7 = .ok (.iload_n 1, 1) := by decide +kernel
theorem dX12_stand_8 : decode cX12_stand 8 = .ok (.invokevirtual 327, 3) := by decide +kernel
theorem dX12_stand_11 : decode cX12_stand 11 = .ok (.ifCond .ne 7, 3) := by decide +kernel
theorem dX12_stand_14 : decode cX12_stand 14 = .ok (.iconst 1, 1) := by decide +kernel
theorem dX12_stand_15 : decode cX12_stand 15 = .ok (.goto 4, 3) := by decide +kernel
theorem dX12_stand_18 : decode cX12_stand 18 = .ok (.iconst 0, 1) := by decide +kernel
theorem dX12_stand_19 : decode cX12_stand 19 = .ok (.iconst 1, 1) := by decide +kernel
theorem dX12_stand_20 : decode cX12_stand 20 = .ok (.iconst 0, 1) := by decide +kernel
theorem dX12_stand_21 : decode cX12_stand 21 = .ok (.invokevirtual 179, 3) := by decide +kernel
theorem dX12_stand_24 : decode cX12_stand 24 = .ok (.ifCond .ne 26, 3) := by decide +kernel
theorem dX12_stand_27 : decode cX12_stand 27 = .ok (.aload_n 0, 1) := by decide +kernel
theorem dX12_stand_28 : decode cX12_stand 28 = .ok (.iload_n 2, 1) := by decide +kernel
theorem dX12_stand_29 : decode cX12_stand 29 = .ok (.iconst 0, 1) := by decide +kernel
theorem dX12_stand_30 : decode cX12_stand 30 = .ok (.iconst 4, 1) := by decide +kernel
theorem dX12_stand_31 : decode cX12_stand 31 = .ok (.invokestatic 137, 3) := by decide +kernel
theorem dX12_stand_34 : decode cX12_stand 34 = .ok (.ifCond .ne 7, 3) := by decide +kernel
theorem dX12_stand_37 : decode cX12_stand 37 = .ok (.iconst 1, 1) := by decide +kernel
theorem dX12_stand_38 : decode cX12_stand 38 = .ok (.goto 4, 3) := by decide +kernel
theorem dX12_stand_41 : decode cX12_stand 41 = .ok (.iconst 0, 1) := by decide +kernel
theorem dX12_stand_42 : decode cX12_stand 42 = .ok (.iconst 2, 1) := by decide +kernel
theorem dX12_stand_43 : decode cX12_stand 43 = .ok (.iconst 1, 1) := by decide +kernel
theorem dX12_stand_44 : decode cX12_stand 44 = .ok (.invokevirtual 179, 3) := by decide +kernel
theorem dX12_stand_47 : decode cX12_stand 47 = .ok (.ifCond .eq 5, 3) := by decide +kernel
theorem dX12_stand_50 : decode cX12_stand 50 = .ok (.iconst 0, 1) := by decide +kernel
theorem dX12_stand_51 : decode cX12_stand 51 = .ok (.ireturn, 1) := by decide +kernel
theorem dX12_stand_52 : decode cX12_stand 52 = .ok (.aload_n 0, 1) := by decide +kernel
theorem dX12_stand_53 : decode cX12_stand 53 = .ok (.iload_n 2, 1) := by decide +kernel
theorem dX12_stand_54 : decode cX12_stand 54 = .ok (.invokevirtual 360, 3) := by decide +kernel
theorem dX12_stand_57 : decode cX12_stand 57 = .ok (.aload_n 0, 1) := by decide +kernel
theorem dX12_stand_58 : decode cX12_stand 58 = .ok (.getfield 91, 3) := by decide +kernel
theorem dX12_stand_61 : decode cX12_stand 61 = .ok (.iload_n 1, 1) := by decide +kernel
theorem dX12_stand_62 : decode cX12_stand 62 = .ok (.iaload, 1) := by decide +kernel
theorem dX12_stand_63 : decode cX12_stand 63 = .ok (.ireturn, 1) := by decide +kernel
theorem dX12_walks_0 : decode cX12_walks 0 = .ok (.aload_n 0, 1) := by decide +kernel
theorem dX12_walks_1 : decode cX12_walks 1 = .ok (.aload_n 0, 1) := by decide +kernel
theorem dX12_walks_2 : decode cX12_walks 2 = .ok (.getfield 67, 3) := by decide +kernel
theorem dX12_walks_5 : decode cX12_walks 5 = .ok (.invokevirtual 276, 3) := by decide +kernel
theorem dX12_walks_8 : decode cX12_walks 8 = .ok (.istore_n 3, 1) := by decide +kernel
theorem dX12_walks_9 : decode cX12_walks 9 = .ok (.iconst 0, 1) := by decide +kernel
theorem dX12_walks_10 : decode cX12_walks 10 = .ok (.istore 4, 2) := by decide +kernel
theorem dX12_walks_12 : decode cX12_walks 12 = .ok (.iload 4, 2) := by decide +kernel
theorem dX12_walks_14 : decode cX12_walks 14 = .ok (.bipush 16, 2) := by decide +kernel
theorem dX12_walks_16 : decode cX12_walks 16 = .ok (.if_icmp .ge 17, 3) := by decide +kernel
theorem dX12_walks_19 : decode cX12_walks 19 = .ok (.aload_n 0, 1) := by decide +kernel
theorem dX12_walks_20 : decode cX12_walks 20 = .ok (.getfield 94, 3) := by decide +kernel
theorem dX12_walks_23 : decode cX12_walks 23 = .ok (.iload 4, 2) := by decide +kernel
theorem dX12_walks_25 : decode cX12_walks 25 = .ok (.iconst (-1), 1) := by decide +kernel
theorem dX12_walks_26 : decode cX12_walks 26 = .ok (.iastore, 1) := by decide +kernel
theorem dX12_walks_27 : decode cX12_walks 27 = .ok (.iinc 4 1, 3) := by decide +kernel
theorem dX12_walks_30 : decode cX12_walks 30 = .ok (.goto (-18), 3) := by decide +kernel
theorem dX12_walks_33 : decode cX12_walks 33 = .ok (.iload_n 3, 1) := by decide +kernel
theorem dX12_walks_34 : decode cX12_walks 34 = .ok (.iload_n 1, 1) := by decide +kernel
theorem dX12_walks_35 : decode cX12_walks 35 = .ok (.invokestatic 258, 3) := by decide +kernel
theorem dX12_walks_38 : decode cX12_walks 38 = .ok (.ifCond .ne 15, 3) := by decide +kernel
theorem dX12_walks_41 : decode cX12_walks 41 = .ok (.aload_n 0, 1) := by decide +kernel
theorem dX12_walks_42 : decode cX12_walks 42 = .ok (.getfield 31, 3) := by decide +kernel
theorem dX12_walks_45 : decode cX12_walks 45 = .ok (.iload_n 1, 1) := by decide +kernel
theorem dX12_walks_46 : decode cX12_walks 46 = .ok (.aaload, 1) := by decide +kernel
theorem dX12_walks_47 : decode cX12_walks 47 = .ok (.iconst 1, 1) := by decide +kernel
theorem dX12_walks_48 : decode cX12_walks 48 = .ok (.iaload, 1) := by decide +kernel
theorem dX12_walks_49 : decode cX12_walks 49 = .ok (.iload_n 2, 1) := by decide +kernel
theorem dX12_walks_50 : decode cX12_walks 50 = .ok (.if_icmp .ge 4, 3) := by decide +kernel
theorem dX12_walks_53 : decode cX12_walks 53 = .ok (.return_, 1) := by decide +kernel
theorem dX12_walks_54 : decode cX12_walks 54 = .ok (.aload_n 0, 1) := by decide +kernel
theorem dX12_walks_55 : decode cX12_walks 55 = .ok (.getfield 94, 3) := by decide +kernel
theorem dX12_walks_58 : decode cX12_walks 58 = .ok (.iload_n 1, 1) := by decide +kernel
theorem dX12_walks_59 : decode cX12_walks 59 = .ok (.iconst 1, 1) := by decide +kernel
theorem dX12_walks_60 : decode cX12_walks 60 = .ok (.iastore, 1) := by decide +kernel
theorem dX12_walks_61 : decode cX12_walks 61 = .ok (.iconst 1, 1) := by decide +kernel
theorem dX12_walks_62 : decode cX12_walks 62 = .ok (.istore 4, 2) := by decide +kernel
theorem dX12_walks_64 : decode cX12_walks 64 = .ok (.iload 4, 2) := by decide +kernel
theorem dX12_walks_66 : decode cX12_walks 66 = .ok (.aload_n 0, 1) := by decide +kernel
theorem dX12_walks_67 : decode cX12_walks 67 = .ok (.getfield 23, 3) := by decide +kernel
theorem dX12_walks_70 : decode cX12_walks 70 = .ok (.iconst 0, 1) := by decide +kernel
theorem dX12_walks_71 : decode cX12_walks 71 = .ok (.iaload, 1) := by decide +kernel
theorem dX12_walks_72 : decode cX12_walks 72 = .ok (.if_icmp .gt 134, 3) := by decide +kernel
theorem dX12_walks_75 : decode cX12_walks 75 = .ok (.iconst 0, 1) := by decide +kernel
theorem dX12_walks_76 : decode cX12_walks 76 = .ok (.istore 5, 2) := by decide +kernel
theorem dX12_walks_78 : decode cX12_walks 78 = .ok (.iload 5, 2) := by decide +kernel
theorem dX12_walks_80 : decode cX12_walks 80 = .ok (.aload_n 0, 1) := by decide +kernel
theorem dX12_walks_81 : decode cX12_walks 81 = .ok (.getfield 23, 3) := by decide +kernel
theorem dX12_walks_84 : decode cX12_walks 84 = .ok (.iconst 0, 1) := by decide +kernel
theorem dX12_walks_85 : decode cX12_walks 85 = .ok (.iaload, 1) := by decide +kernel
theorem dX12_walks_86 : decode cX12_walks 86 = .ok (.if_icmp .ge 114, 3) := by decide +kernel
theorem dX12_walks_89 : decode cX12_walks 89 = .ok (.aload_n 0, 1) := by decide +kernel
theorem dX12_walks_90 : decode cX12_walks 90 = .ok (.getfield 94, 3) := by decide +kernel
theorem dX12_walks_93 : decode cX12_walks 93 = .ok (.iload 5, 2) := by decide +kernel
theorem dX12_walks_95 : decode cX12_walks 95 = .ok (.iaload, 1) := by decide +kernel
theorem dX12_walks_96 : decode cX12_walks 96 = .ok (.iconst (-1), 1) := by decide +kernel
theorem dX12_walks_97 : decode cX12_walks 97 = .ok (.if_icmp .ne 97, 3) := by decide +kernel
theorem dX12_walks_100 : decode cX12_walks 100 = .ok (.iload_n 3, 1) := by decide +kernel
theorem dX12_walks_101 : decode cX12_walks 101 = .ok (.iload 5, 2) := by decide +kernel
theorem dX12_walks_103 : decode cX12_walks 103 = .ok (.invokestatic 258, 3) := by decide +kernel
theorem dX12_walks_106 : decode cX12_walks 106 = .ok (.ifCond .ne 88, 3) := by decide +kernel
theorem dX12_walks_109 : decode cX12_walks 109 = .ok (.aload_n 0, 1) := by decide +kernel
theorem dX12_walks_110 : decode cX12_walks 110 = .ok (.getfield 31, 3) := by decide +kernel
theorem dX12_walks_113 : decode cX12_walks 113 = .ok (.iload 5, 2) := by decide +kernel
theorem dX12_walks_115 : decode cX12_walks 115 = .ok (.aaload, 1) := by decide +kernel
theorem dX12_walks_116 : decode cX12_walks 116 = .ok (.iconst 1, 1) := by decide +kernel
theorem dX12_walks_117 : decode cX12_walks 117 = .ok (.iaload, 1) := by decide +kernel
theorem dX12_walks_118 : decode cX12_walks 118 = .ok (.iload_n 2, 1) := by decide +kernel
theorem dX12_walks_119 : decode cX12_walks 119 = .ok (.if_icmp .ge 6, 3) := by decide +kernel
theorem dX12_walks_122 : decode cX12_walks 122 = .ok (.goto 72, 3) := by decide +kernel
theorem dX12_walks_125 : decode cX12_walks 125 = .ok (.iconst 0, 1) := by decide +kernel
theorem dX12_walks_126 : decode cX12_walks 126 = .ok (.iload 5, 2) := by decide +kernel
theorem dX12_walks_128 : decode cX12_walks 128 = .ok (.iconst 2, 1) := by decide +kernel
theorem dX12_walks_129 : decode cX12_walks 129 = .ok (.isub, 1) := by decide +kernel
theorem dX12_walks_130 : decode cX12_walks 130 = .ok (.invokestatic 242, 3) := by decide +kernel
theorem dX12_walks_133 : decode cX12_walks 133 = .ok (.istore 6, 2) := by decide +kernel
theorem dX12_walks_135 : decode cX12_walks 135 = .ok (.iload 6, 2) := by decide +kernel
theorem dX12_walks_137 : decode cX12_walks 137 = .ok (.aload_n 0, 1) := by decide +kernel
theorem dX12_walks_138 : decode cX12_walks 138 = .ok (.getfield 23, 3) := by decide +kernel
theorem dX12_walks_141 : decode cX12_walks 141 = .ok (.iconst 0, 1) := by decide +kernel
theorem dX12_walks_142 : decode cX12_walks 142 = .ok (.iaload, 1) := by decide +kernel
theorem dX12_walks_143 : decode cX12_walks 143 = .ok (.iconst 1, 1) := by decide +kernel
theorem dX12_walks_144 : decode cX12_walks 144 = .ok (.isub, 1) := by decide +kernel
theorem dX12_walks_145 : decode cX12_walks 145 = .ok (.iload 5, 2) := by decide +kernel
theorem dX12_walks_147 : decode cX12_walks 147 = .ok (.iconst 2, 1) := by decide +kernel
theorem dX12_walks_148 : decode cX12_walks 148 = .ok (.iadd, 1) := by decide +kernel
theorem dX12_walks_149 : decode cX12_walks 149 = .ok (.invokestatic 239, 3) := by decide +kernel
theorem dX12_walks_152 : decode cX12_walks 152 = .ok (.if_icmp .gt 42, 3) := by decide +kernel
theorem dX12_walks_155 : decode cX12_walks 155 = .ok (.aload_n 0, 1) := by decide +kernel
theorem dX12_walks_156 : decode cX12_walks 156 = .ok (.getfield 94, 3) := by decide +kernel
theorem dX12_walks_159 : decode cX12_walks 159 = .ok (.iload 5, 2) := by decide +kernel
theorem dX12_walks_161 : decode cX12_walks 161 = .ok (.aload_n 0, 1) := by decide +kernel
theorem dX12_walks_162 : decode cX12_walks 162 = .ok (.getfield 94, 3) := by decide +kernel
theorem dX12_walks_165 : decode cX12_walks 165 = .ok (.iload 6, 2) := by decide +kernel
theorem dX12_walks_167 : decode cX12_walks 167 = .ok (.iaload, 1) := by decide +kernel
theorem dX12_walks_168 : decode cX12_walks 168 = .ok (.iload 4, 2) := by decide +kernel
theorem dX12_walks_170 : decode cX12_walks 170 = .ok (.if_icmp .ne 10, 3) := by decide +kernel
theorem dX12_walks_173 : decode cX12_walks 173 = .ok (.iload 4, 2) := by decide +kernel
theorem dX12_walks_175 : decode cX12_walks 175 = .ok (.iconst 1, 1) := by decide +kernel
theorem dX12_walks_176 : decode cX12_walks 176 = .ok (.iadd, 1) := by decide +kernel
theorem dX12_walks_177 : decode cX12_walks 177 = .ok (.goto 10, 3) := by decide +kernel
theorem dX12_walks_180 : decode cX12_walks 180 = .ok (.aload_n 0, 1) := by decide +kernel
theorem dX12_walks_181 : decode cX12_walks 181 = .ok (.getfield 94, 3) := by decide +kernel
theorem dX12_walks_184 : decode cX12_walks 184 = .ok (.iload 5, 2) := by decide +kernel
theorem dX12_walks_186 : decode cX12_walks 186 = .ok (.iaload, 1) := by decide +kernel
theorem dX12_walks_187 : decode cX12_walks 187 = .ok (.iastore, 1) := by decide +kernel
theorem dX12_walks_188 : decode cX12_walks 188 = .ok (.iinc 6 1, 3) := by decide +kernel
theorem dX12_walks_191 : decode cX12_walks 191 = .ok (.goto (-56), 3) := by decide +kernel
theorem dX12_walks_194 : decode cX12_walks 194 = .ok (.iinc 5 1, 3) := by decide +kernel
theorem dX12_walks_197 : decode cX12_walks 197 = .ok (.goto (-119), 3) := by decide +kernel
theorem dX12_walks_200 : decode cX12_walks 200 = .ok (.iinc 4 1, 3) := by decide +kernel
theorem dX12_walks_203 : decode cX12_walks 203 = .ok (.goto (-139), 3) := by decide +kernel
theorem dX12_walks_206 : decode cX12_walks 206 = .ok (.return_, 1) := by decide +kernel
theorem dX12_isWeight_0 : decode cX12_isWeight 0 = .ok (.iload_n 0, 1) := by decide +kernel
theorem dX12_isWeight_1 : decode cX12_isWeight 1 = .ok (.iconst 0, 1) := by decide +kernel
theorem dX12_isWeight_2 : decode cX12_isWeight 2 = .ok (.bipush 20, 2) := by decide +kernel
theorem dX12_isWeight_4 : decode cX12_isWeight 4 = .ok (.invokestatic 137, 3) := by decide +kernel
theorem dX12_isWeight_7 : decode cX12_isWeight 7 = .ok (.ireturn, 1) := by decide +kernel
theorem dX12_walk_0 : decode cX12_walk 0 = .ok (.aload_n 0, 1) := by decide +kernel
theorem dX12_walk_1 : decode cX12_walk 1 = .ok (.iconst 0, 1) := by decide +kernel
theorem dX12_walk_2 : decode cX12_walk 2 = .ok (.putfield 103, 3) := by decide +kernel
theorem dX12_walk_5 : decode cX12_walk 5 = .ok (.aload_n 0, 1) := by decide +kernel
theorem dX12_walk_6 : decode cX12_walk 6 = .ok (.aload_n 0, 1) := by decide +kernel
theorem dX12_walk_7 : decode cX12_walk 7 = .ok (.iload_n 1, 1) := by decide +kernel
theorem dX12_walk_8 : decode cX12_walk 8 = .ok (.invokevirtual 327, 3) := by decide +kernel
theorem dX12_walk_11 : decode cX12_walk 11 = .ok (.ifCond .eq 11, 3) := by decide +kernel
theorem dX12_walk_14 : decode cX12_walk 14 = .ok (.aload_n 0, 1) := by decide +kernel
theorem dX12_walk_15 : decode cX12_walk 15 = .ok (.iload_n 2, 1) := by decide +kernel
theorem dX12_walk_16 : decode cX12_walk 16 = .ok (.invokevirtual 327, 3) := by decide +kernel
theorem dX12_walk_19 : decode cX12_walk 19 = .ok (.ifCond .ne 7, 3) := by decide +kernel
theorem dX12_walk_22 : decode cX12_walk 22 = .ok (.iconst 1, 1) := by decide +kernel
theorem dX12_walk_23 : decode cX12_walk 23 = .ok (.goto 4, 3) := by decide +kernel
theorem dX12_walk_26 : decode cX12_walk 26 = .ok (.iconst 0, 1) := by decide +kernel
theorem dX12_walk_27 : decode cX12_walk 27 = .ok (.iconst 1, 1) := by decide +kernel
theorem dX12_walk_28 : decode cX12_walk 28 = .ok (.iconst 0, 1) := by decide +kernel
theorem dX12_walk_29 : decode cX12_walk 29 = .ok (.invokevirtual 179, 3) := by decide +kernel
theorem dX12_walk_32 : decode cX12_walk 32 = .ok (.ifCond .ne 24, 3) := by decide +kernel
theorem dX12_walk_35 : decode cX12_walk 35 = .ok (.aload_n 0, 1) := by decide +kernel
theorem dX12_walk_36 : decode cX12_walk 36 = .ok (.iload_n 3, 1) := by decide +kernel
theorem dX12_walk_37 : decode cX12_walk 37 = .ok (.invokestatic 363, 3) := by decide +kernel
theorem dX12_walk_40 : decode cX12_walk 40 = .ok (.ifCond .ne 7, 3) := by decide +kernel
theorem dX12_walk_43 : decode cX12_walk 43 = .ok (.iconst 1, 1) := by decide +kernel
theorem dX12_walk_44 : decode cX12_walk 44 = .ok (.goto 4, 3) := by decide +kernel
theorem dX12_walk_47 : decode cX12_walk 47 = .ok (.iconst 0, 1) := by decide +kernel
theorem dX12_walk_48 : decode cX12_walk 48 = .ok (.iconst 2, 1) := by decide +kernel
theorem dX12_walk_49 : decode cX12_walk 49 = .ok (.iconst 1, 1) := by decide +kernel
theorem dX12_walk_50 : decode cX12_walk 50 = .ok (.invokevirtual 179, 3) := by decide +kernel
theorem dX12_walk_53 : decode cX12_walk 53 = .ok (.ifCond .eq 5, 3) := by decide +kernel
theorem dX12_walk_56 : decode cX12_walk 56 = .ok (.iconst 0, 1) := by decide +kernel
theorem dX12_walk_57 : decode cX12_walk 57 = .ok (.ireturn, 1) := by decide +kernel
theorem dX12_walk_58 : decode cX12_walk 58 = .ok (.aload_n 0, 1) := by decide +kernel
theorem dX12_walk_59 : decode cX12_walk 59 = .ok (.iload_n 1, 1) := by decide +kernel
theorem dX12_walk_60 : decode cX12_walk 60 = .ok (.iload_n 3, 1) := by decide +kernel
theorem dX12_walk_61 : decode cX12_walk 61 = .ok (.invokevirtual 366, 3) := by decide +kernel
theorem dX12_walk_64 : decode cX12_walk 64 = .ok (.aload_n 0, 1) := by decide +kernel
theorem dX12_walk_65 : decode cX12_walk 65 = .ok (.getfield 94, 3) := by decide +kernel
theorem dX12_walk_68 : decode cX12_walk 68 = .ok (.iload_n 2, 1) := by decide +kernel
theorem dX12_walk_69 : decode cX12_walk 69 = .ok (.iaload, 1) := by decide +kernel
theorem dX12_walk_70 : decode cX12_walk 70 = .ok (.ireturn, 1) := by decide +kernel
theorem dX12_reach_0 : decode cX12_reach 0 = .ok (.aload_n 0, 1) := by decide +kernel
theorem dX12_reach_1 : decode cX12_reach 1 = .ok (.iconst 0, 1) := by decide +kernel
theorem dX12_reach_2 : decode cX12_reach 2 = .ok (.putfield 103, 3) := by decide +kernel
theorem dX12_reach_5 : decode cX12_reach 5 = .ok (.aload_n 0, 1) := by decide +kernel
theorem dX12_reach_6 : decode cX12_reach 6 = .ok (.aload_n 0, 1) := by decide +kernel
theorem dX12_reach_7 : decode cX12_reach 7 = .ok (.iload_n 1, 1) := by decide +kernel
theorem dX12_reach_8 : decode cX12_reach 8 = .ok (.invokevirtual 327, 3) := by decide +kernel
theorem dX12_reach_11 : decode cX12_reach 11 = .ok (.ifCond .ne 7, 3) := by decide +kernel
theorem dX12_reach_14 : decode cX12_reach 14 = .ok (.iconst 1, 1) := by decide +kernel
theorem dX12_reach_15 : decode cX12_reach 15 = .ok (.goto 4, 3) := by decide +kernel
theorem dX12_reach_18 : decode cX12_reach 18 = .ok (.iconst 0, 1) := by decide +kernel
theorem dX12_reach_19 : decode cX12_reach 19 = .ok (.iconst 1, 1) := by decide +kernel
theorem dX12_reach_20 : decode cX12_reach 20 = .ok (.iconst 0, 1) := by decide +kernel
theorem dX12_reach_21 : decode cX12_reach 21 = .ok (.invokevirtual 179, 3) := by decide +kernel
theorem dX12_reach_24 : decode cX12_reach 24 = .ok (.ifCond .ne 24, 3) := by decide +kernel
theorem dX12_reach_27 : decode cX12_reach 27 = .ok (.aload_n 0, 1) := by decide +kernel
theorem dX12_reach_28 : decode cX12_reach 28 = .ok (.iload_n 2, 1) := by decide +kernel
theorem dX12_reach_29 : decode cX12_reach 29 = .ok (.invokestatic 363, 3) := by decide +kernel
theorem dX12_reach_32 : decode cX12_reach 32 = .ok (.ifCond .ne 7, 3) := by decide +kernel
theorem dX12_reach_35 : decode cX12_reach 35 = .ok (.iconst 1, 1) := by decide +kernel
theorem dX12_reach_36 : decode cX12_reach 36 = .ok (.goto 4, 3) := by decide +kernel
theorem dX12_reach_39 : decode cX12_reach 39 = .ok (.iconst 0, 1) := by decide +kernel
theorem dX12_reach_40 : decode cX12_reach 40 = .ok (.iconst 2, 1) := by decide +kernel
theorem dX12_reach_41 : decode cX12_reach 41 = .ok (.iconst 1, 1) := by decide +kernel
theorem dX12_reach_42 : decode cX12_reach 42 = .ok (.invokevirtual 179, 3) := by decide +kernel
theorem dX12_reach_45 : decode cX12_reach 45 = .ok (.ifCond .eq 5, 3) := by decide +kernel
theorem dX12_reach_48 : decode cX12_reach 48 = .ok (.iconst 0, 1) := by decide +kernel
theorem dX12_reach_49 : decode cX12_reach 49 = .ok (.ireturn, 1) := by decide +kernel
theorem dX12_reach_50 : decode cX12_reach 50 = .ok (.aload_n 0, 1) := by decide +kernel
theorem dX12_reach_51 : decode cX12_reach 51 = .ok (.iload_n 1, 1) := by decide +kernel
theorem dX12_reach_52 : decode cX12_reach 52 = .ok (.iload_n 2, 1) := by decide +kernel
theorem dX12_reach_53 : decode cX12_reach 53 = .ok (.invokevirtual 366, 3) := by decide +kernel
theorem dX12_reach_56 : decode cX12_reach 56 = .ok (.iconst 0, 1) := by decide +kernel
theorem dX12_reach_57 : decode cX12_reach 57 = .ok (.istore_n 3, 1) := by decide +kernel
theorem dX12_reach_58 : decode cX12_reach 58 = .ok (.iconst 0, 1) := by decide +kernel
theorem dX12_reach_59 : decode cX12_reach 59 = .ok (.istore 4, 2) := by decide +kernel
theorem dX12_reach_61 : decode cX12_reach 61 = .ok (.iload 4, 2) := by decide +kernel
theorem dX12_reach_63 : decode cX12_reach 63 = .ok (.aload_n 0, 1) := by decide +kernel
theorem dX12_reach_64 : decode cX12_reach 64 = .ok (.getfield 23, 3) := by decide +kernel
theorem dX12_reach_67 : decode cX12_reach 67 = .ok (.iconst 0, 1) := by decide +kernel
theorem dX12_reach_68 : decode cX12_reach 68 = .ok (.iaload, 1) := by decide +kernel
theorem dX12_reach_69 : decode cX12_reach 69 = .ok (.if_icmp .ge 31, 3) := by decide +kernel
theorem dX12_reach_72 : decode cX12_reach 72 = .ok (.iload_n 3, 1) := by decide +kernel
theorem dX12_reach_73 : decode cX12_reach 73 = .ok (.aload_n 0, 1) := by decide +kernel
theorem dX12_reach_74 : decode cX12_reach 74 = .ok (.getfield 94, 3) := by decide +kernel
theorem dX12_reach_77 : decode cX12_reach 77 = .ok (.iload 4, 2) := by decide +kernel
theorem dX12_reach_79 : decode cX12_reach 79 = .ok (.iaload, 1) := by decide +kernel
theorem dX12_reach_80 : decode cX12_reach 80 = .ok (.iconst (-1), 1) := by decide +kernel
theorem dX12_reach_81 : decode cX12_reach 81 = .ok (.if_icmp .eq 10, 3) := by decide +kernel
theorem dX12_reach_84 : decode cX12_reach 84 = .ok (.iconst 1, 1) := by decide +kernel
theorem dX12_reach_85 : decode cX12_reach 85 = .ok (.iload 4, 2) := by decide +kernel
theorem dX12_reach_87 : decode cX12_reach 87 = .ok (.ishl, 1) := by decide +kernel
theorem dX12_reach_88 : decode cX12_reach 88 = .ok (.goto 4, 3) := by decide +kernel
theorem dX12_reach_91 : decode cX12_reach 91 = .ok (.iconst 0, 1) := by decide +kernel
theorem dX12_reach_92 : decode cX12_reach 92 = .ok (.ior, 1) := by decide +kernel
theorem dX12_reach_93 : decode cX12_reach 93 = .ok (.istore_n 3, 1) := by decide +kernel
theorem dX12_reach_94 : decode cX12_reach 94 = .ok (.iinc 4 1, 3) := by decide +kernel
theorem dX12_reach_97 : decode cX12_reach 97 = .ok (.goto (-36), 3) := by decide +kernel
theorem dX12_reach_100 : decode cX12_reach 100 = .ok (.iload_n 3, 1) := by decide +kernel
theorem dX12_reach_101 : decode cX12_reach 101 = .ok (.ireturn, 1) := by decide +kernel
theorem dX12_narrow_0 : decode cX12_narrow 0 = .ok (.aload_n 0, 1) := by decide +kernel
theorem dX12_narrow_1 : decode cX12_narrow 1 = .ok (.iconst 0, 1) := by decide +kernel
theorem dX12_narrow_2 : decode cX12_narrow 2 = .ok (.putfield 103, 3) := by decide +kernel
theorem dX12_narrow_5 : decode cX12_narrow 5 = .ok (.aload_n 0, 1) := by decide +kernel
theorem dX12_narrow_6 : decode cX12_narrow 6 = .ok (.iload_n 1, 1) := by decide +kernel
theorem dX12_narrow_7 : decode cX12_narrow 7 = .ok (.invokestatic 336, 3) := by decide +kernel
theorem dX12_narrow_10 : decode cX12_narrow 10 = .ok (.ifCond .eq 12, 3) := by decide +kernel
theorem dX12_narrow_13 : decode cX12_narrow 13 = .ok (.iload_n 2, 1) := by decide +kernel
theorem dX12_narrow_14 : decode cX12_narrow 14 = .ok (.iconst 0, 1) := by decide +kernel
theorem dX12_narrow_15 : decode cX12_narrow 15 = .ok (.iconst 2, 1) := by decide +kernel
theorem dX12_narrow_16 : decode cX12_narrow 16 = .ok (.invokestatic 137, 3) := by decide +kernel
theorem dX12_narrow_19 : decode cX12_narrow 19 = .ok (.ifCond .ne 7, 3) := by decide +kernel
theorem dX12_narrow_22 : decode cX12_narrow 22 = .ok (.iconst 1, 1) := by decide +kernel
theorem dX12_narrow_23 : decode cX12_narrow 23 = .ok (.goto 4, 3) := by decide +kernel
theorem dX12_narrow_26 : decode cX12_narrow 26 = .ok (.iconst 0, 1) := by decide +kernel
theorem dX12_narrow_27 : decode cX12_narrow 27 = .ok (.iconst 1, 1) := by decide +kernel
theorem dX12_narrow_28 : decode cX12_narrow 28 = .ok (.iconst 1, 1) := by decide +kernel
theorem dX12_narrow_29 : decode cX12_narrow 29 = .ok (.invokevirtual 179, 3) := by decide +kernel
theorem dX12_narrow_32 : decode cX12_narrow 32 = .ok (.ifCond .eq 5, 3) := by decide +kernel
theorem dX12_narrow_35 : decode cX12_narrow 35 = .ok (.iconst 0, 1) := by decide +kernel
theorem dX12_narrow_36 : decode cX12_narrow 36 = .ok (.ireturn, 1) := by decide +kernel
theorem dX12_narrow_37 : decode cX12_narrow 37 = .ok (.iconst 0, 1) := by decide +kernel
theorem dX12_narrow_38 : decode cX12_narrow 38 = .ok (.istore_n 3, 1) := by decide +kernel
theorem dX12_narrow_39 : decode cX12_narrow 39 = .ok (.iconst 0, 1) := by decide +kernel
theorem dX12_narrow_40 : decode cX12_narrow 40 = .ok (.istore 4, 2) := by decide +kernel
theorem dX12_narrow_42 : decode cX12_narrow 42 = .ok (.iconst (-1), 1) := by decide +kernel
theorem dX12_narrow_43 : decode cX12_narrow 43 = .ok (.istore 5, 2) := by decide +kernel
theorem dX12_narrow_45 : decode cX12_narrow 45 = .ok (.iconst 0, 1) := by decide +kernel
theorem dX12_narrow_46 : decode cX12_narrow 46 = .ok (.istore 6, 2) := by decide +kernel
theorem dX12_narrow_48 : decode cX12_narrow 48 = .ok (.iconst 0, 1) := by decide +kernel
theorem dX12_narrow_49 : decode cX12_narrow 49 = .ok (.istore 7, 2) := by decide +kernel
theorem dX12_narrow_51 : decode cX12_narrow 51 = .ok (.iload 7, 2) := by decide +kernel
theorem dX12_narrow_53 : decode cX12_narrow 53 = .ok (.aload_n 0, 1) := by decide +kernel
theorem dX12_narrow_54 : decode cX12_narrow 54 = .ok (.getfield 23, 3) := by decide +kernel
theorem dX12_narrow_57 : decode cX12_narrow 57 = .ok (.iconst 0, 1) := by decide +kernel
theorem dX12_narrow_58 : decode cX12_narrow 58 = .ok (.iaload, 1) := by decide +kernel
theorem dX12_narrow_59 : decode cX12_narrow 59 = .ok (.if_icmp .ge 83, 3) := by decide +kernel
theorem dX12_narrow_62 : decode cX12_narrow 62 = .ok (.iload_n 1, 1) := by decide +kernel
theorem dX12_narrow_63 : decode cX12_narrow 63 = .ok (.aload_n 0, 1) := by decide +kernel
theorem dX12_narrow_64 : decode cX12_narrow 64 = .ok (.getfield 31, 3) := by decide +kernel
theorem dX12_narrow_67 : decode cX12_narrow 67 = .ok (.iload 7, 2) := by decide +kernel
theorem dX12_narrow_69 : decode cX12_narrow 69 = .ok (.aaload, 1) := by decide +kernel
theorem dX12_narrow_70 : decode cX12_narrow 70 = .ok (.iconst 0, 1) := by decide +kernel
theorem dX12_narrow_71 : decode cX12_narrow 71 = .ok (.iaload, 1) := by decide +kernel
theorem dX12_narrow_72 : decode cX12_narrow 72 = .ok (.if_icmp .le 7, 3) := by decide +kernel
theorem dX12_narrow_75 : decode cX12_narrow 75 = .ok (.iconst 1, 1) := by decide +kernel
theorem dX12_narrow_76 : decode cX12_narrow 76 = .ok (.goto 4, 3) := by decide +kernel
theorem dX12_narrow_79 : decode cX12_narrow 79 = .ok (.iconst 0, 1) := by decide +kernel
theorem dX12_narrow_80 : decode cX12_narrow 80 = .ok (.istore 8, 2) := by decide +kernel
theorem dX12_narrow_82 : decode cX12_narrow 82 = .ok (.iload_n 3, 1) := by decide +kernel
theorem dX12_narrow_83 : decode cX12_narrow 83 = .ok (.iload 8, 2) := by decide +kernel
theorem dX12_narrow_85 : decode cX12_narrow 85 = .ok (.ifCond .eq 10, 3) := by decide +kernel
theorem dX12_narrow_88 : decode cX12_narrow 88 = .ok (.iconst 1, 1) := by decide +kernel
theorem dX12_narrow_89 : decode cX12_narrow 89 = .ok (.iload 7, 2) := by decide +kernel
theorem dX12_narrow_91 : decode cX12_narrow 91 = .ok (.ishl, 1) := by decide +kernel
theorem dX12_narrow_92 : decode cX12_narrow 92 = .ok (.goto 4, 3) := by decide +kernel
theorem dX12_narrow_95 : decode cX12_narrow 95 = .ok (.iconst 0, 1) := by decide +kernel
theorem dX12_narrow_96 : decode cX12_narrow 96 = .ok (.ior, 1) := by decide +kernel
theorem dX12_narrow_97 : decode cX12_narrow 97 = .ok (.istore_n 3, 1) := by decide +kernel
theorem dX12_narrow_98 : decode cX12_narrow 98 = .ok (.iload 8, 2) := by decide +kernel
theorem dX12_narrow_100 : decode cX12_narrow 100 = .ok (.ifCond .eq 7, 3) := by decide +kernel
theorem dX12_narrow_103 : decode cX12_narrow 103 = .ok (.iconst 0, 1) := by decide +kernel
theorem dX12_narrow_104 : decode cX12_narrow 104 = .ok (.goto 7, 3) := by decide +kernel
theorem dX12_narrow_107 : decode cX12_narrow 107 = .ok (.iload 6, 2) := by decide +kernel
theorem dX12_narrow_109 : decode cX12_narrow 109 = .ok (.iconst 1, 1) := by decide +kernel
theorem dX12_narrow_110 : decode cX12_narrow 110 = .ok (.iadd, 1) := by decide +kernel
theorem dX12_narrow_111 : decode cX12_narrow 111 = .ok (.istore 6, 2) := by decide +kernel
theorem dX12_narrow_113 : decode cX12_narrow 113 = .ok (.iload 6, 2) := by decide +kernel
theorem dX12_narrow_115 : decode cX12_narrow 115 = .ok (.iload 4, 2) := by decide +kernel
theorem dX12_narrow_117 : decode cX12_narrow 117 = .ok (.if_icmp .gt 6, 3) := by decide +kernel
theorem dX12_narrow_120 : decode cX12_narrow 120 = .ok (.goto 16, 3) := by decide +kernel
theorem dX12_narrow_123 : decode cX12_narrow 123 = .ok (.iload 6, 2) := by decide +kernel
theorem dX12_narrow_125 : decode cX12_narrow 125 = .ok (.istore 4, 2) := by decide +kernel
theorem dX12_narrow_127 : decode cX12_narrow 127 = .ok (.iload 7, 2) := by decide +kernel
theorem dX12_narrow_129 : decode cX12_narrow 129 = .ok (.iload 6, 2) := by decide +kernel
theorem dX12_narrow_131 : decode cX12_narrow 131 = .ok (.isub, 1) := by decide +kernel
theorem dX12_narrow_132 : decode cX12_narrow 132 = .ok (.iconst 1, 1) := by decide +kernel
theorem dX12_narrow_133 : decode cX12_narrow 133 = .ok (.iadd, 1) := by decide +kernel
theorem dX12_narrow_134 : decode cX12_narrow 134 = .ok (.istore 5, 2) := by decide +kernel
theorem dX12_narrow_136 : decode cX12_narrow 136 = .ok (.iinc 7 1, 3) := by decide +kernel
theorem dX12_narrow_139 : decode cX12_narrow 139 = .ok (.goto (-88), 3) := by decide +kernel
theorem dX12_narrow_142 : decode cX12_narrow 142 = .ok (.iload_n 2, 1) := by decide +kernel
theorem dX12_narrow_143 : decode cX12_narrow 143 = .ok (.ifCond .ne 7, 3) := by decide +kernel
theorem dX12_narrow_146 : decode cX12_narrow 146 = .ok (.iload_n 3, 1) := by decide +kernel
theorem dX12_narrow_147 : decode cX12_narrow 147 = .ok (.goto 15, 3) := by decide +kernel
theorem dX12_narrow_150 : decode cX12_narrow 150 = .ok (.iload_n 2, 1) := by decide +kernel
theorem dX12_narrow_151 : decode cX12_narrow 151 = .ok (.iconst 1, 1) := by decide +kernel
theorem dX12_narrow_152 : decode cX12_narrow 152 = .ok (.if_icmp .ne 8, 3) := by decide +kernel
theorem dX12_narrow_155 : decode cX12_narrow 155 = .ok (.iload 4, 2) := by decide +kernel
theorem dX12_narrow_157 : decode cX12_narrow 157 = .ok (.goto 5, 3) := by decide +kernel
theorem dX12_narrow_160 : decode cX12_narrow 160 = .ok (.iload 5, 2) := by decide +kernel
theorem dX12_narrow_162 : decode cX12_narrow 162 = .ok (.ireturn, 1) := by decide +kernel
theorem dX12_worst_0 : decode cX12_worst 0 = .ok (.aload_n 0, 1) := by decide +kernel
theorem dX12_worst_1 : decode cX12_worst 1 = .ok (.iconst 0, 1) := by decide +kernel
theorem dX12_worst_2 : decode cX12_worst 2 = .ok (.putfield 103, 3) := by decide +kernel
theorem dX12_worst_5 : decode cX12_worst 5 = .ok (.aload_n 0, 1) := by decide +kernel
theorem dX12_worst_6 : decode cX12_worst 6 = .ok (.iload_n 1, 1) := by decide +kernel
theorem dX12_worst_7 : decode cX12_worst 7 = .ok (.iconst 0, 1) := by decide +kernel
theorem dX12_worst_8 : decode cX12_worst 8 = .ok (.iconst 1, 1) := by decide +kernel
theorem dX12_worst_9 : decode cX12_worst 9 = .ok (.invokestatic 137, 3) := by decide +kernel
theorem dX12_worst_12 : decode cX12_worst 12 = .ok (.ifCond .ne 7, 3) := by decide +kernel
theorem dX12_worst_15 : decode cX12_worst 15 = .ok (.iconst 1, 1) := by decide +kernel
theorem dX12_worst_16 : decode cX12_worst 16 = .ok (.goto 4, 3) := by decide +kernel
theorem dX12_worst_19 : decode cX12_worst 19 = .ok (.iconst 0, 1) := by decide +kernel
theorem dX12_worst_20 : decode cX12_worst 20 = .ok (.iconst 1, 1) := by decide +kernel
theorem dX12_worst_21 : decode cX12_worst 21 = .ok (.iconst 1, 1) := by decide +kernel
theorem dX12_worst_22 : decode cX12_worst 22 = .ok (.invokevirtual 179, 3) := by decide +kernel
theorem dX12_worst_25 : decode cX12_worst 25 = .ok (.ifCond .eq 5, 3) := by decide +kernel
theorem dX12_worst_28 : decode cX12_worst 28 = .ok (.iconst 0, 1) := by decide +kernel
theorem dX12_worst_29 : decode cX12_worst 29 = .ok (.ireturn, 1) := by decide +kernel
theorem dX12_worst_30 : decode cX12_worst 30 = .ok (.iconst (-1), 1) := by decide +kernel
theorem dX12_worst_31 : decode cX12_worst 31 = .ok (.istore_n 2, 1) := by decide +kernel
theorem dX12_worst_32 : decode cX12_worst 32 = .ok (.iconst 0, 1) := by decide +kernel
theorem dX12_worst_33 : decode cX12_worst 33 = .ok (.istore_n 3, 1) := by decide +kernel
theorem dX12_worst_34 : decode cX12_worst 34 = .ok (.iload_n 1, 1) := by decide +kernel
theorem dX12_worst_35 : decode cX12_worst 35 = .ok (.ifCond .ne 8, 3) := by decide +kernel
theorem dX12_worst_38 : decode cX12_worst 38 = .ok (.bipush 16, 2) := by decide +kernel
theorem dX12_worst_40 : decode cX12_worst 40 = .ok (.goto 5, 3) := by decide +kernel
theorem dX12_worst_43 : decode cX12_worst 43 = .ok (.bipush 32, 2) := by decide +kernel
theorem dX12_worst_45 : decode cX12_worst 45 = .ok (.istore 4, 2) := by decide +kernel
theorem dX12_worst_47 : decode cX12_worst 47 = .ok (.iconst 0, 1) := by decide +kernel
theorem dX12_worst_48 : decode cX12_worst 48 = .ok (.istore 5, 2) := by decide +kernel
theorem dX12_worst_50 : decode cX12_worst 50 = .ok (.iload 5, 2) := by decide +kernel
theorem dX12_worst_52 : decode cX12_worst 52 = .ok (.aload_n 0, 1) := by decide +kernel
theorem dX12_worst_53 : decode cX12_worst 53 = .ok (.getfield 23, 3) := by decide +kernel
theorem dX12_worst_56 : decode cX12_worst 56 = .ok (.iconst 0, 1) := by decide +kernel
theorem dX12_worst_57 : decode cX12_worst 57 = .ok (.iaload, 1) := by decide +kernel
theorem dX12_worst_58 : decode cX12_worst 58 = .ok (.if_icmp .ge 40, 3) := by decide +kernel
theorem dX12_worst_61 : decode cX12_worst 61 = .ok (.aload_n 0, 1) := by decide +kernel
theorem dX12_worst_62 : decode cX12_worst 62 = .ok (.getfield 67, 3) := by decide +kernel
theorem dX12_worst_65 : decode cX12_worst 65 = .ok (.iload 4, 2) := by decide +kernel
theorem dX12_worst_67 : decode cX12_worst 67 = .ok (.iload 5, 2) := by decide +kernel
theorem dX12_worst_69 : decode cX12_worst 69 = .ok (.iadd, 1) := by decide +kernel
theorem dX12_worst_70 : decode cX12_worst 70 = .ok (.iaload, 1) := by decide +kernel
theorem dX12_worst_71 : decode cX12_worst 71 = .ok (.iload_n 3, 1) := by decide +kernel
theorem dX12_worst_72 : decode cX12_worst 72 = .ok (.if_icmp .gt 6, 3) := by decide +kernel
theorem dX12_worst_75 : decode cX12_worst 75 = .ok (.goto 17, 3) := by decide +kernel
theorem dX12_worst_78 : decode cX12_worst 78 = .ok (.iload 5, 2) := by decide +kernel
theorem dX12_worst_80 : decode cX12_worst 80 = .ok (.istore_n 2, 1) := by decide +kernel
theorem dX12_worst_81 : decode cX12_worst 81 = .ok (.aload_n 0, 1) := by decide +kernel
theorem dX12_worst_82 : decode cX12_worst 82 = .ok (.getfield 67, 3) := by decide +kernel
theorem dX12_worst_85 : decode cX12_worst 85 = .ok (.iload 4, 2) := by decide +kernel
theorem dX12_worst_87 : decode cX12_worst 87 = .ok (.iload 5, 2) := by decide +kernel
theorem dX12_worst_89 : decode cX12_worst 89 = .ok (.iadd, 1) := by decide +kernel
theorem dX12_worst_90 : decode cX12_worst 90 = .ok (.iaload, 1) := by decide +kernel
theorem dX12_worst_91 : decode cX12_worst 91 = .ok (.istore_n 3, 1) := by decide +kernel
theorem dX12_worst_92 : decode cX12_worst 92 = .ok (.iinc 5 1, 3) := by decide +kernel
theorem dX12_worst_95 : decode cX12_worst 95 = .ok (.goto (-45), 3) := by decide +kernel
theorem dX12_worst_98 : decode cX12_worst 98 = .ok (.iload_n 2, 1) := by decide +kernel
theorem dX12_worst_99 : decode cX12_worst 99 = .ok (.ireturn, 1) := by decide +kernel
theorem dX12_ahead_0 : decode cX12_ahead 0 = .ok (.aload_n 0, 1) := by decide +kernel
theorem dX12_ahead_1 : decode cX12_ahead 1 = .ok (.iconst 0, 1) := by decide +kernel
theorem dX12_ahead_2 : decode cX12_ahead 2 = .ok (.putfield 103, 3) := by decide +kernel
theorem dX12_ahead_5 : decode cX12_ahead 5 = .ok (.aload_n 0, 1) := by decide +kernel
theorem dX12_ahead_6 : decode cX12_ahead 6 = .ok (.iload_n 1, 1) := by decide +kernel
theorem dX12_ahead_7 : decode cX12_ahead 7 = .ok (.iconst 0, 1) := by decide +kernel
theorem dX12_ahead_8 : decode cX12_ahead 8 = .ok (.sipush 240, 3) := by decide +kernel
theorem dX12_ahead_11 : decode cX12_ahead 11 = .ok (.invokestatic 137, 3) := by decide +kernel
theorem dX12_ahead_14 : decode cX12_ahead 14 = .ok (.ifCond .eq 12, 3) := by decide +kernel
theorem dX12_ahead_17 : decode cX12_ahead 17 = .ok (.iload_n 2, 1) := by decide +kernel
theorem dX12_ahead_18 : decode cX12_ahead 18 = .ok (.iconst 0, 1) := by decide +kernel
theorem dX12_ahead_19 : decode cX12_ahead 19 = .ok (.iconst 2, 1) := by decide +kernel
theorem dX12_ahead_20 : decode cX12_ahead 20 = .ok (.invokestatic 137, 3) := by decide +kernel
theorem dX12_ahead_23 : decode cX12_ahead 23 = .ok (.ifCond .ne 7, 3) := by decide +kernel
theorem dX12_ahead_26 : decode cX12_ahead 26 = .ok (.iconst 1, 1) := by decide +kernel
theorem dX12_ahead_27 : decode cX12_ahead 27 = .ok (.goto 4, 3) := by decide +kernel
theorem dX12_ahead_30 : decode cX12_ahead 30 = .ok (.iconst 0, 1) := by decide +kernel
theorem dX12_ahead_31 : decode cX12_ahead 31 = .ok (.iconst 1, 1) := by decide +kernel
theorem dX12_ahead_32 : decode cX12_ahead 32 = .ok (.iconst 1, 1) := by decide +kernel
theorem dX12_ahead_33 : decode cX12_ahead 33 = .ok (.invokevirtual 179, 3) := by decide +kernel
theorem dX12_ahead_36 : decode cX12_ahead 36 = .ok (.ifCond .eq 5, 3) := by decide +kernel
theorem dX12_ahead_39 : decode cX12_ahead 39 = .ok (.iconst 0, 1) := by decide +kernel
theorem dX12_ahead_40 : decode cX12_ahead 40 = .ok (.ireturn, 1) := by decide +kernel
theorem dX12_ahead_41 : decode cX12_ahead 41 = .ok (.aload_n 0, 1) := by decide +kernel
theorem dX12_ahead_42 : decode cX12_ahead 42 = .ok (.invokevirtual 333, 3) := by decide +kernel
theorem dX12_ahead_45 : decode cX12_ahead 45 = .ok (.iconst 0, 1) := by decide +kernel
theorem dX12_ahead_46 : decode cX12_ahead 46 = .ok (.istore_n 3, 1) := by decide +kernel
theorem dX12_ahead_47 : decode cX12_ahead 47 = .ok (.iload_n 3, 1) := by decide +kernel
theorem dX12_ahead_48 : decode cX12_ahead 48 = .ok (.iload_n 1, 1) := by decide +kernel
theorem dX12_ahead_49 : decode cX12_ahead 49 = .ok (.if_icmp .ge 17, 3) := by decide +kernel
theorem dX12_ahead_52 : decode cX12_ahead 52 = .ok (.aload_n 0, 1) := by decide +kernel
theorem dX12_ahead_53 : decode cX12_ahead 53 = .ok (.aload_n 0, 1) := by decide +kernel
theorem dX12_ahead_54 : decode cX12_ahead 54 = .ok (.getfield 70, 3) := by decide +kernel
theorem dX12_ahead_57 : decode cX12_ahead 57 = .ok (.invokevirtual 297, 3) := by decide +kernel
theorem dX12_ahead_60 : decode cX12_ahead 60 = .ok (.iinc 3 1, 3) := by decide +kernel
theorem dX12_ahead_63 : decode cX12_ahead 63 = .ok (.goto (-16), 3) := by decide +kernel
theorem dX12_ahead_66 : decode cX12_ahead 66 = .ok (.iload_n 2, 1) := by decide +kernel
theorem dX12_ahead_67 : decode cX12_ahead 67 = .ok (.ifCond .ne 14, 3) := by decide +kernel
theorem dX12_ahead_70 : decode cX12_ahead 70 = .ok (.aload_n 0, 1) := by decide +kernel
theorem dX12_ahead_71 : decode cX12_ahead 71 = .ok (.aload_n 0, 1) := by decide +kernel
theorem dX12_ahead_72 : decode cX12_ahead 72 = .ok (.getfield 70, 3) := by decide +kernel
theorem dX12_ahead_75 : decode cX12_ahead 75 = .ok (.invokevirtual 324, 3) := by decide +kernel
theorem dX12_ahead_78 : decode cX12_ahead 78 = .ok (.goto 23, 3) := by decide +kernel
theorem dX12_ahead_81 : decode cX12_ahead 81 = .ok (.aload_n 0, 1) := by decide +kernel
theorem dX12_ahead_82 : decode cX12_ahead 82 = .ok (.aload_n 0, 1) := by decide +kernel
theorem dX12_ahead_83 : decode cX12_ahead 83 = .ok (.getfield 70, 3) := by decide +kernel
theorem dX12_ahead_86 : decode cX12_ahead 86 = .ok (.iload_n 2, 1) := by decide +kernel
theorem dX12_ahead_87 : decode cX12_ahead 87 = .ok (.iconst 1, 1) := by decide +kernel
theorem dX12_ahead_88 : decode cX12_ahead 88 = .ok (.if_icmp .ne 8, 3) := by decide +kernel
theorem dX12_ahead_91 : decode cX12_ahead 91 = .ok (.bipush 16, 2) := by decide +kernel
theorem dX12_ahead_93 : decode cX12_ahead 93 = .ok (.goto 5, 3) := by decide +kernel
theorem dX12_ahead_96 : decode cX12_ahead 96 = .ok (.bipush 32, 2) := by decide +kernel
theorem dX12_ahead_98 : decode cX12_ahead 98 = .ok (.invokevirtual 321, 3) := by decide +kernel
theorem dX12_ahead_101 : decode cX12_ahead 101 = .ok (.ireturn, 1) := by decide +kernel
theorem dX12_wintersBy_0 : decode cX12_wintersBy 0 = .ok (.aload_n 0, 1) := by decide +kernel
theorem dX12_wintersBy_1 : decode cX12_wintersBy 1 = .ok (.invokevirtual 333, 3) := by decide +kernel
theorem dX12_wintersBy_4 : decode cX12_wintersBy 4 = .ok (.aload_n 0, 1) := by decide +kernel
theorem dX12_wintersBy_5 : decode cX12_wintersBy 5 = .ok (.iload_n 1, 1) := by decide +kernel
theorem dX12_wintersBy_6 : decode cX12_wintersBy 6 = .ok (.putfield 369, 3) := by decide +kernel
theorem dX12_wintersBy_9 : decode cX12_wintersBy 9 = .ok (.aload_n 0, 1) := by decide +kernel
theorem dX12_wintersBy_10 : decode cX12_wintersBy 10 = .ok (.iconst 0, 1) := by decide +kernel
theorem dX12_wintersBy_11 : decode cX12_wintersBy 11 = .ok (.putfield 372, 3) := by decide +kernel
theorem dX12_wintersBy_14 : decode cX12_wintersBy 14 = .ok (.iconst 0, 1) := by decide +kernel
theorem dX12_wintersBy_15 : decode cX12_wintersBy 15 = .ok (.istore 4, 2) := by decide +kernel
theorem dX12_wintersBy_17 : decode cX12_wintersBy 17 = .ok (.iload 4, 2) := by decide +kernel
theorem dX12_wintersBy_19 : decode cX12_wintersBy 19 = .ok (.iload_n 3, 1) := by decide +kernel
theorem dX12_wintersBy_20 : decode cX12_wintersBy 20 = .ok (.if_icmp .ge 114, 3) := by decide +kernel
theorem dX12_wintersBy_23 : decode cX12_wintersBy 23 = .ok (.aload_n 0, 1) := by decide +kernel
theorem dX12_wintersBy_24 : decode cX12_wintersBy 24 = .ok (.iconst 0, 1) := by decide +kernel
theorem dX12_wintersBy_25 : decode cX12_wintersBy 25 = .ok (.putfield 280, 3) := by decide +kernel
theorem dX12_wintersBy_28 : decode cX12_wintersBy 28 = .ok (.iconst 0, 1) := by decide +kernel
theorem dX12_wintersBy_29 : decode cX12_wintersBy 29 = .ok (.istore 5, 2) := by decide +kernel
theorem dX12_wintersBy_31 : decode cX12_wintersBy 31 = .ok (.iload 5, 2) := by decide +kernel
theorem dX12_wintersBy_33 : decode cX12_wintersBy 33 = .ok (.aload_n 0, 1) := by decide +kernel
theorem dX12_wintersBy_34 : decode cX12_wintersBy 34 = .ok (.getfield 23, 3) := by decide +kernel
theorem dX12_wintersBy_37 : decode cX12_wintersBy 37 = .ok (.iconst 0, 1) := by decide +kernel
theorem dX12_wintersBy_38 : decode cX12_wintersBy 38 = .ok (.iaload, 1) := by decide +kernel
theorem dX12_wintersBy_39 : decode cX12_wintersBy 39 = .ok (.if_icmp .ge 56, 3) := by decide +kernel
theorem dX12_wintersBy_42 : decode cX12_wintersBy 42 = .ok (.aload_n 0, 1) := by decide +kernel
theorem dX12_wintersBy_43 : decode cX12_wintersBy 43 = .ok (.aload_n 0, 1) := by decide +kernel
theorem dX12_wintersBy_44 : decode cX12_wintersBy 44 = .ok (.getfield 369, 3) := by decide +kernel
theorem dX12_wintersBy_47 : decode cX12_wintersBy 47 = .ok (.ldc_w 375, 3) := by decide +kernel
theorem dX12_wintersBy_50 : decode cX12_wintersBy 50 = .ok (.imul, 1) := by decide +kernel
theorem dX12_wintersBy_51 : decode cX12_wintersBy 51 = .ok (.sipush 12345, 3) := by decide +kernel
theorem dX12_wintersBy_54 : decode cX12_wintersBy 54 = .ok (.iadd, 1) := by decide +kernel
theorem dX12_wintersBy_55 : decode cX12_wintersBy 55 = .ok (.putfield 369, 3) := by decide +kernel
theorem dX12_wintersBy_58 : decode cX12_wintersBy 58 = .ok (.aload_n 0, 1) := by decide +kernel
theorem dX12_wintersBy_59 : decode cX12_wintersBy 59 = .ok (.dup, 1) := by decide +kernel
theorem dX12_wintersBy_60 : decode cX12_wintersBy 60 = .ok (.getfield 280, 3) := by decide +kernel
theorem dX12_wintersBy_63 : decode cX12_wintersBy 63 = .ok (.aload_n 0, 1) := by decide +kernel
theorem dX12_wintersBy_64 : decode cX12_wintersBy 64 = .ok (.getfield 369, 3) := by decide +kernel
theorem dX12_wintersBy_67 : decode cX12_wintersBy 67 = .ok (.bipush 16, 2) := by decide +kernel
theorem dX12_wintersBy_69 : decode cX12_wintersBy 69 = .ok (.ishr, 1) := by decide +kernel
theorem dX12_wintersBy_70 : decode cX12_wintersBy 70 = .ok (.bipush 15, 2) := by decide +kernel
theorem dX12_wintersBy_72 : decode cX12_wintersBy 72 = .ok (.iand, 1) := by decide +kernel
theorem dX12_wintersBy_73 : decode cX12_wintersBy 73 = .ok (.iload_n 2, 1) := by decide +kernel
theorem dX12_wintersBy_74 : decode cX12_wintersBy 74 = .ok (.if_icmp .ge 10, 3) := by decide +kernel
theorem dX12_wintersBy_77 : decode cX12_wintersBy 77 = .ok (.iconst 1, 1) := by decide +kernel
theorem dX12_wintersBy_78 : decode cX12_wintersBy 78 = .ok (.iload 5, 2) := by decide +kernel
theorem dX12_wintersBy_80 : decode cX12_wintersBy 80 = .ok (.ishl, 1) := by decide +kernel
theorem dX12_wintersBy_81 : decode cX12_wintersBy 81 = .ok (.goto 4, 3) := by decide +kernel
theorem dX12_wintersBy_84 : decode cX12_wintersBy 84 = .ok (.iconst 0, 1) := by decide +kernel
theorem dX12_wintersBy_85 : decode cX12_wintersBy 85 = .ok (.ior, 1) := by decide +kernel
theorem dX12_wintersBy_86 : decode cX12_wintersBy 86 = .ok (.putfield 280, 3) := by decide +kernel
theorem dX12_wintersBy_89 : decode cX12_wintersBy 89 = .ok (.iinc 5 1, 3) := by decide +kernel
theorem dX12_wintersBy_92 : decode cX12_wintersBy 92 = .ok (.goto (-61), 3) := by decide +kernel
theorem dX12_wintersBy_95 : decode cX12_wintersBy 95 = .ok (.aload_n 0, 1) := by decide +kernel
theorem dX12_wintersBy_96 : decode cX12_wintersBy 96 = .ok (.dup, 1) := by decide +kernel
theorem dX12_wintersBy_97 : decode cX12_wintersBy 97 = .ok (.getfield 372, 3) := by decide +kernel
theorem dX12_wintersBy_100 : decode cX12_wintersBy 100 = .ok (.aload_n 0, 1) := by decide +kernel
theorem dX12_wintersBy_101 : decode cX12_wintersBy 101 = .ok (.aload_n 0, 1) := by decide +kernel
theorem dX12_wintersBy_102 : decode cX12_wintersBy 102 = .ok (.getfield 70, 3) := by decide +kernel
theorem dX12_wintersBy_105 : decode cX12_wintersBy 105 = .ok (.invokevirtual 276, 3) := by decide +kernel
theorem dX12_wintersBy_108 : decode cX12_wintersBy 108 = .ok (.aload_n 0, 1) := by decide +kernel
theorem dX12_wintersBy_109 : decode cX12_wintersBy 109 = .ok (.getfield 280, 3) := by decide +kernel
theorem dX12_wintersBy_112 : decode cX12_wintersBy 112 = .ok (.iand, 1) := by decide +kernel
theorem dX12_wintersBy_113 : decode cX12_wintersBy 113 = .ok (.invokestatic 318, 3) := by decide +kernel
theorem dX12_wintersBy_116 : decode cX12_wintersBy 116 = .ok (.iadd, 1) := by decide +kernel
theorem dX12_wintersBy_117 : decode cX12_wintersBy 117 = .ok (.putfield 372, 3) := by decide +kernel
theorem dX12_wintersBy_120 : decode cX12_wintersBy 120 = .ok (.aload_n 0, 1) := by decide +kernel
theorem dX12_wintersBy_121 : decode cX12_wintersBy 121 = .ok (.aload_n 0, 1) := by decide +kernel
theorem dX12_wintersBy_122 : decode cX12_wintersBy 122 = .ok (.getfield 70, 3) := by decide +kernel
theorem dX12_wintersBy_125 : decode cX12_wintersBy 125 = .ok (.invokevirtual 297, 3) := by decide +kernel
theorem dX12_wintersBy_128 : decode cX12_wintersBy 128 = .ok (.iinc 4 1, 3) := by decide +kernel
theorem dX12_wintersBy_131 : decode cX12_wintersBy 131 = .ok (.goto (-114), 3) := by decide +kernel
theorem dX12_wintersBy_134 : decode cX12_wintersBy 134 = .ok (.aload_n 0, 1) := by decide +kernel
theorem dX12_wintersBy_135 : decode cX12_wintersBy 135 = .ok (.iconst 0, 1) := by decide +kernel
theorem dX12_wintersBy_136 : decode cX12_wintersBy 136 = .ok (.putfield 280, 3) := by decide +kernel
theorem dX12_wintersBy_139 : decode cX12_wintersBy 139 = .ok (.return_, 1) := by decide +kernel
theorem dX12_isWinter_0 : decode cX12_isWinter 0 = .ok (.iload_n 0, 1) := by decide +kernel
theorem dX12_isWinter_1 : decode cX12_isWinter 1 = .ok (.iconst 0, 1) := by decide +kernel
theorem dX12_isWinter_2 : decode cX12_isWinter 2 = .ok (.bipush 16, 2) := by decide +kernel
theorem dX12_isWinter_4 : decode cX12_isWinter 4 = .ok (.invokestatic 137, 3) := by decide +kernel
theorem dX12_isWinter_7 : decode cX12_isWinter 7 = .ok (.ifCond .eq 18, 3) := by decide +kernel
theorem dX12_isWinter_10 : decode cX12_isWinter 10 = .ok (.iload_n 1, 1) := by decide +kernel
theorem dX12_isWinter_11 : decode cX12_isWinter 11 = .ok (.iconst 1, 1) := by decide +kernel
theorem dX12_isWinter_12 : decode cX12_isWinter 12 = .ok (.sipush 240, 3) := by decide +kernel
theorem dX12_isWinter_15 : decode cX12_isWinter 15 = .ok (.invokestatic 137, 3) := by decide +kernel
theorem dX12_isWinter_18 : decode cX12_isWinter 18 = .ok (.ifCond .eq 7, 3) := by decide +kernel
theorem dX12_isWinter_21 : decode cX12_isWinter 21 = .ok (.iconst 1, 1) := by decide +kernel
theorem dX12_isWinter_22 : decode cX12_isWinter 22 = .ok (.goto 4, 3) := by decide +kernel
theorem dX12_isWinter_25 : decode cX12_isWinter 25 = .ok (.iconst 0, 1) := by decide +kernel
theorem dX12_isWinter_26 : decode cX12_isWinter 26 = .ok (.ireturn, 1) := by decide +kernel
theorem dX12_winters_0 : decode cX12_winters 0 = .ok (.aload_n 0, 1) := by decide +kernel
theorem dX12_winters_1 : decode cX12_winters 1 = .ok (.iconst 0, 1) := by decide +kernel
theorem dX12_winters_2 : decode cX12_winters 2 = .ok (.putfield 103, 3) := by decide +kernel
theorem dX12_winters_5 : decode cX12_winters 5 = .ok (.aload_n 0, 1) := by decide +kernel
theorem dX12_winters_6 : decode cX12_winters 6 = .ok (.iload_n 2, 1) := by decide +kernel
theorem dX12_winters_7 : decode cX12_winters 7 = .ok (.iload_n 3, 1) := by decide +kernel
theorem dX12_winters_8 : decode cX12_winters 8 = .ok (.invokestatic 376, 3) := by decide +kernel
theorem dX12_winters_11 : decode cX12_winters 11 = .ok (.ifCond .eq 13, 3) := by decide +kernel
theorem dX12_winters_14 : decode cX12_winters 14 = .ok (.iload 4, 2) := by decide +kernel
theorem dX12_winters_16 : decode cX12_winters 16 = .ok (.iconst 0, 1) := by decide +kernel
theorem dX12_winters_17 : decode cX12_winters 17 = .ok (.iconst 3, 1) := by decide +kernel
theorem dX12_winters_18 : decode cX12_winters 18 = .ok (.invokestatic 137, 3) := by decide +kernel
theorem dX12_winters_21 : decode cX12_winters 21 = .ok (.ifCond .ne 7, 3) := by decide +kernel
theorem dX12_winters_24 : decode cX12_winters 24 = .ok (.iconst 1, 1) := by decide +kernel
theorem dX12_winters_25 : decode cX12_winters 25 = .ok (.goto 4, 3) := by decide +kernel
theorem dX12_winters_28 : decode cX12_winters 28 = .ok (.iconst 0, 1) := by decide +kernel
theorem dX12_winters_29 : decode cX12_winters 29 = .ok (.iconst 1, 1) := by decide +kernel
theorem dX12_winters_30 : decode cX12_winters 30 = .ok (.iconst 1, 1) := by decide +kernel
theorem dX12_winters_31 : decode cX12_winters 31 = .ok (.invokevirtual 179, 3) := by decide +kernel
theorem dX12_winters_34 : decode cX12_winters 34 = .ok (.ifCond .eq 5, 3) := by decide +kernel
theorem dX12_winters_37 : decode cX12_winters 37 = .ok (.iconst 0, 1) := by decide +kernel
theorem dX12_winters_38 : decode cX12_winters 38 = .ok (.ireturn, 1) := by decide +kernel
theorem dX12_winters_39 : decode cX12_winters 39 = .ok (.aload_n 0, 1) := by decide +kernel
theorem dX12_winters_40 : decode cX12_winters 40 = .ok (.iload_n 1, 1) := by decide +kernel
theorem dX12_winters_41 : decode cX12_winters 41 = .ok (.iload_n 2, 1) := by decide +kernel
theorem dX12_winters_42 : decode cX12_winters 42 = .ok (.iload_n 3, 1) := by decide +kernel
theorem dX12_winters_43 : decode cX12_winters 43 = .ok (.invokevirtual 379, 3) := by decide +kernel
theorem dX12_winters_46 : decode cX12_winters 46 = .ok (.iload 4, 2) := by decide +kernel
theorem dX12_winters_48 : decode cX12_winters 48 = .ok (.tableswitch 64 0 2 #[28, 37, 59], 28) := by decide +kernel
theorem dX12_winters_76 : decode cX12_winters 76 = .ok (.aload_n 0, 1) := by decide +kernel
theorem dX12_winters_77 : decode cX12_winters 77 = .ok (.aload_n 0, 1) := by decide +kernel
theorem dX12_winters_78 : decode cX12_winters 78 = .ok (.getfield 70, 3) := by decide +kernel
theorem dX12_winters_81 : decode cX12_winters 81 = .ok (.invokevirtual 324, 3) := by decide +kernel
theorem dX12_winters_84 : decode cX12_winters 84 = .ok (.ireturn, 1) := by decide +kernel
theorem dX12_winters_85 : decode cX12_winters 85 = .ok (.aload_n 0, 1) := by decide +kernel
theorem dX12_winters_86 : decode cX12_winters 86 = .ok (.aload_n 0, 1) := by decide +kernel
theorem dX12_winters_87 : decode cX12_winters 87 = .ok (.getfield 70, 3) := by decide +kernel
theorem dX12_winters_90 : decode cX12_winters 90 = .ok (.bipush 32, 2) := by decide +kernel
theorem dX12_winters_92 : decode cX12_winters 92 = .ok (.invokevirtual 321, 3) := by decide +kernel
theorem dX12_winters_95 : decode cX12_winters 95 = .ok (.aload_n 0, 1) := by decide +kernel
theorem dX12_winters_96 : decode cX12_winters 96 = .ok (.aload_n 0, 1) := by decide +kernel
theorem dX12_winters_97 : decode cX12_winters 97 = .ok (.getfield 67, 3) := by decide +kernel
theorem dX12_winters_100 : decode cX12_winters 100 = .ok (.bipush 32, 2) := by decide +kernel
theorem dX12_winters_102 : decode cX12_winters 102 = .ok (.invokevirtual 321, 3) := by decide +kernel
theorem dX12_winters_105 : decode cX12_winters 105 = .ok (.isub, 1) := by decide +kernel
theorem dX12_winters_106 : decode cX12_winters 106 = .ok (.ireturn, 1) := by decide +kernel
theorem dX12_winters_107 : decode cX12_winters 107 = .ok (.aload_n 0, 1) := by decide +kernel
theorem dX12_winters_108 : decode cX12_winters 108 = .ok (.getfield 372, 3) := by decide +kernel
theorem dX12_winters_111 : decode cX12_winters 111 = .ok (.ireturn, 1) := by decide +kernel
theorem dX12_winters_112 : decode cX12_winters 112 = .ok (.aload_n 0, 1) := by decide +kernel
theorem dX12_winters_113 : decode cX12_winters 113 = .ok (.aload_n 0, 1) := by decide +kernel
theorem dX12_winters_114 : decode cX12_winters 114 = .ok (.getfield 70, 3) := by decide +kernel
theorem dX12_winters_117 : decode cX12_winters 117 = .ok (.bipush 16, 2) := by decide +kernel
theorem dX12_winters_119 : decode cX12_winters 119 = .ok (.invokevirtual 321, 3) := by decide +kernel
theorem dX12_winters_122 : decode cX12_winters 122 = .ok (.aload_n 0, 1) := by decide +kernel
theorem dX12_winters_123 : decode cX12_winters 123 = .ok (.aload_n 0, 1) := by decide +kernel
theorem dX12_winters_124 : decode cX12_winters 124 = .ok (.getfield 67, 3) := by decide +kernel
theorem dX12_winters_127 : decode cX12_winters 127 = .ok (.bipush 16, 2) := by decide +kernel
theorem dX12_winters_129 : decode cX12_winters 129 = .ok (.invokevirtual 321, 3) := by decide +kernel
theorem dX12_winters_132 : decode cX12_winters 132 = .ok (.isub, 1) := by decide +kernel
theorem dX12_winters_133 : decode cX12_winters 133 = .ok (.ireturn, 1) := by decide +kernel
theorem dX12_span_0 : decode cX12_span 0 = .ok (.aload_n 0, 1) := by decide +kernel
theorem dX12_span_1 : decode cX12_span 1 = .ok (.iconst 0, 1) := by decide +kernel
theorem dX12_span_2 : decode cX12_span 2 = .ok (.putfield 103, 3) := by decide +kernel
theorem dX12_span_5 : decode cX12_span 5 = .ok (.aload_n 0, 1) := by decide +kernel
theorem dX12_span_6 : decode cX12_span 6 = .ok (.iload_n 2, 1) := by decide +kernel
theorem dX12_span_7 : decode cX12_span 7 = .ok (.iconst 1, 1) := by decide +kernel
theorem dX12_span_8 : decode cX12_span 8 = .ok (.bipush 20, 2) := by decide +kernel
theorem dX12_span_10 : decode cX12_span 10 = .ok (.invokestatic 137, 3) := by decide +kernel
theorem dX12_span_13 : decode cX12_span 13 = .ok (.ifCond .eq 22, 3) := by decide +kernel
theorem dX12_span_16 : decode cX12_span 16 = .ok (.iload_n 3, 1) := by decide +kernel
theorem dX12_span_17 : decode cX12_span 17 = .ok (.iload 4, 2) := by decide +kernel
theorem dX12_span_19 : decode cX12_span 19 = .ok (.invokestatic 376, 3) := by decide +kernel
theorem dX12_span_22 : decode cX12_span 22 = .ok (.ifCond .eq 13, 3) := by decide +kernel
theorem dX12_span_25 : decode cX12_span 25 = .ok (.iload 5, 2) := by decide +kernel
theorem dX12_span_27 : decode cX12_span 27 = .ok (.iconst 0, 1) := by decide +kernel
theorem dX12_span_28 : decode cX12_span 28 = .ok (.iconst 2, 1) := by decide +kernel
theorem dX12_span_29 : decode cX12_span 29 = .ok (.invokestatic 137, 3) := by decide +kernel
theorem dX12_span_32 : decode cX12_span 32 = .ok (.ifCond .ne 7, 3) := by decide +kernel
theorem dX12_span_35 : decode cX12_span 35 = .ok (.iconst 1, 1) := by decide +kernel
theorem dX12_span_36 : decode cX12_span 36 = .ok (.goto 4, 3) := by decide +kernel
theorem dX12_span_39 : decode cX12_span 39 = .ok (.iconst 0, 1) := by decide +kernel
theorem dX12_span_40 : decode cX12_span 40 = .ok (.iconst 1, 1) := by decide +kernel
theorem dX12_span_41 : decode cX12_span 41 = .ok (.iconst 1, 1) := by decide +kernel
theorem dX12_span_42 : decode cX12_span 42 = .ok (.invokevirtual 179, 3) := by decide +kernel
theorem dX12_span_45 : decode cX12_span 45 = .ok (.ifCond .eq 5, 3) := by decide +kernel
theorem dX12_span_48 : decode cX12_span 48 = .ok (.iconst 0, 1) := by decide +kernel
theorem dX12_span_49 : decode cX12_span 49 = .ok (.ireturn, 1) := by decide +kernel
theorem dX12_span_50 : decode cX12_span 50 = .ok (.iconst (-1), 1) := by decide +kernel
theorem dX12_span_51 : decode cX12_span 51 = .ok (.istore 6, 2) := by decide +kernel
theorem dX12_span_53 : decode cX12_span 53 = .ok (.iconst 0, 1) := by decide +kernel
theorem dX12_span_54 : decode cX12_span 54 = .ok (.istore 7, 2) := by decide +kernel
theorem dX12_span_56 : decode cX12_span 56 = .ok (.iconst 0, 1) := by decide +kernel
theorem dX12_span_57 : decode cX12_span 57 = .ok (.istore 8, 2) := by decide +kernel
theorem dX12_span_59 : decode cX12_span 59 = .ok (.iconst 0, 1) := by decide +kernel
theorem dX12_span_60 : decode cX12_span 60 = .ok (.istore 9, 2) := by decide +kernel
theorem dX12_span_62 : decode cX12_span 62 = .ok (.iload 9, 2) := by decide +kernel
theorem dX12_span_64 : decode cX12_span 64 = .ok (.iload_n 2, 1) := by decide +kernel
theorem dX12_span_65 : decode cX12_span 65 = .ok (.if_icmp .ge 99, 3) := by decide +kernel
theorem dX12_span_68 : decode cX12_span 68 = .ok (.aload_n 0, 1) := by decide +kernel
theorem dX12_span_69 : decode cX12_span 69 = .ok (.iload_n 1, 1) := by decide +kernel
theorem dX12_span_70 : decode cX12_span 70 = .ok (.iload 9, 2) := by decide +kernel
theorem dX12_span_72 : decode cX12_span 72 = .ok (.iadd, 1) := by decide +kernel
theorem dX12_span_73 : decode cX12_span 73 = .ok (.iload_n 3, 1) := by decide +kernel
theorem dX12_span_74 : decode cX12_span 74 = .ok (.iload 4, 2) := by decide +kernel
theorem dX12_span_76 : decode cX12_span 76 = .ok (.invokevirtual 379, 3) := by decide +kernel
theorem dX12_span_79 : decode cX12_span 79 = .ok (.aload_n 0, 1) := by decide +kernel
theorem dX12_span_80 : decode cX12_span 80 = .ok (.aload_n 0, 1) := by decide +kernel
theorem dX12_span_81 : decode cX12_span 81 = .ok (.getfield 70, 3) := by decide +kernel
theorem dX12_span_84 : decode cX12_span 84 = .ok (.bipush 32, 2) := by decide +kernel
theorem dX12_span_86 : decode cX12_span 86 = .ok (.invokevirtual 321, 3) := by decide +kernel
theorem dX12_span_89 : decode cX12_span 89 = .ok (.aload_n 0, 1) := by decide +kernel
theorem dX12_span_90 : decode cX12_span 90 = .ok (.aload_n 0, 1) := by decide +kernel
theorem dX12_span_91 : decode cX12_span 91 = .ok (.getfield 67, 3) := by decide +kernel
theorem dX12_span_94 : decode cX12_span 94 = .ok (.bipush 32, 2) := by decide +kernel
theorem dX12_span_96 : decode cX12_span 96 = .ok (.invokevirtual 321, 3) := by decide +kernel
theorem dX12_span_99 : decode cX12_span 99 = .ok (.isub, 1) := by decide +kernel
theorem dX12_span_100 : decode cX12_span 100 = .ok (.istore 10, 2) := by decide +kernel
theorem dX12_span_102 : decode cX12_span 102 = .ok (.iload 6, 2) := by decide +kernel
theorem dX12_span_104 : decode cX12_span 104 = .ok (.iconst (-1), 1) := by decide +kernel
theorem dX12_span_105 : decode cX12_span 105 = .ok (.if_icmp .ne 8, 3) := by decide +kernel
theorem dX12_span_108 : decode cX12_span 108 = .ok (.iload 10, 2) := by decide +kernel
theorem dX12_span_110 : decode cX12_span 110 = .ok (.goto 10, 3) := by decide +kernel
theorem dX12_span_113 : decode cX12_span 113 = .ok (.iload 6, 2) := by decide +kernel
theorem dX12_span_115 : decode cX12_span 115 = .ok (.iload 10, 2) := by decide +kernel
theorem dX12_span_117 : decode cX12_span 117 = .ok (.invokestatic 239, 3) := by decide +kernel
theorem dX12_span_120 : decode cX12_span 120 = .ok (.istore 6, 2) := by decide +kernel
theorem dX12_span_122 : decode cX12_span 122 = .ok (.iload 7, 2) := by decide +kernel
theorem dX12_span_124 : decode cX12_span 124 = .ok (.iload 10, 2) := by decide +kernel
theorem dX12_span_126 : decode cX12_span 126 = .ok (.invokestatic 242, 3) := by decide +kernel
theorem dX12_span_129 : decode cX12_span 129 = .ok (.istore 7, 2) := by decide +kernel
theorem dX12_span_131 : decode cX12_span 131 = .ok (.iload 8, 2) := by decide +kernel
theorem dX12_span_133 : decode cX12_span 133 = .ok (.aload_n 0, 1) := by decide +kernel
theorem dX12_span_134 : decode cX12_span 134 = .ok (.aload_n 0, 1) := by decide +kernel
theorem dX12_span_135 : decode cX12_span 135 = .ok (.getfield 70, 3) := by decide +kernel
theorem dX12_span_138 : decode cX12_span 138 = .ok (.invokevirtual 324, 3) := by decide +kernel
theorem dX12_span_141 : decode cX12_span 141 = .ok (.aload_n 0, 1) := by decide +kernel
theorem dX12_span_142 : decode cX12_span 142 = .ok (.getfield 23, 3) := by decide +kernel
theorem dX12_span_145 : decode cX12_span 145 = .ok (.iconst 1, 1) := by decide +kernel
theorem dX12_span_146 : decode cX12_span 146 = .ok (.iaload, 1) := by decide +kernel
theorem dX12_span_147 : decode cX12_span 147 = .ok (.if_icmp .ne 7, 3) := by decide +kernel
theorem dX12_span_150 : decode cX12_span 150 = .ok (.iconst 1, 1) := by decide +kernel
theorem dX12_span_151 : decode cX12_span 151 = .ok (.goto 4, 3) := by decide +kernel
theorem dX12_span_154 : decode cX12_span 154 = .ok (.iconst 0, 1) := by decide +kernel
theorem dX12_span_155 : decode cX12_span 155 = .ok (.iadd, 1) := by decide +kernel
theorem dX12_span_156 : decode cX12_span 156 = .ok (.istore 8, 2) := by decide +kernel
theorem dX12_span_158 : decode cX12_span 158 = .ok (.iinc 9 1, 3) := by decide +kernel
theorem dX12_span_161 : decode cX12_span 161 = .ok (.goto (-99), 3) := by decide +kernel
theorem dX12_span_164 : decode cX12_span 164 = .ok (.iload 5, 2) := by decide +kernel
theorem dX12_span_166 : decode cX12_span 166 = .ok (.ifCond .ne 8, 3) := by decide +kernel
theorem dX12_span_169 : decode cX12_span 169 = .ok (.iload 6, 2) := by decide +kernel
theorem dX12_span_171 : decode cX12_span 171 = .ok (.goto 16, 3) := by decide +kernel
theorem dX12_span_174 : decode cX12_span 174 = .ok (.iload 5, 2) := by decide +kernel
theorem dX12_span_176 : decode cX12_span 176 = .ok (.iconst 1, 1) := by decide +kernel
theorem dX12_span_177 : decode cX12_span 177 = .ok (.if_icmp .ne 8, 3) := by decide +kernel
theorem dX12_span_180 : decode cX12_span 180 = .ok (.iload 7, 2) := by decide +kernel
theorem dX12_span_182 : decode cX12_span 182 = .ok (.goto 5, 3) := by decide +kernel
theorem dX12_span_185 : decode cX12_span 185 = .ok (.iload 8, 2) := by decide +kernel
theorem dX12_span_187 : decode cX12_span 187 = .ok (.ireturn, 1) := by decide +kernel
theorem dX12_puts_0 : decode cX12_puts 0 = .ok (.iload_n 3, 1) := by decide +kernel
theorem dX12_puts_1 : decode cX12_puts 1 = .ok (.ifCond .ne 10, 3) := by decide +kernel
theorem dX12_puts_4 : decode cX12_puts 4 = .ok (.aload_n 1, 1) := by decide +kernel
theorem dX12_puts_5 : decode cX12_puts 5 = .ok (.aload_n 0, 1) := by decide +kernel
theorem dX12_puts_6 : decode cX12_puts 6 = .ok (.getfield 383, 3) := by decide +kernel
theorem dX12_puts_9 : decode cX12_puts 9 = .ok (.iload_n 2, 1) := by decide +kernel
theorem dX12_puts_10 : decode cX12_puts 10 = .ok (.iastore, 1) := by decide +kernel
theorem dX12_puts_11 : decode cX12_puts 11 = .ok (.aload_n 0, 1) := by decide +kernel
theorem dX12_puts_12 : decode cX12_puts 12 = .ok (.dup, 1) := by decide +kernel
theorem dX12_puts_13 : decode cX12_puts 13 = .ok (.getfield 383, 3) := by decide +kernel
theorem dX12_puts_16 : decode cX12_puts 16 = .ok (.iconst 1, 1) := by decide +kernel
theorem dX12_puts_17 : decode cX12_puts 17 = .ok (.iadd, 1) := by decide +kernel
theorem dX12_puts_18 : decode cX12_puts 18 = .ok (.putfield 383, 3) := by decide +kernel
theorem dX12_puts_21 : decode cX12_puts 21 = .ok (.aload_n 1, 1) := by decide +kernel
theorem dX12_puts_22 : decode cX12_puts 22 = .ok (.aload_n 0, 1) := by decide +kernel
theorem dX12_puts_23 : decode cX12_puts 23 = .ok (.getfield 383, 3) := by decide +kernel
theorem dX12_puts_26 : decode cX12_puts 26 = .ok (.iconst 1, 1) := by decide +kernel
theorem dX12_puts_27 : decode cX12_puts 27 = .ok (.isub, 1) := by decide +kernel
theorem dX12_puts_28 : decode cX12_puts 28 = .ok (.iaload, 1) := by decide +kernel
theorem dX12_puts_29 : decode cX12_puts 29 = .ok (.ireturn, 1) := by decide +kernel
theorem dX12_putsAll_0 : decode cX12_putsAll 0 = .ok (.aload_n 0, 1) := by decide +kernel
theorem dX12_putsAll_1 : decode cX12_putsAll 1 = .ok (.iconst 0, 1) := by decide +kernel
theorem dX12_putsAll_2 : decode cX12_putsAll 2 = .ok (.putfield 383, 3) := by decide +kernel
theorem dX12_putsAll_5 : decode cX12_putsAll 5 = .ok (.aload_n 0, 1) := by decide +kernel
theorem dX12_putsAll_6 : decode cX12_putsAll 6 = .ok (.aload_n 0, 1) := by decide +kernel
theorem dX12_putsAll_7 : decode cX12_putsAll 7 = .ok (.aload_n 1, 1) := by decide +kernel
theorem dX12_putsAll_8 : decode cX12_putsAll 8 = .ok (.aload_n 0, 1) := by decide +kernel
theorem dX12_putsAll_9 : decode cX12_putsAll 9 = .ok (.getfield 202, 3) := by decide +kernel
theorem dX12_putsAll_12 : decode cX12_putsAll 12 = .ok (.iload_n 2, 1) := by decide +kernel
theorem dX12_putsAll_13 : decode cX12_putsAll 13 = .ok (.invokevirtual 386, 3) := by decide +kernel
theorem dX12_putsAll_16 : decode cX12_putsAll 16 = .ok (.putfield 202, 3) := by decide +kernel
theorem dX12_putsAll_19 : decode cX12_putsAll 19 = .ok (.iconst 0, 1) := by decide +kernel
theorem dX12_putsAll_20 : decode cX12_putsAll 20 = .ok (.istore_n 3, 1) := by decide +kernel
theorem dX12_putsAll_21 : decode cX12_putsAll 21 = .ok (.iload_n 3, 1) := by decide +kernel
theorem dX12_putsAll_22 : decode cX12_putsAll 22 = .ok (.bipush 66, 2) := by decide +kernel
theorem dX12_putsAll_24 : decode cX12_putsAll 24 = .ok (.if_icmp .ge 27, 3) := by decide +kernel
theorem dX12_putsAll_27 : decode cX12_putsAll 27 = .ok (.aload_n 0, 1) := by decide +kernel
theorem dX12_putsAll_28 : decode cX12_putsAll 28 = .ok (.getfield 67, 3) := by decide +kernel
theorem dX12_putsAll_31 : decode cX12_putsAll 31 = .ok (.iload_n 3, 1) := by decide +kernel
theorem dX12_putsAll_32 : decode cX12_putsAll 32 = .ok (.aload_n 0, 1) := by decide +kernel
theorem dX12_putsAll_33 : decode cX12_putsAll 33 = .ok (.aload_n 1, 1) := by decide +kernel
theorem dX12_putsAll_34 : decode cX12_putsAll 34 = .ok (.aload_n 0, 1) := by decide +kernel
theorem dX12_putsAll_35 : decode cX12_putsAll 35 = .ok (.getfield 67, 3) := by decide +kernel
theorem dX12_putsAll_38 : decode cX12_putsAll 38 = .ok (.iload_n 3, 1) := by decide +kernel
theorem dX12_putsAll_39 : decode cX12_putsAll 39 = .ok (.iaload, 1) := by decide +kernel
theorem dX12_putsAll_40 : decode cX12_putsAll 40 = .ok (.iload_n 2, 1) := by decide +kernel
theorem dX12_putsAll_41 : decode cX12_putsAll 41 = .ok (.invokevirtual 386, 3) := by decide +kernel
theorem dX12_putsAll_44 : decode cX12_putsAll 44 = .ok (.iastore, 1) := by decide +kernel
theorem dX12_putsAll_45 : decode cX12_putsAll 45 = .ok (.iinc 3 1, 3) := by decide +kernel
theorem dX12_putsAll_48 : decode cX12_putsAll 48 = .ok (.goto (-27), 3) := by decide +kernel
theorem dX12_putsAll_51 : decode cX12_putsAll 51 = .ok (.iconst 0, 1) := by decide +kernel
theorem dX12_putsAll_52 : decode cX12_putsAll 52 = .ok (.istore_n 3, 1) := by decide +kernel
theorem dX12_putsAll_53 : decode cX12_putsAll 53 = .ok (.iload_n 3, 1) := by decide +kernel
theorem dX12_putsAll_54 : decode cX12_putsAll 54 = .ok (.bipush 16, 2) := by decide +kernel
theorem dX12_putsAll_56 : decode cX12_putsAll 56 = .ok (.if_icmp .ge 49, 3) := by decide +kernel
theorem dX12_putsAll_59 : decode cX12_putsAll 59 = .ok (.iconst 0, 1) := by decide +kernel
theorem dX12_putsAll_60 : decode cX12_putsAll 60 = .ok (.istore 4, 2) := by decide +kernel
theorem dX12_putsAll_62 : decode cX12_putsAll 62 = .ok (.iload 4, 2) := by decide +kernel
theorem dX12_putsAll_64 : decode cX12_putsAll 64 = .ok (.bipush 66, 2) := by decide +kernel
theorem dX12_putsAll_66 : decode cX12_putsAll 66 = .ok (.if_icmp .ge 33, 3) := by decide +kernel
theorem dX12_putsAll_69 : decode cX12_putsAll 69 = .ok (.aload_n 0, 1) := by decide +kernel
theorem dX12_putsAll_70 : decode cX12_putsAll 70 = .ok (.getfield 76, 3) := by decide +kernel
theorem dX12_putsAll_73 : decode cX12_putsAll 73 = .ok (.iload_n 3, 1) := by decide +kernel
theorem dX12_putsAll_74 : decode cX12_putsAll 74 = .ok (.aaload, 1) := by decide +kernel
theorem dX12_putsAll_75 : decode cX12_putsAll 75 = .ok (.iload 4, 2) := by decide +kernel
theorem dX12_putsAll_77 : decode cX12_putsAll 77 = .ok (.aload_n 0, 1) := by decide +kernel
theorem dX12_putsAll_78 : decode cX12_putsAll 78 = .ok (.aload_n 1, 1) := by decide +kernel
theorem dX12_putsAll_79 : decode cX12_putsAll 79 = .ok (.aload_n 0, 1) := by decide +kernel
theorem dX12_putsAll_80 : decode cX12_putsAll 80 = .ok (.getfield 76, 3) := by decide +kernel
theorem dX12_putsAll_83 : decode cX12_putsAll 83 = .ok (.iload_n 3, 1) := by decide +kernel
theorem dX12_putsAll_84 : decode cX12_putsAll 84 = .ok (.aaload, 1) := by decide +kernel
theorem dX12_putsAll_85 : decode cX12_putsAll 85 = .ok (.iload 4, 2) := by decide +kernel
theorem dX12_putsAll_87 : decode cX12_putsAll 87 = .ok (.iaload, 1) := by decide +kernel
theorem dX12_putsAll_88 : decode cX12_putsAll 88 = .ok (.iload_n 2, 1) := by decide +kernel
theorem dX12_putsAll_89 : decode cX12_putsAll 89 = .ok (.invokevirtual 386, 3) := by decide +kernel
theorem dX12_putsAll_92 : decode cX12_putsAll 92 = .ok (.iastore, 1) := by decide +kernel
theorem dX12_putsAll_93 : decode cX12_putsAll 93 = .ok (.iinc 4 1, 3) := by decide +kernel
theorem dX12_putsAll_96 : decode cX12_putsAll 96 = .ok (.goto (-34), 3) := by decide +kernel
theorem dX12_putsAll_99 : decode cX12_putsAll 99 = .ok (.iinc 3 1, 3) := by decide +kernel
theorem dX12_putsAll_102 : decode cX12_putsAll 102 = .ok (.goto (-49), 3) := by decide +kernel
theorem dX12_putsAll_105 : decode cX12_putsAll 105 = .ok (.return_, 1) := by decide +kernel
theorem dX12_image_0 : decode cX12_image 0 = .ok (.aload_n 0, 1) := by decide +kernel
theorem dX12_image_1 : decode cX12_image 1 = .ok (.iconst 0, 1) := by decide +kernel
theorem dX12_image_2 : decode cX12_image 2 = .ok (.putfield 103, 3) := by decide +kernel
theorem dX12_image_5 : decode cX12_image 5 = .ok (.aload_n 0, 1) := by decide +kernel
theorem dX12_image_6 : decode cX12_image 6 = .ok (.getfield 208, 3) := by decide +kernel
theorem dX12_image_9 : decode cX12_image 9 = .ok (.iconst 3, 1) := by decide +kernel
theorem dX12_image_10 : decode cX12_image 10 = .ok (.if_icmp .ne 5, 3) := by decide +kernel
theorem dX12_image_13 : decode cX12_image 13 = .ok (.iconst (-1), 1) := by decide +kernel
theorem dX12_image_14 : decode cX12_image 14 = .ok (.ireturn, 1) := by decide +kernel
theorem dX12_image_15 : decode cX12_image 15 = .ok (.aload_n 0, 1) := by decide +kernel
theorem dX12_image_16 : decode cX12_image 16 = .ok (.aload_n 0, 1) := by decide +kernel
theorem dX12_image_17 : decode cX12_image 17 = .ok (.getfield 79, 3) := by decide +kernel
theorem dX12_image_20 : decode cX12_image 20 = .ok (.aload_n 0, 1) := by decide +kernel
theorem dX12_image_21 : decode cX12_image 21 = .ok (.getfield 208, 3) := by decide +kernel
theorem dX12_image_24 : decode cX12_image 24 = .ok (.aaload, 1) := by decide +kernel
theorem dX12_image_25 : decode cX12_image 25 = .ok (.iconst 0, 1) := by decide +kernel
theorem dX12_image_26 : decode cX12_image 26 = .ok (.invokevirtual 390, 3) := by decide +kernel
theorem dX12_image_29 : decode cX12_image 29 = .ok (.aload_n 0, 1) := by decide +kernel
theorem dX12_image_30 : decode cX12_image 30 = .ok (.dup, 1) := by decide +kernel
theorem dX12_image_31 : decode cX12_image 31 = .ok (.getfield 208, 3) := by decide +kernel
theorem dX12_image_34 : decode cX12_image 34 = .ok (.iconst 1, 1) := by decide +kernel
theorem dX12_image_35 : decode cX12_image 35 = .ok (.iadd, 1) := by decide +kernel
theorem dX12_image_36 : decode cX12_image 36 = .ok (.putfield 208, 3) := by decide +kernel
theorem dX12_image_39 : decode cX12_image 39 = .ok (.aload_n 0, 1) := by decide +kernel
theorem dX12_image_40 : decode cX12_image 40 = .ok (.getfield 208, 3) := by decide +kernel
theorem dX12_image_43 : decode cX12_image 43 = .ok (.ireturn, 1) := by decide +kernel
theorem dX12_restore_0 : decode cX12_restore 0 = .ok (.aload_n 0, 1) := by decide +kernel
theorem dX12_restore_1 : decode cX12_restore 1 = .ok (.iconst 0, 1) := by decide +kernel
theorem dX12_restore_2 : decode cX12_restore 2 = .ok (.putfield 103, 3) := by decide +kernel
theorem dX12_restore_5 : decode cX12_restore 5 = .ok (.aload_n 0, 1) := by decide +kernel
theorem dX12_restore_6 : decode cX12_restore 6 = .ok (.getfield 208, 3) := by decide +kernel
theorem dX12_restore_9 : decode cX12_restore 9 = .ok (.ifCond .ne 5, 3) := by decide +kernel
theorem dX12_restore_12 : decode cX12_restore 12 = .ok (.iconst (-1), 1) := by decide +kernel
theorem dX12_restore_13 : decode cX12_restore 13 = .ok (.ireturn, 1) := by decide +kernel
theorem dX12_restore_14 : decode cX12_restore 14 = .ok (.aload_n 0, 1) := by decide +kernel
theorem dX12_restore_15 : decode cX12_restore 15 = .ok (.dup, 1) := by decide +kernel
theorem dX12_restore_16 : decode cX12_restore 16 = .ok (.getfield 208, 3) := by decide +kernel
theorem dX12_restore_19 : decode cX12_restore 19 = .ok (.iconst 1, 1) := by decide +kernel
theorem dX12_restore_20 : decode cX12_restore 20 = .ok (.isub, 1) := by decide +kernel
theorem dX12_restore_21 : decode cX12_restore 21 = .ok (.putfield 208, 3) := by decide +kernel
theorem dX12_restore_24 : decode cX12_restore 24 = .ok (.aload_n 0, 1) := by decide +kernel
theorem dX12_restore_25 : decode cX12_restore 25 = .ok (.aload_n 0, 1) := by decide +kernel
theorem dX12_restore_26 : decode cX12_restore 26 = .ok (.getfield 79, 3) := by decide +kernel
theorem dX12_restore_29 : decode cX12_restore 29 = .ok (.aload_n 0, 1) := by decide +kernel
theorem dX12_restore_30 : decode cX12_restore 30 = .ok (.getfield 208, 3) := by decide +kernel
theorem dX12_restore_33 : decode cX12_restore 33 = .ok (.aaload, 1) := by decide +kernel
theorem dX12_restore_34 : decode cX12_restore 34 = .ok (.iconst 1, 1) := by decide +kernel
theorem dX12_restore_35 : decode cX12_restore 35 = .ok (.invokevirtual 390, 3) := by decide +kernel
theorem dX12_restore_38 : decode cX12_restore 38 = .ok (.aload_n 0, 1) := by decide +kernel
theorem dX12_restore_39 : decode cX12_restore 39 = .ok (.iconst 0, 1) := by decide +kernel
theorem dX12_restore_40 : decode cX12_restore 40 = .ok (.putfield 205, 3) := by decide +kernel
theorem dX12_restore_43 : decode cX12_restore 43 = .ok (.aload_n 0, 1) := by decide +kernel
theorem dX12_restore_44 : decode cX12_restore 44 = .ok (.getfield 208, 3) := by decide +kernel
theorem dX12_restore_47 : decode cX12_restore 47 = .ok (.ireturn, 1) := by decide +kernel
theorem dX12_status_0 : decode cX12_status 0 = .ok (.aload_n 0, 1) := by decide +kernel
theorem dX12_status_1 : decode cX12_status 1 = .ok (.iconst 0, 1) := by decide +kernel
theorem dX12_status_2 : decode cX12_status 2 = .ok (.putfield 103, 3) := by decide +kernel
theorem dX12_status_5 : decode cX12_status 5 = .ok (.iload_n 1, 1) := by decide +kernel
theorem dX12_status_6 : decode cX12_status 6 = .ok (.iconst 0, 1) := by decide +kernel
theorem dX12_status_7 : decode cX12_status 7 = .ok (.iconst 1, 1) := by decide +kernel
theorem dX12_status_8 : decode cX12_status 8 = .ok (.invokestatic 137, 3) := by decide +kernel
theorem dX12_status_11 : decode cX12_status 11 = .ok (.ifCond .eq 12, 3) := by decide +kernel
theorem dX12_status_14 : decode cX12_status 14 = .ok (.aload_n 0, 1) := by decide +kernel
theorem dX12_status_15 : decode cX12_status 15 = .ok (.getfield 17, 3) := by decide +kernel
theorem dX12_status_18 : decode cX12_status 18 = .ok (.iload_n 1, 1) := by decide +kernel
theorem dX12_status_19 : decode cX12_status 19 = .ok (.iaload, 1) := by decide +kernel
theorem dX12_status_20 : decode cX12_status 20 = .ok (.goto 4, 3) := by decide +kernel
theorem dX12_status_23 : decode cX12_status 23 = .ok (.iconst (-1), 1) := by decide +kernel
theorem dX12_status_24 : decode cX12_status 24 = .ok (.ireturn, 1) := by decide +kernel
theorem dX12_count_0 : decode cX12_count 0 = .ok (.aload_n 0, 1) := by decide +kernel
theorem dX12_count_1 : decode cX12_count 1 = .ok (.iconst 0, 1) := by decide +kernel
theorem dX12_count_2 : decode cX12_count 2 = .ok (.putfield 103, 3) := by decide +kernel
theorem dX12_count_5 : decode cX12_count 5 = .ok (.iload_n 1, 1) := by decide +kernel
theorem dX12_count_6 : decode cX12_count 6 = .ok (.ifCond .ne 10, 3) := by decide +kernel
theorem dX12_count_9 : decode cX12_count 9 = .ok (.aload_n 0, 1) := by decide +kernel
theorem dX12_count_10 : decode cX12_count 10 = .ok (.getfield 208, 3) := by decide +kernel
theorem dX12_count_13 : decode cX12_count 13 = .ok (.goto 28, 3) := by decide +kernel
theorem dX12_count_16 : decode cX12_count 16 = .ok (.iload_n 1, 1) := by decide +kernel
theorem dX12_count_17 : decode cX12_count 17 = .ok (.iconst 1, 1) := by decide +kernel
theorem dX12_count_18 : decode cX12_count 18 = .ok (.if_icmp .ne 10, 3) := by decide +kernel
theorem dX12_count_21 : decode cX12_count 21 = .ok (.aload_n 0, 1) := by decide +kernel
theorem dX12_count_22 : decode cX12_count 22 = .ok (.getfield 106, 3) := by decide +kernel
theorem dX12_count_25 : decode cX12_count 25 = .ok (.goto 16, 3) := by decide +kernel
theorem dX12_count_28 : decode cX12_count 28 = .ok (.iload_n 1, 1) := by decide +kernel
theorem dX12_count_29 : decode cX12_count 29 = .ok (.iconst 2, 1) := by decide +kernel
theorem dX12_count_30 : decode cX12_count 30 = .ok (.if_icmp .ne 10, 3) := by decide +kernel
theorem dX12_count_33 : decode cX12_count 33 = .ok (.aload_n 0, 1) := by decide +kernel
theorem dX12_count_34 : decode cX12_count 34 = .ok (.getfield 202, 3) := by decide +kernel
theorem dX12_count_37 : decode cX12_count 37 = .ok (.goto 4, 3) := by decide +kernel
theorem dX12_count_40 : decode cX12_count 40 = .ok (.iconst (-1), 1) := by decide +kernel
theorem dX12_count_41 : decode cX12_count 41 = .ok (.ireturn, 1) := by decide +kernel
theorem dJ6_bitCount_0f7a4_0 : decode cJ6_bitCount_0f7a4 0 = .ok (.iload_n 0, 1) := by decide +kernel
theorem dJ6_bitCount_0f7a4_1 : decode cJ6_bitCount_0f7a4 1 = .ok (.iload_n 0, 1) := by decide +kernel
theorem dJ6_bitCount_0f7a4_2 : decode cJ6_bitCount_0f7a4 2 = .ok (.iconst 1, 1) := by decide +kernel
theorem dJ6_bitCount_0f7a4_3 : decode cJ6_bitCount_0f7a4 3 = .ok (.iushr, 1) := by decide +kernel
theorem dJ6_bitCount_0f7a4_4 : decode cJ6_bitCount_0f7a4 4 = .ok (.ldc_w 265, 3) := by decide +kernel
theorem dJ6_bitCount_0f7a4_7 : decode cJ6_bitCount_0f7a4 7 = .ok (.iand, 1) := by decide +kernel
theorem dJ6_bitCount_0f7a4_8 : decode cJ6_bitCount_0f7a4 8 = .ok (.isub, 1) := by decide +kernel
theorem dJ6_bitCount_0f7a4_9 : decode cJ6_bitCount_0f7a4 9 = .ok (.istore_n 0, 1) := by decide +kernel
theorem dJ6_bitCount_0f7a4_10 : decode cJ6_bitCount_0f7a4 10 = .ok (.iload_n 0, 1) := by decide +kernel
theorem dJ6_bitCount_0f7a4_11 : decode cJ6_bitCount_0f7a4 11 = .ok (.ldc_w 266, 3) := by decide +kernel
theorem dJ6_bitCount_0f7a4_14 : decode cJ6_bitCount_0f7a4 14 = .ok (.iand, 1) := by decide +kernel
theorem dJ6_bitCount_0f7a4_15 : decode cJ6_bitCount_0f7a4 15 = .ok (.iload_n 0, 1) := by decide +kernel
theorem dJ6_bitCount_0f7a4_16 : decode cJ6_bitCount_0f7a4 16 = .ok (.iconst 2, 1) := by decide +kernel
theorem dJ6_bitCount_0f7a4_17 : decode cJ6_bitCount_0f7a4 17 = .ok (.iushr, 1) := by decide +kernel
theorem dJ6_bitCount_0f7a4_18 : decode cJ6_bitCount_0f7a4 18 = .ok (.ldc_w 266, 3) := by decide +kernel
theorem dJ6_bitCount_0f7a4_21 : decode cJ6_bitCount_0f7a4 21 = .ok (.iand, 1) := by decide +kernel
theorem dJ6_bitCount_0f7a4_22 : decode cJ6_bitCount_0f7a4 22 = .ok (.iadd, 1) := by decide +kernel
theorem dJ6_bitCount_0f7a4_23 : decode cJ6_bitCount_0f7a4 23 = .ok (.istore_n 0, 1) := by decide +kernel
theorem dJ6_bitCount_0f7a4_24 : decode cJ6_bitCount_0f7a4 24 = .ok (.iload_n 0, 1) := by decide +kernel
theorem dJ6_bitCount_0f7a4_25 : decode cJ6_bitCount_0f7a4 25 = .ok (.iload_n 0, 1) := by decide +kernel
theorem dJ6_bitCount_0f7a4_26 : decode cJ6_bitCount_0f7a4 26 = .ok (.iconst 4, 1) := by decide +kernel
theorem dJ6_bitCount_0f7a4_27 : decode cJ6_bitCount_0f7a4 27 = .ok (.iushr, 1) := by decide +kernel
theorem dJ6_bitCount_0f7a4_28 : decode cJ6_bitCount_0f7a4 28 = .ok (.iadd, 1) := by decide +kernel
theorem dJ6_bitCount_0f7a4_29 : decode cJ6_bitCount_0f7a4 29 = .ok (.ldc_w 267, 3) := by decide +kernel
theorem dJ6_bitCount_0f7a4_32 : decode cJ6_bitCount_0f7a4 32 = .ok (.iand, 1) := by decide +kernel
theorem dJ6_bitCount_0f7a4_33 : decode cJ6_bitCount_0f7a4 33 = .ok (.istore_n 0, 1) := by decide +kernel
theorem dJ6_bitCount_0f7a4_34 : decode cJ6_bitCount_0f7a4 34 = .ok (.iload_n 0, 1) := by decide +kernel
theorem dJ6_bitCount_0f7a4_35 : decode cJ6_bitCount_0f7a4 35 = .ok (.iload_n 0, 1) := by decide +kernel
theorem dJ6_bitCount_0f7a4_36 : decode cJ6_bitCount_0f7a4 36 = .ok (.bipush 8, 2) := by decide +kernel
theorem dJ6_bitCount_0f7a4_38 : decode cJ6_bitCount_0f7a4 38 = .ok (.iushr, 1) := by decide +kernel
theorem dJ6_bitCount_0f7a4_39 : decode cJ6_bitCount_0f7a4 39 = .ok (.iadd, 1) := by decide +kernel
theorem dJ6_bitCount_0f7a4_40 : decode cJ6_bitCount_0f7a4 40 = .ok (.istore_n 0, 1) := by decide +kernel
theorem dJ6_bitCount_0f7a4_41 : decode cJ6_bitCount_0f7a4 41 = .ok (.iload_n 0, 1) := by decide +kernel
theorem dJ6_bitCount_0f7a4_42 : decode cJ6_bitCount_0f7a4 42 = .ok (.iload_n 0, 1) := by decide +kernel
theorem dJ6_bitCount_0f7a4_43 : decode cJ6_bitCount_0f7a4 43 = .ok (.bipush 16, 2) := by decide +kernel
theorem dJ6_bitCount_0f7a4_45 : decode cJ6_bitCount_0f7a4 45 = .ok (.iushr, 1) := by decide +kernel
theorem dJ6_bitCount_0f7a4_46 : decode cJ6_bitCount_0f7a4 46 = .ok (.iadd, 1) := by decide +kernel
theorem dJ6_bitCount_0f7a4_47 : decode cJ6_bitCount_0f7a4 47 = .ok (.istore_n 0, 1) := by decide +kernel
theorem dJ6_bitCount_0f7a4_48 : decode cJ6_bitCount_0f7a4 48 = .ok (.iload_n 0, 1) := by decide +kernel
theorem dJ6_bitCount_0f7a4_49 : decode cJ6_bitCount_0f7a4 49 = .ok (.bipush 63, 2) := by decide +kernel
theorem dJ6_bitCount_0f7a4_51 : decode cJ6_bitCount_0f7a4 51 = .ok (.iand, 1) := by decide +kernel
theorem dJ6_bitCount_0f7a4_52 : decode cJ6_bitCount_0f7a4 52 = .ok (.ireturn, 1) := by decide +kernel
theorem dJ9_abs_0f7a4_0 : decode cJ9_abs_0f7a4 0 = .ok (.iload_n 0, 1) := by decide +kernel
theorem dJ9_abs_0f7a4_1 : decode cJ9_abs_0f7a4 1 = .ok (.ifCond .ge 8, 3) := by decide +kernel
theorem dJ9_abs_0f7a4_4 : decode cJ9_abs_0f7a4 4 = .ok (.iload_n 0, 1) := by decide +kernel
theorem dJ9_abs_0f7a4_5 : decode cJ9_abs_0f7a4 5 = .ok (.ineg, 1) := by decide +kernel
theorem dJ9_abs_0f7a4_6 : decode cJ9_abs_0f7a4 6 = .ok (.goto 4, 3) := by decide +kernel
theorem dJ9_abs_0f7a4_9 : decode cJ9_abs_0f7a4 9 = .ok (.iload_n 0, 1) := by decide +kernel
theorem dJ9_abs_0f7a4_10 : decode cJ9_abs_0f7a4 10 = .ok (.ireturn, 1) := by decide +kernel
theorem dJ9_max_7cf53_0 : decode cJ9_max_7cf53 0 = .ok (.iload_n 0, 1) := by decide +kernel
theorem dJ9_max_7cf53_1 : decode cJ9_max_7cf53 1 = .ok (.iload_n 1, 1) := by decide +kernel
theorem dJ9_max_7cf53_2 : decode cJ9_max_7cf53 2 = .ok (.if_icmp .lt 7, 3) := by decide +kernel
theorem dJ9_max_7cf53_5 : decode cJ9_max_7cf53 5 = .ok (.iload_n 0, 1) := by decide +kernel
theorem dJ9_max_7cf53_6 : decode cJ9_max_7cf53 6 = .ok (.goto 4, 3) := by decide +kernel
theorem dJ9_max_7cf53_9 : decode cJ9_max_7cf53 9 = .ok (.iload_n 1, 1) := by decide +kernel
theorem dJ9_max_7cf53_10 : decode cJ9_max_7cf53 10 = .ok (.ireturn, 1) := by decide +kernel
theorem dJ9_min_7cf53_0 : decode cJ9_min_7cf53 0 = .ok (.iload_n 0, 1) := by decide +kernel
theorem dJ9_min_7cf53_1 : decode cJ9_min_7cf53 1 = .ok (.iload_n 1, 1) := by decide +kernel
theorem dJ9_min_7cf53_2 : decode cJ9_min_7cf53 2 = .ok (.if_icmp .gt 7, 3) := by decide +kernel
theorem dJ9_min_7cf53_5 : decode cJ9_min_7cf53 5 = .ok (.iload_n 0, 1) := by decide +kernel
theorem dJ9_min_7cf53_6 : decode cJ9_min_7cf53 6 = .ok (.goto 4, 3) := by decide +kernel
theorem dJ9_min_7cf53_9 : decode cJ9_min_7cf53 9 = .ok (.iload_n 1, 1) := by decide +kernel
theorem dJ9_min_7cf53_10 : decode cJ9_min_7cf53 10 = .ok (.ireturn, 1) := by decide +kernel
theorem dJ0_length_8abf5_0 : decode cJ0_length_8abf5 0 = .ok (.aload_n 0, 1) := by decide +kernel
theorem dJ0_length_8abf5_1 : decode cJ0_length_8abf5 1 = .ok (.getfield 9, 3) := by decide +kernel
theorem dJ0_length_8abf5_4 : decode cJ0_length_8abf5 4 = .ok (.arraylength, 1) := by decide +kernel
theorem dJ0_length_8abf5_5 : decode cJ0_length_8abf5 5 = .ok (.aload_n 0, 1) := by decide +kernel
theorem dJ0_length_8abf5_6 : decode cJ0_length_8abf5 6 = .ok (.invokevirtual 335, 3) := by decide +kernel
theorem dJ0_length_8abf5_9 : decode cJ0_length_8abf5 9 = .ok (.ishr, 1) := by decide +kernel
theorem dJ0_length_8abf5_10 : decode cJ0_length_8abf5 10 = .ok (.ireturn, 1) := by decide +kernel
theorem dJ0_charAt_5068e_0 : decode cJ0_charAt_5068e 0 = .ok (.aload_n 0, 1) := by decide +kernel
theorem dJ0_charAt_5068e_1 : decode cJ0_charAt_5068e 1 = .ok (.invokevirtual 492, 3) := by decide +kernel
theorem dJ0_charAt_5068e_4 : decode cJ0_charAt_5068e 4 = .ok (.ifCond .eq 12, 3) := by decide +kernel
theorem dJ0_charAt_5068e_7 : decode cJ0_charAt_5068e 7 = .ok (.aload_n 0, 1) := by decide +kernel
theorem dJ0_charAt_5068e_8 : decode cJ0_charAt_5068e 8 = .ok (.getfield 9, 3) := by decide +kernel
theorem dJ0_charAt_5068e_11 : decode cJ0_charAt_5068e 11 = .ok (.iload_n 1, 1) := by decide +kernel
theorem dJ0_charAt_5068e_12 : decode cJ0_charAt_5068e 12 = .ok (.invokestatic 495, 3) := by decide +kernel
theorem dJ0_charAt_5068e_15 : decode cJ0_charAt_5068e 15 = .ok (.ireturn, 1) := by decide +kernel
theorem dJ0_charAt_5068e_16 : decode cJ0_charAt_5068e 16 = .ok (.aload_n 0, 1) := by decide +kernel
theorem dJ0_charAt_5068e_17 : decode cJ0_charAt_5068e 17 = .ok (.getfield 9, 3) := by decide +kernel
