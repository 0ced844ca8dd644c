theorem dX5_boardsIn_23 : decode cX5_boardsIn 23 = .ok (.aload_n 0, 1) := by decide +kernel
theorem dX5_boardsIn_24 : decode cX5_boardsIn 24 = .ok (.iload_n 3, 1) := by decide +kernel
theorem dX5_boardsIn_25 : decode cX5_boardsIn 25 = .ok (.invokevirtual 114, 3) := by decide +kernel
theorem dX5_boardsIn_28 : decode cX5_boardsIn 28 = .ok (.iload_n 1, 1) := by decide +kernel
theorem dX5_boardsIn_29 : decode cX5_boardsIn 29 = .ok (.if_icmp .ne 9, 3) := by decide +kernel
theorem dX5_boardsIn_32 : decode cX5_boardsIn 32 = .ok (.iconst 1, 1) := by decide +kernel
theorem dX5_boardsIn_33 : decode cX5_boardsIn 33 = .ok (.iload_n 3, 1) := by decide +kernel
theorem dX5_boardsIn_34 : decode cX5_boardsIn 34 = .ok (.ishl, 1) := by decide +kernel
theorem dX5_boardsIn_35 : decode cX5_boardsIn 35 = .ok (.goto 4, 3) := by decide +kernel
theorem dX5_boardsIn_38 : decode cX5_boardsIn 38 = .ok (.iconst 0, 1) := by decide +kernel
theorem dX5_boardsIn_39 : decode cX5_boardsIn 39 = .ok (.ior, 1) := by decide +kernel
theorem dX5_boardsIn_40 : decode cX5_boardsIn 40 = .ok (.istore_n 2, 1) := by decide +kernel
theorem dX5_boardsIn_41 : decode cX5_boardsIn 41 = .ok (.iinc 3 1, 3) := by decide +kernel
theorem dX5_boardsIn_44 : decode cX5_boardsIn 44 = .ok (.goto (-40), 3) := by decide +kernel
theorem dX5_boardsIn_47 : decode cX5_boardsIn 47 = .ok (.iload_n 2, 1) := by decide +kernel
theorem dX5_boardsIn_48 : decode cX5_boardsIn 48 = .ok (.ireturn, 1) := by decide +kernel
theorem dX5_mostLeftBy_0 : decode cX5_mostLeftBy 0 = .ok (.aload_n 0, 1) := by decide +kernel
theorem dX5_mostLeftBy_1 : decode cX5_mostLeftBy 1 = .ok (.getfield 24, 3) := by decide +kernel
theorem dX5_mostLeftBy_4 : decode cX5_mostLeftBy 4 = .ok (.iconst 0, 1) := by decide +kernel
theorem dX5_mostLeftBy_5 : decode cX5_mostLeftBy 5 = .ok (.invokestatic 34, 3) := by decide +kernel
theorem dX5_mostLeftBy_8 : decode cX5_mostLeftBy 8 = .ok (.iconst 0, 1) := by decide +kernel
theorem dX5_mostLeftBy_9 : decode cX5_mostLeftBy 9 = .ok (.istore_n 2, 1) := by decide +kernel
theorem dX5_mostLeftBy_10 : decode cX5_mostLeftBy 10 = .ok (.iconst 0, 1) := by decide +kernel
theorem dX5_mostLeftBy_11 : decode cX5_mostLeftBy 11 = .ok (.istore_n 3, 1) := by decide +kernel
theorem dX5_mostLeftBy_12 : decode cX5_mostLeftBy 12 = .ok (.iload_n 3, 1) := by decide +kernel
theorem dX5_mostLeftBy_13 : decode cX5_mostLeftBy 13 = .ok (.aload_n 0, 1) := by decide +kernel
theorem dX5_mostLeftBy_14 : decode cX5_mostLeftBy 14 = .ok (.invokevirtual 77, 3) := by decide +kernel
theorem dX5_mostLeftBy_17 : decode cX5_mostLeftBy 17 = .ok (.if_icmp .ge 43, 3) := by decide +kernel
theorem dX5_mostLeftBy_20 : decode cX5_mostLeftBy 20 = .ok (.iload_n 3, 1) := by decide +kernel
theorem dX5_mostLeftBy_21 : decode cX5_mostLeftBy 21 = .ok (.invokestatic 81, 3) := by decide +kernel
theorem dX5_mostLeftBy_24 : decode cX5_mostLeftBy 24 = .ok (.istore 4, 2) := by decide +kernel
theorem dX5_mostLeftBy_26 : decode cX5_mostLeftBy 26 = .ok (.aload_n 0, 1) := by decide +kernel
theorem dX5_mostLeftBy_27 : decode cX5_mostLeftBy 27 = .ok (.getfield 24, 3) := by decide +kernel
theorem dX5_mostLeftBy_30 : decode cX5_mostLeftBy 30 = .ok (.iload 4, 2) := by decide +kernel
theorem dX5_mostLeftBy_32 : decode cX5_mostLeftBy 32 = .ok (.dup2, 1) := by decide +kernel
theorem dX5_mostLeftBy_33 : decode cX5_mostLeftBy 33 = .ok (.iaload, 1) := by decide +kernel
theorem dX5_mostLeftBy_34 : decode cX5_mostLeftBy 34 = .ok (.aload_n 0, 1) := by decide +kernel
theorem dX5_mostLeftBy_35 : decode cX5_mostLeftBy 35 = .ok (.iload_n 1, 1) := by decide +kernel
theorem dX5_mostLeftBy_36 : decode cX5_mostLeftBy 36 = .ok (.iload_n 3, 1) := by decide +kernel
theorem dX5_mostLeftBy_37 : decode cX5_mostLeftBy 37 = .ok (.invokevirtual 99, 3) := by decide +kernel
theorem dX5_mostLeftBy_40 : decode cX5_mostLeftBy 40 = .ok (.iadd, 1) := by decide +kernel
theorem dX5_mostLeftBy_41 : decode cX5_mostLeftBy 41 = .ok (.iastore, 1) := by decide +kernel
theorem dX5_mostLeftBy_42 : decode cX5_mostLeftBy 42 = .ok (.iload_n 2, 1) := by decide +kernel
theorem dX5_mostLeftBy_43 : decode cX5_mostLeftBy 43 = .ok (.aload_n 0, 1) := by decide +kernel
theorem dX5_mostLeftBy_44 : decode cX5_mostLeftBy 44 = .ok (.getfield 24, 3) := by decide +kernel
theorem dX5_mostLeftBy_47 : decode cX5_mostLeftBy 47 = .ok (.iload 4, 2) := by decide +kernel
theorem dX5_mostLeftBy_49 : decode cX5_mostLeftBy 49 = .ok (.iaload, 1) := by decide +kernel
theorem dX5_mostLeftBy_50 : decode cX5_mostLeftBy 50 = .ok (.invokestatic 117, 3) := by decide +kernel
theorem dX5_mostLeftBy_53 : decode cX5_mostLeftBy 53 = .ok (.istore_n 2, 1) := by decide +kernel
theorem dX5_mostLeftBy_54 : decode cX5_mostLeftBy 54 = .ok (.iinc 3 1, 3) := by decide +kernel
theorem dX5_mostLeftBy_57 : decode cX5_mostLeftBy 57 = .ok (.goto (-45), 3) := by decide +kernel
theorem dX5_mostLeftBy_60 : decode cX5_mostLeftBy 60 = .ok (.iload_n 2, 1) := by decide +kernel
theorem dX5_mostLeftBy_61 : decode cX5_mostLeftBy 61 = .ok (.ireturn, 1) := by decide +kernel
theorem dX6_init_0 : decode cX6_init 0 = .ok (.aload_n 0, 1) := by decide +kernel
theorem dX6_init_1 : decode cX6_init 1 = .ok (.invokespecial 3, 3) := by decide +kernel
theorem dX6_init_4 : decode cX6_init 4 = .ok (.aload_n 0, 1) := by decide +kernel
theorem dX6_init_5 : decode cX6_init 5 = .ok (.new 9, 3) := by decide +kernel
theorem dX6_init_8 : decode cX6_init 8 = .ok (.dup, 1) := by decide +kernel
theorem dX6_init_9 : decode cX6_init 9 = .ok (.invokespecial 11, 3) := by decide +kernel
theorem dX6_init_12 : decode cX6_init 12 = .ok (.putfield 12, 3) := by decide +kernel
theorem dX6_init_15 : decode cX6_init 15 = .ok (.aload_n 0, 1) := by decide +kernel
theorem dX6_init_16 : decode cX6_init 16 = .ok (.sipush 241, 3) := by decide +kernel
theorem dX6_init_19 : decode cX6_init 19 = .ok (.newarray .int, 2) := by decide +kernel
theorem dX6_init_21 : decode cX6_init 21 = .ok (.putfield 18, 3) := by decide +kernel
theorem dX6_init_24 : decode cX6_init 24 = .ok (.aload_n 0, 1) := by decide +kernel
theorem dX6_init_25 : decode cX6_init 25 = .ok (.bipush 16, 2) := by decide +kernel
theorem dX6_init_27 : decode cX6_init 27 = .ok (.newarray .int, 2) := by decide +kernel
theorem dX6_init_29 : decode cX6_init 29 = .ok (.putfield 22, 3) := by decide +kernel
theorem dX6_init_32 : decode cX6_init 32 = .ok (.aload_n 0, 1) := by decide +kernel
theorem dX6_init_33 : decode cX6_init 33 = .ok (.aload_n 1, 1) := by decide +kernel
theorem dX6_init_34 : decode cX6_init 34 = .ok (.putfield 25, 3) := by decide +kernel
theorem dX6_init_37 : decode cX6_init 37 = .ok (.aload_n 0, 1) := by decide +kernel
theorem dX6_init_38 : decode cX6_init 38 = .ok (.aload_n 2, 1) := by decide +kernel
theorem dX6_init_39 : decode cX6_init 39 = .ok (.putfield 29, 3) := by decide +kernel
theorem dX6_init_42 : decode cX6_init 42 = .ok (.aload_n 0, 1) := by decide +kernel
theorem dX6_init_43 : decode cX6_init 43 = .ok (.aload_n 3, 1) := by decide +kernel
theorem dX6_init_44 : decode cX6_init 44 = .ok (.putfield 33, 3) := by decide +kernel
theorem dX6_init_47 : decode cX6_init 47 = .ok (.return_, 1) := by decide +kernel
theorem dX6_forget_0 : decode cX6_forget 0 = .ok (.aload_n 0, 1) := by decide +kernel
theorem dX6_forget_1 : decode cX6_forget 1 = .ok (.iconst 0, 1) := by decide +kernel
theorem dX6_forget_2 : decode cX6_forget 2 = .ok (.putfield 36, 3) := by decide +kernel
theorem dX6_forget_5 : decode cX6_forget 5 = .ok (.return_, 1) := by decide +kernel
theorem dX6_dueIn_0 : decode cX6_dueIn 0 = .ok (.iload_n 1, 1) := by decide +kernel
theorem dX6_dueIn_1 : decode cX6_dueIn 1 = .ok (.ifCond .lt 12, 3) := by decide +kernel
theorem dX6_dueIn_4 : decode cX6_dueIn 4 = .ok (.iload_n 1, 1) := by decide +kernel
theorem dX6_dueIn_5 : decode cX6_dueIn 5 = .ok (.aload_n 0, 1) := by decide +kernel
theorem dX6_dueIn_6 : decode cX6_dueIn 6 = .ok (.getfield 18, 3) := by decide +kernel
theorem dX6_dueIn_9 : decode cX6_dueIn 9 = .ok (.arraylength, 1) := by decide +kernel
theorem dX6_dueIn_10 : decode cX6_dueIn 10 = .ok (.if_icmp .lt 5, 3) := by decide +kernel
theorem dX6_dueIn_13 : decode cX6_dueIn 13 = .ok (.iconst 0, 1) := by decide +kernel
theorem dX6_dueIn_14 : decode cX6_dueIn 14 = .ok (.ireturn, 1) := by decide +kernel
theorem dX6_dueIn_15 : decode cX6_dueIn 15 = .ok (.aload_n 0, 1) := by decide +kernel
theorem dX6_dueIn_16 : decode cX6_dueIn 16 = .ok (.getfield 36, 3) := by decide +kernel
theorem dX6_dueIn_19 : decode cX6_dueIn 19 = .ok (.iload_n 1, 1) := by decide +kernel
theorem dX6_dueIn_20 : decode cX6_dueIn 20 = .ok (.if_icmp .gt 48, 3) := by decide +kernel
theorem dX6_dueIn_23 : decode cX6_dueIn 23 = .ok (.aload_n 0, 1) := by decide +kernel
theorem dX6_dueIn_24 : decode cX6_dueIn 24 = .ok (.getfield 18, 3) := by decide +kernel
theorem dX6_dueIn_27 : decode cX6_dueIn 27 = .ok (.aload_n 0, 1) := by decide +kernel
theorem dX6_dueIn_28 : decode cX6_dueIn 28 = .ok (.getfield 36, 3) := by decide +kernel
theorem dX6_dueIn_31 : decode cX6_dueIn 31 = .ok (.aload_n 0, 1) := by decide +kernel
theorem dX6_dueIn_32 : decode cX6_dueIn 32 = .ok (.getfield 29, 3) := by decide +kernel
theorem dX6_dueIn_35 : decode cX6_dueIn 35 = .ok (.aload_n 0, 1) := by decide +kernel
theorem dX6_dueIn_36 : decode cX6_dueIn 36 = .ok (.getfield 33, 3) := by decide +kernel
theorem dX6_dueIn_39 : decode cX6_dueIn 39 = .ok (.aload_n 0, 1) := by decide +kernel
theorem dX6_dueIn_40 : decode cX6_dueIn 40 = .ok (.getfield 33, 3) := by decide +kernel
theorem dX6_dueIn_43 : decode cX6_dueIn 43 = .ok (.invokevirtual 40, 3) := by decide +kernel
theorem dX6_dueIn_46 : decode cX6_dueIn 46 = .ok (.aload_n 0, 1) := by decide +kernel
theorem dX6_dueIn_47 : decode cX6_dueIn 47 = .ok (.getfield 36, 3) := by decide +kernel
theorem dX6_dueIn_50 : decode cX6_dueIn 50 = .ok (.iadd, 1) := by decide +kernel
theorem dX6_dueIn_51 : decode cX6_dueIn 51 = .ok (.invokevirtual 44, 3) := by decide +kernel
theorem dX6_dueIn_54 : decode cX6_dueIn 54 = .ok (.iastore, 1) := by decide +kernel
theorem dX6_dueIn_55 : decode cX6_dueIn 55 = .ok (.aload_n 0, 1) := by decide +kernel
theorem dX6_dueIn_56 : decode cX6_dueIn 56 = .ok (.dup, 1) := by decide +kernel
theorem dX6_dueIn_57 : decode cX6_dueIn 57 = .ok (.getfield 36, 3) := by decide +kernel
theorem dX6_dueIn_60 : decode cX6_dueIn 60 = .ok (.iconst 1, 1) := by decide +kernel
theorem dX6_dueIn_61 : decode cX6_dueIn 61 = .ok (.iadd, 1) := by decide +kernel
theorem dX6_dueIn_62 : decode cX6_dueIn 62 = .ok (.putfield 36, 3) := by decide +kernel
theorem dX6_dueIn_65 : decode cX6_dueIn 65 = .ok (.goto (-50), 3) := by decide +kernel
theorem dX6_dueIn_68 : decode cX6_dueIn 68 = .ok (.aload_n 0, 1) := by decide +kernel
theorem dX6_dueIn_69 : decode cX6_dueIn 69 = .ok (.getfield 18, 3) := by decide +kernel
theorem dX6_dueIn_72 : decode cX6_dueIn 72 = .ok (.iload_n 1, 1) := by decide +kernel
theorem dX6_dueIn_73 : decode cX6_dueIn 73 = .ok (.iaload, 1) := by decide +kernel
theorem dX6_dueIn_74 : decode cX6_dueIn 74 = .ok (.ireturn, 1) := by decide +kernel
theorem dX6_openIn_0 : decode cX6_openIn 0 = .ok (.aload_n 0, 1) := by decide +kernel
theorem dX6_openIn_1 : decode cX6_openIn 1 = .ok (.getfield 29, 3) := by decide +kernel
theorem dX6_openIn_4 : decode cX6_openIn 4 = .ok (.aload_n 0, 1) := by decide +kernel
theorem dX6_openIn_5 : decode cX6_openIn 5 = .ok (.getfield 33, 3) := by decide +kernel
theorem dX6_openIn_8 : decode cX6_openIn 8 = .ok (.aload_n 0, 1) := by decide +kernel
theorem dX6_openIn_9 : decode cX6_openIn 9 = .ok (.iload_n 1, 1) := by decide +kernel
theorem dX6_openIn_10 : decode cX6_openIn 10 = .ok (.invokevirtual 50, 3) := by decide +kernel
theorem dX6_openIn_13 : decode cX6_openIn 13 = .ok (.invokevirtual 54, 3) := by decide +kernel
theorem dX6_openIn_16 : decode cX6_openIn 16 = .ok (.ireturn, 1) := by decide +kernel
theorem dX6_sail_0 : decode cX6_sail 0 = .ok (.aload_n 0, 1) := by decide +kernel
theorem dX6_sail_1 : decode cX6_sail 1 = .ok (.iconst (-1), 1) := by decide +kernel
theorem dX6_sail_2 : decode cX6_sail 2 = .ok (.putfield 57, 3) := by decide +kernel
theorem dX6_sail_5 : decode cX6_sail 5 = .ok (.aload_n 0, 1) := by decide +kernel
theorem dX6_sail_6 : decode cX6_sail 6 = .ok (.iconst 0, 1) := by decide +kernel
theorem dX6_sail_7 : decode cX6_sail 7 = .ok (.putfield 60, 3) := by decide +kernel
theorem dX6_sail_10 : decode cX6_sail 10 = .ok (.aload_n 0, 1) := by decide +kernel
theorem dX6_sail_11 : decode cX6_sail 11 = .ok (.getfield 22, 3) := by decide +kernel
theorem dX6_sail_14 : decode cX6_sail 14 = .ok (.iconst 0, 1) := by decide +kernel
theorem dX6_sail_15 : decode cX6_sail 15 = .ok (.invokestatic 63, 3) := by decide +kernel
theorem dX6_sail_18 : decode cX6_sail 18 = .ok (.iconst 0, 1) := by decide +kernel
theorem dX6_sail_19 : decode cX6_sail 19 = .ok (.istore_n 3, 1) := by decide +kernel
theorem dX6_sail_20 : decode cX6_sail 20 = .ok (.iload_n 2, 1) := by decide +kernel
theorem dX6_sail_21 : decode cX6_sail 21 = .ok (.istore 4, 2) := by decide +kernel
theorem dX6_sail_23 : decode cX6_sail 23 = .ok (.iload 4, 2) := by decide +kernel
theorem dX6_sail_25 : decode cX6_sail 25 = .ok (.sipush 240, 3) := by decide +kernel
theorem dX6_sail_28 : decode cX6_sail 28 = .ok (.if_icmp .ge 89, 3) := by decide +kernel
theorem dX6_sail_31 : decode cX6_sail 31 = .ok (.aload_n 0, 1) := by decide +kernel
theorem dX6_sail_32 : decode cX6_sail 32 = .ok (.getfield 57, 3) := by decide +kernel
theorem dX6_sail_35 : decode cX6_sail 35 = .ok (.iconst (-1), 1) := by decide +kernel
theorem dX6_sail_36 : decode cX6_sail 36 = .ok (.if_icmp .ne 81, 3) := by decide +kernel
theorem dX6_sail_39 : decode cX6_sail 39 = .ok (.aload_n 0, 1) := by decide +kernel
theorem dX6_sail_40 : decode cX6_sail 40 = .ok (.getfield 29, 3) := by decide +kernel
theorem dX6_sail_43 : decode cX6_sail 43 = .ok (.iload_n 1, 1) := by decide +kernel
theorem dX6_sail_44 : decode cX6_sail 44 = .ok (.iload_n 3, 1) := by decide +kernel
theorem dX6_sail_45 : decode cX6_sail 45 = .ok (.aload_n 0, 1) := by decide +kernel
theorem dX6_sail_46 : decode cX6_sail 46 = .ok (.iload 4, 2) := by decide +kernel
theorem dX6_sail_48 : decode cX6_sail 48 = .ok (.invokevirtual 69, 3) := by decide +kernel
theorem dX6_sail_51 : decode cX6_sail 51 = .ok (.invokevirtual 72, 3) := by decide +kernel
theorem dX6_sail_54 : decode cX6_sail 54 = .ok (.istore 5, 2) := by decide +kernel
theorem dX6_sail_56 : decode cX6_sail 56 = .ok (.aload_n 0, 1) := by decide +kernel
theorem dX6_sail_57 : decode cX6_sail 57 = .ok (.getfield 29, 3) := by decide +kernel
theorem dX6_sail_60 : decode cX6_sail 60 = .ok (.iload_n 3, 1) := by decide +kernel
theorem dX6_sail_61 : decode cX6_sail 61 = .ok (.iload 5, 2) := by decide +kernel
theorem dX6_sail_63 : decode cX6_sail 63 = .ok (.invokevirtual 76, 3) := by decide +kernel
theorem dX6_sail_66 : decode cX6_sail 66 = .ok (.ifCond .eq 24, 3) := by decide +kernel
theorem dX6_sail_69 : decode cX6_sail 69 = .ok (.aload_n 0, 1) := by decide +kernel
theorem dX6_sail_70 : decode cX6_sail 70 = .ok (.dup, 1) := by decide +kernel
theorem dX6_sail_71 : decode cX6_sail 71 = .ok (.getfield 60, 3) := by decide +kernel
theorem dX6_sail_74 : decode cX6_sail 74 = .ok (.iconst 1, 1) := by decide +kernel
theorem dX6_sail_75 : decode cX6_sail 75 = .ok (.iadd, 1) := by decide +kernel
theorem dX6_sail_76 : decode cX6_sail 76 = .ok (.putfield 60, 3) := by decide +kernel
theorem dX6_sail_79 : decode cX6_sail 79 = .ok (.aload_n 0, 1) := by decide +kernel
theorem dX6_sail_80 : decode cX6_sail 80 = .ok (.getfield 22, 3) := by decide +kernel
theorem dX6_sail_83 : decode cX6_sail 83 = .ok (.iload 5, 2) := by decide +kernel
theorem dX6_sail_85 : decode cX6_sail 85 = .ok (.dup2, 1) := by decide +kernel
theorem dX6_sail_86 : decode cX6_sail 86 = .ok (.iaload, 1) := by decide +kernel
theorem dX6_sail_87 : decode cX6_sail 87 = .ok (.iconst 1, 1) := by decide +kernel
theorem dX6_sail_88 : decode cX6_sail 88 = .ok (.iadd, 1) := by decide +kernel
theorem dX6_sail_89 : decode cX6_sail 89 = .ok (.iastore, 1) := by decide +kernel
theorem dX6_sail_90 : decode cX6_sail 90 = .ok (.iload 5, 2) := by decide +kernel
theorem dX6_sail_92 : decode cX6_sail 92 = .ok (.aload_n 0, 1) := by decide +kernel
theorem dX6_sail_93 : decode cX6_sail 93 = .ok (.getfield 25, 3) := by decide +kernel
theorem dX6_sail_96 : decode cX6_sail 96 = .ok (.getfield 80, 3) := by decide +kernel
theorem dX6_sail_99 : decode cX6_sail 99 = .ok (.if_icmp .ne 9, 3) := by decide +kernel
theorem dX6_sail_102 : decode cX6_sail 102 = .ok (.aload_n 0, 1) := by decide +kernel
theorem dX6_sail_103 : decode cX6_sail 103 = .ok (.iload 4, 2) := by decide +kernel
theorem dX6_sail_105 : decode cX6_sail 105 = .ok (.putfield 57, 3) := by decide +kernel
theorem dX6_sail_108 : decode cX6_sail 108 = .ok (.iload 5, 2) := by decide +kernel
theorem dX6_sail_110 : decode cX6_sail 110 = .ok (.istore_n 3, 1) := by decide +kernel
theorem dX6_sail_111 : decode cX6_sail 111 = .ok (.iinc 4 1, 3) := by decide +kernel
theorem dX6_sail_114 : decode cX6_sail 114 = .ok (.goto (-91), 3) := by decide +kernel
theorem dX6_sail_117 : decode cX6_sail 117 = .ok (.return_, 1) := by decide +kernel
theorem dX6_mostKnockedAt_0 : decode cX6_mostKnockedAt 0 = .ok (.iconst (-1), 1) := by decide +kernel
theorem dX6_mostKnockedAt_1 : decode cX6_mostKnockedAt 1 = .ok (.istore_n 1, 1) := by decide +kernel
theorem dX6_mostKnockedAt_2 : decode cX6_mostKnockedAt 2 = .ok (.iconst 0, 1) := by decide +kernel
theorem dX6_mostKnockedAt_3 : decode cX6_mostKnockedAt 3 = .ok (.istore_n 2, 1) := by decide +kernel
theorem dX6_mostKnockedAt_4 : decode cX6_mostKnockedAt 4 = .ok (.iload_n 2, 1) := by decide +kernel
theorem dX6_mostKnockedAt_5 : decode cX6_mostKnockedAt 5 = .ok (.aload_n 0, 1) := by decide +kernel
theorem dX6_mostKnockedAt_6 : decode cX6_mostKnockedAt 6 = .ok (.getfield 25, 3) := by decide +kernel
theorem dX6_mostKnockedAt_9 : decode cX6_mostKnockedAt 9 = .ok (.getfield 80, 3) := by decide +kernel
theorem dX6_mostKnockedAt_12 : decode cX6_mostKnockedAt 12 = .ok (.if_icmp .ge 35, 3) := by decide +kernel
theorem dX6_mostKnockedAt_15 : decode cX6_mostKnockedAt 15 = .ok (.aload_n 0, 1) := by decide +kernel
theorem dX6_mostKnockedAt_16 : decode cX6_mostKnockedAt 16 = .ok (.getfield 22, 3) := by decide +kernel
theorem dX6_mostKnockedAt_19 : decode cX6_mostKnockedAt 19 = .ok (.iload_n 2, 1) := by decide +kernel
theorem dX6_mostKnockedAt_20 : decode cX6_mostKnockedAt 20 = .ok (.iaload, 1) := by decide +kernel
theorem dX6_mostKnockedAt_21 : decode cX6_mostKnockedAt 21 = .ok (.iload_n 1, 1) := by decide +kernel
theorem dX6_mostKnockedAt_22 : decode cX6_mostKnockedAt 22 = .ok (.iconst (-1), 1) := by decide +kernel
theorem dX6_mostKnockedAt_23 : decode cX6_mostKnockedAt 23 = .ok (.if_icmp .ne 7, 3) := by decide +kernel
theorem dX6_mostKnockedAt_26 : decode cX6_mostKnockedAt 26 = .ok (.iconst 0, 1) := by decide +kernel
theorem dX6_mostKnockedAt_27 : decode cX6_mostKnockedAt 27 = .ok (.goto 9, 3) := by decide +kernel
theorem dX6_mostKnockedAt_30 : decode cX6_mostKnockedAt 30 = .ok (.aload_n 0, 1) := by decide +kernel
theorem dX6_mostKnockedAt_31 : decode cX6_mostKnockedAt 31 = .ok (.getfield 22, 3) := by decide +kernel
theorem dX6_mostKnockedAt_34 : decode cX6_mostKnockedAt 34 = .ok (.iload_n 1, 1) := by decide +kernel
theorem dX6_mostKnockedAt_35 : decode cX6_mostKnockedAt 35 = .ok (.iaload, 1) := by decide +kernel
theorem dX6_mostKnockedAt_36 : decode cX6_mostKnockedAt 36 = .ok (.if_icmp .le 5, 3) := by decide +kernel
theorem dX6_mostKnockedAt_39 : decode cX6_mostKnockedAt 39 = .ok (.iload_n 2, 1) := by decide +kernel
theorem dX6_mostKnockedAt_40 : decode cX6_mostKnockedAt 40 = .ok (.istore_n 1, 1) := by decide +kernel
theorem dX6_mostKnockedAt_41 : decode cX6_mostKnockedAt 41 = .ok (.iinc 2 1, 3) := by decide +kernel
theorem dX6_mostKnockedAt_44 : decode cX6_mostKnockedAt 44 = .ok (.goto (-40), 3) := by decide +kernel
theorem dX6_mostKnockedAt_47 : decode cX6_mostKnockedAt 47 = .ok (.iload_n 1, 1) := by decide +kernel
theorem dX6_mostKnockedAt_48 : decode cX6_mostKnockedAt 48 = .ok (.ireturn, 1) := by decide +kernel
theorem dX6_letPass_0 : decode cX6_letPass 0 = .ok (.aload_n 0, 1) := by decide +kernel
theorem dX6_letPass_1 : decode cX6_letPass 1 = .ok (.iconst 0, 1) := by decide +kernel
theorem dX6_letPass_2 : decode cX6_letPass 2 = .ok (.iconst 0, 1) := by decide +kernel
theorem dX6_letPass_3 : decode cX6_letPass 3 = .ok (.iload_n 1, 1) := by decide +kernel
theorem dX6_letPass_4 : decode cX6_letPass 4 = .ok (.invokevirtual 85, 3) := by decide +kernel
theorem dX6_letPass_7 : decode cX6_letPass 7 = .ok (.return_, 1) := by decide +kernel
theorem dX6_freeze_0 : decode cX6_freeze 0 = .ok (.aload_n 0, 1) := by decide +kernel
theorem dX6_freeze_1 : decode cX6_freeze 1 = .ok (.getfield 33, 3) := by decide +kernel
theorem dX6_freeze_4 : decode cX6_freeze 4 = .ok (.aload_n 0, 1) := by decide +kernel
theorem dX6_freeze_5 : decode cX6_freeze 5 = .ok (.getfield 12, 3) := by decide +kernel
theorem dX6_freeze_8 : decode cX6_freeze 8 = .ok (.getfield 89, 3) := by decide +kernel
theorem dX6_freeze_11 : decode cX6_freeze 11 = .ok (.iconst 0, 1) := by decide +kernel
theorem dX6_freeze_12 : decode cX6_freeze 12 = .ok (.invokevirtual 92, 3) := by decide +kernel
theorem dX6_freeze_15 : decode cX6_freeze 15 = .ok (.aload_n 0, 1) := by decide +kernel
theorem dX6_freeze_16 : decode cX6_freeze 16 = .ok (.iload_n 1, 1) := by decide +kernel
theorem dX6_freeze_17 : decode cX6_freeze 17 = .ok (.putfield 95, 3) := by decide +kernel
theorem dX6_freeze_20 : decode cX6_freeze 20 = .ok (.aload_n 0, 1) := by decide +kernel
theorem dX6_freeze_21 : decode cX6_freeze 21 = .ok (.iconst 0, 1) := by decide +kernel
theorem dX6_freeze_22 : decode cX6_freeze 22 = .ok (.putfield 98, 3) := by decide +kernel
theorem dX6_freeze_25 : decode cX6_freeze 25 = .ok (.iconst 0, 1) := by decide +kernel
theorem dX6_freeze_26 : decode cX6_freeze 26 = .ok (.istore 4, 2) := by decide +kernel
theorem dX6_freeze_28 : decode cX6_freeze 28 = .ok (.iload 4, 2) := by decide +kernel
theorem dX6_freeze_30 : decode cX6_freeze 30 = .ok (.iload_n 3, 1) := by decide +kernel
theorem dX6_freeze_31 : decode cX6_freeze 31 = .ok (.if_icmp .ge 67, 3) := by decide +kernel
theorem dX6_freeze_34 : decode cX6_freeze 34 = .ok (.aload_n 0, 1) := by decide +kernel
theorem dX6_freeze_35 : decode cX6_freeze 35 = .ok (.iload_n 2, 1) := by decide +kernel
theorem dX6_freeze_36 : decode cX6_freeze 36 = .ok (.invokevirtual 101, 3) := by decide +kernel
theorem dX6_freeze_39 : decode cX6_freeze 39 = .ok (.istore 5, 2) := by decide +kernel
theorem dX6_freeze_41 : decode cX6_freeze 41 = .ok (.aload_n 0, 1) := by decide +kernel
theorem dX6_freeze_42 : decode cX6_freeze 42 = .ok (.iload 4, 2) := by decide +kernel
theorem dX6_freeze_44 : decode cX6_freeze 44 = .ok (.invokevirtual 104, 3) := by decide +kernel
theorem dX6_freeze_47 : decode cX6_freeze 47 = .ok (.istore 6, 2) := by decide +kernel
theorem dX6_freeze_49 : decode cX6_freeze 49 = .ok (.aload_n 0, 1) := by decide +kernel
theorem dX6_freeze_50 : decode cX6_freeze 50 = .ok (.dup, 1) := by decide +kernel
theorem dX6_freeze_51 : decode cX6_freeze 51 = .ok (.getfield 98, 3) := by decide +kernel
theorem dX6_freeze_54 : decode cX6_freeze 54 = .ok (.aload_n 0, 1) := by decide +kernel
theorem dX6_freeze_55 : decode cX6_freeze 55 = .ok (.getfield 29, 3) := by decide +kernel
theorem dX6_freeze_58 : decode cX6_freeze 58 = .ok (.aload_n 0, 1) := by decide +kernel
theorem dX6_freeze_59 : decode cX6_freeze 59 = .ok (.getfield 12, 3) := by decide +kernel
theorem dX6_freeze_62 : decode cX6_freeze 62 = .ok (.iload 6, 2) := by decide +kernel
theorem dX6_freeze_64 : decode cX6_freeze 64 = .ok (.invokevirtual 54, 3) := by decide +kernel
theorem dX6_freeze_67 : decode cX6_freeze 67 = .ok (.iload 5, 2) := by decide +kernel
theorem dX6_freeze_69 : decode cX6_freeze 69 = .ok (.iand, 1) := by decide +kernel
theorem dX6_freeze_70 : decode cX6_freeze 70 = .ok (.invokestatic 107, 3) := by decide +kernel
theorem dX6_freeze_73 : decode cX6_freeze 73 = .ok (.iadd, 1) := by decide +kernel
theorem dX6_freeze_74 : decode cX6_freeze 74 = .ok (.putfield 98, 3) := by decide +kernel
theorem dX6_freeze_77 : decode cX6_freeze 77 = .ok (.aload_n 0, 1) := by decide +kernel
theorem dX6_freeze_78 : decode cX6_freeze 78 = .ok (.getfield 29, 3) := by decide +kernel
theorem dX6_freeze_81 : decode cX6_freeze 81 = .ok (.aload_n 0, 1) := by decide +kernel
theorem dX6_freeze_82 : decode cX6_freeze 82 = .ok (.getfield 12, 3) := by decide +kernel
theorem dX6_freeze_85 : decode cX6_freeze 85 = .ok (.iload 6, 2) := by decide +kernel
theorem dX6_freeze_87 : decode cX6_freeze 87 = .ok (.iload 5, 2) := by decide +kernel
theorem dX6_freeze_89 : decode cX6_freeze 89 = .ok (.invokevirtual 112, 3) := by decide +kernel
theorem dX6_freeze_92 : decode cX6_freeze 92 = .ok (.iinc 4 1, 3) := by decide +kernel
theorem dX6_freeze_95 : decode cX6_freeze 95 = .ok (.goto (-67), 3) := by decide +kernel
theorem dX6_freeze_98 : decode cX6_freeze 98 = .ok (.return_, 1) := by decide +kernel
theorem dX6_drawFrozen_0 : decode cX6_drawFrozen 0 = .ok (.iconst 0, 1) := by decide +kernel
theorem dX6_drawFrozen_1 : decode cX6_drawFrozen 1 = .ok (.istore_n 2, 1) := by decide +kernel
theorem dX6_drawFrozen_2 : decode cX6_drawFrozen 2 = .ok (.iconst 0, 1) := by decide +kernel
theorem dX6_drawFrozen_3 : decode cX6_drawFrozen 3 = .ok (.istore_n 3, 1) := by decide +kernel
theorem dX6_drawFrozen_4 : decode cX6_drawFrozen 4 = .ok (.iload_n 3, 1) := by decide +kernel
theorem dX6_drawFrozen_5 : decode cX6_drawFrozen 5 = .ok (.aload_n 0, 1) := by decide +kernel
theorem dX6_drawFrozen_6 : decode cX6_drawFrozen 6 = .ok (.getfield 25, 3) := by decide +kernel
theorem dX6_drawFrozen_9 : decode cX6_drawFrozen 9 = .ok (.getfield 80, 3) := by decide +kernel
theorem dX6_drawFrozen_12 : decode cX6_drawFrozen 12 = .ok (.if_icmp .ge 56, 3) := by decide +kernel
theorem dX6_drawFrozen_15 : decode cX6_drawFrozen 15 = .ok (.aload_n 0, 1) := by decide +kernel
theorem dX6_drawFrozen_16 : decode cX6_drawFrozen 16 = .ok (.aload_n 0, 1) := by decide +kernel
theorem dX6_drawFrozen_17 : decode cX6_drawFrozen 17 = .ok (.getfield 95, 3) := by decide +kernel
theorem dX6_drawFrozen_20 : decode cX6_drawFrozen 20 = .ok (.ldc 116, 2) := by decide +kernel
theorem dX6_drawFrozen_22 : decode cX6_drawFrozen 22 = .ok (.imul, 1) := by decide +kernel
theorem dX6_drawFrozen_23 : decode cX6_drawFrozen 23 = .ok (.sipush 12345, 3) := by decide +kernel
theorem dX6_drawFrozen_26 : decode cX6_drawFrozen 26 = .ok (.iadd, 1) := by decide +kernel
theorem dX6_drawFrozen_27 : decode cX6_drawFrozen 27 = .ok (.putfield 95, 3) := by decide +kernel
theorem dX6_drawFrozen_30 : decode cX6_drawFrozen 30 = .ok (.aload_n 0, 1) := by decide +kernel
theorem dX6_drawFrozen_31 : decode cX6_drawFrozen 31 = .ok (.getfield 95, 3) := by decide +kernel
theorem dX6_drawFrozen_34 : decode cX6_drawFrozen 34 = .ok (.bipush 16, 2) := by decide +kernel
theorem dX6_drawFrozen_36 : decode cX6_drawFrozen 36 = .ok (.iushr, 1) := by decide +kernel
theorem dX6_drawFrozen_37 : decode cX6_drawFrozen 37 = .ok (.sipush 32767, 3) := by decide +kernel
theorem dX6_drawFrozen_40 : decode cX6_drawFrozen 40 = .ok (.iand, 1) := by decide +kernel
theorem dX6_drawFrozen_41 : decode cX6_drawFrozen 41 = .ok (.bipush 16, 2) := by decide +kernel
theorem dX6_drawFrozen_43 : decode cX6_drawFrozen 43 = .ok (.irem, 1) := by decide +kernel
theorem dX6_drawFrozen_44 : decode cX6_drawFrozen 44 = .ok (.istore 4, 2) := by decide +kernel
theorem dX6_drawFrozen_46 : decode cX6_drawFrozen 46 = .ok (.iload_n 2, 1) := by decide +kernel
theorem dX6_drawFrozen_47 : decode cX6_drawFrozen 47 = .ok (.iload 4, 2) := by decide +kernel
theorem dX6_drawFrozen_49 : decode cX6_drawFrozen 49 = .ok (.iload_n 1, 1) := by decide +kernel
theorem dX6_drawFrozen_50 : decode cX6_drawFrozen 50 = .ok (.if_icmp .ge 9, 3) := by decide +kernel
theorem dX6_drawFrozen_53 : decode cX6_drawFrozen 53 = .ok (.iconst 1, 1) := by decide +kernel
theorem dX6_drawFrozen_54 : decode cX6_drawFrozen 54 = .ok (.iload_n 3, 1) := by decide +kernel
theorem dX6_drawFrozen_55 : decode cX6_drawFrozen 55 = .ok (.ishl, 1) := by decide +kernel
theorem dX6_drawFrozen_56 : decode cX6_drawFrozen 56 = .ok (.goto 4, 3) := by decide +kernel
theorem dX6_drawFrozen_59 : decode cX6_drawFrozen 59 = .ok (.iconst 0, 1) := by decide +kernel
theorem dX6_drawFrozen_60 : decode cX6_drawFrozen 60 = .ok (.ior, 1) := by decide +kernel
theorem dX6_drawFrozen_61 : decode cX6_drawFrozen 61 = .ok (.istore_n 2, 1) := by decide +kernel
theorem dX6_drawFrozen_62 : decode cX6_drawFrozen 62 = .ok (.iinc 3 1, 3) := by decide +kernel
theorem dX6_drawFrozen_65 : decode cX6_drawFrozen 65 = .ok (.goto (-61), 3) := by decide +kernel
theorem dX6_drawFrozen_68 : decode cX6_drawFrozen 68 = .ok (.iload_n 2, 1) := by decide +kernel
theorem dX6_drawFrozen_69 : decode cX6_drawFrozen 69 = .ok (.ireturn, 1) := by decide +kernel
theorem dX6_dueThen_0 : decode cX6_dueThen 0 = .ok (.aload_n 0, 1) := by decide +kernel
theorem dX6_dueThen_1 : decode cX6_dueThen 1 = .ok (.iload_n 1, 1) := by decide +kernel
theorem dX6_dueThen_2 : decode cX6_dueThen 2 = .ok (.invokevirtual 50, 3) := by decide +kernel
theorem dX6_dueThen_5 : decode cX6_dueThen 5 = .ok (.istore_n 2, 1) := by decide +kernel
theorem dX6_dueThen_6 : decode cX6_dueThen 6 = .ok (.aload_n 0, 1) := by decide +kernel
theorem dX6_dueThen_7 : decode cX6_dueThen 7 = .ok (.getfield 29, 3) := by decide +kernel
theorem dX6_dueThen_10 : decode cX6_dueThen 10 = .ok (.getfield 117, 3) := by decide +kernel
theorem dX6_dueThen_13 : decode cX6_dueThen 13 = .ok (.invokevirtual 121, 3) := by decide +kernel
theorem dX6_dueThen_16 : decode cX6_dueThen 16 = .ok (.ifCond .ne 5, 3) := by decide +kernel
theorem dX6_dueThen_19 : decode cX6_dueThen 19 = .ok (.iload_n 2, 1) := by decide +kernel
theorem dX6_dueThen_20 : decode cX6_dueThen 20 = .ok (.ireturn, 1) := by decide +kernel
theorem dX6_dueThen_21 : decode cX6_dueThen 21 = .ok (.iconst 0, 1) := by decide +kernel
theorem dX6_dueThen_22 : decode cX6_dueThen 22 = .ok (.istore_n 3, 1) := by decide +kernel
theorem dX6_dueThen_23 : decode cX6_dueThen 23 = .ok (.iload_n 3, 1) := by decide +kernel
theorem dX6_dueThen_24 : decode cX6_dueThen 24 = .ok (.aload_n 0, 1) := by decide +kernel
theorem dX6_dueThen_25 : decode cX6_dueThen 25 = .ok (.getfield 25, 3) := by decide +kernel
theorem dX6_dueThen_28 : decode cX6_dueThen 28 = .ok (.getfield 80, 3) := by decide +kernel
theorem dX6_dueThen_31 : decode cX6_dueThen 31 = .ok (.if_icmp .ge 71, 3) := by decide +kernel
theorem dX6_dueThen_34 : decode cX6_dueThen 34 = .ok (.aload_n 0, 1) := by decide +kernel
theorem dX6_dueThen_35 : decode cX6_dueThen 35 = .ok (.getfield 12, 3) := by decide +kernel
theorem dX6_dueThen_38 : decode cX6_dueThen 38 = .ok (.iload_n 3, 1) := by decide +kernel
theorem dX6_dueThen_39 : decode cX6_dueThen 39 = .ok (.invokevirtual 127, 3) := by decide +kernel
theorem dX6_dueThen_42 : decode cX6_dueThen 42 = .ok (.istore 4, 2) := by decide +kernel
theorem dX6_dueThen_44 : decode cX6_dueThen 44 = .ok (.iload 4, 2) := by decide +kernel
theorem dX6_dueThen_46 : decode cX6_dueThen 46 = .ok (.aload_n 0, 1) := by decide +kernel
theorem dX6_dueThen_47 : decode cX6_dueThen 47 = .ok (.getfield 33, 3) := by decide +kernel
theorem dX6_dueThen_50 : decode cX6_dueThen 50 = .ok (.iload_n 3, 1) := by decide +kernel
theorem dX6_dueThen_51 : decode cX6_dueThen 51 = .ok (.invokevirtual 127, 3) := by decide +kernel
theorem dX6_dueThen_54 : decode cX6_dueThen 54 = .ok (.if_icmp .eq 42, 3) := by decide +kernel
theorem dX6_dueThen_57 : decode cX6_dueThen 57 = .ok (.iconst 1, 1) := by decide +kernel
theorem dX6_dueThen_58 : decode cX6_dueThen 58 = .ok (.iload_n 3, 1) := by decide +kernel
theorem dX6_dueThen_59 : decode cX6_dueThen 59 = .ok (.ishl, 1) := by decide +kernel
theorem dX6_dueThen_60 : decode cX6_dueThen 60 = .ok (.istore 5, 2) := by decide +kernel
theorem dX6_dueThen_62 : decode cX6_dueThen 62 = .ok (.aload_n 0, 1) := by decide +kernel
theorem dX6_dueThen_63 : decode cX6_dueThen 63 = .ok (.getfield 29, 3) := by decide +kernel
theorem dX6_dueThen_66 : decode cX6_dueThen 66 = .ok (.iload_n 3, 1) := by decide +kernel
theorem dX6_dueThen_67 : decode cX6_dueThen 67 = .ok (.aload_n 0, 1) := by decide +kernel
theorem dX6_dueThen_68 : decode cX6_dueThen 68 = .ok (.getfield 12, 3) := by decide +kernel
theorem dX6_dueThen_71 : decode cX6_dueThen 71 = .ok (.invokevirtual 40, 3) := by decide +kernel
theorem dX6_dueThen_74 : decode cX6_dueThen 74 = .ok (.iload 4, 2) := by decide +kernel
theorem dX6_dueThen_76 : decode cX6_dueThen 76 = .ok (.invokevirtual 130, 3) := by decide +kernel
theorem dX6_dueThen_79 : decode cX6_dueThen 79 = .ok (.ifCond .eq 10, 3) := by decide +kernel
theorem dX6_dueThen_82 : decode cX6_dueThen 82 = .ok (.iload_n 2, 1) := by decide +kernel
theorem dX6_dueThen_83 : decode cX6_dueThen 83 = .ok (.iload 5, 2) := by decide +kernel
theorem dX6_dueThen_85 : decode cX6_dueThen 85 = .ok (.ior, 1) := by decide +kernel
theorem dX6_dueThen_86 : decode cX6_dueThen 86 = .ok (.goto 9, 3) := by decide +kernel
theorem dX6_dueThen_89 : decode cX6_dueThen 89 = .ok (.iload_n 2, 1) := by decide +kernel
theorem dX6_dueThen_90 : decode cX6_dueThen 90 = .ok (.iload 5, 2) := by decide +kernel
theorem dX6_dueThen_92 : decode cX6_dueThen 92 = .ok (.iconst (-1), 1) := by decide +kernel
theorem dX6_dueThen_93 : decode cX6_dueThen 93 = .ok (.ixor, 1) := by decide +kernel
theorem dX6_dueThen_94 : decode cX6_dueThen 94 = .ok (.iand, 1) := by decide +kernel
theorem dX6_dueThen_95 : decode cX6_dueThen 95 = .ok (.istore_n 2, 1) := by decide +kernel
theorem dX6_dueThen_96 : decode cX6_dueThen 96 = .ok (.iinc 3 1, 3) := by decide +kernel
theorem dX6_dueThen_99 : decode cX6_dueThen 99 = .ok (.goto (-76), 3) := by decide +kernel
theorem dX6_dueThen_102 : decode cX6_dueThen 102 = .ok (.iload_n 2, 1) := by decide +kernel
theorem dX6_dueThen_103 : decode cX6_dueThen 103 = .ok (.ireturn, 1) := by decide +kernel
theorem dX6_knocksSince_0 : decode cX6_knocksSince 0 = .ok (.aload_n 0, 1) := by decide +kernel
theorem dX6_knocksSince_1 : decode cX6_knocksSince 1 = .ok (.getfield 12, 3) := by decide +kernel
theorem dX6_knocksSince_4 : decode cX6_knocksSince 4 = .ok (.invokevirtual 134, 3) := by decide +kernel
theorem dX6_knocksSince_7 : decode cX6_knocksSince 7 = .ok (.aload_n 0, 1) := by decide +kernel
theorem dX6_knocksSince_8 : decode cX6_knocksSince 8 = .ok (.getfield 33, 3) := by decide +kernel
theorem dX6_knocksSince_11 : decode cX6_knocksSince 11 = .ok (.invokevirtual 134, 3) := by decide +kernel
theorem dX6_knocksSince_14 : decode cX6_knocksSince 14 = .ok (.isub, 1) := by decide +kernel
theorem dX6_knocksSince_15 : decode cX6_knocksSince 15 = .ok (.ireturn, 1) := by decide +kernel
theorem dX6_finesSince_0 : decode cX6_finesSince 0 = .ok (.aload_n 0, 1) := by decide +kernel
theorem dX6_finesSince_1 : decode cX6_finesSince 1 = .ok (.getfield 12, 3) := by decide +kernel
theorem dX6_finesSince_4 : decode cX6_finesSince 4 = .ok (.invokevirtual 137, 3) := by decide +kernel
theorem dX6_finesSince_7 : decode cX6_finesSince 7 = .ok (.aload_n 0, 1) := by decide +kernel
theorem dX6_finesSince_8 : decode cX6_finesSince 8 = .ok (.getfield 33, 3) := by decide +kernel
theorem dX6_finesSince_11 : decode cX6_finesSince 11 = .ok (.invokevirtual 137, 3) := by decide +kernel
theorem dX6_finesSince_14 : decode cX6_finesSince 14 = .ok (.isub, 1) := by decide +kernel
theorem dX6_finesSince_15 : decode cX6_finesSince 15 = .ok (.ireturn, 1) := by decide +kernel
theorem dX7_init_0 : decode cX7_init 0 = .ok (.aload_n 0, 1) := by decide +kernel
theorem dX7_init_1 : decode cX7_init 1 = .ok (.invokespecial 7, 3) := by decide +kernel
theorem dX7_init_4 : decode cX7_init 4 = .ok (.aload_n 0, 1) := by decide +kernel
theorem dX7_init_5 : decode cX7_init 5 = .ok (.sipush 752, 3) := by decide +kernel
theorem dX7_init_8 : decode cX7_init 8 = .ok (.newarray .int, 2) := by decide +kernel
theorem dX7_init_10 : decode cX7_init 10 = .ok (.putfield 13, 3) := by decide +kernel
theorem dX7_init_13 : decode cX7_init 13 = .ok (.aload_n 0, 1) := by decide +kernel
theorem dX7_init_14 : decode cX7_init 14 = .ok (.iconst 3, 1) := by decide +kernel
theorem dX7_init_15 : decode cX7_init 15 = .ok (.sipush 800, 3) := by decide +kernel
theorem dX7_init_18 : decode cX7_init 18 = .ok (.multianewarray 17 2, 4) := by decide +kernel
theorem dX7_init_22 : decode cX7_init 22 = .ok (.putfield 19, 3) := by decide +kernel
theorem dX7_init_25 : decode cX7_init 25 = .ok (.return_, 1) := by decide +kernel
theorem dX7_clear_0 : decode cX7_clear 0 = .ok (.aload_n 0, 1) := by decide +kernel
theorem dX7_clear_1 : decode cX7_clear 1 = .ok (.iconst 0, 1) := by decide +kernel
theorem dX7_clear_2 : decode cX7_clear 2 = .ok (.putfield 22, 3) := by decide +kernel
theorem dX7_clear_5 : decode cX7_clear 5 = .ok (.aload_n 0, 1) := by decide +kernel
theorem dX7_clear_6 : decode cX7_clear 6 = .ok (.iconst 0, 1) := by decide +kernel
theorem dX7_clear_7 : decode cX7_clear 7 = .ok (.putfield 26, 3) := by decide +kernel
theorem dX7_clear_10 : decode cX7_clear 10 = .ok (.return_, 1) := by decide +kernel
theorem dX7_isFull_0 : decode cX7_isFull 0 = .ok (.aload_n 0, 1) := by decide +kernel
theorem dX7_isFull_1 : decode cX7_isFull 1 = .ok (.getfield 22, 3) := by decide +kernel
theorem dX7_isFull_4 : decode cX7_isFull 4 = .ok (.bipush 16, 2) := by decide +kernel
theorem dX7_isFull_6 : decode cX7_isFull 6 = .ok (.if_icmp .lt 7, 3) := by decide +kernel
theorem dX7_isFull_9 : decode cX7_isFull 9 = .ok (.iconst 1, 1) := by decide +kernel
theorem dX7_isFull_10 : decode cX7_isFull 10 = .ok (.goto 4, 3) := by decide +kernel
theorem dX7_isFull_13 : decode cX7_isFull 13 = .ok (.iconst 0, 1) := by decide +kernel
theorem dX7_isFull_14 : decode cX7_isFull 14 = .ok (.ireturn, 1) := by decide +kernel
theorem dX7_keep_0 : decode cX7_keep 0 = .ok (.aload_n 0, 1) := by decide +kernel
theorem dX7_keep_1 : decode cX7_keep 1 = .ok (.invokevirtual 29, 3) := by decide +kernel
theorem dX7_keep_4 : decode cX7_keep 4 = .ok (.ifCond .ne 28, 3) := by decide +kernel
theorem dX7_keep_7 : decode cX7_keep 7 = .ok (.aload_n 1, 1) := by decide +kernel
theorem dX7_keep_8 : decode cX7_keep 8 = .ok (.aload_n 0, 1) := by decide +kernel
theorem dX7_keep_9 : decode cX7_keep 9 = .ok (.getfield 13, 3) := by decide +kernel
theorem dX7_keep_12 : decode cX7_keep 12 = .ok (.aload_n 0, 1) := by decide +kernel
theorem dX7_keep_13 : decode cX7_keep 13 = .ok (.getfield 22, 3) := by decide +kernel
theorem dX7_keep_16 : decode cX7_keep 16 = .ok (.bipush 47, 2) := by decide +kernel
theorem dX7_keep_18 : decode cX7_keep 18 = .ok (.imul, 1) := by decide +kernel
theorem dX7_keep_19 : decode cX7_keep 19 = .ok (.invokevirtual 33, 3) := by decide +kernel
theorem dX7_keep_22 : decode cX7_keep 22 = .ok (.aload_n 0, 1) := by decide +kernel
theorem dX7_keep_23 : decode cX7_keep 23 = .ok (.dup, 1) := by decide +kernel
theorem dX7_keep_24 : decode cX7_keep 24 = .ok (.getfield 22, 3) := by decide +kernel
theorem dX7_keep_27 : decode cX7_keep 27 = .ok (.iconst 1, 1) := by decide +kernel
theorem dX7_keep_28 : decode cX7_keep 28 = .ok (.iadd, 1) := by decide +kernel
theorem dX7_keep_29 : decode cX7_keep 29 = .ok (.putfield 22, 3) := by decide +kernel
theorem dX7_keep_32 : decode cX7_keep 32 = .ok (.return_, 1) := by decide +kernel
theorem dX7_bringBack_0 : decode cX7_bringBack 0 = .ok (.aload_n 0, 1) := by decide +kernel
theorem dX7_bringBack_1 : decode cX7_bringBack 1 = .ok (.getfield 22, 3) := by decide +kernel
theorem dX7_bringBack_4 : decode cX7_bringBack 4 = .ok (.ifCond .le 28, 3) := by decide +kernel
theorem dX7_bringBack_7 : decode cX7_bringBack 7 = .ok (.aload_n 0, 1) := by decide +kernel
theorem dX7_bringBack_8 : decode cX7_bringBack 8 = .ok (.dup, 1) := by decide +kernel
theorem dX7_bringBack_9 : decode cX7_bringBack 9 = .ok (.getfield 22, 3) := by decide +kernel
theorem dX7_bringBack_12 : decode cX7_bringBack 12 = .ok (.iconst 1, 1) := by decide +kernel
theorem dX7_bringBack_13 : decode cX7_bringBack 13 = .ok (.isub, 1) := by decide +kernel
theorem dX7_bringBack_14 : decode cX7_bringBack 14 = .ok (.putfield 22, 3) := by decide +kernel
theorem dX7_bringBack_17 : decode cX7_bringBack 17 = .ok (.aload_n 1, 1) := by decide +kernel
theorem dX7_bringBack_18 : decode cX7_bringBack 18 = .ok (.aload_n 0, 1) := by decide +kernel
theorem dX7_bringBack_19 : decode cX7_bringBack 19 = .ok (.getfield 13, 3) := by decide +kernel
theorem dX7_bringBack_22 : decode cX7_bringBack 22 = .ok (.aload_n 0, 1) := by decide +kernel
theorem dX7_bringBack_23 : decode cX7_bringBack 23 = .ok (.getfield 22, 3) := by decide +kernel
theorem dX7_bringBack_26 : decode cX7_bringBack 26 = .ok (.bipush 47, 2) := by decide +kernel
theorem dX7_bringBack_28 : decode cX7_bringBack 28 = .ok (.imul, 1) := by decide +kernel
theorem dX7_bringBack_29 : decode cX7_bringBack 29 = .ok (.invokevirtual 37, 3) := by decide +kernel
theorem dX7_bringBack_32 : decode cX7_bringBack 32 = .ok (.return_, 1) := by decide +kernel
theorem dX7_keepImage_0 : decode cX7_keepImage 0 = .ok (.aload_n 0, 1) := by decide +kernel
theorem dX7_keepImage_1 : decode cX7_keepImage 1 = .ok (.getfield 26, 3) := by decide +kernel
theorem dX7_keepImage_4 : decode cX7_keepImage 4 = .ok (.iconst 3, 1) := by decide +kernel
theorem dX7_keepImage_5 : decode cX7_keepImage 5 = .ok (.if_icmp .lt 5, 3) := by decide +kernel
theorem dX7_keepImage_8 : decode cX7_keepImage 8 = .ok (.iconst 0, 1) := by decide +kernel
theorem dX7_keepImage_9 : decode cX7_keepImage 9 = .ok (.ireturn, 1) := by decide +kernel
theorem dX7_keepImage_10 : decode cX7_keepImage 10 = .ok (.aload_n 0, 1) := by decide +kernel
theorem dX7_keepImage_11 : decode cX7_keepImage 11 = .ok (.getfield 19, 3) := by decide +kernel
theorem dX7_keepImage_14 : decode cX7_keepImage 14 = .ok (.aload_n 0, 1) := by decide +kernel
theorem dX7_keepImage_15 : decode cX7_keepImage 15 = .ok (.getfield 26, 3) := by decide +kernel
theorem dX7_keepImage_18 : decode cX7_keepImage 18 = .ok (.aaload, 1) := by decide +kernel
theorem dX7_keepImage_19 : decode cX7_keepImage 19 = .ok (.astore_n 2, 1) := by decide +kernel
theorem dX7_keepImage_20 : decode cX7_keepImage 20 = .ok (.aload_n 0, 1) := by decide +kernel
theorem dX7_keepImage_21 : decode cX7_keepImage 21 = .ok (.getfield 13, 3) := by decide +kernel
theorem dX7_keepImage_24 : decode cX7_keepImage 24 = .ok (.iconst 0, 1) := by decide +kernel
theorem dX7_keepImage_25 : decode cX7_keepImage 25 = .ok (.aload_n 2, 1) := by decide +kernel
theorem dX7_keepImage_26 : decode cX7_keepImage 26 = .ok (.iconst 0, 1) := by decide +kernel
theorem dX7_keepImage_27 : decode cX7_keepImage 27 = .ok (.aload_n 0, 1) := by decide +kernel
theorem dX7_keepImage_28 : decode cX7_keepImage 28 = .ok (.getfield 13, 3) := by decide +kernel
theorem dX7_keepImage_31 : decode cX7_keepImage 31 = .ok (.arraylength, 1) := by decide +kernel
theorem dX7_keepImage_32 : decode cX7_keepImage 32 = .ok (.invokestatic 40, 3) := by decide +kernel
theorem dX7_keepImage_35 : decode cX7_keepImage 35 = .ok (.aload_n 1, 1) := by decide +kernel
theorem dX7_keepImage_36 : decode cX7_keepImage 36 = .ok (.aload_n 2, 1) := by decide +kernel
theorem dX7_keepImage_37 : decode cX7_keepImage 37 = .ok (.sipush 752, 3) := by decide +kernel
theorem dX7_keepImage_40 : decode cX7_keepImage 40 = .ok (.invokevirtual 33, 3) := by decide +kernel
theorem dX7_keepImage_43 : decode cX7_keepImage 43 = .ok (.aload_n 2, 1) := by decide +kernel
theorem dX7_keepImage_44 : decode cX7_keepImage 44 = .ok (.sipush 799, 3) := by decide +kernel
theorem dX7_keepImage_47 : decode cX7_keepImage 47 = .ok (.aload_n 0, 1) := by decide +kernel
theorem dX7_keepImage_48 : decode cX7_keepImage 48 = .ok (.getfield 22, 3) := by decide +kernel
theorem dX7_keepImage_51 : decode cX7_keepImage 51 = .ok (.iastore, 1) := by decide +kernel
theorem dX7_keepImage_52 : decode cX7_keepImage 52 = .ok (.aload_n 0, 1) := by decide +kernel
theorem dX7_keepImage_53 : decode cX7_keepImage 53 = .ok (.dup, 1) := by decide +kernel
theorem dX7_keepImage_54 : decode cX7_keepImage 54 = .ok (.getfield 26, 3) := by decide +kernel
theorem dX7_keepImage_57 : decode cX7_keepImage 57 = .ok (.iconst 1, 1) := by decide +kernel
theorem dX7_keepImage_58 : decode cX7_keepImage 58 = .ok (.iadd, 1) := by decide +kernel
theorem dX7_keepImage_59 : decode cX7_keepImage 59 = .ok (.putfield 26, 3) := by decide +kernel
theorem dX7_keepImage_62 : decode cX7_keepImage 62 = .ok (.iconst 1, 1) := by decide +kernel
theorem dX7_keepImage_63 : decode cX7_keepImage 63 = .ok (.ireturn, 1) := by decide +kernel
theorem dX7_bringBackImage_0 : decode cX7_bringBackImage 0 = .ok (.aload_n 0, 1) := by decide +kernel
theorem dX7_bringBackImage_1 : decode cX7_bringBackImage 1 = .ok (.getfield 26, 3) := by decide +kernel
theorem dX7_bringBackImage_4 : decode cX7_bringBackImage 4 = .ok (.ifCond .gt 5, 3) := by decide +kernel
theorem dX7_bringBackImage_7 : decode cX7_bringBackImage 7 = .ok (.iconst 0, 1) := by decide +kernel
theorem dX7_bringBackImage_8 : decode cX7_bringBackImage 8 = .ok (.ireturn, 1) := by decide +kernel
theorem dX7_bringBackImage_9 : decode cX7_bringBackImage 9 = .ok (.aload_n 0, 1) := by decide +kernel
theorem dX7_bringBackImage_10 : decode cX7_bringBackImage 10 = .ok (.dup, 1) := by decide +kernel
theorem dX7_bringBackImage_11 : decode cX7_bringBackImage 11 = .ok (.getfield 26, 3) := by decide +kernel
theorem dX7_bringBackImage_14 : decode cX7_bringBackImage 14 = .ok (.iconst 1, 1) := by decide +kernel
theorem dX7_bringBackImage_15 : decode cX7_bringBackImage 15 = .ok (.isub, 1) := by decide +kernel
theorem dX7_bringBackImage_16 : decode cX7_bringBackImage 16 = .ok (.putfield 26, 3) := by decide +kernel
theorem dX7_bringBackImage_19 : decode cX7_bringBackImage 19 = .ok (.aload_n 0, 1) := by decide +kernel
theorem dX7_bringBackImage_20 : decode cX7_bringBackImage 20 = .ok (.getfield 19, 3) := by decide +kernel
theorem dX7_bringBackImage_23 : decode cX7_bringBackImage 23 = .ok (.aload_n 0, 1) := by decide +kernel
theorem dX7_bringBackImage_24 : decode cX7_bringBackImage 24 = .ok (.getfield 26, 3) := by decide +kernel
theorem dX7_bringBackImage_27 : decode cX7_bringBackImage 27 = .ok (.aaload, 1) := by decide +kernel
theorem dX7_bringBackImage_28 : decode cX7_bringBackImage 28 = .ok (.astore_n 2, 1) := by decide +kernel
theorem dX7_bringBackImage_29 : decode cX7_bringBackImage 29 = .ok (.aload_n 2, 1) := by decide +kernel
theorem dX7_bringBackImage_30 : decode cX7_bringBackImage 30 = .ok (.iconst 0, 1) := by decide +kernel
theorem dX7_bringBackImage_31 : decode cX7_bringBackImage 31 = .ok (.aload_n 0, 1) := by decide +kernel
theorem dX7_bringBackImage_32 : decode cX7_bringBackImage 32 = .ok (.getfield 13, 3) := by decide +kernel
theorem dX7_bringBackImage_35 : decode cX7_bringBackImage 35 = .ok (.iconst 0, 1) := by decide +kernel
theorem dX7_bringBackImage_36 : decode cX7_bringBackImage 36 = .ok (.aload_n 0, 1) := by decide +kernel
theorem dX7_bringBackImage_37 : decode cX7_bringBackImage 37 = .ok (.getfield 13, 3) := by decide +kernel
theorem dX7_bringBackImage_40 : decode cX7_bringBackImage 40 = .ok (.arraylength, 1) := by decide +kernel
theorem dX7_bringBackImage_41 : decode cX7_bringBackImage 41 = .ok (.invokestatic 40, 3) := by decide +kernel
theorem dX7_bringBackImage_44 : decode cX7_bringBackImage 44 = .ok (.aload_n 1, 1) := by decide +kernel
theorem dX7_bringBackImage_45 : decode cX7_bringBackImage 45 = .ok (.aload_n 2, 1) := by decide +kernel
theorem dX7_bringBackImage_46 : decode cX7_bringBackImage 46 = .ok (.sipush 752, 3) := by decide +kernel
theorem dX7_bringBackImage_49 : decode cX7_bringBackImage 49 = .ok (.invokevirtual 37, 3) := by decide +kernel
theorem dX7_bringBackImage_52 : decode cX7_bringBackImage 52 = .ok (.aload_n 0, 1) := by decide +kernel
theorem dX7_bringBackImage_53 : decode cX7_bringBackImage 53 = .ok (.aload_n 2, 1) := by decide +kernel
theorem dX7_bringBackImage_54 : decode cX7_bringBackImage 54 = .ok (.sipush 799, 3) := by decide +kernel
theorem dX7_bringBackImage_57 : decode cX7_bringBackImage 57 = .ok (.iaload, 1) := by decide +kernel
theorem dX7_bringBackImage_58 : decode cX7_bringBackImage 58 = .ok (.putfield 22, 3) := by decide +kernel
theorem dX7_bringBackImage_61 : decode cX7_bringBackImage 61 = .ok (.iconst 1, 1) := by decide +kernel
theorem dX7_bringBackImage_62 : decode cX7_bringBackImage 62 = .ok (.ireturn, 1) := by decide +kernel
theorem dX8_init_0 : decode cX8_init 0 = .ok (.aload_n 0, 1) := by decide +kernel
theorem dX8_init_1 : decode cX8_init 1 = .ok (.invokespecial 5, 3) := by decide +kernel
theorem dX8_init_4 : decode cX8_init 4 = .ok (.aload_n 0, 1) := by decide +kernel
theorem dX8_init_5 : decode cX8_init 5 = .ok (.bipush 47, 2) := by decide +kernel
theorem dX8_init_7 : decode cX8_init 7 = .ok (.newarray .int, 2) := by decide +kernel
theorem dX8_init_9 : decode cX8_init 9 = .ok (.putfield 11, 3) := by decide +kernel
theorem dX8_init_12 : decode cX8_init 12 = .ok (.return_, 1) := by decide +kernel
theorem dX8_clear_0 : decode cX8_clear 0 = .ok (.aload_n 0, 1) := by decide +kernel
theorem dX8_clear_1 : decode cX8_clear 1 = .ok (.getfield 11, 3) := by decide +kernel
theorem dX8_clear_4 : decode cX8_clear 4 = .ok (.iconst 0, 1) := by decide +kernel
theorem dX8_clear_5 : decode cX8_clear 5 = .ok (.invokestatic 15, 3) := by decide +kernel
theorem dX8_clear_8 : decode cX8_clear 8 = .ok (.return_, 1) := by decide +kernel
theorem dX8_writeTo_0 : decode cX8_writeTo 0 = .ok (.aload_n 0, 1) := by decide +kernel
theorem dX8_writeTo_1 : decode cX8_writeTo 1 = .ok (.getfield 11, 3) := by decide +kernel
theorem dX8_writeTo_4 : decode cX8_writeTo 4 = .ok (.iconst 0, 1) := by decide +kernel
theorem dX8_writeTo_5 : decode cX8_writeTo 5 = .ok (.aload_n 1, 1) := by decide +kernel
theorem dX8_writeTo_6 : decode cX8_writeTo 6 = .ok (.iload_n 2, 1) := by decide +kernel
theorem dX8_writeTo_7 : decode cX8_writeTo 7 = .ok (.bipush 47, 2) := by decide +kernel
theorem dX8_writeTo_9 : decode cX8_writeTo 9 = .ok (.invokestatic 21, 3) := by decide +kernel
theorem dX8_writeTo_12 : decode cX8_writeTo 12 = .ok (.return_, 1) := by decide +kernel
theorem dX8_readFrom_0 : decode cX8_readFrom 0 = .ok (.aload_n 1, 1) := by decide +kernel
theorem dX8_readFrom_1 : decode cX8_readFrom 1 = .ok (.iload_n 2, 1) := by decide +kernel
theorem dX8_readFrom_2 : decode cX8_readFrom 2 = .ok (.aload_n 0, 1) := by decide +kernel
theorem dX8_readFrom_3 : decode cX8_readFrom 3 = .ok (.getfield 11, 3) := by decide +kernel
theorem dX8_readFrom_6 : decode cX8_readFrom 6 = .ok (.iconst 0, 1) := by decide +kernel
theorem dX8_readFrom_7 : decode cX8_readFrom 7 = .ok (.bipush 47, 2) := by decide +kernel
theorem dX8_readFrom_9 : decode cX8_readFrom 9 = .ok (.invokestatic 21, 3) := by decide +kernel
theorem dX8_readFrom_12 : decode cX8_readFrom 12 = .ok (.return_, 1) := by decide +kernel
theorem dX8_hour_0 : decode cX8_hour 0 = .ok (.aload_n 0, 1) := by decide +kernel
theorem dX8_hour_1 : decode cX8_hour 1 = .ok (.getfield 11, 3) := by decide +kernel
theorem dX8_hour_4 : decode cX8_hour 4 = .ok (.iconst 0, 1) := by decide +kernel
theorem dX8_hour_5 : decode cX8_hour 5 = .ok (.iaload, 1) := by decide +kernel
theorem dX8_hour_6 : decode cX8_hour 6 = .ok (.ireturn, 1) := by decide +kernel
theorem dX8_addHour_0 : decode cX8_addHour 0 = .ok (.aload_n 0, 1) := by decide +kernel
theorem dX8_addHour_1 : decode cX8_addHour 1 = .ok (.getfield 11, 3) := by decide +kernel
theorem dX8_addHour_4 : decode cX8_addHour 4 = .ok (.iconst 0, 1) := by decide +kernel
theorem dX8_addHour_5 : decode cX8_addHour 5 = .ok (.dup2, 1) := by decide +kernel
theorem dX8_addHour_6 : decode cX8_addHour 6 = .ok (.iaload, 1) := by decide +kernel
theorem dX8_addHour_7 : decode cX8_addHour 7 = .ok (.iconst 1, 1) := by decide +kernel
theorem dX8_addHour_8 : decode cX8_addHour 8 = .ok (.iadd, 1) := by decide +kernel
theorem dX8_addHour_9 : decode cX8_addHour 9 = .ok (.iastore, 1) := by decide +kernel
theorem dX8_addHour_10 : decode cX8_addHour 10 = .ok (.return_, 1) := by decide +kernel
theorem dX8_lifted_0 : decode cX8_lifted 0 = .ok (.aload_n 0, 1) := by decide +kernel
theorem dX8_lifted_1 : decode cX8_lifted 1 = .ok (.getfield 11, 3) := by decide +kernel
theorem dX8_lifted_4 : decode cX8_lifted 4 = .ok (.iconst 1, 1) := by decide +kernel
theorem dX8_lifted_5 : decode cX8_lifted 5 = .ok (.iaload, 1) := by decide +kernel
theorem dX8_lifted_6 : decode cX8_lifted 6 = .ok (.ireturn, 1) := by decide +kernel
theorem dX8_shut_0 : decode cX8_shut 0 = .ok (.aload_n 0, 1) := by decide +kernel
theorem dX8_shut_1 : decode cX8_shut 1 = .ok (.getfield 11, 3) := by decide +kernel
theorem dX8_shut_4 : decode cX8_shut 4 = .ok (.iconst 2, 1) := by decide +kernel
theorem dX8_shut_5 : decode cX8_shut 5 = .ok (.iaload, 1) := by decide +kernel
theorem dX8_shut_6 : decode cX8_shut 6 = .ok (.ireturn, 1) := by decide +kernel
theorem dX8_modeOf_0 : decode cX8_modeOf 0 = .ok (.aload_n 0, 1) := by decide +kernel
theorem dX8_modeOf_1 : decode cX8_modeOf 1 = .ok (.invokevirtual 27, 3) := by decide +kernel
theorem dX8_modeOf_4 : decode cX8_modeOf 4 = .ok (.iload_n 1, 1) := by decide +kernel
theorem dX8_modeOf_5 : decode cX8_modeOf 5 = .ok (.invokestatic 31, 3) := by decide +kernel
theorem dX8_modeOf_8 : decode cX8_modeOf 8 = .ok (.ifCond .eq 5, 3) := by decide +kernel
theorem dX8_modeOf_11 : decode cX8_modeOf 11 = .ok (.iconst 1, 1) := by decide +kernel
theorem dX8_modeOf_12 : decode cX8_modeOf 12 = .ok (.ireturn, 1) := by decide +kernel
theorem dX8_modeOf_13 : decode cX8_modeOf 13 = .ok (.aload_n 0, 1) := by decide +kernel
theorem dX8_modeOf_14 : decode cX8_modeOf 14 = .ok (.invokevirtual 35, 3) := by decide +kernel
theorem dX8_modeOf_17 : decode cX8_modeOf 17 = .ok (.iload_n 1, 1) := by decide +kernel
theorem dX8_modeOf_18 : decode cX8_modeOf 18 = .ok (.invokestatic 31, 3) := by decide +kernel
theorem dX8_modeOf_21 : decode cX8_modeOf 21 = .ok (.ifCond .eq 7, 3) := by decide +kernel
theorem dX8_modeOf_24 : decode cX8_modeOf 24 = .ok (.iconst 2, 1) := by decide +kernel
theorem dX8_modeOf_25 : decode cX8_modeOf 25 = .ok (.goto 4, 3) := by decide +kernel
theorem dX8_modeOf_28 : decode cX8_modeOf 28 = .ok (.iconst 0, 1) := by decide +kernel
theorem dX8_modeOf_29 : decode cX8_modeOf 29 = .ok (.ireturn, 1) := by decide +kernel
theorem dX8_setMode_0 : decode cX8_setMode 0 = .ok (.iconst 1, 1) := by decide +kernel
theorem dX8_setMode_1 : decode cX8_setMode 1 = .ok (.iload_n 1, 1) := by decide +kernel
theorem dX8_setMode_2 : decode cX8_setMode 2 = .ok (.ishl, 1) := by decide +kernel
theorem dX8_setMode_3 : decode cX8_setMode 3 = .ok (.istore_n 3, 1) := by decide +kernel
theorem dX8_setMode_4 : decode cX8_setMode 4 = .ok (.aload_n 0, 1) := by decide +kernel
theorem dX8_setMode_5 : decode cX8_setMode 5 = .ok (.getfield 11, 3) := by decide +kernel
theorem dX8_setMode_8 : decode cX8_setMode 8 = .ok (.iconst 1, 1) := by decide +kernel
theorem dX8_setMode_9 : decode cX8_setMode 9 = .ok (.iload_n 2, 1) := by decide +kernel
theorem dX8_setMode_10 : decode cX8_setMode 10 = .ok (.iconst 1, 1) := by decide +kernel
theorem dX8_setMode_11 : decode cX8_setMode 11 = .ok (.if_icmp .ne 12, 3) := by decide +kernel
theorem dX8_setMode_14 : decode cX8_setMode 14 = .ok (.aload_n 0, 1) := by decide +kernel
theorem dX8_setMode_15 : decode cX8_setMode 15 = .ok (.invokevirtual 27, 3) := by decide +kernel
theorem dX8_setMode_18 : decode cX8_setMode 18 = .ok (.iload_n 3, 1) := by decide +kernel
theorem dX8_setMode_19 : decode cX8_setMode 19 = .ok (.ior, 1) := by decide +kernel
theorem dX8_setMode_20 : decode cX8_setMode 20 = .ok (.goto 11, 3) := by decide +kernel
theorem dX8_setMode_23 : decode cX8_setMode 23 = .ok (.aload_n 0, 1) := by decide +kernel
theorem dX8_setMode_24 : decode cX8_setMode 24 = .ok (.invokevirtual 27, 3) := by decide +kernel
theorem dX8_setMode_27 : decode cX8_setMode 27 = .ok (.iload_n 3, 1) := by decide +kernel
theorem dX8_setMode_28 : decode cX8_setMode 28 = .ok (.iconst (-1), 1) := by decide +kernel
theorem dX8_setMode_29 : decode cX8_setMode 29 = .ok (.ixor, 1) := by decide +kernel
theorem dX8_setMode_30 : decode cX8_setMode 30 = .ok (.iand, 1) := by decide +kernel
theorem dX8_setMode_31 : decode cX8_setMode 31 = .ok (.iastore, 1) := by decide +kernel
theorem dX8_setMode_32 : decode cX8_setMode 32 = .ok (.aload_n 0, 1) := by decide +kernel
theorem dX8_setMode_33 : decode cX8_setMode 33 = .ok (.getfield 11, 3) := by decide +kernel
theorem dX8_setMode_36 : decode cX8_setMode 36 = .ok (.iconst 2, 1) := by decide +kernel
theorem dX8_setMode_37 : decode cX8_setMode 37 = .ok (.iload_n 2, 1) := by decide +kernel
theorem dX8_setMode_38 : decode cX8_setMode 38 = .ok (.iconst 2, 1) := by decide +kernel
theorem dX8_setMode_39 : decode cX8_setMode 39 = .ok (.if_icmp .ne 12, 3) := by decide +kernel
theorem dX8_setMode_42 : decode cX8_setMode 42 = .ok (.aload_n 0, 1) := by decide +kernel
theorem dX8_setMode_43 : decode cX8_setMode 43 = .ok (.invokevirtual 35, 3) := by decide +kernel
theorem dX8_setMode_46 : decode cX8_setMode 46 = .ok (.iload_n 3, 1) := by decide +kernel
theorem dX8_setMode_47 : decode cX8_setMode 47 = .ok (.ior, 1) := by decide +kernel
theorem dX8_setMode_48 : decode cX8_setMode 48 = .ok (.goto 11, 3) := by decide +kernel
theorem dX8_setMode_51 : decode cX8_setMode 51 = .ok (.aload_n 0, 1) := by decide +kernel
theorem dX8_setMode_52 : decode cX8_setMode 52 = .ok (.invokevirtual 35, 3) := by decide +kernel
theorem dX8_setMode_55 : decode cX8_setMode 55 = .ok (.iload_n 3, 1) := by decide +kernel
theorem dX8_setMode_56 : decode cX8_setMode 56 = .ok (.iconst (-1), 1) := by decide +kernel
theorem dX8_setMode_57 : decode cX8_setMode 57 = .ok (.ixor, 1) := by decide +kernel
theorem dX8_setMode_58 : decode cX8_setMode 58 = .ok (.iand, 1) := by decide +kernel
theorem dX8_setMode_59 : decode cX8_setMode 59 = .ok (.iastore, 1) := by decide +kernel
theorem dX8_setMode_60 : decode cX8_setMode 60 = .ok (.return_, 1) := by decide +kernel
theorem dX8_finesOf_0 : decode cX8_finesOf 0 = .ok (.aload_n 0, 1) := by decide +kernel
theorem dX8_finesOf_1 : decode cX8_finesOf 1 = .ok (.getfield 11, 3) := by decide +kernel
theorem dX8_finesOf_4 : decode cX8_finesOf 4 = .ok (.iconst 3, 1) := by decide +kernel
theorem dX8_finesOf_5 : decode cX8_finesOf 5 = .ok (.iload_n 1, 1) := by decide +kernel
theorem dX8_finesOf_6 : decode cX8_finesOf 6 = .ok (.iadd, 1) := by decide +kernel
theorem dX8_finesOf_7 : decode cX8_finesOf 7 = .ok (.iaload, 1) := by decide +kernel
theorem dX8_finesOf_8 : decode cX8_finesOf 8 = .ok (.ireturn, 1) := by decide +kernel
theorem dX8_fine_0 : decode cX8_fine 0 = .ok (.iconst 0, 1) := by decide +kernel
theorem dX8_fine_1 : decode cX8_fine 1 = .ok (.istore_n 2, 1) := by decide +kernel
theorem dX8_fine_2 : decode cX8_fine 2 = .ok (.iload_n 2, 1) := by decide +kernel
theorem dX8_fine_3 : decode cX8_fine 3 = .ok (.bipush 16, 2) := by decide +kernel
theorem dX8_fine_5 : decode cX8_fine 5 = .ok (.if_icmp .ge 25, 3) := by decide +kernel
theorem dX8_fine_8 : decode cX8_fine 8 = .ok (.aload_n 0, 1) := by decide +kernel
theorem dX8_fine_9 : decode cX8_fine 9 = .ok (.getfield 11, 3) := by decide +kernel
theorem dX8_fine_12 : decode cX8_fine 12 = .ok (.iconst 3, 1) := by decide +kernel
theorem dX8_fine_13 : decode cX8_fine 13 = .ok (.iload_n 2, 1) := by decide +kernel
theorem dX8_fine_14 : decode cX8_fine 14 = .ok (.iadd, 1) := by decide +kernel
theorem dX8_fine_15 : decode cX8_fine 15 = .ok (.dup2, 1) := by decide +kernel
theorem dX8_fine_16 : decode cX8_fine 16 = .ok (.iaload, 1) := by decide +kernel
theorem dX8_fine_17 : decode cX8_fine 17 = .ok (.iload_n 1, 1) := by decide +kernel
theorem dX8_fine_18 : decode cX8_fine 18 = .ok (.iload_n 2, 1) := by decide +kernel
theorem dX8_fine_19 : decode cX8_fine 19 = .ok (.ishr, 1) := by decide +kernel
theorem dX8_fine_20 : decode cX8_fine 20 = .ok (.iconst 1, 1) := by decide +kernel
theorem dX8_fine_21 : decode cX8_fine 21 = .ok (.iand, 1) := by decide +kernel
theorem dX8_fine_22 : decode cX8_fine 22 = .ok (.iadd, 1) := by decide +kernel
theorem dX8_fine_23 : decode cX8_fine 23 = .ok (.iastore, 1) := by decide +kernel
theorem dX8_fine_24 : decode cX8_fine 24 = .ok (.iinc 2 1, 3) := by decide +kernel
theorem dX8_fine_27 : decode cX8_fine 27 = .ok (.goto (-25), 3) := by decide +kernel
theorem dX8_fine_30 : decode cX8_fine 30 = .ok (.return_, 1) := by decide +kernel
theorem dX8_knocksAt_0 : decode cX8_knocksAt 0 = .ok (.aload_n 0, 1) := by decide +kernel
theorem dX8_knocksAt_1 : decode cX8_knocksAt 1 = .ok (.getfield 11, 3) := by decide +kernel
theorem dX8_knocksAt_4 : decode cX8_knocksAt 4 = .ok (.bipush 19, 2) := by decide +kernel
theorem dX8_knocksAt_6 : decode cX8_knocksAt 6 = .ok (.iload_n 1, 1) := by decide +kernel
theorem dX8_knocksAt_7 : decode cX8_knocksAt 7 = .ok (.iadd, 1) := by decide +kernel
theorem dX8_knocksAt_8 : decode cX8_knocksAt 8 = .ok (.iaload, 1) := by decide +kernel
theorem dX8_knocksAt_9 : decode cX8_knocksAt 9 = .ok (.ireturn, 1) := by decide +kernel
theorem dX8_knock_0 : decode cX8_knock 0 = .ok (.aload_n 0, 1) := by decide +kernel
theorem dX8_knock_1 : decode cX8_knock 1 = .ok (.getfield 11, 3) := by decide +kernel
theorem dX8_knock_4 : decode cX8_knock 4 = .ok (.bipush 19, 2) := by decide +kernel
theorem dX8_knock_6 : decode cX8_knock 6 = .ok (.iload_n 1, 1) := by decide +kernel
theorem dX8_knock_7 : decode cX8_knock 7 = .ok (.iadd, 1) := by decide +kernel
theorem dX8_knock_8 : decode cX8_knock 8 = .ok (.dup2, 1) := by decide +kernel
theorem dX8_knock_9 : decode cX8_knock 9 = .ok (.iaload, 1) := by decide +kernel
theorem dX8_knock_10 : decode cX8_knock 10 = .ok (.iconst 1, 1) := by decide +kernel
theorem dX8_knock_11 : decode cX8_knock 11 = .ok (.iadd, 1) := by decide +kernel
theorem dX8_knock_12 : decode cX8_knock 12 = .ok (.iastore, 1) := by decide +kernel
theorem dX8_knock_13 : decode cX8_knock 13 = .ok (.return_, 1) := by decide +kernel
theorem dX8_whereIs_0 : decode cX8_whereIs 0 = .ok (.aload_n 0, 1) := by decide +kernel
theorem dX8_whereIs_1 : decode cX8_whereIs 1 = .ok (.getfield 11, 3) := by decide +kernel
theorem dX8_whereIs_4 : decode cX8_whereIs 4 = .ok (.bipush 35, 2) := by decide +kernel
theorem dX8_whereIs_6 : decode cX8_whereIs 6 = .ok (.iload_n 1, 1) := by decide +kernel
theorem dX8_whereIs_7 : decode cX8_whereIs 7 = .ok (.iadd, 1) := by decide +kernel
theorem dX8_whereIs_8 : decode cX8_whereIs 8 = .ok (.iaload, 1) := by decide +kernel
theorem dX8_whereIs_9 : decode cX8_whereIs 9 = .ok (.ireturn, 1) := by decide +kernel
theorem dX8_passedBy_0 : decode cX8_passedBy 0 = .ok (.aload_n 0, 1) := by decide +kernel
theorem dX8_passedBy_1 : decode cX8_passedBy 1 = .ok (.getfield 11, 3) := by decide +kernel
theorem dX8_passedBy_4 : decode cX8_passedBy 4 = .ok (.bipush 39, 2) := by decide +kernel
theorem dX8_passedBy_6 : decode cX8_passedBy 6 = .ok (.iload_n 1, 1) := by decide +kernel
theorem dX8_passedBy_7 : decode cX8_passedBy 7 = .ok (.iadd, 1) := by decide +kernel
theorem dX8_passedBy_8 : decode cX8_passedBy 8 = .ok (.iaload, 1) := by decide +kernel
theorem dX8_passedBy_9 : decode cX8_passedBy 9 = .ok (.ireturn, 1) := by decide +kernel
theorem dX8_throughHour_0 : decode cX8_throughHour 0 = .ok (.aload_n 0, 1) := by decide +kernel
theorem dX8_throughHour_1 : decode cX8_throughHour 1 = .ok (.getfield 11, 3) := by decide +kernel
theorem dX8_throughHour_4 : decode cX8_throughHour 4 = .ok (.bipush 43, 2) := by decide +kernel
theorem dX8_throughHour_6 : decode cX8_throughHour 6 = .ok (.iload_n 1, 1) := by decide +kernel
theorem dX8_throughHour_7 : decode cX8_throughHour 7 = .ok (.iadd, 1) := by decide +kernel
theorem dX8_throughHour_8 : decode cX8_throughHour 8 = .ok (.iaload, 1) := by decide +kernel
theorem dX8_throughHour_9 : decode cX8_throughHour 9 = .ok (.ireturn, 1) := by decide +kernel
theorem dX8_come_0 : decode cX8_come 0 = .ok (.aload_n 0, 1) := by decide +kernel
theorem dX8_come_1 : decode cX8_come 1 = .ok (.getfield 11, 3) := by decide +kernel
theorem dX8_come_4 : decode cX8_come 4 = .ok (.bipush 35, 2) := by decide +kernel
theorem dX8_come_6 : decode cX8_come 6 = .ok (.iload_n 1, 1) := by decide +kernel
theorem dX8_come_7 : decode cX8_come 7 = .ok (.iadd, 1) := by decide +kernel
theorem dX8_come_8 : decode cX8_come 8 = .ok (.iconst 1, 1) := by decide +kernel
theorem dX8_come_9 : decode cX8_come 9 = .ok (.iastore, 1) := by decide +kernel
theorem dX8_come_10 : decode cX8_come 10 = .ok (.return_, 1) := by decide +kernel
theorem dX8_pass_0 : decode cX8_pass 0 = .ok (.aload_n 0, 1) := by decide +kernel
theorem dX8_pass_1 : decode cX8_pass 1 = .ok (.getfield 11, 3) := by decide +kernel
theorem dX8_pass_4 : decode cX8_pass 4 = .ok (.bipush 39, 2) := by decide +kernel
theorem dX8_pass_6 : decode cX8_pass 6 = .ok (.iload_n 1, 1) := by decide +kernel
theorem dX8_pass_7 : decode cX8_pass 7 = .ok (.iadd, 1) := by decide +kernel
theorem dX8_pass_8 : decode cX8_pass 8 = .ok (.iload_n 2, 1) := by decide +kernel
theorem dX8_pass_9 : decode cX8_pass 9 = .ok (.iastore, 1) := by decide +kernel
theorem dX8_pass_10 : decode cX8_pass 10 = .ok (.return_, 1) := by decide +kernel
theorem dX8_leave_0 : decode cX8_leave 0 = .ok (.aload_n 0, 1) := by decide +kernel
theorem dX8_leave_1 : decode cX8_leave 1 = .ok (.getfield 11, 3) := by decide +kernel
theorem dX8_leave_4 : decode cX8_leave 4 = .ok (.bipush 35, 2) := by decide +kernel
theorem dX8_leave_6 : decode cX8_leave 6 = .ok (.iload_n 1, 1) := by decide +kernel
theorem dX8_leave_7 : decode cX8_leave 7 = .ok (.iadd, 1) := by decide +kernel
theorem dX8_leave_8 : decode cX8_leave 8 = .ok (.iconst 2, 1) := by decide +kernel
theorem dX8_leave_9 : decode cX8_leave 9 = .ok (.iastore, 1) := by decide +kernel
theorem dX8_leave_10 : decode cX8_leave 10 = .ok (.aload_n 0, 1) := by decide +kernel
theorem dX8_leave_11 : decode cX8_leave 11 = .ok (.getfield 11, 3) := by decide +kernel
theorem dX8_leave_14 : decode cX8_leave 14 = .ok (.bipush 43, 2) := by decide +kernel
theorem dX8_leave_16 : decode cX8_leave 16 = .ok (.iload_n 1, 1) := by decide +kernel
theorem dX8_leave_17 : decode cX8_leave 17 = .ok (.iadd, 1) := by decide +kernel
theorem dX8_leave_18 : decode cX8_leave 18 = .ok (.aload_n 0, 1) := by decide +kernel
theorem dX8_leave_19 : decode cX8_leave 19 = .ok (.invokevirtual 38, 3) := by decide +kernel
theorem dX8_leave_22 : decode cX8_leave 22 = .ok (.iastore, 1) := by decide +kernel
theorem dX8_leave_23 : decode cX8_leave 23 = .ok (.return_, 1) := by decide +kernel
theorem dX8_allFines_0 : decode cX8_allFines 0 = .ok (.aload_n 0, 1) := by decide +kernel
theorem dX8_allFines_1 : decode cX8_allFines 1 = .ok (.iconst 3, 1) := by decide +kernel
theorem dX8_allFines_2 : decode cX8_allFines 2 = .ok (.invokevirtual 41, 3) := by decide +kernel
theorem dX8_allFines_5 : decode cX8_allFines 5 = .ok (.ireturn, 1) := by decide +kernel
theorem dX8_allKnocks_0 : decode cX8_allKnocks 0 = .ok (.aload_n 0, 1) := by decide +kernel
theorem dX8_allKnocks_1 : decode cX8_allKnocks 1 = .ok (.bipush 19, 2) := by decide +kernel
theorem dX8_allKnocks_3 : decode cX8_allKnocks 3 = .ok (.invokevirtual 41, 3) := by decide +kernel
theorem dX8_allKnocks_6 : decode cX8_allKnocks 6 = .ok (.ireturn, 1) := by decide +kernel
theorem dX8_sumOfBoards_0 : decode cX8_sumOfBoards 0 = .ok (.iconst 0, 1) := by decide +kernel
theorem dX8_sumOfBoards_1 : decode cX8_sumOfBoards 1 = .ok (.istore_n 2, 1) := by decide +kernel
theorem dX8_sumOfBoards_2 : decode cX8_sumOfBoards 2 = .ok (.iconst 0, 1) := by decide +kernel
theorem dX8_sumOfBoards_3 : decode cX8_sumOfBoards 3 = .ok (.istore_n 3, 1) := by decide +kernel
theorem dX8_sumOfBoards_4 : decode cX8_sumOfBoards 4 = .ok (.iload_n 3, 1) := by decide +kernel
theorem dX8_sumOfBoards_5 : decode cX8_sumOfBoards 5 = .ok (.bipush 16, 2) := by decide +kernel
theorem dX8_sumOfBoards_7 : decode cX8_sumOfBoards 7 = .ok (.if_icmp .ge 20, 3) := by decide +kernel
theorem dX8_sumOfBoards_10 : decode cX8_sumOfBoards 10 = .ok (.iload_n 2, 1) := by decide +kernel
theorem dX8_sumOfBoards_11 : decode cX8_sumOfBoards 11 = .ok (.aload_n 0, 1) := by decide +kernel
theorem dX8_sumOfBoards_12 : decode cX8_sumOfBoards 12 = .ok (.getfield 11, 3) := by decide +kernel
theorem dX8_sumOfBoards_15 : decode cX8_sumOfBoards 15 = .ok (.iload_n 1, 1) := by decide +kernel
theorem dX8_sumOfBoards_16 : decode cX8_sumOfBoards 16 = .ok (.iload_n 3, 1) := by decide +kernel
theorem dX8_sumOfBoards_17 : decode cX8_sumOfBoards 17 = .ok (.iadd, 1) := by decide +kernel
theorem dX8_sumOfBoards_18 : decode cX8_sumOfBoards 18 = .ok (.iaload, 1) := by decide +kernel
theorem dX8_sumOfBoards_19 : decode cX8_sumOfBoards 19 = .ok (.iadd, 1) := by decide +kernel
theorem dX8_sumOfBoards_20 : decode cX8_sumOfBoards 20 = .ok (.istore_n 2, 1) := by decide +kernel
theorem dX8_sumOfBoards_21 : decode cX8_sumOfBoards 21 = .ok (.iinc 3 1, 3) := by decide +kernel
theorem dX8_sumOfBoards_24 : decode cX8_sumOfBoards 24 = .ok (.goto (-20), 3) := by decide +kernel
theorem dX8_sumOfBoards_27 : decode cX8_sumOfBoards 27 = .ok (.iload_n 2, 1) := by decide +kernel
theorem dX8_sumOfBoards_28 : decode cX8_sumOfBoards 28 = .ok (.ireturn, 1) := by decide +kernel
theorem dX8_bargesThrough_0 : decode cX8_bargesThrough 0 = .ok (.iconst 0, 1) := by decide +kernel
theorem dX8_bargesThrough_1 : decode cX8_bargesThrough 1 = .ok (.istore_n 1, 1) := by decide +kernel
theorem dX8_bargesThrough_2 : decode cX8_bargesThrough 2 = .ok (.iconst 0, 1) := by decide +kernel
theorem dX8_bargesThrough_3 : decode cX8_bargesThrough 3 = .ok (.istore_n 2, 1) := by decide +kernel
theorem dX8_bargesThrough_4 : decode cX8_bargesThrough 4 = .ok (.iload_n 2, 1) := by decide +kernel
theorem dX8_bargesThrough_5 : decode cX8_bargesThrough 5 = .ok (.iconst 4, 1) := by decide +kernel
theorem dX8_bargesThrough_6 : decode cX8_bargesThrough 6 = .ok (.if_icmp .ge 26, 3) := by decide +kernel
theorem dX8_bargesThrough_9 : decode cX8_bargesThrough 9 = .ok (.iload_n 1, 1) := by decide +kernel
theorem dX8_bargesThrough_10 : decode cX8_bargesThrough 10 = .ok (.aload_n 0, 1) := by decide +kernel
theorem dX8_bargesThrough_11 : decode cX8_bargesThrough 11 = .ok (.iload_n 2, 1) := by decide +kernel
theorem dX8_bargesThrough_12 : decode cX8_bargesThrough 12 = .ok (.invokevirtual 45, 3) := by decide +kernel
theorem dX8_bargesThrough_15 : decode cX8_bargesThrough 15 = .ok (.iconst 2, 1) := by decide +kernel
theorem dX8_bargesThrough_16 : decode cX8_bargesThrough 16 = .ok (.if_icmp .ne 7, 3) := by decide +kernel
theorem dX8_bargesThrough_19 : decode cX8_bargesThrough 19 = .ok (.iconst 1, 1) := by decide +kernel
theorem dX8_bargesThrough_20 : decode cX8_bargesThrough 20 = .ok (.goto 4, 3) := by decide +kernel
theorem dX8_bargesThrough_23 : decode cX8_bargesThrough 23 = .ok (.iconst 0, 1) := by decide +kernel
theorem dX8_bargesThrough_24 : decode cX8_bargesThrough 24 = .ok (.iadd, 1) := by decide +kernel
theorem dX8_bargesThrough_25 : decode cX8_bargesThrough 25 = .ok (.istore_n 1, 1) := by decide +kernel
theorem dX8_bargesThrough_26 : decode cX8_bargesThrough 26 = .ok (.iinc 2 1, 3) := by decide +kernel
theorem dX8_bargesThrough_29 : decode cX8_bargesThrough 29 = .ok (.goto (-25), 3) := by decide +kernel
theorem dX8_bargesThrough_32 : decode cX8_bargesThrough 32 = .ok (.iload_n 1, 1) := by decide +kernel
theorem dX8_bargesThrough_33 : decode cX8_bargesThrough 33 = .ok (.ireturn, 1) := by decide +kernel
theorem dX9_init_0 : decode cX9_init 0 = .ok (.aload_n 0, 1) := by decide +kernel
theorem dX9_init_1 : decode cX9_init 1 = .ok (.invokespecial 3, 3) := by decide +kernel
theorem dX9_init_4 : decode cX9_init 4 = .ok (.aload_n 0, 1) := by decide +kernel
theorem dX9_init_5 : decode cX9_init 5 = .ok (.sipush 150, 3) := by decide +kernel
theorem dX9_init_8 : decode cX9_init 8 = .ok (.newarray .int, 2) := by decide +kernel
theorem dX9_init_10 : decode cX9_init 10 = .ok (.putfield 9, 3) := by decide +kernel
theorem dX9_init_13 : decode cX9_init 13 = .ok (.aload_n 0, 1) := by decide +kernel
theorem dX9_init_14 : decode cX9_init 14 = .ok (.sipush 150, 3) := by decide +kernel
theorem dX9_init_17 : decode cX9_init 17 = .ok (.newarray .int, 2) := by decide +kernel
theorem dX9_init_19 : decode cX9_init 19 = .ok (.putfield 15, 3) := by decide +kernel
theorem dX9_init_22 : decode cX9_init 22 = .ok (.aload_n 0, 1) := by decide +kernel
theorem dX9_init_23 : decode cX9_init 23 = .ok (.sipush 150, 3) := by decide +kernel
theorem dX9_init_26 : decode cX9_init 26 = .ok (.newarray .int, 2) := by decide +kernel
theorem dX9_init_28 : decode cX9_init 28 = .ok (.putfield 18, 3) := by decide +kernel
theorem dX9_init_31 : decode cX9_init 31 = .ok (.return_, 1) := by decide +kernel
theorem dX9_read_0 : decode cX9_read 0 = .ok (.aload_n 0, 1) := by decide +kernel
theorem dX9_read_1 : decode cX9_read 1 = .ok (.iconst 0, 1) := by decide +kernel
theorem dX9_read_2 : decode cX9_read 2 = .ok (.putfield 21, 3) := by decide +kernel
theorem dX9_read_5 : decode cX9_read 5 = .ok (.aload_n 0, 1) := by decide +kernel
theorem dX9_read_6 : decode cX9_read 6 = .ok (.aload_n 1, 1) := by decide +kernel
theorem dX9_read_7 : decode cX9_read 7 = .ok (.iload_n 2, 1) := by decide +kernel
theorem dX9_read_8 : decode cX9_read 8 = .ok (.iconst 0, 1) := by decide +kernel
theorem dX9_read_9 : decode cX9_read 9 = .ok (.invokevirtual 25, 3) := by decide +kernel
theorem dX9_read_12 : decode cX9_read 12 = .ok (.aload_n 1, 1) := by decide +kernel
theorem dX9_read_13 : decode cX9_read 13 = .ok (.invokevirtual 29, 3) := by decide +kernel
theorem dX9_read_16 : decode cX9_read 16 = .ok (.return_, 1) := by decide +kernel
theorem dX9_readRow_0 : decode cX9_readRow 0 = .ok (.iconst 0, 1) := by decide +kernel
theorem dX9_readRow_1 : decode cX9_readRow 1 = .ok (.istore 4, 2) := by decide +kernel
theorem dX9_readRow_3 : decode cX9_readRow 3 = .ok (.iload 4, 2) := by decide +kernel
theorem dX9_readRow_5 : decode cX9_readRow 5 = .ok (.sipush 150, 3) := by decide +kernel
theorem dX9_readRow_8 : decode cX9_readRow 8 = .ok (.if_icmp .ge 62, 3) := by decide +kernel
theorem dX9_readRow_11 : decode cX9_readRow 11 = .ok (.aload_n 1, 1) := by decide +kernel
theorem dX9_readRow_12 : decode cX9_readRow 12 = .ok (.invokevirtual 34, 3) := by decide +kernel
theorem dX9_readRow_15 : decode cX9_readRow 15 = .ok (.ifCond .ne 55, 3) := by decide +kernel
theorem dX9_readRow_18 : decode cX9_readRow 18 = .ok (.iload_n 3, 1) := by decide +kernel
theorem dX9_readRow_19 : decode cX9_readRow 19 = .ok (.ifCond .ne 10, 3) := by decide +kernel
theorem dX9_readRow_22 : decode cX9_readRow 22 = .ok (.aload_n 1, 1) := by decide +kernel
theorem dX9_readRow_23 : decode cX9_readRow 23 = .ok (.invokevirtual 38, 3) := by decide +kernel
theorem dX9_readRow_26 : decode cX9_readRow 26 = .ok (.goto 17, 3) := by decide +kernel
theorem dX9_readRow_29 : decode cX9_readRow 29 = .ok (.aload_n 1, 1) := by decide +kernel
theorem dX9_readRow_30 : decode cX9_readRow 30 = .ok (.invokevirtual 41, 3) := by decide +kernel
theorem dX9_readRow_33 : decode cX9_readRow 33 = .ok (.bipush 93, 2) := by decide +kernel
theorem dX9_readRow_35 : decode cX9_readRow 35 = .ok (.if_icmp .ne 7, 3) := by decide +kernel
theorem dX9_readRow_38 : decode cX9_readRow 38 = .ok (.iconst 1, 1) := by decide +kernel
theorem dX9_readRow_39 : decode cX9_readRow 39 = .ok (.goto 4, 3) := by decide +kernel
theorem dX9_readRow_42 : decode cX9_readRow 42 = .ok (.iconst 0, 1) := by decide +kernel
theorem dX9_readRow_43 : decode cX9_readRow 43 = .ok (.istore 5, 2) := by decide +kernel
theorem dX9_readRow_45 : decode cX9_readRow 45 = .ok (.iload 5, 2) := by decide +kernel
theorem dX9_readRow_47 : decode cX9_readRow 47 = .ok (.ifCond .eq 4, 3) := by decide +kernel
theorem dX9_readRow_50 : decode cX9_readRow 50 = .ok (.return_, 1) := by decide +kernel
theorem dX9_readRow_51 : decode cX9_readRow 51 = .ok (.aload_n 0, 1) := by decide +kernel
theorem dX9_readRow_52 : decode cX9_readRow 52 = .ok (.aload_n 1, 1) := by decide +kernel
theorem dX9_readRow_53 : decode cX9_readRow 53 = .ok (.iload_n 2, 1) := by decide +kernel
theorem dX9_readRow_54 : decode cX9_readRow 54 = .ok (.iload_n 3, 1) := by decide +kernel
theorem dX9_readRow_55 : decode cX9_readRow 55 = .ok (.invokevirtual 45, 3) := by decide +kernel
theorem dX9_readRow_58 : decode cX9_readRow 58 = .ok (.aload_n 1, 1) := by decide +kernel
theorem dX9_readRow_59 : decode cX9_readRow 59 = .ok (.bipush 59, 2) := by decide +kernel
theorem dX9_readRow_61 : decode cX9_readRow 61 = .ok (.invokevirtual 48, 3) := by decide +kernel
theorem dX9_readRow_64 : decode cX9_readRow 64 = .ok (.iinc 4 1, 3) := by decide +kernel
theorem dX9_readRow_67 : decode cX9_readRow 67 = .ok (.goto (-64), 3) := by decide +kernel
theorem dX9_readRow_70 : decode cX9_readRow 70 = .ok (.return_, 1) := by decide +kernel
theorem dX9_readStep_0 : decode cX9_readStep 0 = .ok (.aload_n 1, 1) := by decide +kernel
theorem dX9_readStep_1 : decode cX9_readStep 1 = .ok (.ldc 52, 2) := by decide +kernel
theorem dX9_readStep_3 : decode cX9_readStep 3 = .ok (.invokevirtual 54, 3) := by decide +kernel
theorem dX9_readStep_6 : decode cX9_readStep 6 = .ok (.istore 4, 2) := by decide +kernel
theorem dX9_readStep_8 : decode cX9_readStep 8 = .ok (.iload 4, 2) := by decide +kernel
theorem dX9_readStep_10 : decode cX9_readStep 10 = .ok (.iconst 4, 1) := by decide +kernel
theorem dX9_readStep_11 : decode cX9_readStep 11 = .ok (.if_icmp .ne 14, 3) := by decide +kernel
theorem dX9_readStep_14 : decode cX9_readStep 14 = .ok (.iload_n 3, 1) := by decide +kernel
theorem dX9_readStep_15 : decode cX9_readStep 15 = .ok (.bipush 6, 2) := by decide +kernel
theorem dX9_readStep_17 : decode cX9_readStep 17 = .ok (.if_icmp .ne 8, 3) := by decide +kernel
theorem dX9_readStep_20 : decode cX9_readStep 20 = .ok (.aload_n 1, 1) := by decide +kernel
theorem dX9_readStep_21 : decode cX9_readStep 21 = .ok (.iconst 3, 1) := by decide +kernel
theorem dX9_readStep_22 : decode cX9_readStep 22 = .ok (.invokevirtual 58, 3) := by decide +kernel
theorem dX9_readStep_25 : decode cX9_readStep 25 = .ok (.iconst 0, 1) := by decide +kernel
theorem dX9_readStep_26 : decode cX9_readStep 26 = .ok (.istore 5, 2) := by decide +kernel
theorem dX9_readStep_28 : decode cX9_readStep 28 = .ok (.iload 4, 2) := by decide +kernel
theorem dX9_readStep_30 : decode cX9_readStep 30 = .ok (.iconst 4, 1) := by decide +kernel
theorem dX9_readStep_31 : decode cX9_readStep 31 = .ok (.if_icmp .ne 15, 3) := by decide +kernel
theorem dX9_readStep_34 : decode cX9_readStep 34 = .ok (.aload_n 1, 1) := by decide +kernel
theorem dX9_readStep_35 : decode cX9_readStep 35 = .ok (.iconst 0, 1) := by decide +kernel
theorem dX9_readStep_36 : decode cX9_readStep 36 = .ok (.bipush 60, 2) := by decide +kernel
theorem dX9_readStep_38 : decode cX9_readStep 38 = .ok (.invokevirtual 62, 3) := by decide +kernel
theorem dX9_readStep_41 : decode cX9_readStep 41 = .ok (.istore 5, 2) := by decide +kernel
theorem dX9_readStep_43 : decode cX9_readStep 43 = .ok (.goto 19, 3) := by decide +kernel
theorem dX9_readStep_46 : decode cX9_readStep 46 = .ok (.iload 4, 2) := by decide +kernel
theorem dX9_readStep_48 : decode cX9_readStep 48 = .ok (.iconst 3, 1) := by decide +kernel
theorem dX9_readStep_49 : decode cX9_readStep 49 = .ok (.if_icmp .eq 13, 3) := by decide +kernel
theorem dX9_readStep_52 : decode cX9_readStep 52 = .ok (.aload_n 1, 1) := by decide +kernel
theorem dX9_readStep_53 : decode cX9_readStep 53 = .ok (.iconst 0, 1) := by decide +kernel
theorem dX9_readStep_54 : decode cX9_readStep 54 = .ok (.iload_n 2, 1) := by decide +kernel
theorem dX9_readStep_55 : decode cX9_readStep 55 = .ok (.iconst 1, 1) := by decide +kernel
theorem dX9_readStep_56 : decode cX9_readStep 56 = .ok (.isub, 1) := by decide +kernel
theorem dX9_readStep_57 : decode cX9_readStep 57 = .ok (.invokevirtual 62, 3) := by decide +kernel
theorem dX9_readStep_60 : decode cX9_readStep 60 = .ok (.istore 5, 2) := by decide +kernel
theorem dX9_readStep_62 : decode cX9_readStep 62 = .ok (.aload_n 1, 1) := by decide +kernel
theorem dX9_readStep_63 : decode cX9_readStep 63 = .ok (.invokevirtual 34, 3) := by decide +kernel
theorem dX9_readStep_66 : decode cX9_readStep 66 = .ok (.ifCond .ne 15, 3) := by decide +kernel
theorem dX9_readStep_69 : decode cX9_readStep 69 = .ok (.aload_n 0, 1) := by decide +kernel
theorem dX9_readStep_70 : decode cX9_readStep 70 = .ok (.getfield 21, 3) := by decide +kernel
theorem dX9_readStep_73 : decode cX9_readStep 73 = .ok (.aload_n 0, 1) := by decide +kernel
theorem dX9_readStep_74 : decode cX9_readStep 74 = .ok (.getfield 9, 3) := by decide +kernel
theorem dX9_readStep_77 : decode cX9_readStep 77 = .ok (.arraylength, 1) := by decide +kernel
theorem dX9_readStep_78 : decode cX9_readStep 78 = .ok (.if_icmp .lt 4, 3) := by decide +kernel
theorem dX9_readStep_81 : decode cX9_readStep 81 = .ok (.return_, 1) := by decide +kernel
theorem dX9_readStep_82 : decode cX9_readStep 82 = .ok (.aload_n 0, 1) := by decide +kernel
theorem dX9_readStep_83 : decode cX9_readStep 83 = .ok (.getfield 21, 3) := by decide +kernel
theorem dX9_readStep_86 : decode cX9_readStep 86 = .ok (.istore 6, 2) := by decide +kernel
theorem dX9_readStep_88 : decode cX9_readStep 88 = .ok (.aload_n 0, 1) := by decide +kernel
theorem dX9_readStep_89 : decode cX9_readStep 89 = .ok (.dup, 1) := by decide +kernel
theorem dX9_readStep_90 : decode cX9_readStep 90 = .ok (.getfield 21, 3) := by decide +kernel
theorem dX9_readStep_93 : decode cX9_readStep 93 = .ok (.iconst 1, 1) := by decide +kernel
theorem dX9_readStep_94 : decode cX9_readStep 94 = .ok (.iadd, 1) := by decide +kernel
theorem dX9_readStep_95 : decode cX9_readStep 95 = .ok (.putfield 21, 3) := by decide +kernel
theorem dX9_readStep_98 : decode cX9_readStep 98 = .ok (.aload_n 0, 1) := by decide +kernel
theorem dX9_readStep_99 : decode cX9_readStep 99 = .ok (.getfield 9, 3) := by decide +kernel
theorem dX9_readStep_102 : decode cX9_readStep 102 = .ok (.iload 6, 2) := by decide +kernel
theorem dX9_readStep_104 : decode cX9_readStep 104 = .ok (.iload 4, 2) := by decide +kernel
theorem dX9_readStep_106 : decode cX9_readStep 106 = .ok (.iastore, 1) := by decide +kernel
theorem dX9_readStep_107 : decode cX9_readStep 107 = .ok (.aload_n 0, 1) := by decide +kernel
theorem dX9_readStep_108 : decode cX9_readStep 108 = .ok (.getfield 15, 3) := by decide +kernel
theorem dX9_readStep_111 : decode cX9_readStep 111 = .ok (.iload 6, 2) := by decide +kernel
theorem dX9_readStep_113 : decode cX9_readStep 113 = .ok (.iload 5, 2) := by decide +kernel
theorem dX9_readStep_115 : decode cX9_readStep 115 = .ok (.iastore, 1) := by decide +kernel
theorem dX9_readStep_116 : decode cX9_readStep 116 = .ok (.iload 4, 2) := by decide +kernel
theorem dX9_readStep_118 : decode cX9_readStep 118 = .ok (.iconst 4, 1) := by decide +kernel
theorem dX9_readStep_119 : decode cX9_readStep 119 = .ok (.if_icmp .ne 24, 3) := by decide +kernel
theorem dX9_readStep_122 : decode cX9_readStep 122 = .ok (.aload_n 1, 1) := by decide +kernel
theorem dX9_readStep_123 : decode cX9_readStep 123 = .ok (.bipush 91, 2) := by decide +kernel
theorem dX9_readStep_125 : decode cX9_readStep 125 = .ok (.invokevirtual 48, 3) := by decide +kernel
theorem dX9_readStep_128 : decode cX9_readStep 128 = .ok (.aload_n 0, 1) := by decide +kernel
theorem dX9_readStep_129 : decode cX9_readStep 129 = .ok (.aload_n 1, 1) := by decide +kernel
theorem dX9_readStep_130 : decode cX9_readStep 130 = .ok (.iload_n 2, 1) := by decide +kernel
theorem dX9_readStep_131 : decode cX9_readStep 131 = .ok (.iload_n 3, 1) := by decide +kernel
theorem dX9_readStep_132 : decode cX9_readStep 132 = .ok (.iconst 1, 1) := by decide +kernel
theorem dX9_readStep_133 : decode cX9_readStep 133 = .ok (.iadd, 1) := by decide +kernel
theorem dX9_readStep_134 : decode cX9_readStep 134 = .ok (.invokevirtual 25, 3) := by decide +kernel
theorem dX9_readStep_137 : decode cX9_readStep 137 = .ok (.aload_n 1, 1) := by decide +kernel
theorem dX9_readStep_138 : decode cX9_readStep 138 = .ok (.bipush 93, 2) := by decide +kernel
theorem dX9_readStep_140 : decode cX9_readStep 140 = .ok (.invokevirtual 48, 3) := by decide +kernel
theorem dX9_readStep_143 : decode cX9_readStep 143 = .ok (.aload_n 0, 1) := by decide +kernel
theorem dX9_readStep_144 : decode cX9_readStep 144 = .ok (.getfield 18, 3) := by decide +kernel
theorem dX9_readStep_147 : decode cX9_readStep 147 = .ok (.iload 6, 2) := by decide +kernel
theorem dX9_readStep_149 : decode cX9_readStep 149 = .ok (.aload_n 0, 1) := by decide +kernel
theorem dX9_readStep_150 : decode cX9_readStep 150 = .ok (.getfield 21, 3) := by decide +kernel
theorem dX9_readStep_153 : decode cX9_readStep 153 = .ok (.iastore, 1) := by decide +kernel
theorem dX9_readStep_154 : decode cX9_readStep 154 = .ok (.return_, 1) := by decide +kernel
theorem dX9_run_0 : decode cX9_run 0 = .ok (.aload_n 0, 1) := by decide +kernel
theorem dX9_run_1 : decode cX9_run 1 = .ok (.iconst 0, 1) := by decide +kernel
theorem dX9_run_2 : decode cX9_run 2 = .ok (.putfield 66, 3) := by decide +kernel
theorem dX9_run_5 : decode cX9_run 5 = .ok (.aload_n 0, 1) := by decide +kernel
theorem dX9_run_6 : decode cX9_run 6 = .ok (.iconst 0, 1) := by decide +kernel
theorem dX9_run_7 : decode cX9_run 7 = .ok (.putfield 69, 3) := by decide +kernel
theorem dX9_run_10 : decode cX9_run 10 = .ok (.aload_n 0, 1) := by decide +kernel
theorem dX9_run_11 : decode cX9_run 11 = .ok (.iconst 0, 1) := by decide +kernel
theorem dX9_run_12 : decode cX9_run 12 = .ok (.putfield 72, 3) := by decide +kernel
theorem dX9_run_15 : decode cX9_run 15 = .ok (.aload_n 0, 1) := by decide +kernel
theorem dX9_run_16 : decode cX9_run 16 = .ok (.aload_n 1, 1) := by decide +kernel
theorem dX9_run_17 : decode cX9_run 17 = .ok (.aload_n 2, 1) := by decide +kernel
theorem dX9_run_18 : decode cX9_run 18 = .ok (.iconst 0, 1) := by decide +kernel
theorem dX9_run_19 : decode cX9_run 19 = .ok (.aload_n 0, 1) := by decide +kernel
theorem dX9_run_20 : decode cX9_run 20 = .ok (.getfield 21, 3) := by decide +kernel
theorem dX9_run_23 : decode cX9_run 23 = .ok (.invokevirtual 75, 3) := by decide +kernel
theorem dX9_run_26 : decode cX9_run 26 = .ok (.aload_n 0, 1) := by decide +kernel
theorem dX9_run_27 : decode cX9_run 27 = .ok (.getfield 69, 3) := by decide +kernel
theorem dX9_run_30 : decode cX9_run 30 = .ok (.ireturn, 1) := by decide +kernel
theorem dX9_runRow_0 : decode cX9_runRow 0 = .ok (.iload_n 3, 1) := by decide +kernel
theorem dX9_runRow_1 : decode cX9_runRow 1 = .ok (.istore 5, 2) := by decide +kernel
theorem dX9_runRow_3 : decode cX9_runRow 3 = .ok (.iload 5, 2) := by decide +kernel
theorem dX9_runRow_5 : decode cX9_runRow 5 = .ok (.iload 4, 2) := by decide +kernel
theorem dX9_runRow_7 : decode cX9_runRow 7 = .ok (.if_icmp .ge 131, 3) := by decide +kernel
theorem dX9_runRow_10 : decode cX9_runRow 10 = .ok (.aload_n 0, 1) := by decide +kernel
theorem dX9_runRow_11 : decode cX9_runRow 11 = .ok (.getfield 66, 3) := by decide +kernel
theorem dX9_runRow_14 : decode cX9_runRow 14 = .ok (.sipush 240, 3) := by decide +kernel
theorem dX9_runRow_17 : decode cX9_runRow 17 = .ok (.if_icmp .ge 121, 3) := by decide +kernel
theorem dX9_runRow_20 : decode cX9_runRow 20 = .ok (.aload_n 0, 1) := by decide +kernel
theorem dX9_runRow_21 : decode cX9_runRow 21 = .ok (.dup, 1) := by decide +kernel
theorem dX9_runRow_22 : decode cX9_runRow 22 = .ok (.getfield 66, 3) := by decide +kernel
theorem dX9_runRow_25 : decode cX9_runRow 25 = .ok (.iconst 1, 1) := by decide +kernel
theorem dX9_runRow_26 : decode cX9_runRow 26 = .ok (.iadd, 1) := by decide +kernel
theorem dX9_runRow_27 : decode cX9_runRow 27 = .ok (.putfield 66, 3) := by decide +kernel
theorem dX9_runRow_30 : decode cX9_runRow 30 = .ok (.aload_n 0, 1) := by decide +kernel
theorem dX9_runRow_31 : decode cX9_runRow 31 = .ok (.getfield 9, 3) := by decide +kernel
theorem dX9_runRow_34 : decode cX9_runRow 34 = .ok (.iload 5, 2) := by decide +kernel
theorem dX9_runRow_36 : decode cX9_runRow 36 = .ok (.iaload, 1) := by decide +kernel
theorem dX9_runRow_37 : decode cX9_runRow 37 = .ok (.iconst 4, 1) := by decide +kernel
theorem dX9_runRow_38 : decode cX9_runRow 38 = .ok (.if_icmp .ne 54, 3) := by decide +kernel
theorem dX9_runRow_41 : decode cX9_runRow 41 = .ok (.iconst 0, 1) := by decide +kernel
theorem dX9_runRow_42 : decode cX9_runRow 42 = .ok (.istore 6, 2) := by decide +kernel
theorem dX9_runRow_44 : decode cX9_runRow 44 = .ok (.iload 6, 2) := by decide +kernel
theorem dX9_runRow_46 : decode cX9_runRow 46 = .ok (.aload_n 0, 1) := by decide +kernel
theorem dX9_runRow_47 : decode cX9_runRow 47 = .ok (.getfield 15, 3) := by decide +kernel
theorem dX9_runRow_50 : decode cX9_runRow 50 = .ok (.iload 5, 2) := by decide +kernel
theorem dX9_runRow_52 : decode cX9_runRow 52 = .ok (.iaload, 1) := by decide +kernel
theorem dX9_runRow_53 : decode cX9_runRow 53 = .ok (.if_icmp .ge 36, 3) := by decide +kernel
theorem dX9_runRow_56 : decode cX9_runRow 56 = .ok (.aload_n 0, 1) := by decide +kernel
theorem dX9_runRow_57 : decode cX9_runRow 57 = .ok (.getfield 66, 3) := by decide +kernel
theorem dX9_runRow_60 : decode cX9_runRow 60 = .ok (.sipush 240, 3) := by decide +kernel
theorem dX9_runRow_63 : decode cX9_runRow 63 = .ok (.if_icmp .ge 26, 3) := by decide +kernel
theorem dX9_runRow_66 : decode cX9_runRow 66 = .ok (.aload_n 0, 1) := by decide +kernel
theorem dX9_runRow_67 : decode cX9_runRow 67 = .ok (.aload_n 1, 1) := by decide +kernel
theorem dX9_runRow_68 : decode cX9_runRow 68 = .ok (.aload_n 2, 1) := by decide +kernel
theorem dX9_runRow_69 : decode cX9_runRow 69 = .ok (.iload 5, 2) := by decide +kernel
theorem dX9_runRow_71 : decode cX9_runRow 71 = .ok (.iconst 1, 1) := by decide +kernel
theorem dX9_runRow_72 : decode cX9_runRow 72 = .ok (.iadd, 1) := by decide +kernel
theorem dX9_runRow_73 : decode cX9_runRow 73 = .ok (.aload_n 0, 1) := by decide +kernel
theorem dX9_runRow_74 : decode cX9_runRow 74 = .ok (.getfield 18, 3) := by decide +kernel
theorem dX9_runRow_77 : decode cX9_runRow 77 = .ok (.iload 5, 2) := by decide +kernel
theorem dX9_runRow_79 : decode cX9_runRow 79 = .ok (.iaload, 1) := by decide +kernel
theorem dX9_runRow_80 : decode cX9_runRow 80 = .ok (.invokevirtual 75, 3) := by decide +kernel
theorem dX9_runRow_83 : decode cX9_runRow 83 = .ok (.iinc 6 1, 3) := by decide +kernel
theorem dX9_runRow_86 : decode cX9_runRow 86 = .ok (.goto (-42), 3) := by decide +kernel
theorem dX9_runRow_89 : decode cX9_runRow 89 = .ok (.goto 37, 3) := by decide +kernel
theorem dX9_runRow_92 : decode cX9_runRow 92 = .ok (.aload_n 0, 1) := by decide +kernel
theorem dX9_runRow_93 : decode cX9_runRow 93 = .ok (.aload_n 1, 1) := by decide +kernel
theorem dX9_runRow_94 : decode cX9_runRow 94 = .ok (.aload_n 2, 1) := by decide +kernel
theorem dX9_runRow_95 : decode cX9_runRow 95 = .ok (.iload 5, 2) := by decide +kernel
theorem dX9_runRow_97 : decode cX9_runRow 97 = .ok (.invokevirtual 79, 3) := by decide +kernel
theorem dX9_runRow_100 : decode cX9_runRow 100 = .ok (.ifCond .eq 16, 3) := by decide +kernel
theorem dX9_runRow_103 : decode cX9_runRow 103 = .ok (.aload_n 0, 1) := by decide +kernel
theorem dX9_runRow_104 : decode cX9_runRow 104 = .ok (.dup, 1) := by decide +kernel
theorem dX9_runRow_105 : decode cX9_runRow 105 = .ok (.getfield 69, 3) := by decide +kernel
theorem dX9_runRow_108 : decode cX9_runRow 108 = .ok (.iconst 1, 1) := by decide +kernel
theorem dX9_runRow_109 : decode cX9_runRow 109 = .ok (.iadd, 1) := by decide +kernel
theorem dX9_runRow_110 : decode cX9_runRow 110 = .ok (.putfield 69, 3) := by decide +kernel
theorem dX9_runRow_113 : decode cX9_runRow 113 = .ok (.goto 13, 3) := by decide +kernel
theorem dX9_runRow_116 : decode cX9_runRow 116 = .ok (.aload_n 0, 1) := by decide +kernel
theorem dX9_runRow_117 : decode cX9_runRow 117 = .ok (.dup, 1) := by decide +kernel
theorem dX9_runRow_118 : decode cX9_runRow 118 = .ok (.getfield 72, 3) := by decide +kernel
theorem dX9_runRow_121 : decode cX9_runRow 121 = .ok (.iconst 1, 1) := by decide +kernel
theorem dX9_runRow_122 : decode cX9_runRow 122 = .ok (.iadd, 1) := by decide +kernel
theorem dX9_runRow_123 : decode cX9_runRow 123 = .ok (.putfield 72, 3) := by decide +kernel
theorem dX9_runRow_126 : decode cX9_runRow 126 = .ok (.aload_n 0, 1) := by decide +kernel
theorem dX9_runRow_127 : decode cX9_runRow 127 = .ok (.getfield 18, 3) := by decide +kernel
theorem dX9_runRow_130 : decode cX9_runRow 130 = .ok (.iload 5, 2) := by decide +kernel
theorem dX9_runRow_132 : decode cX9_runRow 132 = .ok (.iaload, 1) := by decide +kernel
theorem dX9_runRow_133 : decode cX9_runRow 133 = .ok (.istore 5, 2) := by decide +kernel
theorem dX9_runRow_135 : decode cX9_runRow 135 = .ok (.goto (-132), 3) := by decide +kernel
theorem dX9_runRow_138 : decode cX9_runRow 138 = .ok (.return_, 1) := by decide +kernel
theorem dX9_isDone_0 : decode cX9_isDone 0 = .ok (.aload_n 0, 1) := by decide +kernel
theorem dX9_isDone_1 : decode cX9_isDone 1 = .ok (.getfield 9, 3) := by decide +kernel
theorem dX9_isDone_4 : decode cX9_isDone 4 = .ok (.iload_n 3, 1) := by decide +kernel
theorem dX9_isDone_5 : decode cX9_isDone 5 = .ok (.iaload, 1) := by decide +kernel
theorem dX9_isDone_6 : decode cX9_isDone 6 = .ok (.iconst 3, 1) := by decide +kernel
theorem dX9_isDone_7 : decode cX9_isDone 7 = .ok (.if_icmp .ne 32, 3) := by decide +kernel
theorem dX9_isDone_10 : decode cX9_isDone 10 = .ok (.aload_n 1, 1) := by decide +kernel
theorem dX9_isDone_11 : decode cX9_isDone 11 = .ok (.invokevirtual 83, 3) := by decide +kernel
theorem dX9_isDone_14 : decode cX9_isDone 14 = .ok (.sipush 960, 3) := by decide +kernel
theorem dX9_isDone_17 : decode cX9_isDone 17 = .ok (.if_icmp .lt 5, 3) := by decide +kernel
theorem dX9_isDone_20 : decode cX9_isDone 20 = .ok (.iconst 0, 1) := by decide +kernel
theorem dX9_isDone_21 : decode cX9_isDone 21 = .ok (.ireturn, 1) := by decide +kernel
theorem dX9_isDone_22 : decode cX9_isDone 22 = .ok (.aload_n 2, 1) := by decide +kernel
theorem dX9_isDone_23 : decode cX9_isDone 23 = .ok (.aload_n 1, 1) := by decide +kernel
theorem dX9_isDone_24 : decode cX9_isDone 24 = .ok (.aload_n 2, 1) := by decide +kernel
theorem dX9_isDone_25 : decode cX9_isDone 25 = .ok (.aload_n 1, 1) := by decide +kernel
theorem dX9_isDone_26 : decode cX9_isDone 26 = .ok (.aload_n 1, 1) := by decide +kernel
theorem dX9_isDone_27 : decode cX9_isDone 27 = .ok (.invokevirtual 83, 3) := by decide +kernel
theorem dX9_isDone_30 : decode cX9_isDone 30 = .ok (.invokevirtual 88, 3) := by decide +kernel
theorem dX9_isDone_33 : decode cX9_isDone 33 = .ok (.iconst 0, 1) := by decide +kernel
theorem dX9_isDone_34 : decode cX9_isDone 34 = .ok (.invokevirtual 94, 3) := by decide +kernel
theorem dX9_isDone_37 : decode cX9_isDone 37 = .ok (.iconst 1, 1) := by decide +kernel
theorem dX9_isDone_38 : decode cX9_isDone 38 = .ok (.ireturn, 1) := by decide +kernel
theorem dX9_isDone_39 : decode cX9_isDone 39 = .ok (.aload_n 0, 1) := by decide +kernel
theorem dX9_isDone_40 : decode cX9_isDone 40 = .ok (.getfield 9, 3) := by decide +kernel
theorem dX9_isDone_43 : decode cX9_isDone 43 = .ok (.iload_n 3, 1) := by decide +kernel
theorem dX9_isDone_44 : decode cX9_isDone 44 = .ok (.iaload, 1) := by decide +kernel
theorem dX9_isDone_45 : decode cX9_isDone 45 = .ok (.invokestatic 98, 3) := by decide +kernel
theorem dX9_isDone_48 : decode cX9_isDone 48 = .ok (.istore 4, 2) := by decide +kernel
theorem dX9_isDone_50 : decode cX9_isDone 50 = .ok (.aload_n 1, 1) := by decide +kernel
theorem dX9_isDone_51 : decode cX9_isDone 51 = .ok (.aload_n 0, 1) := by decide +kernel
theorem dX9_isDone_52 : decode cX9_isDone 52 = .ok (.getfield 15, 3) := by decide +kernel
theorem dX9_isDone_55 : decode cX9_isDone 55 = .ok (.iload_n 3, 1) := by decide +kernel
theorem dX9_isDone_56 : decode cX9_isDone 56 = .ok (.iaload, 1) := by decide +kernel
theorem dX9_isDone_57 : decode cX9_isDone 57 = .ok (.invokevirtual 102, 3) := by decide +kernel
theorem dX9_isDone_60 : decode cX9_isDone 60 = .ok (.iload 4, 2) := by decide +kernel
theorem dX9_isDone_62 : decode cX9_isDone 62 = .ok (.if_icmp .ne 5, 3) := by decide +kernel
theorem dX9_isDone_65 : decode cX9_isDone 65 = .ok (.iconst 0, 1) := by decide +kernel
theorem dX9_isDone_66 : decode cX9_isDone 66 = .ok (.ireturn, 1) := by decide +kernel
theorem dX9_isDone_67 : decode cX9_isDone 67 = .ok (.aload_n 1, 1) := by decide +kernel
theorem dX9_isDone_68 : decode cX9_isDone 68 = .ok (.aload_n 0, 1) := by decide +kernel
theorem dX9_isDone_69 : decode cX9_isDone 69 = .ok (.getfield 15, 3) := by decide +kernel
theorem dX9_isDone_72 : decode cX9_isDone 72 = .ok (.iload_n 3, 1) := by decide +kernel
theorem dX9_isDone_73 : decode cX9_isDone 73 = .ok (.iaload, 1) := by decide +kernel
theorem dX9_isDone_74 : decode cX9_isDone 74 = .ok (.iload 4, 2) := by decide +kernel
theorem dX9_isDone_76 : decode cX9_isDone 76 = .ok (.invokevirtual 105, 3) := by decide +kernel
theorem dX9_isDone_79 : decode cX9_isDone 79 = .ok (.iconst 1, 1) := by decide +kernel
theorem dX9_isDone_80 : decode cX9_isDone 80 = .ok (.ireturn, 1) := by decide +kernel
theorem dX9_modeBy_0 : decode cX9_modeBy 0 = .ok (.iload_n 0, 1) := by decide +kernel
theorem dX9_modeBy_1 : decode cX9_modeBy 1 = .ok (.ifCond .ne 5, 3) := by decide +kernel
theorem dX9_modeBy_4 : decode cX9_modeBy 4 = .ok (.iconst 1, 1) := by decide +kernel
theorem dX9_modeBy_5 : decode cX9_modeBy 5 = .ok (.ireturn, 1) := by decide +kernel
theorem dX9_modeBy_6 : decode cX9_modeBy 6 = .ok (.iload_n 0, 1) := by decide +kernel
theorem dX9_modeBy_7 : decode cX9_modeBy 7 = .ok (.iconst 1, 1) := by decide +kernel
theorem dX9_modeBy_8 : decode cX9_modeBy 8 = .ok (.if_icmp .ne 7, 3) := by decide +kernel
theorem dX9_modeBy_11 : decode cX9_modeBy 11 = .ok (.iconst 2, 1) := by decide +kernel
theorem dX9_modeBy_12 : decode cX9_modeBy 12 = .ok (.goto 4, 3) := by decide +kernel
theorem dX9_modeBy_15 : decode cX9_modeBy 15 = .ok (.iconst 0, 1) := by decide +kernel
theorem dX9_modeBy_16 : decode cX9_modeBy 16 = .ok (.ireturn, 1) := by decide +kernel
theorem dX10_init_0 : decode cX10_init 0 = .ok (.aload_n 0, 1) := by decide +kernel
theorem dX10_init_1 : decode cX10_init 1 = .ok (.invokespecial 3, 3) := by decide +kernel
theorem dX10_init_4 : decode cX10_init 4 = .ok (.aload_n 0, 1) := by decide +kernel
theorem dX10_init_5 : decode cX10_init 5 = .ok (.sipush 600, 3) := by decide +kernel
theorem dX10_init_8 : decode cX10_init 8 = .ok (.newarray .byte, 2) := by decide +kernel
theorem dX10_init_10 : decode cX10_init 10 = .ok (.putfield 9, 3) := by decide +kernel
theorem dX10_init_13 : decode cX10_init 13 = .ok (.aload_n 0, 1) := by decide +kernel
theorem dX10_init_14 : decode cX10_init 14 = .ok (.iconst (-1), 1) := by decide +kernel
theorem dX10_init_15 : decode cX10_init 15 = .ok (.putfield 15, 3) := by decide +kernel
theorem dX10_init_18 : decode cX10_init 18 = .ok (.return_, 1) := by decide +kernel
theorem dX10_size_0 : decode cX10_size 0 = .ok (.aload_n 0, 1) := by decide +kernel
theorem dX10_size_1 : decode cX10_size 1 = .ok (.getfield 19, 3) := by decide +kernel
theorem dX10_size_4 : decode cX10_size 4 = .ok (.ireturn, 1) := by decide +kernel
theorem dX10_hasRoom_0 : decode cX10_hasRoom 0 = .ok (.aload_n 0, 1) := by decide +kernel
theorem dX10_hasRoom_1 : decode cX10_hasRoom 1 = .ok (.getfield 19, 3) := by decide +kernel
theorem dX10_hasRoom_4 : decode cX10_hasRoom 4 = .ok (.iload_n 1, 1) := by decide +kernel
theorem dX10_hasRoom_5 : decode cX10_hasRoom 5 = .ok (.iadd, 1) := by decide +kernel
theorem dX10_hasRoom_6 : decode cX10_hasRoom 6 = .ok (.aload_n 0, 1) := by decide +kernel
theorem dX10_hasRoom_7 : decode cX10_hasRoom 7 = .ok (.getfield 9, 3) := by decide +kernel
theorem dX10_hasRoom_10 : decode cX10_hasRoom 10 = .ok (.arraylength, 1) := by decide +kernel
theorem dX10_hasRoom_11 : decode cX10_hasRoom 11 = .ok (.if_icmp .gt 7, 3) := by decide +kernel
theorem dX10_hasRoom_14 : decode cX10_hasRoom 14 = .ok (.iconst 1, 1) := by decide +kernel
theorem dX10_hasRoom_15 : decode cX10_hasRoom 15 = .ok (.goto 4, 3) := by decide +kernel
theorem dX10_hasRoom_18 : decode cX10_hasRoom 18 = .ok (.iconst 0, 1) := by decide +kernel
theorem dX10_hasRoom_19 : decode cX10_hasRoom 19 = .ok (.ireturn, 1) := by decide +kernel
theorem dX10_put_0 : decode cX10_put 0 = .ok (.bipush 24, 2) := by decide +kernel
theorem dX10_put_2 : decode cX10_put 2 = .ok (.istore_n 2, 1) := by decide +kernel
theorem dX10_put_3 : decode cX10_put 3 = .ok (.iload_n 2, 1) := by decide +kernel
theorem dX10_put_4 : decode cX10_put 4 = .ok (.ifCond .lt 44, 3) := by decide +kernel
theorem dX10_put_7 : decode cX10_put 7 = .ok (.aload_n 0, 1) := by decide +kernel
theorem dX10_put_8 : decode cX10_put 8 = .ok (.getfield 19, 3) := by decide +kernel
theorem dX10_put_11 : decode cX10_put 11 = .ok (.aload_n 0, 1) := by decide +kernel
theorem dX10_put_12 : decode cX10_put 12 = .ok (.getfield 9, 3) := by decide +kernel
theorem dX10_put_15 : decode cX10_put 15 = .ok (.arraylength, 1) := by decide +kernel
theorem dX10_put_16 : decode cX10_put 16 = .ok (.if_icmp .ge 32, 3) := by decide +kernel
theorem dX10_put_19 : decode cX10_put 19 = .ok (.aload_n 0, 1) := by decide +kernel
theorem dX10_put_20 : decode cX10_put 20 = .ok (.getfield 9, 3) := by decide +kernel
theorem dX10_put_23 : decode cX10_put 23 = .ok (.aload_n 0, 1) := by decide +kernel
theorem dX10_put_24 : decode cX10_put 24 = .ok (.getfield 19, 3) := by decide +kernel
theorem dX10_put_27 : decode cX10_put 27 = .ok (.iload_n 1, 1) := by decide +kernel
theorem dX10_put_28 : decode cX10_put 28 = .ok (.iload_n 2, 1) := by decide +kernel
theorem dX10_put_29 : decode cX10_put 29 = .ok (.ishr, 1) := by decide +kernel
theorem dX10_put_30 : decode cX10_put 30 = .ok (.i2b, 1) := by decide +kernel
theorem dX10_put_31 : decode cX10_put 31 = .ok (.bastore, 1) := by decide +kernel
theorem dX10_put_32 : decode cX10_put 32 = .ok (.aload_n 0, 1) := by decide +kernel
theorem dX10_put_33 : decode cX10_put 33 = .ok (.dup, 1) := by decide +kernel
theorem dX10_put_34 : decode cX10_put 34 = .ok (.getfield 19, 3) := by decide +kernel
theorem dX10_put_37 : decode cX10_put 37 = .ok (.iconst 1, 1) := by decide +kernel
theorem dX10_put_38 : decode cX10_put 38 = .ok (.iadd, 1) := by decide +kernel
theorem dX10_put_39 : decode cX10_put 39 = .ok (.putfield 19, 3) := by decide +kernel
theorem dX10_put_42 : decode cX10_put 42 = .ok (.iinc 2 (-8), 3) := by decide +kernel
theorem dX10_put_45 : decode cX10_put 45 = .ok (.goto (-42), 3) := by decide +kernel
theorem dX10_put_48 : decode cX10_put 48 = .ok (.return_, 1) := by decide +kernel
theorem dX10_take_0 : decode cX10_take 0 = .ok (.aload_n 0, 1) := by decide +kernel
theorem dX10_take_1 : decode cX10_take 1 = .ok (.iload_n 1, 1) := by decide +kernel
theorem dX10_take_2 : decode cX10_take 2 = .ok (.aload_n 0, 1) := by decide +kernel
theorem dX10_take_3 : decode cX10_take 3 = .ok (.getfield 19, 3) := by decide +kernel
theorem dX10_take_6 : decode cX10_take 6 = .ok (.invokestatic 22, 3) := by decide +kernel
theorem dX10_take_9 : decode cX10_take 9 = .ok (.putfield 28, 3) := by decide +kernel
theorem dX10_take_12 : decode cX10_take 12 = .ok (.aload_n 0, 1) := by decide +kernel
theorem dX10_take_13 : decode cX10_take 13 = .ok (.iconst 0, 1) := by decide +kernel
theorem dX10_take_14 : decode cX10_take 14 = .ok (.putfield 19, 3) := by decide +kernel
theorem dX10_take_17 : decode cX10_take 17 = .ok (.aload_n 0, 1) := by decide +kernel
theorem dX10_take_18 : decode cX10_take 18 = .ok (.iconst 0, 1) := by decide +kernel
theorem dX10_take_19 : decode cX10_take 19 = .ok (.putfield 31, 3) := by decide +kernel
theorem dX10_take_22 : decode cX10_take 22 = .ok (.aload_n 0, 1) := by decide +kernel
theorem dX10_take_23 : decode cX10_take 23 = .ok (.iconst 0, 1) := by decide +kernel
theorem dX10_take_24 : decode cX10_take 24 = .ok (.putfield 34, 3) := by decide +kernel
theorem dX10_take_27 : decode cX10_take 27 = .ok (.aload_n 0, 1) := by decide +kernel
theorem dX10_take_28 : decode cX10_take 28 = .ok (.iconst (-1), 1) := by decide +kernel
theorem dX10_take_29 : decode cX10_take 29 = .ok (.putfield 15, 3) := by decide +kernel
theorem dX10_take_32 : decode cX10_take 32 = .ok (.return_, 1) := by decide +kernel
theorem dX10_isFaulty_0 : decode cX10_isFaulty 0 = .ok (.aload_n 0, 1) := by decide +kernel
theorem dX10_isFaulty_1 : decode cX10_isFaulty 1 = .ok (.getfield 34, 3) := by decide +kernel
theorem dX10_isFaulty_4 : decode cX10_isFaulty 4 = .ok (.ifCond .eq 7, 3) := by decide +kernel
theorem dX10_isFaulty_7 : decode cX10_isFaulty 7 = .ok (.iconst 1, 1) := by decide +kernel
theorem dX10_isFaulty_8 : decode cX10_isFaulty 8 = .ok (.goto 4, 3) := by decide +kernel
theorem dX10_isFaulty_11 : decode cX10_isFaulty 11 = .ok (.iconst 0, 1) := by decide +kernel
theorem dX10_isFaulty_12 : decode cX10_isFaulty 12 = .ok (.ireturn, 1) := by decide +kernel
theorem dX10_faultAnswer_0 : decode cX10_faultAnswer 0 = .ok (.aload_n 0, 1) := by decide +kernel
theorem dX10_faultAnswer_1 : decode cX10_faultAnswer 1 = .ok (.getfield 34, 3) := by decide +kernel
theorem dX10_faultAnswer_4 : decode cX10_faultAnswer 4 = .ok (.bipush 10, 2) := by decide +kernel
theorem dX10_faultAnswer_6 : decode cX10_faultAnswer 6 = .ok (.isub, 1) := by decide +kernel
theorem dX10_faultAnswer_7 : decode cX10_faultAnswer 7 = .ok (.ireturn, 1) := by decide +kernel
theorem dX10_blame_0 : decode cX10_blame 0 = .ok (.aload_n 0, 1) := by decide +kernel
theorem dX10_blame_1 : decode cX10_blame 1 = .ok (.getfield 34, 3) := by decide +kernel
theorem dX10_blame_4 : decode cX10_blame 4 = .ok (.ifCond .ne 13, 3) := by decide +kernel
theorem dX10_blame_7 : decode cX10_blame 7 = .ok (.aload_n 0, 1) := by decide +kernel
theorem dX10_blame_8 : decode cX10_blame 8 = .ok (.iload_n 1, 1) := by decide +kernel
theorem dX10_blame_9 : decode cX10_blame 9 = .ok (.putfield 34, 3) := by decide +kernel
theorem dX10_blame_12 : decode cX10_blame 12 = .ok (.aload_n 0, 1) := by decide +kernel
theorem dX10_blame_13 : decode cX10_blame 13 = .ok (.iload_n 2, 1) := by decide +kernel
theorem dX10_blame_14 : decode cX10_blame 14 = .ok (.putfield 15, 3) := by decide +kernel
theorem dX10_blame_17 : decode cX10_blame 17 = .ok (.return_, 1) := by decide +kernel
theorem dX10_blameToken_0 : decode cX10_blameToken 0 = .ok (.aload_n 0, 1) := by decide +kernel
theorem dX10_blameToken_1 : decode cX10_blameToken 1 = .ok (.iload_n 1, 1) := by decide +kernel
theorem dX10_blameToken_2 : decode cX10_blameToken 2 = .ok (.aload_n 0, 1) := by decide +kernel
theorem dX10_blameToken_3 : decode cX10_blameToken 3 = .ok (.getfield 37, 3) := by decide +kernel
theorem dX10_blameToken_6 : decode cX10_blameToken 6 = .ok (.invokevirtual 40, 3) := by decide +kernel
theorem dX10_blameToken_9 : decode cX10_blameToken 9 = .ok (.return_, 1) := by decide +kernel
theorem dX10_next_0 : decode cX10_next 0 = .ok (.aload_n 0, 1) := by decide +kernel
theorem dX10_next_1 : decode cX10_next 1 = .ok (.getfield 31, 3) := by decide +kernel
theorem dX10_next_4 : decode cX10_next 4 = .ok (.aload_n 0, 1) := by decide +kernel
theorem dX10_next_5 : decode cX10_next 5 = .ok (.getfield 28, 3) := by decide +kernel
theorem dX10_next_8 : decode cX10_next 8 = .ok (.if_icmp .ge 30, 3) := by decide +kernel
theorem dX10_next_11 : decode cX10_next 11 = .ok (.aload_n 0, 1) := by decide +kernel
theorem dX10_next_12 : decode cX10_next 12 = .ok (.getfield 9, 3) := by decide +kernel
theorem dX10_next_15 : decode cX10_next 15 = .ok (.aload_n 0, 1) := by decide +kernel
theorem dX10_next_16 : decode cX10_next 16 = .ok (.getfield 31, 3) := by decide +kernel
theorem dX10_next_19 : decode cX10_next 19 = .ok (.baload, 1) := by decide +kernel
theorem dX10_next_20 : decode cX10_next 20 = .ok (.bipush 32, 2) := by decide +kernel
theorem dX10_next_22 : decode cX10_next 22 = .ok (.if_icmp .ne 16, 3) := by decide +kernel
theorem dX10_next_25 : decode cX10_next 25 = .ok (.aload_n 0, 1) := by decide +kernel
theorem dX10_next_26 : decode cX10_next 26 = .ok (.dup, 1) := by decide +kernel
theorem dX10_next_27 : decode cX10_next 27 = .ok (.getfield 31, 3) := by decide +kernel
theorem dX10_next_30 : decode cX10_next 30 = .ok (.iconst 1, 1) := by decide +kernel
theorem dX10_next_31 : decode cX10_next 31 = .ok (.iadd, 1) := by decide +kernel
theorem dX10_next_32 : decode cX10_next 32 = .ok (.putfield 31, 3) := by decide +kernel
theorem dX10_next_35 : decode cX10_next 35 = .ok (.goto (-35), 3) := by decide +kernel
theorem dX10_next_38 : decode cX10_next 38 = .ok (.aload_n 0, 1) := by decide +kernel
theorem dX10_next_39 : decode cX10_next 39 = .ok (.getfield 31, 3) := by decide +kernel
theorem dX10_next_42 : decode cX10_next 42 = .ok (.aload_n 0, 1) := by decide +kernel
theorem dX10_next_43 : decode cX10_next 43 = .ok (.getfield 28, 3) := by decide +kernel
theorem dX10_next_46 : decode cX10_next 46 = .ok (.if_icmp .ge 19, 3) := by decide +kernel
theorem dX10_next_49 : decode cX10_next 49 = .ok (.aload_n 0, 1) := by decide +kernel
theorem dX10_next_50 : decode cX10_next 50 = .ok (.getfield 9, 3) := by decide +kernel
theorem dX10_next_53 : decode cX10_next 53 = .ok (.aload_n 0, 1) := by decide +kernel
theorem dX10_next_54 : decode cX10_next 54 = .ok (.getfield 31, 3) := by decide +kernel
theorem dX10_next_57 : decode cX10_next 57 = .ok (.baload, 1) := by decide +kernel
theorem dX10_next_58 : decode cX10_next 58 = .ok (.sipush 255, 3) := by decide +kernel
theorem dX10_next_61 : decode cX10_next 61 = .ok (.iand, 1) := by decide +kernel
theorem dX10_next_62 : decode cX10_next 62 = .ok (.goto 4, 3) := by decide +kernel
theorem dX10_next_65 : decode cX10_next 65 = .ok (.iconst (-1), 1) := by decide +kernel
theorem dX10_next_66 : decode cX10_next 66 = .ok (.ireturn, 1) := by decide +kernel
theorem dX10_isAtEnd_0 : decode cX10_isAtEnd 0 = .ok (.aload_n 0, 1) := by decide +kernel
theorem dX10_isAtEnd_1 : decode cX10_isAtEnd 1 = .ok (.invokevirtual 44, 3) := by decide +kernel
theorem dX10_isAtEnd_4 : decode cX10_isAtEnd 4 = .ok (.iconst (-1), 1) := by decide +kernel
theorem dX10_isAtEnd_5 : decode cX10_isAtEnd 5 = .ok (.if_icmp .ne 7, 3) := by decide +kernel
theorem dX10_isAtEnd_8 : decode cX10_isAtEnd 8 = .ok (.iconst 1, 1) := by decide +kernel
theorem dX10_isAtEnd_9 : decode cX10_isAtEnd 9 = .ok (.goto 4, 3) := by decide +kernel
theorem dX10_isAtEnd_12 : decode cX10_isAtEnd 12 = .ok (.iconst 0, 1) := by decide +kernel
theorem dX10_isAtEnd_13 : decode cX10_isAtEnd 13 = .ok (.ireturn, 1) := by decide +kernel
theorem dX10_expectEnd_0 : decode cX10_expectEnd 0 = .ok (.aload_n 0, 1) := by decide +kernel
theorem dX10_expectEnd_1 : decode cX10_expectEnd 1 = .ok (.invokevirtual 48, 3) := by decide +kernel
theorem dX10_expectEnd_4 : decode cX10_expectEnd 4 = .ok (.ifCond .ne 12, 3) := by decide +kernel
theorem dX10_expectEnd_7 : decode cX10_expectEnd 7 = .ok (.aload_n 0, 1) := by decide +kernel
theorem dX10_expectEnd_8 : decode cX10_expectEnd 8 = .ok (.iconst 1, 1) := by decide +kernel
theorem dX10_expectEnd_9 : decode cX10_expectEnd 9 = .ok (.aload_n 0, 1) := by decide +kernel
theorem dX10_expectEnd_10 : decode cX10_expectEnd 10 = .ok (.getfield 31, 3) := by decide +kernel
theorem dX10_expectEnd_13 : decode cX10_expectEnd 13 = .ok (.invokevirtual 40, 3) := by decide +kernel
theorem dX10_expectEnd_16 : decode cX10_expectEnd 16 = .ok (.return_, 1) := by decide +kernel
theorem dX10_expect_0 : decode cX10_expect 0 = .ok (.aload_n 0, 1) := by decide +kernel
theorem dX10_expect_1 : decode cX10_expect 1 = .ok (.invokevirtual 44, 3) := by decide +kernel
theorem dX10_expect_4 : decode cX10_expect 4 = .ok (.iload_n 1, 1) := by decide +kernel
theorem dX10_expect_5 : decode cX10_expect 5 = .ok (.if_icmp .ne 16, 3) := by decide +kernel
theorem dX10_expect_8 : decode cX10_expect 8 = .ok (.aload_n 0, 1) := by decide +kernel
theorem dX10_expect_9 : decode cX10_expect 9 = .ok (.dup, 1) := by decide +kernel
theorem dX10_expect_10 : decode cX10_expect 10 = .ok (.getfield 31, 3) := by decide +kernel
theorem dX10_expect_13 : decode cX10_expect 13 = .ok (.iconst 1, 1) := by decide +kernel
theorem dX10_expect_14 : decode cX10_expect 14 = .ok (.iadd, 1) := by decide +kernel
theorem dX10_expect_15 : decode cX10_expect 15 = .ok (.putfield 31, 3) := by decide +kernel
theorem dX10_expect_18 : decode cX10_expect 18 = .ok (.goto 12, 3) := by decide +kernel
theorem dX10_expect_21 : decode cX10_expect 21 = .ok (.aload_n 0, 1) := by decide +kernel
theorem dX10_expect_22 : decode cX10_expect 22 = .ok (.iconst 1, 1) := by decide +kernel
theorem dX10_expect_23 : decode cX10_expect 23 = .ok (.aload_n 0, 1) := by decide +kernel
theorem dX10_expect_24 : decode cX10_expect 24 = .ok (.getfield 31, 3) := by decide +kernel
theorem dX10_expect_27 : decode cX10_expect 27 = .ok (.invokevirtual 40, 3) := by decide +kernel
theorem dX10_expect_30 : decode cX10_expect 30 = .ok (.return_, 1) := by decide +kernel
theorem dX10_takeOneOf_0 : decode cX10_takeOneOf 0 = .ok (.aload_n 0, 1) := by decide +kernel
theorem dX10_takeOneOf_1 : decode cX10_takeOneOf 1 = .ok (.invokevirtual 44, 3) := by decide +kernel
theorem dX10_takeOneOf_4 : decode cX10_takeOneOf 4 = .ok (.istore_n 2, 1) := by decide +kernel
theorem dX10_takeOneOf_5 : decode cX10_takeOneOf 5 = .ok (.iconst 0, 1) := by decide +kernel
theorem dX10_takeOneOf_6 : decode cX10_takeOneOf 6 = .ok (.istore_n 3, 1) := by decide +kernel
theorem dX10_takeOneOf_7 : decode cX10_takeOneOf 7 = .ok (.iload_n 3, 1) := by decide +kernel
theorem dX10_takeOneOf_8 : decode cX10_takeOneOf 8 = .ok (.aload_n 1, 1) := by decide +kernel
theorem dX10_takeOneOf_9 : decode cX10_takeOneOf 9 = .ok (.invokevirtual 52, 3) := by decide +kernel
theorem dX10_takeOneOf_12 : decode cX10_takeOneOf 12 = .ok (.if_icmp .ge 38, 3) := by decide +kernel
theorem dX10_takeOneOf_15 : decode cX10_takeOneOf 15 = .ok (.aload_n 1, 1) := by decide +kernel
theorem dX10_takeOneOf_16 : decode cX10_takeOneOf 16 = .ok (.iload_n 3, 1) := by decide +kernel
theorem dX10_takeOneOf_17 : decode cX10_takeOneOf 17 = .ok (.invokevirtual 56, 3) := by decide +kernel
theorem dX10_takeOneOf_20 : decode cX10_takeOneOf 20 = .ok (.iload_n 2, 1) := by decide +kernel
theorem dX10_takeOneOf_21 : decode cX10_takeOneOf 21 = .ok (.if_icmp .ne 23, 3) := by decide +kernel
theorem dX10_takeOneOf_24 : decode cX10_takeOneOf 24 = .ok (.aload_n 0, 1) := by decide +kernel
theorem dX10_takeOneOf_25 : decode cX10_takeOneOf 25 = .ok (.aload_n 0, 1) := by decide +kernel
theorem dX10_takeOneOf_26 : decode cX10_takeOneOf 26 = .ok (.getfield 31, 3) := by decide +kernel
theorem dX10_takeOneOf_29 : decode cX10_takeOneOf 29 = .ok (.putfield 37, 3) := by decide +kernel
theorem dX10_takeOneOf_32 : decode cX10_takeOneOf 32 = .ok (.aload_n 0, 1) := by decide +kernel
theorem dX10_takeOneOf_33 : decode cX10_takeOneOf 33 = .ok (.dup, 1) := by decide +kernel
theorem dX10_takeOneOf_34 : decode cX10_takeOneOf 34 = .ok (.getfield 31, 3) := by decide +kernel
theorem dX10_takeOneOf_37 : decode cX10_takeOneOf 37 = .ok (.iconst 1, 1) := by decide +kernel
theorem dX10_takeOneOf_38 : decode cX10_takeOneOf 38 = .ok (.iadd, 1) := by decide +kernel
theorem dX10_takeOneOf_39 : decode cX10_takeOneOf 39 = .ok (.putfield 31, 3) := by decide +kernel
theorem dX10_takeOneOf_42 : decode cX10_takeOneOf 42 = .ok (.iload_n 3, 1) := by decide +kernel
theorem dX10_takeOneOf_43 : decode cX10_takeOneOf 43 = .ok (.ireturn, 1) := by decide +kernel
theorem dX10_takeOneOf_44 : decode cX10_takeOneOf 44 = .ok (.iinc 3 1, 3) := by decide +kernel
theorem dX10_takeOneOf_47 : decode cX10_takeOneOf 47 = .ok (.goto (-40), 3) := by decide +kernel
theorem dX10_takeOneOf_50 : decode cX10_takeOneOf 50 = .ok (.iconst (-1), 1) := by decide +kernel
theorem dX10_takeOneOf_51 : decode cX10_takeOneOf 51 = .ok (.ireturn, 1) := by decide +kernel
theorem dX10_isAtDigit_0 : decode cX10_isAtDigit 0 = .ok (.aload_n 0, 1) := by decide +kernel
theorem dX10_isAtDigit_1 : decode cX10_isAtDigit 1 = .ok (.invokevirtual 44, 3) := by decide +kernel
theorem dX10_isAtDigit_4 : decode cX10_isAtDigit 4 = .ok (.istore_n 1, 1) := by decide +kernel
theorem dX10_isAtDigit_5 : decode cX10_isAtDigit 5 = .ok (.iload_n 1, 1) := by decide +kernel
theorem dX10_isAtDigit_6 : decode cX10_isAtDigit 6 = .ok (.bipush 48, 2) := by decide +kernel
theorem dX10_isAtDigit_8 : decode cX10_isAtDigit 8 = .ok (.if_icmp .lt 13, 3) := by decide +kernel
theorem dX10_isAtDigit_11 : decode cX10_isAtDigit 11 = .ok (.iload_n 1, 1) := by decide +kernel
theorem dX10_isAtDigit_12 : decode cX10_isAtDigit 12 = .ok (.bipush 57, 2) := by decide +kernel
theorem dX10_isAtDigit_14 : decode cX10_isAtDigit 14 = .ok (.if_icmp .gt 7, 3) := by decide +kernel
theorem dX10_isAtDigit_17 : decode cX10_isAtDigit 17 = .ok (.iconst 1, 1) := by decide +kernel
theorem dX10_isAtDigit_18 : decode cX10_isAtDigit 18 = .ok (.goto 4, 3) := by decide +kernel
theorem dX10_isAtDigit_21 : decode cX10_isAtDigit 21 = .ok (.iconst 0, 1) := by decide +kernel
theorem dX10_isAtDigit_22 : decode cX10_isAtDigit 22 = .ok (.ireturn, 1) := by decide +kernel
theorem dX10_number_0 : decode cX10_number 0 = .ok (.aload_n 0, 1) := by decide +kernel
theorem dX10_number_1 : decode cX10_number 1 = .ok (.invokevirtual 44, 3) := by decide +kernel
theorem dX10_number_4 : decode cX10_number 4 = .ok (.pop, 1) := by decide +kernel
theorem dX10_number_5 : decode cX10_number 5 = .ok (.aload_n 0, 1) := by decide +kernel
theorem dX10_number_6 : decode cX10_number 6 = .ok (.aload_n 0, 1) := by decide +kernel
theorem dX10_number_7 : decode cX10_number 7 = .ok (.getfield 31, 3) := by decide +kernel
theorem dX10_number_10 : decode cX10_number 10 = .ok (.putfield 37, 3) := by decide +kernel
theorem dX10_number_13 : decode cX10_number 13 = .ok (.iconst 0, 1) := by decide +kernel
theorem dX10_number_14 : decode cX10_number 14 = .ok (.istore_n 3, 1) := by decide +kernel
theorem dX10_number_15 : decode cX10_number 15 = .ok (.aload_n 0, 1) := by decide +kernel
theorem dX10_number_16 : decode cX10_number 16 = .ok (.getfield 31, 3) := by decide +kernel
theorem dX10_number_19 : decode cX10_number 19 = .ok (.aload_n 0, 1) := by decide +kernel
theorem dX10_number_20 : decode cX10_number 20 = .ok (.getfield 28, 3) := by decide +kernel
theorem dX10_number_23 : decode cX10_number 23 = .ok (.if_icmp .ge 67, 3) := by decide +kernel
theorem dX10_number_26 : decode cX10_number 26 = .ok (.aload_n 0, 1) := by decide +kernel
theorem dX10_number_27 : decode cX10_number 27 = .ok (.getfield 9, 3) := by decide +kernel
theorem dX10_number_30 : decode cX10_number 30 = .ok (.aload_n 0, 1) := by decide +kernel
theorem dX10_number_31 : decode cX10_number 31 = .ok (.getfield 31, 3) := by decide +kernel
theorem dX10_number_34 : decode cX10_number 34 = .ok (.baload, 1) := by decide +kernel
theorem dX10_number_35 : decode cX10_number 35 = .ok (.bipush 48, 2) := by decide +kernel
theorem dX10_number_37 : decode cX10_number 37 = .ok (.if_icmp .lt 53, 3) := by decide +kernel
theorem dX10_number_40 : decode cX10_number 40 = .ok (.aload_n 0, 1) := by decide +kernel
theorem dX10_number_41 : decode cX10_number 41 = .ok (.getfield 9, 3) := by decide +kernel
theorem dX10_number_44 : decode cX10_number 44 = .ok (.aload_n 0, 1) := by decide +kernel
theorem dX10_number_45 : decode cX10_number 45 = .ok (.getfield 31, 3) := by decide +kernel
theorem dX10_number_48 : decode cX10_number 48 = .ok (.baload, 1) := by decide +kernel
theorem dX10_number_49 : decode cX10_number 49 = .ok (.bipush 57, 2) := by decide +kernel
theorem dX10_number_51 : decode cX10_number 51 = .ok (.if_icmp .gt 39, 3) := by decide +kernel
theorem dX10_number_54 : decode cX10_number 54 = .ok (.iload_n 3, 1) := by decide +kernel
theorem dX10_number_55 : decode cX10_number 55 = .ok (.bipush 10, 2) := by decide +kernel
theorem dX10_number_57 : decode cX10_number 57 = .ok (.imul, 1) := by decide +kernel
theorem dX10_number_58 : decode cX10_number 58 = .ok (.aload_n 0, 1) := by decide +kernel
theorem dX10_number_59 : decode cX10_number 59 = .ok (.getfield 9, 3) := by decide +kernel
theorem dX10_number_62 : decode cX10_number 62 = .ok (.aload_n 0, 1) := by decide +kernel
theorem dX10_number_63 : decode cX10_number 63 = .ok (.getfield 31, 3) := by decide +kernel
theorem dX10_number_66 : decode cX10_number 66 = .ok (.baload, 1) := by decide +kernel
theorem dX10_number_67 : decode cX10_number 67 = .ok (.iadd, 1) := by decide +kernel
theorem dX10_number_68 : decode cX10_number 68 = .ok (.bipush 48, 2) := by decide +kernel
theorem dX10_number_70 : decode cX10_number 70 = .ok (.isub, 1) := by decide +kernel
theorem dX10_number_71 : decode cX10_number 71 = .ok (.ldc 60, 2) := by decide +kernel
theorem dX10_number_73 : decode cX10_number 73 = .ok (.invokestatic 22, 3) := by decide +kernel
theorem dX10_number_76 : decode cX10_number 76 = .ok (.istore_n 3, 1) := by decide +kernel
theorem dX10_number_77 : decode cX10_number 77 = .ok (.aload_n 0, 1) := by decide +kernel
theorem dX10_number_78 : decode cX10_number 78 = .ok (.dup, 1) := by decide +kernel
theorem dX10_number_79 : decode cX10_number 79 = .ok (.getfield 31, 3) := by decide +kernel
theorem dX10_number_82 : decode cX10_number 82 = .ok (.iconst 1, 1) := by decide +kernel
theorem dX10_number_83 : decode cX10_number 83 = .ok (.iadd, 1) := by decide +kernel
theorem dX10_number_84 : decode cX10_number 84 = .ok (.putfield 31, 3) := by decide +kernel
theorem dX10_number_87 : decode cX10_number 87 = .ok (.goto (-72), 3) := by decide +kernel
theorem dX10_number_90 : decode cX10_number 90 = .ok (.aload_n 0, 1) := by decide +kernel
theorem dX10_number_91 : decode cX10_number 91 = .ok (.getfield 31, 3) := by decide +kernel
theorem dX10_number_94 : decode cX10_number 94 = .ok (.aload_n 0, 1) := by decide +kernel
theorem dX10_number_95 : decode cX10_number 95 = .ok (.getfield 37, 3) := by decide +kernel
theorem dX10_number_98 : decode cX10_number 98 = .ok (.if_icmp .ne 15, 3) := by decide +kernel
theorem dX10_number_101 : decode cX10_number 101 = .ok (.aload_n 0, 1) := by decide +kernel
theorem dX10_number_102 : decode cX10_number 102 = .ok (.iconst 1, 1) := by decide +kernel
theorem dX10_number_103 : decode cX10_number 103 = .ok (.aload_n 0, 1) := by decide +kernel
theorem dX10_number_104 : decode cX10_number 104 = .ok (.getfield 31, 3) := by decide +kernel
theorem dX10_number_107 : decode cX10_number 107 = .ok (.invokevirtual 40, 3) := by decide +kernel
theorem dX10_number_110 : decode cX10_number 110 = .ok (.goto 22, 3) := by decide +kernel
theorem dX10_number_113 : decode cX10_number 113 = .ok (.iload_n 3, 1) := by decide +kernel
theorem dX10_number_114 : decode cX10_number 114 = .ok (.iload_n 1, 1) := by decide +kernel
theorem dX10_number_115 : decode cX10_number 115 = .ok (.if_icmp .lt 8, 3) := by decide +kernel
theorem dX10_number_118 : decode cX10_number 118 = .ok (.iload_n 3, 1) := by decide +kernel
theorem dX10_number_119 : decode cX10_number 119 = .ok (.iload_n 2, 1) := by decide +kernel
theorem dX10_number_120 : decode cX10_number 120 = .ok (.if_icmp .le 12, 3) := by decide +kernel
theorem dX10_number_123 : decode cX10_number 123 = .ok (.aload_n 0, 1) := by decide +kernel
theorem dX10_number_124 : decode cX10_number 124 = .ok (.iconst 2, 1) := by decide +kernel
theorem dX10_number_125 : decode cX10_number 125 = .ok (.aload_n 0, 1) := by decide +kernel
theorem dX10_number_126 : decode cX10_number 126 = .ok (.getfield 37, 3) := by decide +kernel
theorem dX10_number_129 : decode cX10_number 129 = .ok (.invokevirtual 40, 3) := by decide +kernel
theorem dX10_number_132 : decode cX10_number 132 = .ok (.aload_n 0, 1) := by decide +kernel
theorem dX10_number_133 : decode cX10_number 133 = .ok (.invokevirtual 61, 3) := by decide +kernel
theorem dX10_number_136 : decode cX10_number 136 = .ok (.ifCond .eq 7, 3) := by decide +kernel
theorem dX10_number_139 : decode cX10_number 139 = .ok (.iconst (-1), 1) := by decide +kernel
theorem dX10_number_140 : decode cX10_number 140 = .ok (.goto 4, 3) := by decide +kernel
theorem dX10_number_143 : decode cX10_number 143 = .ok (.iload_n 3, 1) := by decide +kernel
theorem dX10_number_144 : decode cX10_number 144 = .ok (.ireturn, 1) := by decide +kernel
theorem dX10_word_0 : decode cX10_word 0 = .ok (.aload_n 0, 1) := by decide +kernel
theorem dX10_word_1 : decode cX10_word 1 = .ok (.invokevirtual 44, 3) := by decide +kernel
theorem dX10_word_4 : decode cX10_word 4 = .ok (.pop, 1) := by decide +kernel
theorem dX10_word_5 : decode cX10_word 5 = .ok (.aload_n 0, 1) := by decide +kernel
theorem dX10_word_6 : decode cX10_word 6 = .ok (.aload_n 0, 1) := by decide +kernel
theorem dX10_word_7 : decode cX10_word 7 = .ok (.getfield 31, 3) := by decide +kernel
theorem dX10_word_10 : decode cX10_word 10 = .ok (.putfield 37, 3) := by decide +kernel
theorem dX10_word_13 : decode cX10_word 13 = .ok (.aload_n 0, 1) := by decide +kernel
theorem dX10_word_14 : decode cX10_word 14 = .ok (.getfield 31, 3) := by decide +kernel
theorem dX10_word_17 : decode cX10_word 17 = .ok (.aload_n 0, 1) := by decide +kernel
theorem dX10_word_18 : decode cX10_word 18 = .ok (.getfield 28, 3) := by decide +kernel
theorem dX10_word_21 : decode cX10_word 21 = .ok (.if_icmp .ge 44, 3) := by decide +kernel
theorem dX10_word_24 : decode cX10_word 24 = .ok (.aload_n 0, 1) := by decide +kernel
theorem dX10_word_25 : decode cX10_word 25 = .ok (.getfield 9, 3) := by decide +kernel
theorem dX10_word_28 : decode cX10_word 28 = .ok (.aload_n 0, 1) := by decide +kernel
theorem dX10_word_29 : decode cX10_word 29 = .ok (.getfield 31, 3) := by decide +kernel
theorem dX10_word_32 : decode cX10_word 32 = .ok (.baload, 1) := by decide +kernel
theorem dX10_word_33 : decode cX10_word 33 = .ok (.bipush 97, 2) := by decide +kernel
theorem dX10_word_35 : decode cX10_word 35 = .ok (.if_icmp .lt 30, 3) := by decide +kernel
theorem dX10_word_38 : decode cX10_word 38 = .ok (.aload_n 0, 1) := by decide +kernel
theorem dX10_word_39 : decode cX10_word 39 = .ok (.getfield 9, 3) := by decide +kernel
theorem dX10_word_42 : decode cX10_word 42 = .ok (.aload_n 0, 1) := by decide +kernel
theorem dX10_word_43 : decode cX10_word 43 = .ok (.getfield 31, 3) := by decide +kernel
theorem dX10_word_46 : decode cX10_word 46 = .ok (.baload, 1) := by decide +kernel
theorem dX10_word_47 : decode cX10_word 47 = .ok (.bipush 122, 2) := by decide +kernel
theorem dX10_word_49 : decode cX10_word 49 = .ok (.if_icmp .gt 16, 3) := by decide +kernel
theorem dX10_word_52 : decode cX10_word 52 = .ok (.aload_n 0, 1) := by decide +kernel
theorem dX10_word_53 : decode cX10_word 53 = .ok (.dup, 1) := by decide +kernel
theorem dX10_word_54 : decode cX10_word 54 = .ok (.getfield 31, 3) := by decide +kernel
theorem dX10_word_57 : decode cX10_word 57 = .ok (.iconst 1, 1) := by decide +kernel
theorem dX10_word_58 : decode cX10_word 58 = .ok (.iadd, 1) := by decide +kernel
theorem dX10_word_59 : decode cX10_word 59 = .ok (.putfield 31, 3) := by decide +kernel
theorem dX10_word_62 : decode cX10_word 62 = .ok (.goto (-49), 3) := by decide +kernel
theorem dX10_word_65 : decode cX10_word 65 = .ok (.aload_n 0, 1) := by decide +kernel
theorem dX10_word_66 : decode cX10_word 66 = .ok (.aload_n 1, 1) := by decide +kernel
theorem dX10_word_67 : decode cX10_word 67 = .ok (.invokevirtual 64, 3) := by decide +kernel
theorem dX10_word_70 : decode cX10_word 70 = .ok (.istore_n 2, 1) := by decide +kernel
theorem dX10_word_71 : decode cX10_word 71 = .ok (.iload_n 2, 1) := by decide +kernel
theorem dX10_word_72 : decode cX10_word 72 = .ok (.iconst (-1), 1) := by decide +kernel
theorem dX10_word_73 : decode cX10_word 73 = .ok (.if_icmp .ne 12, 3) := by decide +kernel
theorem dX10_word_76 : decode cX10_word 76 = .ok (.aload_n 0, 1) := by decide +kernel
theorem dX10_word_77 : decode cX10_word 77 = .ok (.iconst 1, 1) := by decide +kernel
theorem dX10_word_78 : decode cX10_word 78 = .ok (.aload_n 0, 1) := by decide +kernel
theorem dX10_word_79 : decode cX10_word 79 = .ok (.getfield 37, 3) := by decide +kernel
theorem dX10_word_82 : decode cX10_word 82 = .ok (.invokevirtual 40, 3) := by decide +kernel
theorem dX10_word_85 : decode cX10_word 85 = .ok (.aload_n 0, 1) := by decide +kernel
theorem dX10_word_86 : decode cX10_word 86 = .ok (.invokevirtual 61, 3) := by decide +kernel
theorem dX10_word_89 : decode cX10_word 89 = .ok (.ifCond .eq 7, 3) := by decide +kernel
theorem dX10_word_92 : decode cX10_word 92 = .ok (.iconst (-1), 1) := by decide +kernel
theorem dX10_word_93 : decode cX10_word 93 = .ok (.goto 4, 3) := by decide +kernel
theorem dX10_word_96 : decode cX10_word 96 = .ok (.iload_n 2, 1) := by decide +kernel
theorem dX10_word_97 : decode cX10_word 97 = .ok (.ireturn, 1) := by decide +kernel
theorem dX10_whichName_0 : decode cX10_whichName 0 = .ok (.iconst 0, 1) := by decide +kernel
theorem dX10_whichName_1 : decode cX10_whichName 1 = .ok (.istore_n 2, 1) := by decide +kernel
theorem dX10_whichName_2 : decode cX10_whichName 2 = .ok (.aload_n 0, 1) := by decide +kernel
theorem dX10_whichName_3 : decode cX10_whichName 3 = .ok (.getfield 37, 3) := by decide +kernel
theorem dX10_whichName_6 : decode cX10_whichName 6 = .ok (.istore_n 3, 1) := by decide +kernel
theorem dX10_whichName_7 : decode cX10_whichName 7 = .ok (.iconst 1, 1) := by decide +kernel
theorem dX10_whichName_8 : decode cX10_whichName 8 = .ok (.istore 4, 2) := by decide +kernel
theorem dX10_whichName_10 : decode cX10_whichName 10 = .ok (.iconst 0, 1) := by decide +kernel
theorem dX10_whichName_11 : decode cX10_whichName 11 = .ok (.istore 5, 2) := by decide +kernel
theorem dX10_whichName_13 : decode cX10_whichName 13 = .ok (.iload 5, 2) := by decide +kernel
theorem dX10_whichName_15 : decode cX10_whichName 15 = .ok (.aload_n 1, 1) := by decide +kernel
theorem dX10_whichName_16 : decode cX10_whichName 16 = .ok (.invokevirtual 52, 3) := by decide +kernel
theorem dX10_whichName_19 : decode cX10_whichName 19 = .ok (.if_icmp .gt 96, 3) := by decide +kernel
theorem dX10_whichName_22 : decode cX10_whichName 22 = .ok (.iload 5, 2) := by decide +kernel
theorem dX10_whichName_24 : decode cX10_whichName 24 = .ok (.aload_n 1, 1) := by decide +kernel
theorem dX10_whichName_25 : decode cX10_whichName 25 = .ok (.invokevirtual 52, 3) := by decide +kernel
theorem dX10_whichName_28 : decode cX10_whichName 28 = .ok (.if_icmp .eq 14, 3) := by decide +kernel
theorem dX10_whichName_31 : decode cX10_whichName 31 = .ok (.aload_n 1, 1) := by decide +kernel
theorem dX10_whichName_32 : decode cX10_whichName 32 = .ok (.iload 5, 2) := by decide +kernel
theorem dX10_whichName_34 : decode cX10_whichName 34 = .ok (.invokevirtual 56, 3) := by decide +kernel
theorem dX10_whichName_37 : decode cX10_whichName 37 = .ok (.bipush 32, 2) := by decide +kernel
theorem dX10_whichName_39 : decode cX10_whichName 39 = .ok (.if_icmp .ne 32, 3) := by decide +kernel
theorem dX10_whichName_42 : decode cX10_whichName 42 = .ok (.iload 4, 2) := by decide +kernel
theorem dX10_whichName_44 : decode cX10_whichName 44 = .ok (.ifCond .eq 13, 3) := by decide +kernel
theorem dX10_whichName_47 : decode cX10_whichName 47 = .ok (.iload_n 3, 1) := by decide +kernel
theorem dX10_whichName_48 : decode cX10_whichName 48 = .ok (.aload_n 0, 1) := by decide +kernel
theorem dX10_whichName_49 : decode cX10_whichName 49 = .ok (.getfield 31, 3) := by decide +kernel
theorem dX10_whichName_52 : decode cX10_whichName 52 = .ok (.if_icmp .ne 5, 3) := by decide +kernel
theorem dX10_whichName_55 : decode cX10_whichName 55 = .ok (.iload_n 2, 1) := by decide +kernel
theorem dX10_whichName_56 : decode cX10_whichName 56 = .ok (.ireturn, 1) := by decide +kernel
theorem dX10_whichName_57 : decode cX10_whichName 57 = .ok (.iinc 2 1, 3) := by decide +kernel
theorem dX10_whichName_60 : decode cX10_whichName 60 = .ok (.aload_n 0, 1) := by decide +kernel
theorem dX10_whichName_61 : decode cX10_whichName 61 = .ok (.getfield 37, 3) := by decide +kernel
theorem dX10_whichName_64 : decode cX10_whichName 64 = .ok (.istore_n 3, 1) := by decide +kernel
theorem dX10_whichName_65 : decode cX10_whichName 65 = .ok (.iconst 1, 1) := by decide +kernel
theorem dX10_whichName_66 : decode cX10_whichName 66 = .ok (.istore 4, 2) := by decide +kernel
theorem dX10_whichName_68 : decode cX10_whichName 68 = .ok (.goto 41, 3) := by decide +kernel
theorem dX10_whichName_71 : decode cX10_whichName 71 = .ok (.iload 4, 2) := by decide +kernel
theorem dX10_whichName_73 : decode cX10_whichName 73 = .ok (.ifCond .eq 30, 3) := by decide +kernel
theorem dX10_whichName_76 : decode cX10_whichName 76 = .ok (.iload_n 3, 1) := by decide +kernel
theorem dX10_whichName_77 : decode cX10_whichName 77 = .ok (.aload_n 0, 1) := by decide +kernel
theorem dX10_whichName_78 : decode cX10_whichName 78 = .ok (.getfield 31, 3) := by decide +kernel
theorem dX10_whichName_81 : decode cX10_whichName 81 = .ok (.if_icmp .ge 22, 3) := by decide +kernel
theorem dX10_whichName_84 : decode cX10_whichName 84 = .ok (.aload_n 0, 1) := by decide +kernel
theorem dX10_whichName_85 : decode cX10_whichName 85 = .ok (.getfield 9, 3) := by decide +kernel
theorem dX10_whichName_88 : decode cX10_whichName 88 = .ok (.iload_n 3, 1) := by decide +kernel
theorem dX10_whichName_89 : decode cX10_whichName 89 = .ok (.baload, 1) := by decide +kernel
theorem dX10_whichName_90 : decode cX10_whichName 90 = .ok (.aload_n 1, 1) := by decide +kernel
theorem dX10_whichName_91 : decode cX10_whichName 91 = .ok (.iload 5, 2) := by decide +kernel
theorem dX10_whichName_93 : decode cX10_whichName 93 = .ok (.invokevirtual 56, 3) := by decide +kernel
theorem dX10_whichName_96 : decode cX10_whichName 96 = .ok (.if_icmp .ne 7, 3) := by decide +kernel
theorem dX10_whichName_99 : decode cX10_whichName 99 = .ok (.iconst 1, 1) := by decide +kernel
theorem dX10_whichName_100 : decode cX10_whichName 100 = .ok (.goto 4, 3) := by decide +kernel
theorem dX10_whichName_103 : decode cX10_whichName 103 = .ok (.iconst 0, 1) := by decide +kernel
theorem dX10_whichName_104 : decode cX10_whichName 104 = .ok (.istore 4, 2) := by decide +kernel
theorem dX10_whichName_106 : decode cX10_whichName 106 = .ok (.iinc 3 1, 3) := by decide +kernel
theorem dX10_whichName_109 : decode cX10_whichName 109 = .ok (.iinc 5 1, 3) := by decide +kernel
theorem dX10_whichName_112 : decode cX10_whichName 112 = .ok (.goto (-99), 3) := by decide +kernel
theorem dX10_whichName_115 : decode cX10_whichName 115 = .ok (.iconst (-1), 1) := by decide +kernel
theorem dX10_whichName_116 : decode cX10_whichName 116 = .ok (.ireturn, 1) := by decide +kernel
theorem dX11_init_0 : decode cX11_init 0 = .ok (.aload_n 0, 1) := by decide +kernel
theorem dX11_init_1 : decode cX11_init 1 = .ok (.invokespecial 1, 3) := by decide +kernel
theorem dX11_init_4 : decode cX11_init 4 = .ok (.aload_n 0, 1) := by decide +kernel
theorem dX11_init_5 : decode cX11_init 5 = .ok (.new 7, 3) := by decide +kernel
theorem dX11_init_8 : decode cX11_init 8 = .ok (.dup, 1) := by decide +kernel
theorem dX11_init_9 : decode cX11_init 9 = .ok (.invokespecial 9, 3) := by decide +kernel
theorem dX11_init_12 : decode cX11_init 12 = .ok (.putfield 10, 3) := by decide +kernel
theorem dX11_init_15 : decode cX11_init 15 = .ok (.aload_n 0, 1) := by decide +kernel
theorem dX11_init_16 : decode cX11_init 16 = .ok (.new 16, 3) := by decide +kernel
theorem dX11_init_19 : decode cX11_init 19 = .ok (.dup, 1) := by decide +kernel
theorem dX11_init_20 : decode cX11_init 20 = .ok (.invokespecial 18, 3) := by decide +kernel
theorem dX11_init_23 : decode cX11_init 23 = .ok (.putfield 19, 3) := by decide +kernel
theorem dX11_init_26 : decode cX11_init 26 = .ok (.aload_n 0, 1) := by decide +kernel
theorem dX11_init_27 : decode cX11_init 27 = .ok (.new 16, 3) := by decide +kernel
theorem dX11_init_30 : decode cX11_init 30 = .ok (.dup, 1) := by decide +kernel
theorem dX11_init_31 : decode cX11_init 31 = .ok (.invokespecial 18, 3) := by decide +kernel
theorem dX11_init_34 : decode cX11_init 34 = .ok (.putfield 23, 3) := by decide +kernel
theorem dX11_init_37 : decode cX11_init 37 = .ok (.aload_n 0, 1) := by decide +kernel
theorem dX11_init_38 : decode cX11_init 38 = .ok (.new 26, 3) := by decide +kernel
theorem dX11_init_41 : decode cX11_init 41 = .ok (.dup, 1) := by decide +kernel
theorem dX11_init_42 : decode cX11_init 42 = .ok (.invokespecial 28, 3) := by decide +kernel
theorem dX11_init_45 : decode cX11_init 45 = .ok (.putfield 29, 3) := by decide +kernel
theorem dX11_init_48 : decode cX11_init 48 = .ok (.aload_n 0, 1) := by decide +kernel
theorem dX11_init_49 : decode cX11_init 49 = .ok (.new 33, 3) := by decide +kernel
theorem dX11_init_52 : decode cX11_init 52 = .ok (.dup, 1) := by decide +kernel
theorem dX11_init_53 : decode cX11_init 53 = .ok (.aload_n 0, 1) := by decide +kernel
theorem dX11_init_54 : decode cX11_init 54 = .ok (.getfield 19, 3) := by decide +kernel
theorem dX11_init_57 : decode cX11_init 57 = .ok (.aload_n 0, 1) := by decide +kernel
theorem dX11_init_58 : decode cX11_init 58 = .ok (.getfield 29, 3) := by decide +kernel
theorem dX11_init_61 : decode cX11_init 61 = .ok (.invokespecial 35, 3) := by decide +kernel
theorem dX11_init_64 : decode cX11_init 64 = .ok (.putfield 38, 3) := by decide +kernel
theorem dX11_init_67 : decode cX11_init 67 = .ok (.aload_n 0, 1) := by decide +kernel
theorem dX11_init_68 : decode cX11_init 68 = .ok (.new 42, 3) := by decide +kernel
theorem dX11_init_71 : decode cX11_init 71 = .ok (.dup, 1) := by decide +kernel
theorem dX11_init_72 : decode cX11_init 72 = .ok (.invokespecial 44, 3) := by decide +kernel
theorem dX11_init_75 : decode cX11_init 75 = .ok (.putfield 45, 3) := by decide +kernel
theorem dX11_init_78 : decode cX11_init 78 = .ok (.aload_n 0, 1) := by decide +kernel
theorem dX11_init_79 : decode cX11_init 79 = .ok (.new 49, 3) := by decide +kernel
theorem dX11_init_82 : decode cX11_init 82 = .ok (.dup, 1) := by decide +kernel
theorem dX11_init_83 : decode cX11_init 83 = .ok (.invokespecial 51, 3) := by decide +kernel
theorem dX11_init_86 : decode cX11_init 86 = .ok (.putfield 52, 3) := by decide +kernel
theorem dX11_init_89 : decode cX11_init 89 = .ok (.aload_n 0, 1) := by decide +kernel
theorem dX11_init_90 : decode cX11_init 90 = .ok (.new 56, 3) := by decide +kernel
theorem dX11_init_93 : decode cX11_init 93 = .ok (.dup, 1) := by decide +kernel
theorem dX11_init_94 : decode cX11_init 94 = .ok (.invokespecial 58, 3) := by decide +kernel
theorem dX11_init_97 : decode cX11_init 97 = .ok (.putfield 59, 3) := by decide +kernel
theorem dX11_init_100 : decode cX11_init 100 = .ok (.aload_n 0, 1) := by decide +kernel
theorem dX11_init_101 : decode cX11_init 101 = .ok (.new 63, 3) := by decide +kernel
theorem dX11_init_104 : decode cX11_init 104 = .ok (.dup, 1) := by decide +kernel
theorem dX11_init_105 : decode cX11_init 105 = .ok (.aload_n 0, 1) := by decide +kernel
theorem dX11_init_106 : decode cX11_init 106 = .ok (.getfield 19, 3) := by decide +kernel
theorem dX11_init_109 : decode cX11_init 109 = .ok (.aload_n 0, 1) := by decide +kernel
theorem dX11_init_110 : decode cX11_init 110 = .ok (.getfield 38, 3) := by decide +kernel
theorem dX11_init_113 : decode cX11_init 113 = .ok (.aload_n 0, 1) := by decide +kernel
theorem dX11_init_114 : decode cX11_init 114 = .ok (.getfield 45, 3) := by decide +kernel
theorem dX11_init_117 : decode cX11_init 117 = .ok (.invokespecial 65, 3) := by decide +kernel
theorem dX11_init_120 : decode cX11_init 120 = .ok (.putfield 68, 3) := by decide +kernel
theorem dX11_init_123 : decode cX11_init 123 = .ok (.aload_n 0, 1) := by decide +kernel
theorem dX11_init_124 : decode cX11_init 124 = .ok (.new 72, 3) := by decide +kernel
theorem dX11_init_127 : decode cX11_init 127 = .ok (.dup, 1) := by decide +kernel
theorem dX11_init_128 : decode cX11_init 128 = .ok (.aload_n 0, 1) := by decide +kernel
theorem dX11_init_129 : decode cX11_init 129 = .ok (.getfield 19, 3) := by decide +kernel
theorem dX11_init_132 : decode cX11_init 132 = .ok (.invokespecial 74, 3) := by decide +kernel
theorem dX11_init_135 : decode cX11_init 135 = .ok (.putfield 77, 3) := by decide +kernel
theorem dX11_init_138 : decode cX11_init 138 = .ok (.aload_n 0, 1) := by decide +kernel
theorem dX11_init_139 : decode cX11_init 139 = .ok (.new 81, 3) := by decide +kernel
theorem dX11_init_142 : decode cX11_init 142 = .ok (.dup, 1) := by decide +kernel
theorem dX11_init_143 : decode cX11_init 143 = .ok (.aload_n 0, 1) := by decide +kernel
theorem dX11_init_144 : decode cX11_init 144 = .ok (.getfield 19, 3) := by decide +kernel
theorem dX11_init_147 : decode cX11_init 147 = .ok (.invokespecial 83, 3) := by decide +kernel
theorem dX11_init_150 : decode cX11_init 150 = .ok (.putfield 84, 3) := by decide +kernel
theorem dX11_init_153 : decode cX11_init 153 = .ok (.aload_n 0, 1) := by decide +kernel
theorem dX11_init_154 : decode cX11_init 154 = .ok (.new 88, 3) := by decide +kernel
theorem dX11_init_157 : decode cX11_init 157 = .ok (.dup, 1) := by decide +kernel
theorem dX11_init_158 : decode cX11_init 158 = .ok (.aload_n 0, 1) := by decide +kernel
theorem dX11_init_159 : decode cX11_init 159 = .ok (.getfield 19, 3) := by decide +kernel
theorem dX11_init_162 : decode cX11_init 162 = .ok (.invokespecial 90, 3) := by decide +kernel
theorem dX11_init_165 : decode cX11_init 165 = .ok (.putfield 91, 3) := by decide +kernel
theorem dX11_init_168 : decode cX11_init 168 = .ok (.return_, 1) := by decide +kernel
theorem dX11_feed_0 : decode cX11_feed 0 = .ok (.aload_n 0, 1) := by decide +kernel
theorem dX11_feed_1 : decode cX11_feed 1 = .ok (.getfield 10, 3) := by decide +kernel
theorem dX11_feed_4 : decode cX11_feed 4 = .ok (.bipush 20, 2) := by decide +kernel
theorem dX11_feed_6 : decode cX11_feed 6 = .ok (.invokevirtual 95, 3) := by decide +kernel
theorem dX11_feed_9 : decode cX11_feed 9 = .ok (.ifCond .ne 5, 3) := by decide +kernel
theorem dX11_feed_12 : decode cX11_feed 12 = .ok (.iconst (-1), 1) := by decide +kernel
theorem dX11_feed_13 : decode cX11_feed 13 = .ok (.ireturn, 1) := by decide +kernel
theorem dX11_feed_14 : decode cX11_feed 14 = .ok (.aload_n 0, 1) := by decide +kernel
theorem dX11_feed_15 : decode cX11_feed 15 = .ok (.getfield 10, 3) := by decide +kernel
theorem dX11_feed_18 : decode cX11_feed 18 = .ok (.iload_n 1, 1) := by decide +kernel
theorem dX11_feed_19 : decode cX11_feed 19 = .ok (.invokevirtual 99, 3) := by decide +kernel
theorem dX11_feed_22 : decode cX11_feed 22 = .ok (.aload_n 0, 1) := by decide +kernel
theorem dX11_feed_23 : decode cX11_feed 23 = .ok (.getfield 10, 3) := by decide +kernel
theorem dX11_feed_26 : decode cX11_feed 26 = .ok (.iload_n 2, 1) := by decide +kernel
theorem dX11_feed_27 : decode cX11_feed 27 = .ok (.invokevirtual 99, 3) := by decide +kernel
theorem dX11_feed_30 : decode cX11_feed 30 = .ok (.aload_n 0, 1) := by decide +kernel
theorem dX11_feed_31 : decode cX11_feed 31 = .ok (.getfield 10, 3) := by decide +kernel
theorem dX11_feed_34 : decode cX11_feed 34 = .ok (.iload_n 3, 1) := by decide +kernel
theorem dX11_feed_35 : decode cX11_feed 35 = .ok (.invokevirtual 99, 3) := by decide +kernel
theorem dX11_feed_38 : decode cX11_feed 38 = .ok (.aload_n 0, 1) := by decide +kernel
theorem dX11_feed_39 : decode cX11_feed 39 = .ok (.getfield 10, 3) := by decide +kernel
theorem dX11_feed_42 : decode cX11_feed 42 = .ok (.iload 4, 2) := by decide +kernel
theorem dX11_feed_44 : decode cX11_feed 44 = .ok (.invokevirtual 99, 3) := by decide +kernel
theorem dX11_feed_47 : decode cX11_feed 47 = .ok (.aload_n 0, 1) := by decide +kernel
theorem dX11_feed_48 : decode cX11_feed 48 = .ok (.getfield 10, 3) := by decide +kernel
theorem dX11_feed_51 : decode cX11_feed 51 = .ok (.iload 5, 2) := by decide +kernel
theorem dX11_feed_53 : decode cX11_feed 53 = .ok (.invokevirtual 99, 3) := by decide +kernel
theorem dX11_feed_56 : decode cX11_feed 56 = .ok (.aload_n 0, 1) := by decide +kernel
theorem dX11_feed_57 : decode cX11_feed 57 = .ok (.getfield 10, 3) := by decide +kernel
theorem dX11_feed_60 : decode cX11_feed 60 = .ok (.invokevirtual 103, 3) := by decide +kernel
theorem dX11_feed_63 : decode cX11_feed 63 = .ok (.ireturn, 1) := by decide +kernel
theorem dX11_river_0 : decode cX11_river 0 = .ok (.aload_n 0, 1) := by decide +kernel
theorem dX11_river_1 : decode cX11_river 1 = .ok (.iload_n 1, 1) := by decide +kernel
theorem dX11_river_2 : decode cX11_river 2 = .ok (.sipush 600, 3) := by decide +kernel
theorem dX11_river_5 : decode cX11_river 5 = .ok (.invokevirtual 107, 3) := by decide +kernel
theorem dX11_river_8 : decode cX11_river 8 = .ok (.aload_n 0, 1) := by decide +kernel
theorem dX11_river_9 : decode cX11_river 9 = .ok (.getfield 23, 3) := by decide +kernel
theorem dX11_river_12 : decode cX11_river 12 = .ok (.aload_n 0, 1) := by decide +kernel
theorem dX11_river_13 : decode cX11_river 13 = .ok (.getfield 10, 3) := by decide +kernel
theorem dX11_river_16 : decode cX11_river 16 = .ok (.invokevirtual 111, 3) := by decide +kernel
theorem dX11_river_19 : decode cX11_river 19 = .ok (.aload_n 0, 1) := by decide +kernel
theorem dX11_river_20 : decode cX11_river 20 = .ok (.getfield 10, 3) := by decide +kernel
theorem dX11_river_23 : decode cX11_river 23 = .ok (.invokevirtual 115, 3) := by decide +kernel
theorem dX11_river_26 : decode cX11_river 26 = .ok (.ifCond .eq 11, 3) := by decide +kernel
theorem dX11_river_29 : decode cX11_river 29 = .ok (.aload_n 0, 1) := by decide +kernel
theorem dX11_river_30 : decode cX11_river 30 = .ok (.getfield 10, 3) := by decide +kernel
theorem dX11_river_33 : decode cX11_river 33 = .ok (.invokevirtual 119, 3) := by decide +kernel
theorem dX11_river_36 : decode cX11_river 36 = .ok (.ireturn, 1) := by decide +kernel
theorem dX11_river_37 : decode cX11_river 37 = .ok (.aload_n 0, 1) := by decide +kernel
theorem dX11_river_38 : decode cX11_river 38 = .ok (.getfield 19, 3) := by decide +kernel
theorem dX11_river_41 : decode cX11_river 41 = .ok (.aload_n 0, 1) := by decide +kernel
theorem dX11_river_42 : decode cX11_river 42 = .ok (.getfield 23, 3) := by decide +kernel
theorem dX11_river_45 : decode cX11_river 45 = .ok (.invokevirtual 122, 3) := by decide +kernel
theorem dX11_river_48 : decode cX11_river 48 = .ok (.aload_n 0, 1) := by decide +kernel
theorem dX11_river_49 : decode cX11_river 49 = .ok (.getfield 29, 3) := by decide +kernel
theorem dX11_river_52 : decode cX11_river 52 = .ok (.invokevirtual 125, 3) := by decide +kernel
theorem dX11_river_55 : decode cX11_river 55 = .ok (.aload_n 0, 1) := by decide +kernel
theorem dX11_river_56 : decode cX11_river 56 = .ok (.getfield 84, 3) := by decide +kernel
theorem dX11_river_59 : decode cX11_river 59 = .ok (.invokevirtual 128, 3) := by decide +kernel
theorem dX11_river_62 : decode cX11_river 62 = .ok (.aload_n 0, 1) := by decide +kernel
theorem dX11_river_63 : decode cX11_river 63 = .ok (.getfield 45, 3) := by decide +kernel
theorem dX11_river_66 : decode cX11_river 66 = .ok (.invokevirtual 131, 3) := by decide +kernel
theorem dX11_river_69 : decode cX11_river 69 = .ok (.aload_n 0, 1) := by decide +kernel
theorem dX11_river_70 : decode cX11_river 70 = .ok (.getfield 52, 3) := by decide +kernel
theorem dX11_river_73 : decode cX11_river 73 = .ok (.invokevirtual 134, 3) := by decide +kernel
theorem dX11_river_76 : decode cX11_river 76 = .ok (.aload_n 0, 1) := by decide +kernel
theorem dX11_river_77 : decode cX11_river 77 = .ok (.iconst 0, 1) := by decide +kernel
theorem dX11_river_78 : decode cX11_river 78 = .ok (.putfield 135, 3) := by decide +kernel
theorem dX11_river_81 : decode cX11_river 81 = .ok (.aload_n 0, 1) := by decide +kernel
theorem dX11_river_82 : decode cX11_river 82 = .ok (.getfield 68, 3) := by decide +kernel
theorem dX11_river_85 : decode cX11_river 85 = .ok (.invokevirtual 139, 3) := by decide +kernel
theorem dX11_river_88 : decode cX11_river 88 = .ok (.aload_n 0, 1) := by decide +kernel
theorem dX11_river_89 : decode cX11_river 89 = .ok (.getfield 19, 3) := by decide +kernel
theorem dX11_river_92 : decode cX11_river 92 = .ok (.getfield 142, 3) := by decide +kernel
theorem dX11_river_95 : decode cX11_river 95 = .ok (.ireturn, 1) := by decide +kernel
theorem dX11_law_0 : decode cX11_law 0 = .ok (.aload_n 0, 1) := by decide +kernel
theorem dX11_law_1 : decode cX11_law 1 = .ok (.iload_n 1, 1) := by decide +kernel
theorem dX11_law_2 : decode cX11_law 2 = .ok (.sipush 150, 3) := by decide +kernel
theorem dX11_law_5 : decode cX11_law 5 = .ok (.invokevirtual 107, 3) := by decide +kernel
theorem dX11_law_8 : decode cX11_law 8 = .ok (.aload_n 0, 1) := by decide +kernel
theorem dX11_law_9 : decode cX11_law 9 = .ok (.getfield 29, 3) := by decide +kernel
theorem dX11_law_12 : decode cX11_law 12 = .ok (.aload_n 0, 1) := by decide +kernel
theorem dX11_law_13 : decode cX11_law 13 = .ok (.getfield 10, 3) := by decide +kernel
theorem dX11_law_16 : decode cX11_law 16 = .ok (.invokevirtual 145, 3) := by decide +kernel
theorem dX11_law_19 : decode cX11_law 19 = .ok (.aload_n 0, 1) := by decide +kernel
theorem dX11_law_20 : decode cX11_law 20 = .ok (.getfield 10, 3) := by decide +kernel
theorem dX11_law_23 : decode cX11_law 23 = .ok (.invokevirtual 115, 3) := by decide +kernel
theorem dX11_law_26 : decode cX11_law 26 = .ok (.ifCond .eq 11, 3) := by decide +kernel
theorem dX11_law_29 : decode cX11_law 29 = .ok (.aload_n 0, 1) := by decide +kernel
theorem dX11_law_30 : decode cX11_law 30 = .ok (.getfield 10, 3) := by decide +kernel
theorem dX11_law_33 : decode cX11_law 33 = .ok (.invokevirtual 119, 3) := by decide +kernel
theorem dX11_law_36 : decode cX11_law 36 = .ok (.ireturn, 1) := by decide +kernel
theorem dX11_law_37 : decode cX11_law 37 = .ok (.aload_n 0, 1) := by decide +kernel
theorem dX11_law_38 : decode cX11_law 38 = .ok (.getfield 68, 3) := by decide +kernel
theorem dX11_law_41 : decode cX11_law 41 = .ok (.invokevirtual 139, 3) := by decide +kernel
theorem dX11_law_44 : decode cX11_law 44 = .ok (.iconst 1, 1) := by decide +kernel
theorem dX11_law_45 : decode cX11_law 45 = .ok (.ireturn, 1) := by decide +kernel
theorem dX11_work_0 : decode cX11_work 0 = .ok (.aload_n 0, 1) := by decide +kernel
theorem dX11_work_1 : decode cX11_work 1 = .ok (.iload_n 1, 1) := by decide +kernel
theorem dX11_work_2 : decode cX11_work 2 = .ok (.sipush 150, 3) := by decide +kernel
theorem dX11_work_5 : decode cX11_work 5 = .ok (.invokevirtual 107, 3) := by decide +kernel
theorem dX11_work_8 : decode cX11_work 8 = .ok (.aload_n 0, 1) := by decide +kernel
theorem dX11_work_9 : decode cX11_work 9 = .ok (.getfield 52, 3) := by decide +kernel
theorem dX11_work_12 : decode cX11_work 12 = .ok (.invokevirtual 146, 3) := by decide +kernel
theorem dX11_work_15 : decode cX11_work 15 = .ok (.ifCond .eq 6, 3) := by decide +kernel
theorem dX11_work_18 : decode cX11_work 18 = .ok (.bipush (-20), 2) := by decide +kernel
theorem dX11_work_20 : decode cX11_work 20 = .ok (.ireturn, 1) := by decide +kernel
theorem dX11_work_21 : decode cX11_work 21 = .ok (.aload_n 0, 1) := by decide +kernel
theorem dX11_work_22 : decode cX11_work 22 = .ok (.getfield 59, 3) := by decide +kernel
theorem dX11_work_25 : decode cX11_work 25 = .ok (.aload_n 0, 1) := by decide +kernel
theorem dX11_work_26 : decode cX11_work 26 = .ok (.getfield 10, 3) := by decide +kernel
theorem dX11_work_29 : decode cX11_work 29 = .ok (.aload_n 0, 1) := by decide +kernel
theorem dX11_work_30 : decode cX11_work 30 = .ok (.getfield 19, 3) := by decide +kernel
theorem dX11_work_33 : decode cX11_work 33 = .ok (.getfield 142, 3) := by decide +kernel
theorem dX11_work_36 : decode cX11_work 36 = .ok (.invokevirtual 149, 3) := by decide +kernel
theorem dX11_work_39 : decode cX11_work 39 = .ok (.aload_n 0, 1) := by decide +kernel
theorem dX11_work_40 : decode cX11_work 40 = .ok (.getfield 10, 3) := by decide +kernel
theorem dX11_work_43 : decode cX11_work 43 = .ok (.invokevirtual 115, 3) := by decide +kernel
theorem dX11_work_46 : decode cX11_work 46 = .ok (.ifCond .eq 11, 3) := by decide +kernel
theorem dX11_work_49 : decode cX11_work 49 = .ok (.aload_n 0, 1) := by decide +kernel
theorem dX11_work_50 : decode cX11_work 50 = .ok (.getfield 10, 3) := by decide +kernel
theorem dX11_work_53 : decode cX11_work 53 = .ok (.invokevirtual 119, 3) := by decide +kernel
theorem dX11_work_56 : decode cX11_work 56 = .ok (.ireturn, 1) := by decide +kernel
theorem dX11_work_57 : decode cX11_work 57 = .ok (.aload_n 0, 1) := by decide +kernel
theorem dX11_work_58 : decode cX11_work 58 = .ok (.getfield 52, 3) := by decide +kernel
theorem dX11_work_61 : decode cX11_work 61 = .ok (.aload_n 0, 1) := by decide +kernel
theorem dX11_work_62 : decode cX11_work 62 = .ok (.getfield 45, 3) := by decide +kernel
theorem dX11_work_65 : decode cX11_work 65 = .ok (.invokevirtual 152, 3) := by decide +kernel
theorem dX11_work_68 : decode cX11_work 68 = .ok (.aload_n 0, 1) := by decide +kernel
theorem dX11_work_69 : decode cX11_work 69 = .ok (.getfield 59, 3) := by decide +kernel
theorem dX11_work_72 : decode cX11_work 72 = .ok (.aload_n 0, 1) := by decide +kernel
theorem dX11_work_73 : decode cX11_work 73 = .ok (.getfield 45, 3) := by decide +kernel
theorem dX11_work_76 : decode cX11_work 76 = .ok (.aload_n 0, 1) := by decide +kernel
theorem dX11_work_77 : decode cX11_work 77 = .ok (.getfield 38, 3) := by decide +kernel
theorem dX11_work_80 : decode cX11_work 80 = .ok (.invokevirtual 156, 3) := by decide +kernel
theorem dX11_work_83 : decode cX11_work 83 = .ok (.istore_n 2, 1) := by decide +kernel
theorem dX11_work_84 : decode cX11_work 84 = .ok (.aload_n 0, 1) := by decide +kernel
theorem dX11_work_85 : decode cX11_work 85 = .ok (.aload_n 0, 1) := by decide +kernel
theorem dX11_work_86 : decode cX11_work 86 = .ok (.getfield 59, 3) := by decide +kernel
theorem dX11_work_89 : decode cX11_work 89 = .ok (.getfield 160, 3) := by decide +kernel
theorem dX11_work_92 : decode cX11_work 92 = .ok (.putfield 135, 3) := by decide +kernel
theorem dX11_work_95 : decode cX11_work 95 = .ok (.aload_n 0, 1) := by decide +kernel
theorem dX11_work_96 : decode cX11_work 96 = .ok (.getfield 68, 3) := by decide +kernel
theorem dX11_work_99 : decode cX11_work 99 = .ok (.invokevirtual 139, 3) := by decide +kernel
theorem dX11_work_102 : decode cX11_work 102 = .ok (.iload_n 2, 1) := by decide +kernel
theorem dX11_work_103 : decode cX11_work 103 = .ok (.ireturn, 1) := by decide +kernel
theorem dX11_book_0 : decode cX11_book 0 = .ok (.aload_n 0, 1) := by decide +kernel
theorem dX11_book_1 : decode cX11_book 1 = .ok (.iload_n 1, 1) := by decide +kernel
theorem dX11_book_2 : decode cX11_book 2 = .ok (.bipush 100, 2) := by decide +kernel
theorem dX11_book_4 : decode cX11_book 4 = .ok (.invokevirtual 107, 3) := by decide +kernel
theorem dX11_book_7 : decode cX11_book 7 = .ok (.aload_n 0, 1) := by decide +kernel
theorem dX11_book_8 : decode cX11_book 8 = .ok (.getfield 84, 3) := by decide +kernel
theorem dX11_book_11 : decode cX11_book 11 = .ok (.aload_n 0, 1) := by decide +kernel
theorem dX11_book_12 : decode cX11_book 12 = .ok (.getfield 10, 3) := by decide +kernel
theorem dX11_book_15 : decode cX11_book 15 = .ok (.invokevirtual 163, 3) := by decide +kernel
theorem dX11_book_18 : decode cX11_book 18 = .ok (.aload_n 0, 1) := by decide +kernel
theorem dX11_book_19 : decode cX11_book 19 = .ok (.getfield 10, 3) := by decide +kernel
theorem dX11_book_22 : decode cX11_book 22 = .ok (.invokevirtual 115, 3) := by decide +kernel
theorem dX11_book_25 : decode cX11_book 25 = .ok (.ifCond .eq 13, 3) := by decide +kernel
theorem dX11_book_28 : decode cX11_book 28 = .ok (.aload_n 0, 1) := by decide +kernel
theorem dX11_book_29 : decode cX11_book 29 = .ok (.getfield 10, 3) := by decide +kernel
theorem dX11_book_32 : decode cX11_book 32 = .ok (.invokevirtual 119, 3) := by decide +kernel
theorem dX11_book_35 : decode cX11_book 35 = .ok (.goto 10, 3) := by decide +kernel
theorem dX11_book_38 : decode cX11_book 38 = .ok (.aload_n 0, 1) := by decide +kernel
theorem dX11_book_39 : decode cX11_book 39 = .ok (.getfield 84, 3) := by decide +kernel
theorem dX11_book_42 : decode cX11_book 42 = .ok (.getfield 166, 3) := by decide +kernel
theorem dX11_book_45 : decode cX11_book 45 = .ok (.ireturn, 1) := by decide +kernel
theorem dX11_fault_0 : decode cX11_fault 0 = .ok (.aload_n 0, 1) := by decide +kernel
theorem dX11_fault_1 : decode cX11_fault 1 = .ok (.getfield 10, 3) := by decide +kernel
theorem dX11_fault_4 : decode cX11_fault 4 = .ok (.getfield 169, 3) := by decide +kernel
theorem dX11_fault_7 : decode cX11_fault 7 = .ok (.ireturn, 1) := by decide +kernel
theorem dX11_undo_0 : decode cX11_undo 0 = .ok (.aload_n 0, 1) := by decide +kernel
theorem dX11_undo_1 : decode cX11_undo 1 = .ok (.getfield 52, 3) := by decide +kernel
theorem dX11_undo_4 : decode cX11_undo 4 = .ok (.getfield 172, 3) := by decide +kernel
theorem dX11_undo_7 : decode cX11_undo 7 = .ok (.ifCond .ne 5, 3) := by decide +kernel
theorem dX11_undo_10 : decode cX11_undo 10 = .ok (.iconst (-1), 1) := by decide +kernel
theorem dX11_undo_11 : decode cX11_undo 11 = .ok (.ireturn, 1) := by decide +kernel
theorem dX11_undo_12 : decode cX11_undo 12 = .ok (.aload_n 0, 1) := by decide +kernel
theorem dX11_undo_13 : decode cX11_undo 13 = .ok (.getfield 52, 3) := by decide +kernel
theorem dX11_undo_16 : decode cX11_undo 16 = .ok (.aload_n 0, 1) := by decide +kernel
theorem dX11_undo_17 : decode cX11_undo 17 = .ok (.getfield 45, 3) := by decide +kernel
theorem dX11_undo_20 : decode cX11_undo 20 = .ok (.invokevirtual 175, 3) := by decide +kernel
theorem dX11_undo_23 : decode cX11_undo 23 = .ok (.aload_n 0, 1) := by decide +kernel
theorem dX11_undo_24 : decode cX11_undo 24 = .ok (.iconst 0, 1) := by decide +kernel
theorem dX11_undo_25 : decode cX11_undo 25 = .ok (.putfield 135, 3) := by decide +kernel
theorem dX11_undo_28 : decode cX11_undo 28 = .ok (.aload_n 0, 1) := by decide +kernel
theorem dX11_undo_29 : decode cX11_undo 29 = .ok (.getfield 68, 3) := by decide +kernel
theorem dX11_undo_32 : decode cX11_undo 32 = .ok (.invokevirtual 139, 3) := by decide +kernel
theorem dX11_undo_35 : decode cX11_undo 35 = .ok (.aload_n 0, 1) := by decide +kernel
theorem dX11_undo_36 : decode cX11_undo 36 = .ok (.getfield 52, 3) := by decide +kernel
theorem dX11_undo_39 : decode cX11_undo 39 = .ok (.getfield 172, 3) := by decide +kernel
theorem dX11_undo_42 : decode cX11_undo 42 = .ok (.ireturn, 1) := by decide +kernel
theorem dX11_told_0 : decode cX11_told 0 = .ok (.aload_n 0, 1) := by decide +kernel
theorem dX11_told_1 : decode cX11_told 1 = .ok (.iload_n 1, 1) := by decide +kernel
theorem dX11_told_2 : decode cX11_told 2 = .ok (.iconst 0, 1) := by decide +kernel
theorem dX11_told_3 : decode cX11_told 3 = .ok (.bipush 9, 2) := by decide +kernel
theorem dX11_told_5 : decode cX11_told 5 = .ok (.invokevirtual 178, 3) := by decide +kernel
theorem dX11_told_8 : decode cX11_told 8 = .ok (.iload_n 1, 1) := by decide +kernel
theorem dX11_told_9 : decode cX11_told 9 = .ok (.tableswitch 123 0 8 #[51, 59, 67, 75, 83, 91, 99, 107, 115], 51) := by decide +kernel
theorem dX11_told_60 : decode cX11_told 60 = .ok (.aload_n 0, 1) := by decide +kernel
theorem dX11_told_61 : decode cX11_told 61 = .ok (.getfield 19, 3) := by decide +kernel
theorem dX11_told_64 : decode cX11_told 64 = .ok (.getfield 142, 3) := by decide +kernel
theorem dX11_told_67 : decode cX11_told 67 = .ok (.ireturn, 1) := by decide +kernel
theorem dX11_told_68 : decode cX11_told 68 = .ok (.aload_n 0, 1) := by decide +kernel
theorem dX11_told_69 : decode cX11_told 69 = .ok (.getfield 19, 3) := by decide +kernel
theorem dX11_told_72 : decode cX11_told 72 = .ok (.getfield 182, 3) := by decide +kernel
theorem dX11_told_75 : decode cX11_told 75 = .ok (.ireturn, 1) := by decide +kernel
theorem dX11_told_76 : decode cX11_told 76 = .ok (.aload_n 0, 1) := by decide +kernel
theorem dX11_told_77 : decode cX11_told 77 = .ok (.getfield 19, 3) := by decide +kernel
theorem dX11_told_80 : decode cX11_told 80 = .ok (.getfield 185, 3) := by decide +kernel
theorem dX11_told_83 : decode cX11_told 83 = .ok (.ireturn, 1) := by decide +kernel
theorem dX11_told_84 : decode cX11_told 84 = .ok (.aload_n 0, 1) := by decide +kernel
theorem dX11_told_85 : decode cX11_told 85 = .ok (.getfield 45, 3) := by decide +kernel
theorem dX11_told_88 : decode cX11_told 88 = .ok (.invokevirtual 188, 3) := by decide +kernel
theorem dX11_told_91 : decode cX11_told 91 = .ok (.ireturn, 1) := by decide +kernel
theorem dX11_told_92 : decode cX11_told 92 = .ok (.aload_n 0, 1) := by decide +kernel
theorem dX11_told_93 : decode cX11_told 93 = .ok (.invokevirtual 191, 3) := by decide +kernel
theorem dX11_told_96 : decode cX11_told 96 = .ok (.invokestatic 194, 3) := by decide +kernel
theorem dX11_told_99 : decode cX11_told 99 = .ok (.ireturn, 1) := by decide +kernel
theorem dX11_told_100 : decode cX11_told 100 = .ok (.aload_n 0, 1) := by decide +kernel
theorem dX11_told_101 : decode cX11_told 101 = .ok (.getfield 45, 3) := by decide +kernel
theorem dX11_told_104 : decode cX11_told 104 = .ok (.invokevirtual 200, 3) := by decide +kernel
theorem dX11_told_107 : decode cX11_told 107 = .ok (.ireturn, 1) := by decide +kernel
theorem dX11_told_108 : decode cX11_told 108 = .ok (.aload_n 0, 1) := by decide +kernel
theorem dX11_told_109 : decode cX11_told 109 = .ok (.getfield 45, 3) := by decide +kernel
theorem dX11_told_112 : decode cX11_told 112 = .ok (.invokevirtual 203, 3) := by decide +kernel
theorem dX11_told_115 : decode cX11_told 115 = .ok (.ireturn, 1) := by decide +kernel
theorem dX11_told_116 : decode cX11_told 116 = .ok (.aload_n 0, 1) := by decide +kernel
theorem dX11_told_117 : decode cX11_told 117 = .ok (.getfield 45, 3) := by decide +kernel
theorem dX11_told_120 : decode cX11_told 120 = .ok (.invokevirtual 206, 3) := by decide +kernel
theorem dX11_told_123 : decode cX11_told 123 = .ok (.ireturn, 1) := by decide +kernel
theorem dX11_told_124 : decode cX11_told 124 = .ok (.aload_n 0, 1) := by decide +kernel
theorem dX11_told_125 : decode cX11_told 125 = .ok (.getfield 84, 3) := by decide +kernel
theorem dX11_told_128 : decode cX11_told 128 = .ok (.getfield 166, 3) := by decide +kernel
theorem dX11_told_131 : decode cX11_told 131 = .ok (.ireturn, 1) := by decide +kernel
theorem dX11_told_132 : decode cX11_told 132 = .ok (.aload_n 0, 1) := by decide +kernel
theorem dX11_told_133 : decode cX11_told 133 = .ok (.getfield 135, 3) := by decide +kernel
theorem dX11_told_136 : decode cX11_told 136 = .ok (.ireturn, 1) := by decide +kernel
theorem dX11_board_0 : decode cX11_board 0 = .ok (.aload_n 0, 1) := by decide +kernel
theorem dX11_board_1 : decode cX11_board 1 = .ok (.iload_n 1, 1) := by decide +kernel
theorem dX11_board_2 : decode cX11_board 2 = .ok (.invokevirtual 209, 3) := by decide +kernel
theorem dX11_board_5 : decode cX11_board 5 = .ok (.aload_n 0, 1) := by decide +kernel
theorem dX11_board_6 : decode cX11_board 6 = .ok (.iload_n 2, 1) := by decide +kernel
theorem dX11_board_7 : decode cX11_board 7 = .ok (.iconst 0, 1) := by decide +kernel
theorem dX11_board_8 : decode cX11_board 8 = .ok (.bipush 7, 2) := by decide +kernel
theorem dX11_board_10 : decode cX11_board 10 = .ok (.invokevirtual 178, 3) := by decide +kernel
theorem dX11_board_13 : decode cX11_board 13 = .ok (.iload_n 2, 1) := by decide +kernel
theorem dX11_board_14 : decode cX11_board 14 = .ok (.tableswitch 109 0 6 #[42, 52, 62, 72, 82, 91, 100], 42) := by decide +kernel
theorem dX11_board_56 : decode cX11_board 56 = .ok (.aload_n 0, 1) := by decide +kernel
theorem dX11_board_57 : decode cX11_board 57 = .ok (.getfield 19, 3) := by decide +kernel
theorem dX11_board_60 : decode cX11_board 60 = .ok (.getfield 212, 3) := by decide +kernel
theorem dX11_board_63 : decode cX11_board 63 = .ok (.iload_n 1, 1) := by decide +kernel
theorem dX11_board_64 : decode cX11_board 64 = .ok (.iaload, 1) := by decide +kernel
theorem dX11_board_65 : decode cX11_board 65 = .ok (.ireturn, 1) := by decide +kernel
theorem dX11_board_66 : decode cX11_board 66 = .ok (.aload_n 0, 1) := by decide +kernel
theorem dX11_board_67 : decode cX11_board 67 = .ok (.getfield 19, 3) := by decide +kernel
theorem dX11_board_70 : decode cX11_board 70 = .ok (.getfield 215, 3) := by decide +kernel
theorem dX11_board_73 : decode cX11_board 73 = .ok (.iload_n 1, 1) := by decide +kernel
theorem dX11_board_74 : decode cX11_board 74 = .ok (.iaload, 1) := by decide +kernel
theorem dX11_board_75 : decode cX11_board 75 = .ok (.ireturn, 1) := by decide +kernel
theorem dX11_board_76 : decode cX11_board 76 = .ok (.aload_n 0, 1) := by decide +kernel
theorem dX11_board_77 : decode cX11_board 77 = .ok (.getfield 19, 3) := by decide +kernel
theorem dX11_board_80 : decode cX11_board 80 = .ok (.getfield 218, 3) := by decide +kernel
theorem dX11_board_83 : decode cX11_board 83 = .ok (.iload_n 1, 1) := by decide +kernel
theorem dX11_board_84 : decode cX11_board 84 = .ok (.iaload, 1) := by decide +kernel
theorem dX11_board_85 : decode cX11_board 85 = .ok (.ireturn, 1) := by decide +kernel
theorem dX11_board_86 : decode cX11_board 86 = .ok (.aload_n 0, 1) := by decide +kernel
theorem dX11_board_87 : decode cX11_board 87 = .ok (.getfield 19, 3) := by decide +kernel
theorem dX11_board_90 : decode cX11_board 90 = .ok (.getfield 221, 3) := by decide +kernel
theorem dX11_board_93 : decode cX11_board 93 = .ok (.iload_n 1, 1) := by decide +kernel
theorem dX11_board_94 : decode cX11_board 94 = .ok (.iaload, 1) := by decide +kernel
theorem dX11_board_95 : decode cX11_board 95 = .ok (.ireturn, 1) := by decide +kernel
theorem dX11_board_96 : decode cX11_board 96 = .ok (.aload_n 0, 1) := by decide +kernel
theorem dX11_board_97 : decode cX11_board 97 = .ok (.getfield 45, 3) := by decide +kernel
theorem dX11_board_100 : decode cX11_board 100 = .ok (.iload_n 1, 1) := by decide +kernel
theorem dX11_board_101 : decode cX11_board 101 = .ok (.invokevirtual 224, 3) := by decide +kernel
theorem dX11_board_104 : decode cX11_board 104 = .ok (.ireturn, 1) := by decide +kernel
theorem dX11_board_105 : decode cX11_board 105 = .ok (.aload_n 0, 1) := by decide +kernel
theorem dX11_board_106 : decode cX11_board 106 = .ok (.invokevirtual 191, 3) := by decide +kernel
theorem dX11_board_109 : decode cX11_board 109 = .ok (.iload_n 1, 1) := by decide +kernel
theorem dX11_board_110 : decode cX11_board 110 = .ok (.ishr, 1) := by decide +kernel
theorem dX11_board_111 : decode cX11_board 111 = .ok (.iconst 1, 1) := by decide +kernel
theorem dX11_board_112 : decode cX11_board 112 = .ok (.iand, 1) := by decide +kernel
theorem dX11_board_113 : decode cX11_board 113 = .ok (.ireturn, 1) := by decide +kernel
theorem dX11_board_114 : decode cX11_board 114 = .ok (.aload_n 0, 1) := by decide +kernel
theorem dX11_board_115 : decode cX11_board 115 = .ok (.getfield 45, 3) := by decide +kernel
theorem dX11_board_118 : decode cX11_board 118 = .ok (.iload_n 1, 1) := by decide +kernel
theorem dX11_board_119 : decode cX11_board 119 = .ok (.invokevirtual 227, 3) := by decide +kernel
theorem dX11_board_122 : decode cX11_board 122 = .ok (.ireturn, 1) := by decide +kernel
theorem dX11_board_123 : decode cX11_board 123 = .ok (.aload_n 0, 1) := by decide +kernel
theorem dX11_board_124 : decode cX11_board 124 = .ok (.getfield 45, 3) := by decide +kernel
theorem dX11_board_127 : decode cX11_board 127 = .ok (.iload_n 1, 1) := by decide +kernel
theorem dX11_board_128 : decode cX11_board 128 = .ok (.invokevirtual 230, 3) := by decide +kernel
theorem dX11_board_131 : decode cX11_board 131 = .ok (.ireturn, 1) := by decide +kernel
theorem dX11_barge_0 : decode cX11_barge 0 = .ok (.aload_n 0, 1) := by decide +kernel
theorem dX11_barge_1 : decode cX11_barge 1 = .ok (.iload_n 1, 1) := by decide +kernel
theorem dX11_barge_2 : decode cX11_barge 2 = .ok (.aload_n 0, 1) := by decide +kernel
theorem dX11_barge_3 : decode cX11_barge 3 = .ok (.getfield 19, 3) := by decide +kernel
theorem dX11_barge_6 : decode cX11_barge 6 = .ok (.getfield 182, 3) := by decide +kernel
theorem dX11_barge_9 : decode cX11_barge 9 = .ok (.invokevirtual 233, 3) := by decide +kernel
theorem dX11_barge_12 : decode cX11_barge 12 = .ok (.aload_n 0, 1) := by decide +kernel
theorem dX11_barge_13 : decode cX11_barge 13 = .ok (.iload_n 2, 1) := by decide +kernel
theorem dX11_barge_14 : decode cX11_barge 14 = .ok (.iconst 0, 1) := by decide +kernel
theorem dX11_barge_15 : decode cX11_barge 15 = .ok (.iconst 4, 1) := by decide +kernel
theorem dX11_barge_16 : decode cX11_barge 16 = .ok (.invokevirtual 178, 3) := by decide +kernel
theorem dX11_barge_19 : decode cX11_barge 19 = .ok (.iload_n 2, 1) := by decide +kernel
theorem dX11_barge_20 : decode cX11_barge 20 = .ok (.tableswitch 70 0 3 #[32, 42, 52, 61], 32) := by decide +kernel
theorem dX11_barge_52 : decode cX11_barge 52 = .ok (.aload_n 0, 1) := by decide +kernel
theorem dX11_barge_53 : decode cX11_barge 53 = .ok (.getfield 19, 3) := by decide +kernel
theorem dX11_barge_56 : decode cX11_barge 56 = .ok (.getfield 236, 3) := by decide +kernel
theorem dX11_barge_59 : decode cX11_barge 59 = .ok (.iload_n 1, 1) := by decide +kernel
theorem dX11_barge_60 : decode cX11_barge 60 = .ok (.iaload, 1) := by decide +kernel
theorem dX11_barge_61 : decode cX11_barge 61 = .ok (.ireturn, 1) := by decide +kernel
theorem dX11_barge_62 : decode cX11_barge 62 = .ok (.aload_n 0, 1) := by decide +kernel
theorem dX11_barge_63 : decode cX11_barge 63 = .ok (.getfield 19, 3) := by decide +kernel
theorem dX11_barge_66 : decode cX11_barge 66 = .ok (.getfield 239, 3) := by decide +kernel
theorem dX11_barge_69 : decode cX11_barge 69 = .ok (.iload_n 1, 1) := by decide +kernel
theorem dX11_barge_70 : decode cX11_barge 70 = .ok (.iaload, 1) := by decide +kernel
theorem dX11_barge_71 : decode cX11_barge 71 = .ok (.ireturn, 1) := by decide +kernel
theorem dX11_barge_72 : decode cX11_barge 72 = .ok (.aload_n 0, 1) := by decide +kernel
theorem dX11_barge_73 : decode cX11_barge 73 = .ok (.getfield 45, 3) := by decide +kernel
theorem dX11_barge_76 : decode cX11_barge 76 = .ok (.iload_n 1, 1) := by decide +kernel
theorem dX11_barge_77 : decode cX11_barge 77 = .ok (.invokevirtual 242, 3) := by decide +kernel
theorem dX11_barge_80 : decode cX11_barge 80 = .ok (.ireturn, 1) := by decide +kernel
theorem dX11_barge_81 : decode cX11_barge 81 = .ok (.aload_n 0, 1) := by decide +kernel
theorem dX11_barge_82 : decode cX11_barge 82 = .ok (.getfield 45, 3) := by decide +kernel
theorem dX11_barge_85 : decode cX11_barge 85 = .ok (.iload_n 1, 1) := by decide +kernel
theorem dX11_barge_86 : decode cX11_barge 86 = .ok (.invokevirtual 245, 3) := by decide +kernel
theorem dX11_barge_89 : decode cX11_barge 89 = .ok (.ireturn, 1) := by decide +kernel
theorem dX11_barge_90 : decode cX11_barge 90 = .ok (.aload_n 0, 1) := by decide +kernel
theorem dX11_barge_91 : decode cX11_barge 91 = .ok (.getfield 45, 3) := by decide +kernel
theorem dX11_barge_94 : decode cX11_barge 94 = .ok (.iload_n 1, 1) := by decide +kernel
theorem dX11_barge_95 : decode cX11_barge 95 = .ok (.invokevirtual 245, 3) := by decide +kernel
theorem dX11_barge_98 : decode cX11_barge 98 = .ok (.iconst 2, 1) := by decide +kernel
theorem dX11_barge_99 : decode cX11_barge 99 = .ok (.if_icmp .ne 14, 3) := by decide +kernel
theorem dX11_barge_102 : decode cX11_barge 102 = .ok (.aload_n 0, 1) := by decide +kernel
theorem dX11_barge_103 : decode cX11_barge 103 = .ok (.getfield 45, 3) := by decide +kernel
theorem dX11_barge_106 : decode cX11_barge 106 = .ok (.iload_n 1, 1) := by decide +kernel
theorem dX11_barge_107 : decode cX11_barge 107 = .ok (.invokevirtual 248, 3) := by decide +kernel
theorem dX11_barge_110 : decode cX11_barge 110 = .ok (.goto 4, 3) := by decide +kernel
theorem dX11_barge_113 : decode cX11_barge 113 = .ok (.iconst (-1), 1) := by decide +kernel
theorem dX11_barge_114 : decode cX11_barge 114 = .ok (.ireturn, 1) := by decide +kernel
theorem dX11_street_0 : decode cX11_street 0 = .ok (.aload_n 0, 1) := by decide +kernel
theorem dX11_street_1 : decode cX11_street 1 = .ok (.iload_n 1, 1) := by decide +kernel
theorem dX11_street_2 : decode cX11_street 2 = .ok (.aload_n 0, 1) := by decide +kernel
theorem dX11_street_3 : decode cX11_street 3 = .ok (.getfield 19, 3) := by decide +kernel
theorem dX11_street_6 : decode cX11_street 6 = .ok (.getfield 185, 3) := by decide +kernel
theorem dX11_street_9 : decode cX11_street 9 = .ok (.invokevirtual 233, 3) := by decide +kernel
theorem dX11_street_12 : decode cX11_street 12 = .ok (.aload_n 0, 1) := by decide +kernel
theorem dX11_street_13 : decode cX11_street 13 = .ok (.iload_n 2, 1) := by decide +kernel
theorem dX11_street_14 : decode cX11_street 14 = .ok (.iconst 0, 1) := by decide +kernel
theorem dX11_street_15 : decode cX11_street 15 = .ok (.iconst 3, 1) := by decide +kernel
theorem dX11_street_16 : decode cX11_street 16 = .ok (.invokevirtual 178, 3) := by decide +kernel
theorem dX11_street_19 : decode cX11_street 19 = .ok (.iload_n 2, 1) := by decide +kernel
theorem dX11_street_20 : decode cX11_street 20 = .ok (.tableswitch 58 0 2 #[28, 38, 48], 28) := by decide +kernel
theorem dX11_street_48 : decode cX11_street 48 = .ok (.aload_n 0, 1) := by decide +kernel
theorem dX11_street_49 : decode cX11_street 49 = .ok (.getfield 19, 3) := by decide +kernel
theorem dX11_street_52 : decode cX11_street 52 = .ok (.getfield 251, 3) := by decide +kernel
theorem dX11_street_55 : decode cX11_street 55 = .ok (.iload_n 1, 1) := by decide +kernel
theorem dX11_street_56 : decode cX11_street 56 = .ok (.iaload, 1) := by decide +kernel
theorem dX11_street_57 : decode cX11_street 57 = .ok (.ireturn, 1) := by decide +kernel
theorem dX11_street_58 : decode cX11_street 58 = .ok (.aload_n 0, 1) := by decide +kernel
theorem dX11_street_59 : decode cX11_street 59 = .ok (.getfield 19, 3) := by decide +kernel
theorem dX11_street_62 : decode cX11_street 62 = .ok (.getfield 254, 3) := by decide +kernel
theorem dX11_street_65 : decode cX11_street 65 = .ok (.iload_n 1, 1) := by decide +kernel
theorem dX11_street_66 : decode cX11_street 66 = .ok (.iaload, 1) := by decide +kernel
theorem dX11_street_67 : decode cX11_street 67 = .ok (.ireturn, 1) := by decide +kernel
theorem dX11_street_68 : decode cX11_street 68 = .ok (.aload_n 0, 1) := by decide +kernel
theorem dX11_street_69 : decode cX11_street 69 = .ok (.getfield 19, 3) := by decide +kernel
theorem dX11_street_72 : decode cX11_street 72 = .ok (.getfield 257, 3) := by decide +kernel
theorem dX11_street_75 : decode cX11_street 75 = .ok (.iload_n 1, 1) := by decide +kernel
theorem dX11_street_76 : decode cX11_street 76 = .ok (.iaload, 1) := by decide +kernel
theorem dX11_street_77 : decode cX11_street 77 = .ok (.ireturn, 1) := by decide +kernel
theorem dX11_street_78 : decode cX11_street 78 = .ok (.aload_n 0, 1) := by decide +kernel
theorem dX11_street_79 : decode cX11_street 79 = .ok (.getfield 19, 3) := by decide +kernel
theorem dX11_street_82 : decode cX11_street 82 = .ok (.iload_n 1, 1) := by decide +kernel
theorem dX11_street_83 : decode cX11_street 83 = .ok (.aload_n 0, 1) := by decide +kernel
theorem dX11_street_84 : decode cX11_street 84 = .ok (.invokevirtual 191, 3) := by decide +kernel
theorem dX11_street_87 : decode cX11_street 87 = .ok (.invokevirtual 260, 3) := by decide +kernel
theorem dX11_street_90 : decode cX11_street 90 = .ok (.ifCond .eq 7, 3) := by decide +kernel
theorem dX11_street_93 : decode cX11_street 93 = .ok (.iconst 1, 1) := by decide +kernel
theorem dX11_street_94 : decode cX11_street 94 = .ok (.goto 4, 3) := by decide +kernel
theorem dX11_street_97 : decode cX11_street 97 = .ok (.iconst 0, 1) := by decide +kernel
theorem dX11_street_98 : decode cX11_street 98 = .ok (.ireturn, 1) := by decide +kernel
theorem dX11_lawful_0 : decode cX11_lawful 0 = .ok (.aload_n 0, 1) := by decide +kernel
theorem dX11_lawful_1 : decode cX11_lawful 1 = .ok (.iload_n 1, 1) := by decide +kernel
theorem dX11_lawful_2 : decode cX11_lawful 2 = .ok (.invokevirtual 209, 3) := by decide +kernel
theorem dX11_lawful_5 : decode cX11_lawful 5 = .ok (.aload_n 0, 1) := by decide +kernel
theorem dX11_lawful_6 : decode cX11_lawful 6 = .ok (.iload_n 2, 1) := by decide +kernel
theorem dX11_lawful_7 : decode cX11_lawful 7 = .ok (.iconst 0, 1) := by decide +kernel
theorem dX11_lawful_8 : decode cX11_lawful 8 = .ok (.bipush 23, 2) := by decide +kernel
theorem dX11_lawful_10 : decode cX11_lawful 10 = .ok (.invokevirtual 178, 3) := by decide +kernel
theorem dX11_lawful_13 : decode cX11_lawful 13 = .ok (.aload_n 0, 1) := by decide +kernel
theorem dX11_lawful_14 : decode cX11_lawful 14 = .ok (.iload_n 3, 1) := by decide +kernel
theorem dX11_lawful_15 : decode cX11_lawful 15 = .ok (.iconst 0, 1) := by decide +kernel
theorem dX11_lawful_16 : decode cX11_lawful 16 = .ok (.bipush 99, 2) := by decide +kernel
theorem dX11_lawful_18 : decode cX11_lawful 18 = .ok (.invokevirtual 178, 3) := by decide +kernel
theorem dX11_lawful_21 : decode cX11_lawful 21 = .ok (.aload_n 0, 1) := by decide +kernel
theorem dX11_lawful_22 : decode cX11_lawful 22 = .ok (.getfield 38, 3) := by decide +kernel
theorem dX11_lawful_25 : decode cX11_lawful 25 = .ok (.iload_n 1, 1) := by decide +kernel
theorem dX11_lawful_26 : decode cX11_lawful 26 = .ok (.iload_n 2, 1) := by decide +kernel
theorem dX11_lawful_27 : decode cX11_lawful 27 = .ok (.iload_n 3, 1) := by decide +kernel
theorem dX11_lawful_28 : decode cX11_lawful 28 = .ok (.bipush 24, 2) := by decide +kernel
theorem dX11_lawful_30 : decode cX11_lawful 30 = .ok (.imul, 1) := by decide +kernel
theorem dX11_lawful_31 : decode cX11_lawful 31 = .ok (.iadd, 1) := by decide +kernel
theorem dX11_lawful_32 : decode cX11_lawful 32 = .ok (.aload_n 0, 1) := by decide +kernel
theorem dX11_lawful_33 : decode cX11_lawful 33 = .ok (.getfield 45, 3) := by decide +kernel
theorem dX11_lawful_36 : decode cX11_lawful 36 = .ok (.iload_n 1, 1) := by decide +kernel
theorem dX11_lawful_37 : decode cX11_lawful 37 = .ok (.invokevirtual 227, 3) := by decide +kernel
theorem dX11_lawful_40 : decode cX11_lawful 40 = .ok (.invokevirtual 264, 3) := by decide +kernel
theorem dX11_lawful_43 : decode cX11_lawful 43 = .ok (.ireturn, 1) := by decide +kernel
theorem dX11_busiest_0 : decode cX11_busiest 0 = .ok (.aload_n 0, 1) := by decide +kernel
theorem dX11_busiest_1 : decode cX11_busiest 1 = .ok (.getfield 45, 3) := by decide +kernel
theorem dX11_busiest_4 : decode cX11_busiest 4 = .ok (.invokevirtual 188, 3) := by decide +kernel
theorem dX11_busiest_7 : decode cX11_busiest 7 = .ok (.aload_n 0, 1) := by decide +kernel
theorem dX11_busiest_8 : decode cX11_busiest 8 = .ok (.getfield 45, 3) := by decide +kernel
theorem dX11_busiest_11 : decode cX11_busiest 11 = .ok (.invokevirtual 188, 3) := by decide +kernel
theorem dX11_busiest_14 : decode cX11_busiest 14 = .ok (.bipush 24, 2) := by decide +kernel
theorem dX11_busiest_16 : decode cX11_busiest 16 = .ok (.irem, 1) := by decide +kernel
theorem dX11_busiest_17 : decode cX11_busiest 17 = .ok (.isub, 1) := by decide +kernel
theorem dX11_busiest_18 : decode cX11_busiest 18 = .ok (.istore_n 1, 1) := by decide +kernel
theorem dX11_busiest_19 : decode cX11_busiest 19 = .ok (.iconst 0, 1) := by decide +kernel
theorem dX11_busiest_20 : decode cX11_busiest 20 = .ok (.istore_n 2, 1) := by decide +kernel
theorem dX11_busiest_21 : decode cX11_busiest 21 = .ok (.iconst (-1), 1) := by decide +kernel
theorem dX11_busiest_22 : decode cX11_busiest 22 = .ok (.istore_n 3, 1) := by decide +kernel
theorem dX11_busiest_23 : decode cX11_busiest 23 = .ok (.iconst 0, 1) := by decide +kernel
theorem dX11_busiest_24 : decode cX11_busiest 24 = .ok (.istore 4, 2) := by decide +kernel
theorem dX11_busiest_26 : decode cX11_busiest 26 = .ok (.iload 4, 2) := by decide +kernel
theorem dX11_busiest_28 : decode cX11_busiest 28 = .ok (.bipush 24, 2) := by decide +kernel
theorem dX11_busiest_30 : decode cX11_busiest 30 = .ok (.if_icmp .ge 41, 3) := by decide +kernel
theorem dX11_busiest_33 : decode cX11_busiest 33 = .ok (.aload_n 0, 1) := by decide +kernel
theorem dX11_busiest_34 : decode cX11_busiest 34 = .ok (.getfield 38, 3) := by decide +kernel
theorem dX11_busiest_37 : decode cX11_busiest 37 = .ok (.aload_n 0, 1) := by decide +kernel
theorem dX11_busiest_38 : decode cX11_busiest 38 = .ok (.getfield 45, 3) := by decide +kernel
theorem dX11_busiest_41 : decode cX11_busiest 41 = .ok (.iload_n 1, 1) := by decide +kernel
theorem dX11_busiest_42 : decode cX11_busiest 42 = .ok (.iload 4, 2) := by decide +kernel
theorem dX11_busiest_44 : decode cX11_busiest 44 = .ok (.iadd, 1) := by decide +kernel
theorem dX11_busiest_45 : decode cX11_busiest 45 = .ok (.invokevirtual 268, 3) := by decide +kernel
theorem dX11_busiest_48 : decode cX11_busiest 48 = .ok (.invokestatic 194, 3) := by decide +kernel
theorem dX11_busiest_51 : decode cX11_busiest 51 = .ok (.istore 5, 2) := by decide +kernel
theorem dX11_busiest_53 : decode cX11_busiest 53 = .ok (.iload 5, 2) := by decide +kernel
theorem dX11_busiest_55 : decode cX11_busiest 55 = .ok (.iload_n 3, 1) := by decide +kernel
theorem dX11_busiest_56 : decode cX11_busiest 56 = .ok (.if_icmp .le 9, 3) := by decide +kernel
theorem dX11_busiest_59 : decode cX11_busiest 59 = .ok (.iload 5, 2) := by decide +kernel
theorem dX11_busiest_61 : decode cX11_busiest 61 = .ok (.istore_n 3, 1) := by decide +kernel
theorem dX11_busiest_62 : decode cX11_busiest 62 = .ok (.iload 4, 2) := by decide +kernel
theorem dX11_busiest_64 : decode cX11_busiest 64 = .ok (.istore_n 2, 1) := by decide +kernel
theorem dX11_busiest_65 : decode cX11_busiest 65 = .ok (.iinc 4 1, 3) := by decide +kernel
theorem dX11_busiest_68 : decode cX11_busiest 68 = .ok (.goto (-42), 3) := by decide +kernel
theorem dX11_busiest_71 : decode cX11_busiest 71 = .ok (.iload_n 2, 1) := by decide +kernel
theorem dX11_busiest_72 : decode cX11_busiest 72 = .ok (.ireturn, 1) := by decide +kernel
theorem dX11_narrow_0 : decode cX11_narrow 0 = .ok (.aload_n 0, 1) := by decide +kernel
theorem dX11_narrow_1 : decode cX11_narrow 1 = .ok (.iload_n 1, 1) := by decide +kernel
theorem dX11_narrow_2 : decode cX11_narrow 2 = .ok (.invokevirtual 272, 3) := by decide +kernel
theorem dX11_narrow_5 : decode cX11_narrow 5 = .ok (.aload_n 0, 1) := by decide +kernel
theorem dX11_narrow_6 : decode cX11_narrow 6 = .ok (.iload_n 2, 1) := by decide +kernel
theorem dX11_narrow_7 : decode cX11_narrow 7 = .ok (.iconst 0, 1) := by decide +kernel
theorem dX11_narrow_8 : decode cX11_narrow 8 = .ok (.iconst 2, 1) := by decide +kernel
theorem dX11_narrow_9 : decode cX11_narrow 9 = .ok (.invokevirtual 178, 3) := by decide +kernel
theorem dX11_narrow_12 : decode cX11_narrow 12 = .ok (.iconst 0, 1) := by decide +kernel
theorem dX11_narrow_13 : decode cX11_narrow 13 = .ok (.istore_n 3, 1) := by decide +kernel
theorem dX11_narrow_14 : decode cX11_narrow 14 = .ok (.iconst (-1), 1) := by decide +kernel
theorem dX11_narrow_15 : decode cX11_narrow 15 = .ok (.istore 4, 2) := by decide +kernel
theorem dX11_narrow_17 : decode cX11_narrow 17 = .ok (.iconst 0, 1) := by decide +kernel
theorem dX11_narrow_18 : decode cX11_narrow 18 = .ok (.istore 5, 2) := by decide +kernel
theorem dX11_narrow_20 : decode cX11_narrow 20 = .ok (.iconst 0, 1) := by decide +kernel
theorem dX11_narrow_21 : decode cX11_narrow 21 = .ok (.istore 6, 2) := by decide +kernel
theorem dX11_narrow_23 : decode cX11_narrow 23 = .ok (.iload 6, 2) := by decide +kernel
theorem dX11_narrow_25 : decode cX11_narrow 25 = .ok (.aload_n 0, 1) := by decide +kernel
theorem dX11_narrow_26 : decode cX11_narrow 26 = .ok (.getfield 19, 3) := by decide +kernel
theorem dX11_narrow_29 : decode cX11_narrow 29 = .ok (.getfield 142, 3) := by decide +kernel
theorem dX11_narrow_32 : decode cX11_narrow 32 = .ok (.if_icmp .ge 51, 3) := by decide +kernel
theorem dX11_narrow_35 : decode cX11_narrow 35 = .ok (.iload_n 1, 1) := by decide +kernel
theorem dX11_narrow_36 : decode cX11_narrow 36 = .ok (.aload_n 0, 1) := by decide +kernel
theorem dX11_narrow_37 : decode cX11_narrow 37 = .ok (.getfield 19, 3) := by decide +kernel
theorem dX11_narrow_40 : decode cX11_narrow 40 = .ok (.getfield 212, 3) := by decide +kernel
theorem dX11_narrow_43 : decode cX11_narrow 43 = .ok (.iload 6, 2) := by decide +kernel
theorem dX11_narrow_45 : decode cX11_narrow 45 = .ok (.iaload, 1) := by decide +kernel
theorem dX11_narrow_46 : decode cX11_narrow 46 = .ok (.if_icmp .gt 10, 3) := by decide +kernel
theorem dX11_narrow_49 : decode cX11_narrow 49 = .ok (.iload 5, 2) := by decide +kernel
theorem dX11_narrow_51 : decode cX11_narrow 51 = .ok (.iconst 1, 1) := by decide +kernel
theorem dX11_narrow_52 : decode cX11_narrow 52 = .ok (.iadd, 1) := by decide +kernel
theorem dX11_narrow_53 : decode cX11_narrow 53 = .ok (.goto 4, 3) := by decide +kernel
theorem dX11_narrow_56 : decode cX11_narrow 56 = .ok (.iconst 0, 1) := by decide +kernel
theorem dX11_narrow_57 : decode cX11_narrow 57 = .ok (.istore 5, 2) := by decide +kernel
theorem dX11_narrow_59 : decode cX11_narrow 59 = .ok (.iload 5, 2) := by decide +kernel
theorem dX11_narrow_61 : decode cX11_narrow 61 = .ok (.iload_n 3, 1) := by decide +kernel
theorem dX11_narrow_62 : decode cX11_narrow 62 = .ok (.if_icmp .le 15, 3) := by decide +kernel
theorem dX11_narrow_65 : decode cX11_narrow 65 = .ok (.iload 5, 2) := by decide +kernel
theorem dX11_narrow_67 : decode cX11_narrow 67 = .ok (.istore_n 3, 1) := by decide +kernel
theorem dX11_narrow_68 : decode cX11_narrow 68 = .ok (.iload 6, 2) := by decide +kernel
theorem dX11_narrow_70 : decode cX11_narrow 70 = .ok (.iload 5, 2) := by decide +kernel
theorem dX11_narrow_72 : decode cX11_narrow 72 = .ok (.isub, 1) := by decide +kernel
theorem dX11_narrow_73 : decode cX11_narrow 73 = .ok (.iconst 1, 1) := by decide +kernel
theorem dX11_narrow_74 : decode cX11_narrow 74 = .ok (.iadd, 1) := by decide +kernel
theorem dX11_narrow_75 : decode cX11_narrow 75 = .ok (.istore 4, 2) := by decide +kernel
theorem dX11_narrow_77 : decode cX11_narrow 77 = .ok (.iinc 6 1, 3) := by decide +kernel
theorem dX11_narrow_80 : decode cX11_narrow 80 = .ok (.goto (-57), 3) := by decide +kernel
theorem dX11_narrow_83 : decode cX11_narrow 83 = .ok (.iload_n 2, 1) := by decide +kernel
theorem dX11_narrow_84 : decode cX11_narrow 84 = .ok (.ifCond .ne 12, 3) := by decide +kernel
theorem dX11_narrow_87 : decode cX11_narrow 87 = .ok (.aload_n 0, 1) := by decide +kernel
theorem dX11_narrow_88 : decode cX11_narrow 88 = .ok (.getfield 19, 3) := by decide +kernel
theorem dX11_narrow_91 : decode cX11_narrow 91 = .ok (.iload_n 1, 1) := by decide +kernel
theorem dX11_narrow_92 : decode cX11_narrow 92 = .ok (.invokevirtual 275, 3) := by decide +kernel
theorem dX11_narrow_95 : decode cX11_narrow 95 = .ok (.ireturn, 1) := by decide +kernel
theorem dX11_narrow_96 : decode cX11_narrow 96 = .ok (.iload_n 2, 1) := by decide +kernel
theorem dX11_narrow_97 : decode cX11_narrow 97 = .ok (.iconst 1, 1) := by decide +kernel
theorem dX11_narrow_98 : decode cX11_narrow 98 = .ok (.if_icmp .ne 7, 3) := by decide +kernel
theorem dX11_narrow_101 : decode cX11_narrow 101 = .ok (.iload_n 3, 1) := by decide +kernel
theorem dX11_narrow_102 : decode cX11_narrow 102 = .ok (.goto 5, 3) := by decide +kernel
theorem dX11_narrow_105 : decode cX11_narrow 105 = .ok (.iload 4, 2) := by decide +kernel
theorem dX11_narrow_107 : decode cX11_narrow 107 = .ok (.ireturn, 1) := by decide +kernel
theorem dX11_worst_0 : decode cX11_worst 0 = .ok (.aload_n 0, 1) := by decide +kernel
theorem dX11_worst_1 : decode cX11_worst 1 = .ok (.iload_n 1, 1) := by decide +kernel
theorem dX11_worst_2 : decode cX11_worst 2 = .ok (.iconst 0, 1) := by decide +kernel
theorem dX11_worst_3 : decode cX11_worst 3 = .ok (.iconst 1, 1) := by decide +kernel
theorem dX11_worst_4 : decode cX11_worst 4 = .ok (.invokevirtual 178, 3) := by decide +kernel
theorem dX11_worst_7 : decode cX11_worst 7 = .ok (.iconst (-1), 1) := by decide +kernel
theorem dX11_worst_8 : decode cX11_worst 8 = .ok (.istore_n 2, 1) := by decide +kernel
theorem dX11_worst_9 : decode cX11_worst 9 = .ok (.iconst 0, 1) := by decide +kernel
theorem dX11_worst_10 : decode cX11_worst 10 = .ok (.istore_n 3, 1) := by decide +kernel
theorem dX11_worst_11 : decode cX11_worst 11 = .ok (.iconst 0, 1) := by decide +kernel
theorem dX11_worst_12 : decode cX11_worst 12 = .ok (.istore 4, 2) := by decide +kernel
