theorem dX0_init_0 : decode cX0_init 0 = .ok (.aload_n 0, 1) := by decide +kernel
theorem dX0_init_1 : decode cX0_init 1 = .ok (.invokespecial 3, 3) := by decide +kernel
theorem dX0_init_4 : decode cX0_init 4 = .ok (.aload_n 0, 1) := by decide +kernel
theorem dX0_init_5 : decode cX0_init 5 = .ok (.bipush 16, 2) := by decide +kernel
theorem dX0_init_7 : decode cX0_init 7 = .ok (.newarray .int, 2) := by decide +kernel
theorem dX0_init_9 : decode cX0_init 9 = .ok (.putfield 9, 3) := by decide +kernel
theorem dX0_init_12 : decode cX0_init 12 = .ok (.aload_n 0, 1) := by decide +kernel
theorem dX0_init_13 : decode cX0_init 13 = .ok (.bipush 16, 2) := by decide +kernel
theorem dX0_init_15 : decode cX0_init 15 = .ok (.newarray .int, 2) := by decide +kernel
theorem dX0_init_17 : decode cX0_init 17 = .ok (.putfield 15, 3) := by decide +kernel
theorem dX0_init_20 : decode cX0_init 20 = .ok (.aload_n 0, 1) := by decide +kernel
theorem dX0_init_21 : decode cX0_init 21 = .ok (.aload_n 1, 1) := by decide +kernel
theorem dX0_init_22 : decode cX0_init 22 = .ok (.putfield 18, 3) := by decide +kernel
theorem dX0_init_25 : decode cX0_init 25 = .ok (.return_, 1) := by decide +kernel
theorem dX0_settle_0 : decode cX0_settle 0 = .ok (.aload_n 0, 1) := by decide +kernel
theorem dX0_settle_1 : decode cX0_settle 1 = .ok (.iconst 0, 1) := by decide +kernel
theorem dX0_settle_2 : decode cX0_settle 2 = .ok (.putfield 22, 3) := by decide +kernel
theorem dX0_settle_5 : decode cX0_settle 5 = .ok (.aload_n 0, 1) := by decide +kernel
theorem dX0_settle_6 : decode cX0_settle 6 = .ok (.iconst 0, 1) := by decide +kernel
theorem dX0_settle_7 : decode cX0_settle 7 = .ok (.iload_n 1, 1) := by decide +kernel
theorem dX0_settle_8 : decode cX0_settle 8 = .ok (.invokevirtual 26, 3) := by decide +kernel
theorem dX0_settle_11 : decode cX0_settle 11 = .ok (.return_, 1) := by decide +kernel
theorem dX0_place_0 : decode cX0_place 0 = .ok (.iload_n 1, 1) := by decide +kernel
theorem dX0_place_1 : decode cX0_place 1 = .ok (.aload_n 0, 1) := by decide +kernel
theorem dX0_place_2 : decode cX0_place 2 = .ok (.getfield 18, 3) := by decide +kernel
theorem dX0_place_5 : decode cX0_place 5 = .ok (.getfield 30, 3) := by decide +kernel
theorem dX0_place_8 : decode cX0_place 8 = .ok (.if_icmp .ne 29, 3) := by decide +kernel
theorem dX0_place_11 : decode cX0_place 11 = .ok (.iload_n 2, 1) := by decide +kernel
theorem dX0_place_12 : decode cX0_place 12 = .ok (.ifCond .ne 24, 3) := by decide +kernel
theorem dX0_place_15 : decode cX0_place 15 = .ok (.aload_n 0, 1) := by decide +kernel
theorem dX0_place_16 : decode cX0_place 16 = .ok (.invokevirtual 35, 3) := by decide +kernel
theorem dX0_place_19 : decode cX0_place 19 = .ok (.ifCond .eq 17, 3) := by decide +kernel
theorem dX0_place_22 : decode cX0_place 22 = .ok (.aload_n 0, 1) := by decide +kernel
theorem dX0_place_23 : decode cX0_place 23 = .ok (.invokevirtual 39, 3) := by decide +kernel
theorem dX0_place_26 : decode cX0_place 26 = .ok (.aload_n 0, 1) := by decide +kernel
theorem dX0_place_27 : decode cX0_place 27 = .ok (.dup, 1) := by decide +kernel
theorem dX0_place_28 : decode cX0_place 28 = .ok (.getfield 22, 3) := by decide +kernel
theorem dX0_place_31 : decode cX0_place 31 = .ok (.iconst 1, 1) := by decide +kernel
theorem dX0_place_32 : decode cX0_place 32 = .ok (.iadd, 1) := by decide +kernel
theorem dX0_place_33 : decode cX0_place 33 = .ok (.putfield 22, 3) := by decide +kernel
theorem dX0_place_36 : decode cX0_place 36 = .ok (.return_, 1) := by decide +kernel
theorem dX0_place_37 : decode cX0_place 37 = .ok (.iconst 0, 1) := by decide +kernel
theorem dX0_place_38 : decode cX0_place 38 = .ok (.istore_n 3, 1) := by decide +kernel
theorem dX0_place_39 : decode cX0_place 39 = .ok (.iload_n 3, 1) := by decide +kernel
theorem dX0_place_40 : decode cX0_place 40 = .ok (.iload_n 2, 1) := by decide +kernel
theorem dX0_place_41 : decode cX0_place 41 = .ok (.if_icmp .gt 26, 3) := by decide +kernel
theorem dX0_place_44 : decode cX0_place 44 = .ok (.aload_n 0, 1) := by decide +kernel
theorem dX0_place_45 : decode cX0_place 45 = .ok (.getfield 9, 3) := by decide +kernel
theorem dX0_place_48 : decode cX0_place 48 = .ok (.iload_n 1, 1) := by decide +kernel
theorem dX0_place_49 : decode cX0_place 49 = .ok (.iload_n 3, 1) := by decide +kernel
theorem dX0_place_50 : decode cX0_place 50 = .ok (.iastore, 1) := by decide +kernel
theorem dX0_place_51 : decode cX0_place 51 = .ok (.aload_n 0, 1) := by decide +kernel
theorem dX0_place_52 : decode cX0_place 52 = .ok (.iload_n 1, 1) := by decide +kernel
theorem dX0_place_53 : decode cX0_place 53 = .ok (.iconst 1, 1) := by decide +kernel
theorem dX0_place_54 : decode cX0_place 54 = .ok (.iadd, 1) := by decide +kernel
theorem dX0_place_55 : decode cX0_place 55 = .ok (.iload_n 2, 1) := by decide +kernel
theorem dX0_place_56 : decode cX0_place 56 = .ok (.iload_n 3, 1) := by decide +kernel
theorem dX0_place_57 : decode cX0_place 57 = .ok (.isub, 1) := by decide +kernel
theorem dX0_place_58 : decode cX0_place 58 = .ok (.invokevirtual 26, 3) := by decide +kernel
theorem dX0_place_61 : decode cX0_place 61 = .ok (.iinc 3 1, 3) := by decide +kernel
theorem dX0_place_64 : decode cX0_place 64 = .ok (.goto (-25), 3) := by decide +kernel
theorem dX0_place_67 : decode cX0_place 67 = .ok (.return_, 1) := by decide +kernel
theorem dX0_isRest_0 : decode cX0_isRest 0 = .ok (.bipush 40, 2) := by decide +kernel
theorem dX0_isRest_2 : decode cX0_isRest 2 = .ok (.istore_n 1, 1) := by decide +kernel
theorem dX0_isRest_3 : decode cX0_isRest 3 = .ok (.iconst 0, 1) := by decide +kernel
theorem dX0_isRest_4 : decode cX0_isRest 4 = .ok (.istore_n 2, 1) := by decide +kernel
theorem dX0_isRest_5 : decode cX0_isRest 5 = .ok (.iconst 0, 1) := by decide +kernel
theorem dX0_isRest_6 : decode cX0_isRest 6 = .ok (.istore_n 3, 1) := by decide +kernel
theorem dX0_isRest_7 : decode cX0_isRest 7 = .ok (.iload_n 3, 1) := by decide +kernel
theorem dX0_isRest_8 : decode cX0_isRest 8 = .ok (.aload_n 0, 1) := by decide +kernel
theorem dX0_isRest_9 : decode cX0_isRest 9 = .ok (.getfield 18, 3) := by decide +kernel
theorem dX0_isRest_12 : decode cX0_isRest 12 = .ok (.getfield 30, 3) := by decide +kernel
theorem dX0_isRest_15 : decode cX0_isRest 15 = .ok (.if_icmp .ge 58, 3) := by decide +kernel
theorem dX0_isRest_18 : decode cX0_isRest 18 = .ok (.aload_n 0, 1) := by decide +kernel
theorem dX0_isRest_19 : decode cX0_isRest 19 = .ok (.getfield 9, 3) := by decide +kernel
theorem dX0_isRest_22 : decode cX0_isRest 22 = .ok (.iload_n 3, 1) := by decide +kernel
theorem dX0_isRest_23 : decode cX0_isRest 23 = .ok (.iaload, 1) := by decide +kernel
theorem dX0_isRest_24 : decode cX0_isRest 24 = .ok (.istore 4, 2) := by decide +kernel
theorem dX0_isRest_26 : decode cX0_isRest 26 = .ok (.iload 4, 2) := by decide +kernel
theorem dX0_isRest_28 : decode cX0_isRest 28 = .ok (.ifCond .le 20, 3) := by decide +kernel
theorem dX0_isRest_31 : decode cX0_isRest 31 = .ok (.iload_n 1, 1) := by decide +kernel
theorem dX0_isRest_32 : decode cX0_isRest 32 = .ok (.aload_n 0, 1) := by decide +kernel
theorem dX0_isRest_33 : decode cX0_isRest 33 = .ok (.getfield 18, 3) := by decide +kernel
theorem dX0_isRest_36 : decode cX0_isRest 36 = .ok (.getfield 42, 3) := by decide +kernel
theorem dX0_isRest_39 : decode cX0_isRest 39 = .ok (.iload_n 3, 1) := by decide +kernel
theorem dX0_isRest_40 : decode cX0_isRest 40 = .ok (.iaload, 1) := by decide +kernel
theorem dX0_isRest_41 : decode cX0_isRest 41 = .ok (.iload 4, 2) := by decide +kernel
theorem dX0_isRest_43 : decode cX0_isRest 43 = .ok (.idiv, 1) := by decide +kernel
theorem dX0_isRest_44 : decode cX0_isRest 44 = .ok (.invokestatic 45, 3) := by decide +kernel
theorem dX0_isRest_47 : decode cX0_isRest 47 = .ok (.istore_n 1, 1) := by decide +kernel
theorem dX0_isRest_48 : decode cX0_isRest 48 = .ok (.iload_n 2, 1) := by decide +kernel
theorem dX0_isRest_49 : decode cX0_isRest 49 = .ok (.aload_n 0, 1) := by decide +kernel
theorem dX0_isRest_50 : decode cX0_isRest 50 = .ok (.getfield 18, 3) := by decide +kernel
theorem dX0_isRest_53 : decode cX0_isRest 53 = .ok (.getfield 42, 3) := by decide +kernel
theorem dX0_isRest_56 : decode cX0_isRest 56 = .ok (.iload_n 3, 1) := by decide +kernel
theorem dX0_isRest_57 : decode cX0_isRest 57 = .ok (.iaload, 1) := by decide +kernel
theorem dX0_isRest_58 : decode cX0_isRest 58 = .ok (.iload 4, 2) := by decide +kernel
theorem dX0_isRest_60 : decode cX0_isRest 60 = .ok (.iconst 1, 1) := by decide +kernel
theorem dX0_isRest_61 : decode cX0_isRest 61 = .ok (.iadd, 1) := by decide +kernel
theorem dX0_isRest_62 : decode cX0_isRest 62 = .ok (.idiv, 1) := by decide +kernel
theorem dX0_isRest_63 : decode cX0_isRest 63 = .ok (.invokestatic 51, 3) := by decide +kernel
theorem dX0_isRest_66 : decode cX0_isRest 66 = .ok (.istore_n 2, 1) := by decide +kernel
theorem dX0_isRest_67 : decode cX0_isRest 67 = .ok (.iinc 3 1, 3) := by decide +kernel
theorem dX0_isRest_70 : decode cX0_isRest 70 = .ok (.goto (-63), 3) := by decide +kernel
theorem dX0_isRest_73 : decode cX0_isRest 73 = .ok (.iload_n 1, 1) := by decide +kernel
theorem dX0_isRest_74 : decode cX0_isRest 74 = .ok (.iload_n 2, 1) := by decide +kernel
theorem dX0_isRest_75 : decode cX0_isRest 75 = .ok (.if_icmp .lt 7, 3) := by decide +kernel
theorem dX0_isRest_78 : decode cX0_isRest 78 = .ok (.iconst 1, 1) := by decide +kernel
theorem dX0_isRest_79 : decode cX0_isRest 79 = .ok (.goto 4, 3) := by decide +kernel
theorem dX0_isRest_82 : decode cX0_isRest 82 = .ok (.iconst 0, 1) := by decide +kernel
theorem dX0_isRest_83 : decode cX0_isRest 83 = .ok (.ireturn, 1) := by decide +kernel
theorem dX0_keepFirst_0 : decode cX0_keepFirst 0 = .ok (.aload_n 0, 1) := by decide +kernel
theorem dX0_keepFirst_1 : decode cX0_keepFirst 1 = .ok (.getfield 22, 3) := by decide +kernel
theorem dX0_keepFirst_4 : decode cX0_keepFirst 4 = .ok (.ifCond .ne 18, 3) := by decide +kernel
theorem dX0_keepFirst_7 : decode cX0_keepFirst 7 = .ok (.aload_n 0, 1) := by decide +kernel
theorem dX0_keepFirst_8 : decode cX0_keepFirst 8 = .ok (.getfield 9, 3) := by decide +kernel
theorem dX0_keepFirst_11 : decode cX0_keepFirst 11 = .ok (.iconst 0, 1) := by decide +kernel
theorem dX0_keepFirst_12 : decode cX0_keepFirst 12 = .ok (.aload_n 0, 1) := by decide +kernel
theorem dX0_keepFirst_13 : decode cX0_keepFirst 13 = .ok (.getfield 15, 3) := by decide +kernel
theorem dX0_keepFirst_16 : decode cX0_keepFirst 16 = .ok (.iconst 0, 1) := by decide +kernel
theorem dX0_keepFirst_17 : decode cX0_keepFirst 17 = .ok (.bipush 16, 2) := by decide +kernel
theorem dX0_keepFirst_19 : decode cX0_keepFirst 19 = .ok (.invokestatic 54, 3) := by decide +kernel
theorem dX0_keepFirst_22 : decode cX0_keepFirst 22 = .ok (.return_, 1) := by decide +kernel
theorem dX0_firstCatch_0 : decode cX0_firstCatch 0 = .ok (.iconst 0, 1) := by decide +kernel
theorem dX0_firstCatch_1 : decode cX0_firstCatch 1 = .ok (.istore_n 1, 1) := by decide +kernel
theorem dX0_firstCatch_2 : decode cX0_firstCatch 2 = .ok (.iconst 0, 1) := by decide +kernel
theorem dX0_firstCatch_3 : decode cX0_firstCatch 3 = .ok (.istore_n 2, 1) := by decide +kernel
theorem dX0_firstCatch_4 : decode cX0_firstCatch 4 = .ok (.iload_n 2, 1) := by decide +kernel
theorem dX0_firstCatch_5 : decode cX0_firstCatch 5 = .ok (.aload_n 0, 1) := by decide +kernel
theorem dX0_firstCatch_6 : decode cX0_firstCatch 6 = .ok (.getfield 18, 3) := by decide +kernel
theorem dX0_firstCatch_9 : decode cX0_firstCatch 9 = .ok (.getfield 30, 3) := by decide +kernel
theorem dX0_firstCatch_12 : decode cX0_firstCatch 12 = .ok (.if_icmp .ge 40, 3) := by decide +kernel
theorem dX0_firstCatch_15 : decode cX0_firstCatch 15 = .ok (.aload_n 0, 1) := by decide +kernel
theorem dX0_firstCatch_16 : decode cX0_firstCatch 16 = .ok (.getfield 15, 3) := by decide +kernel
theorem dX0_firstCatch_19 : decode cX0_firstCatch 19 = .ok (.iload_n 2, 1) := by decide +kernel
theorem dX0_firstCatch_20 : decode cX0_firstCatch 20 = .ok (.iaload, 1) := by decide +kernel
theorem dX0_firstCatch_21 : decode cX0_firstCatch 21 = .ok (.istore_n 3, 1) := by decide +kernel
theorem dX0_firstCatch_22 : decode cX0_firstCatch 22 = .ok (.iload_n 1, 1) := by decide +kernel
theorem dX0_firstCatch_23 : decode cX0_firstCatch 23 = .ok (.iload_n 3, 1) := by decide +kernel
theorem dX0_firstCatch_24 : decode cX0_firstCatch 24 = .ok (.ifCond .le 19, 3) := by decide +kernel
theorem dX0_firstCatch_27 : decode cX0_firstCatch 27 = .ok (.aload_n 0, 1) := by decide +kernel
theorem dX0_firstCatch_28 : decode cX0_firstCatch 28 = .ok (.getfield 18, 3) := by decide +kernel
theorem dX0_firstCatch_31 : decode cX0_firstCatch 31 = .ok (.getfield 42, 3) := by decide +kernel
theorem dX0_firstCatch_34 : decode cX0_firstCatch 34 = .ok (.iload_n 2, 1) := by decide +kernel
theorem dX0_firstCatch_35 : decode cX0_firstCatch 35 = .ok (.iaload, 1) := by decide +kernel
theorem dX0_firstCatch_36 : decode cX0_firstCatch 36 = .ok (.iload_n 3, 1) := by decide +kernel
theorem dX0_firstCatch_37 : decode cX0_firstCatch 37 = .ok (.idiv, 1) := by decide +kernel
theorem dX0_firstCatch_38 : decode cX0_firstCatch 38 = .ok (.iload_n 3, 1) := by decide +kernel
theorem dX0_firstCatch_39 : decode cX0_firstCatch 39 = .ok (.imul, 1) := by decide +kernel
theorem dX0_firstCatch_40 : decode cX0_firstCatch 40 = .ok (.goto 4, 3) := by decide +kernel
theorem dX0_firstCatch_43 : decode cX0_firstCatch 43 = .ok (.iconst 0, 1) := by decide +kernel
theorem dX0_firstCatch_44 : decode cX0_firstCatch 44 = .ok (.iadd, 1) := by decide +kernel
theorem dX0_firstCatch_45 : decode cX0_firstCatch 45 = .ok (.istore_n 1, 1) := by decide +kernel
theorem dX0_firstCatch_46 : decode cX0_firstCatch 46 = .ok (.iinc 2 1, 3) := by decide +kernel
theorem dX0_firstCatch_49 : decode cX0_firstCatch 49 = .ok (.goto (-45), 3) := by decide +kernel
theorem dX0_firstCatch_52 : decode cX0_firstCatch 52 = .ok (.aload_n 0, 1) := by decide +kernel
theorem dX0_firstCatch_53 : decode cX0_firstCatch 53 = .ok (.getfield 22, 3) := by decide +kernel
theorem dX0_firstCatch_56 : decode cX0_firstCatch 56 = .ok (.ifCond .ne 7, 3) := by decide +kernel
theorem dX0_firstCatch_59 : decode cX0_firstCatch 59 = .ok (.iconst (-1), 1) := by decide +kernel
theorem dX0_firstCatch_60 : decode cX0_firstCatch 60 = .ok (.goto 4, 3) := by decide +kernel
theorem dX0_firstCatch_63 : decode cX0_firstCatch 63 = .ok (.iload_n 1, 1) := by decide +kernel
theorem dX0_firstCatch_64 : decode cX0_firstCatch 64 = .ok (.ireturn, 1) := by decide +kernel
theorem dX1_init_0 : decode cX1_init 0 = .ok (.aload_n 0, 1) := by decide +kernel
theorem dX1_init_1 : decode cX1_init 1 = .ok (.invokespecial 3, 3) := by decide +kernel
theorem dX1_init_4 : decode cX1_init 4 = .ok (.aload_n 0, 1) := by decide +kernel
theorem dX1_init_5 : decode cX1_init 5 = .ok (.bipush 16, 2) := by decide +kernel
theorem dX1_init_7 : decode cX1_init 7 = .ok (.newarray .int, 2) := by decide +kernel
theorem dX1_init_9 : decode cX1_init 9 = .ok (.putfield 9, 3) := by decide +kernel
theorem dX1_init_12 : decode cX1_init 12 = .ok (.aload_n 0, 1) := by decide +kernel
theorem dX1_init_13 : decode cX1_init 13 = .ok (.bipush 16, 2) := by decide +kernel
theorem dX1_init_15 : decode cX1_init 15 = .ok (.newarray .int, 2) := by decide +kernel
theorem dX1_init_17 : decode cX1_init 17 = .ok (.putfield 15, 3) := by decide +kernel
theorem dX1_init_20 : decode cX1_init 20 = .ok (.aload_n 0, 1) := by decide +kernel
theorem dX1_init_21 : decode cX1_init 21 = .ok (.bipush 16, 2) := by decide +kernel
theorem dX1_init_23 : decode cX1_init 23 = .ok (.newarray .int, 2) := by decide +kernel
theorem dX1_init_25 : decode cX1_init 25 = .ok (.putfield 18, 3) := by decide +kernel
theorem dX1_init_28 : decode cX1_init 28 = .ok (.aload_n 0, 1) := by decide +kernel
theorem dX1_init_29 : decode cX1_init 29 = .ok (.bipush 16, 2) := by decide +kernel
theorem dX1_init_31 : decode cX1_init 31 = .ok (.newarray .int, 2) := by decide +kernel
theorem dX1_init_33 : decode cX1_init 33 = .ok (.putfield 21, 3) := by decide +kernel
theorem dX1_init_36 : decode cX1_init 36 = .ok (.aload_n 0, 1) := by decide +kernel
theorem dX1_init_37 : decode cX1_init 37 = .ok (.iconst 4, 1) := by decide +kernel
theorem dX1_init_38 : decode cX1_init 38 = .ok (.newarray .int, 2) := by decide +kernel
theorem dX1_init_40 : decode cX1_init 40 = .ok (.putfield 24, 3) := by decide +kernel
theorem dX1_init_43 : decode cX1_init 43 = .ok (.aload_n 0, 1) := by decide +kernel
theorem dX1_init_44 : decode cX1_init 44 = .ok (.iconst 4, 1) := by decide +kernel
theorem dX1_init_45 : decode cX1_init 45 = .ok (.newarray .int, 2) := by decide +kernel
theorem dX1_init_47 : decode cX1_init 47 = .ok (.putfield 27, 3) := by decide +kernel
theorem dX1_init_50 : decode cX1_init 50 = .ok (.aload_n 0, 1) := by decide +kernel
theorem dX1_init_51 : decode cX1_init 51 = .ok (.bipush 8, 2) := by decide +kernel
theorem dX1_init_53 : decode cX1_init 53 = .ok (.newarray .int, 2) := by decide +kernel
theorem dX1_init_55 : decode cX1_init 55 = .ok (.putfield 30, 3) := by decide +kernel
theorem dX1_init_58 : decode cX1_init 58 = .ok (.aload_n 0, 1) := by decide +kernel
theorem dX1_init_59 : decode cX1_init 59 = .ok (.bipush 8, 2) := by decide +kernel
theorem dX1_init_61 : decode cX1_init 61 = .ok (.newarray .int, 2) := by decide +kernel
theorem dX1_init_63 : decode cX1_init 63 = .ok (.putfield 33, 3) := by decide +kernel
theorem dX1_init_66 : decode cX1_init 66 = .ok (.aload_n 0, 1) := by decide +kernel
theorem dX1_init_67 : decode cX1_init 67 = .ok (.bipush 8, 2) := by decide +kernel
theorem dX1_init_69 : decode cX1_init 69 = .ok (.newarray .int, 2) := by decide +kernel
theorem dX1_init_71 : decode cX1_init 71 = .ok (.putfield 36, 3) := by decide +kernel
theorem dX1_init_74 : decode cX1_init 74 = .ok (.aload_n 0, 1) := by decide +kernel
theorem dX1_init_75 : decode cX1_init 75 = .ok (.iconst 2, 1) := by decide +kernel
theorem dX1_init_76 : decode cX1_init 76 = .ok (.putfield 39, 3) := by decide +kernel
theorem dX1_init_79 : decode cX1_init 79 = .ok (.aload_n 0, 1) := by decide +kernel
theorem dX1_init_80 : decode cX1_init 80 = .ok (.iconst 2, 1) := by decide +kernel
theorem dX1_init_81 : decode cX1_init 81 = .ok (.putfield 43, 3) := by decide +kernel
theorem dX1_init_84 : decode cX1_init 84 = .ok (.return_, 1) := by decide +kernel
theorem dX1_copyFrom_0 : decode cX1_copyFrom 0 = .ok (.aload_n 0, 1) := by decide +kernel
theorem dX1_copyFrom_1 : decode cX1_copyFrom 1 = .ok (.aload_n 1, 1) := by decide +kernel
theorem dX1_copyFrom_2 : decode cX1_copyFrom 2 = .ok (.getfield 46, 3) := by decide +kernel
theorem dX1_copyFrom_5 : decode cX1_copyFrom 5 = .ok (.putfield 46, 3) := by decide +kernel
theorem dX1_copyFrom_8 : decode cX1_copyFrom 8 = .ok (.aload_n 0, 1) := by decide +kernel
theorem dX1_copyFrom_9 : decode cX1_copyFrom 9 = .ok (.aload_n 1, 1) := by decide +kernel
theorem dX1_copyFrom_10 : decode cX1_copyFrom 10 = .ok (.getfield 49, 3) := by decide +kernel
theorem dX1_copyFrom_13 : decode cX1_copyFrom 13 = .ok (.putfield 49, 3) := by decide +kernel
theorem dX1_copyFrom_16 : decode cX1_copyFrom 16 = .ok (.aload_n 0, 1) := by decide +kernel
theorem dX1_copyFrom_17 : decode cX1_copyFrom 17 = .ok (.aload_n 1, 1) := by decide +kernel
theorem dX1_copyFrom_18 : decode cX1_copyFrom 18 = .ok (.getfield 52, 3) := by decide +kernel
theorem dX1_copyFrom_21 : decode cX1_copyFrom 21 = .ok (.putfield 52, 3) := by decide +kernel
theorem dX1_copyFrom_24 : decode cX1_copyFrom 24 = .ok (.aload_n 0, 1) := by decide +kernel
theorem dX1_copyFrom_25 : decode cX1_copyFrom 25 = .ok (.aload_n 1, 1) := by decide +kernel
theorem dX1_copyFrom_26 : decode cX1_copyFrom 26 = .ok (.getfield 39, 3) := by decide +kernel
theorem dX1_copyFrom_29 : decode cX1_copyFrom 29 = .ok (.putfield 39, 3) := by decide +kernel
theorem dX1_copyFrom_32 : decode cX1_copyFrom 32 = .ok (.aload_n 0, 1) := by decide +kernel
theorem dX1_copyFrom_33 : decode cX1_copyFrom 33 = .ok (.aload_n 1, 1) := by decide +kernel
theorem dX1_copyFrom_34 : decode cX1_copyFrom 34 = .ok (.getfield 43, 3) := by decide +kernel
theorem dX1_copyFrom_37 : decode cX1_copyFrom 37 = .ok (.putfield 43, 3) := by decide +kernel
theorem dX1_copyFrom_40 : decode cX1_copyFrom 40 = .ok (.aload_n 1, 1) := by decide +kernel
theorem dX1_copyFrom_41 : decode cX1_copyFrom 41 = .ok (.getfield 9, 3) := by decide +kernel
theorem dX1_copyFrom_44 : decode cX1_copyFrom 44 = .ok (.iconst 0, 1) := by decide +kernel
theorem dX1_copyFrom_45 : decode cX1_copyFrom 45 = .ok (.aload_n 0, 1) := by decide +kernel
theorem dX1_copyFrom_46 : decode cX1_copyFrom 46 = .ok (.getfield 9, 3) := by decide +kernel
theorem dX1_copyFrom_49 : decode cX1_copyFrom 49 = .ok (.iconst 0, 1) := by decide +kernel
theorem dX1_copyFrom_50 : decode cX1_copyFrom 50 = .ok (.bipush 16, 2) := by decide +kernel
theorem dX1_copyFrom_52 : decode cX1_copyFrom 52 = .ok (.invokestatic 55, 3) := by decide +kernel
theorem dX1_copyFrom_55 : decode cX1_copyFrom 55 = .ok (.aload_n 1, 1) := by decide +kernel
theorem dX1_copyFrom_56 : decode cX1_copyFrom 56 = .ok (.getfield 15, 3) := by decide +kernel
theorem dX1_copyFrom_59 : decode cX1_copyFrom 59 = .ok (.iconst 0, 1) := by decide +kernel
theorem dX1_copyFrom_60 : decode cX1_copyFrom 60 = .ok (.aload_n 0, 1) := by decide +kernel
theorem dX1_copyFrom_61 : decode cX1_copyFrom 61 = .ok (.getfield 15, 3) := by decide +kernel
theorem dX1_copyFrom_64 : decode cX1_copyFrom 64 = .ok (.iconst 0, 1) := by decide +kernel
theorem dX1_copyFrom_65 : decode cX1_copyFrom 65 = .ok (.bipush 16, 2) := by decide +kernel
theorem dX1_copyFrom_67 : decode cX1_copyFrom 67 = .ok (.invokestatic 55, 3) := by decide +kernel
theorem dX1_copyFrom_70 : decode cX1_copyFrom 70 = .ok (.aload_n 1, 1) := by decide +kernel
theorem dX1_copyFrom_71 : decode cX1_copyFrom 71 = .ok (.getfield 18, 3) := by decide +kernel
theorem dX1_copyFrom_74 : decode cX1_copyFrom 74 = .ok (.iconst 0, 1) := by decide +kernel
theorem dX1_copyFrom_75 : decode cX1_copyFrom 75 = .ok (.aload_n 0, 1) := by decide +kernel
theorem dX1_copyFrom_76 : decode cX1_copyFrom 76 = .ok (.getfield 18, 3) := by decide +kernel
theorem dX1_copyFrom_79 : decode cX1_copyFrom 79 = .ok (.iconst 0, 1) := by decide +kernel
theorem dX1_copyFrom_80 : decode cX1_copyFrom 80 = .ok (.bipush 16, 2) := by decide +kernel
theorem dX1_copyFrom_82 : decode cX1_copyFrom 82 = .ok (.invokestatic 55, 3) := by decide +kernel
theorem dX1_copyFrom_85 : decode cX1_copyFrom 85 = .ok (.aload_n 1, 1) := by decide +kernel
theorem dX1_copyFrom_86 : decode cX1_copyFrom 86 = .ok (.getfield 21, 3) := by decide +kernel
theorem dX1_copyFrom_89 : decode cX1_copyFrom 89 = .ok (.iconst 0, 1) := by decide +kernel
theorem dX1_copyFrom_90 : decode cX1_copyFrom 90 = .ok (.aload_n 0, 1) := by decide +kernel
theorem dX1_copyFrom_91 : decode cX1_copyFrom 91 = .ok (.getfield 21, 3) := by decide +kernel
theorem dX1_copyFrom_94 : decode cX1_copyFrom 94 = .ok (.iconst 0, 1) := by decide +kernel
theorem dX1_copyFrom_95 : decode cX1_copyFrom 95 = .ok (.bipush 16, 2) := by decide +kernel
theorem dX1_copyFrom_97 : decode cX1_copyFrom 97 = .ok (.invokestatic 55, 3) := by decide +kernel
theorem dX1_copyFrom_100 : decode cX1_copyFrom 100 = .ok (.aload_n 1, 1) := by decide +kernel
theorem dX1_copyFrom_101 : decode cX1_copyFrom 101 = .ok (.getfield 24, 3) := by decide +kernel
theorem dX1_copyFrom_104 : decode cX1_copyFrom 104 = .ok (.iconst 0, 1) := by decide +kernel
theorem dX1_copyFrom_105 : decode cX1_copyFrom 105 = .ok (.aload_n 0, 1) := by decide +kernel
theorem dX1_copyFrom_106 : decode cX1_copyFrom 106 = .ok (.getfield 24, 3) := by decide +kernel
theorem dX1_copyFrom_109 : decode cX1_copyFrom 109 = .ok (.iconst 0, 1) := by decide +kernel
theorem dX1_copyFrom_110 : decode cX1_copyFrom 110 = .ok (.iconst 4, 1) := by decide +kernel
theorem dX1_copyFrom_111 : decode cX1_copyFrom 111 = .ok (.invokestatic 55, 3) := by decide +kernel
theorem dX1_copyFrom_114 : decode cX1_copyFrom 114 = .ok (.aload_n 1, 1) := by decide +kernel
theorem dX1_copyFrom_115 : decode cX1_copyFrom 115 = .ok (.getfield 27, 3) := by decide +kernel
theorem dX1_copyFrom_118 : decode cX1_copyFrom 118 = .ok (.iconst 0, 1) := by decide +kernel
theorem dX1_copyFrom_119 : decode cX1_copyFrom 119 = .ok (.aload_n 0, 1) := by decide +kernel
theorem dX1_copyFrom_120 : decode cX1_copyFrom 120 = .ok (.getfield 27, 3) := by decide +kernel
theorem dX1_copyFrom_123 : decode cX1_copyFrom 123 = .ok (.iconst 0, 1) := by decide +kernel
theorem dX1_copyFrom_124 : decode cX1_copyFrom 124 = .ok (.iconst 4, 1) := by decide +kernel
theorem dX1_copyFrom_125 : decode cX1_copyFrom 125 = .ok (.invokestatic 55, 3) := by decide +kernel
theorem dX1_copyFrom_128 : decode cX1_copyFrom 128 = .ok (.aload_n 1, 1) := by decide +kernel
theorem dX1_copyFrom_129 : decode cX1_copyFrom 129 = .ok (.getfield 30, 3) := by decide +kernel
theorem dX1_copyFrom_132 : decode cX1_copyFrom 132 = .ok (.iconst 0, 1) := by decide +kernel
theorem dX1_copyFrom_133 : decode cX1_copyFrom 133 = .ok (.aload_n 0, 1) := by decide +kernel
theorem dX1_copyFrom_134 : decode cX1_copyFrom 134 = .ok (.getfield 30, 3) := by decide +kernel
theorem dX1_copyFrom_137 : decode cX1_copyFrom 137 = .ok (.iconst 0, 1) := by decide +kernel
theorem dX1_copyFrom_138 : decode cX1_copyFrom 138 = .ok (.bipush 8, 2) := by decide +kernel
theorem dX1_copyFrom_140 : decode cX1_copyFrom 140 = .ok (.invokestatic 55, 3) := by decide +kernel
theorem dX1_copyFrom_143 : decode cX1_copyFrom 143 = .ok (.aload_n 1, 1) := by decide +kernel
theorem dX1_copyFrom_144 : decode cX1_copyFrom 144 = .ok (.getfield 33, 3) := by decide +kernel
theorem dX1_copyFrom_147 : decode cX1_copyFrom 147 = .ok (.iconst 0, 1) := by decide +kernel
theorem dX1_copyFrom_148 : decode cX1_copyFrom 148 = .ok (.aload_n 0, 1) := by decide +kernel
theorem dX1_copyFrom_149 : decode cX1_copyFrom 149 = .ok (.getfield 33, 3) := by decide +kernel
theorem dX1_copyFrom_152 : decode cX1_copyFrom 152 = .ok (.iconst 0, 1) := by decide +kernel
theorem dX1_copyFrom_153 : decode cX1_copyFrom 153 = .ok (.bipush 8, 2) := by decide +kernel
theorem dX1_copyFrom_155 : decode cX1_copyFrom 155 = .ok (.invokestatic 55, 3) := by decide +kernel
theorem dX1_copyFrom_158 : decode cX1_copyFrom 158 = .ok (.aload_n 1, 1) := by decide +kernel
theorem dX1_copyFrom_159 : decode cX1_copyFrom 159 = .ok (.getfield 36, 3) := by decide +kernel
theorem dX1_copyFrom_162 : decode cX1_copyFrom 162 = .ok (.iconst 0, 1) := by decide +kernel
theorem dX1_copyFrom_163 : decode cX1_copyFrom 163 = .ok (.aload_n 0, 1) := by decide +kernel
theorem dX1_copyFrom_164 : decode cX1_copyFrom 164 = .ok (.getfield 36, 3) := by decide +kernel
theorem dX1_copyFrom_167 : decode cX1_copyFrom 167 = .ok (.iconst 0, 1) := by decide +kernel
theorem dX1_copyFrom_168 : decode cX1_copyFrom 168 = .ok (.bipush 8, 2) := by decide +kernel
theorem dX1_copyFrom_170 : decode cX1_copyFrom 170 = .ok (.invokestatic 55, 3) := by decide +kernel
theorem dX1_copyFrom_173 : decode cX1_copyFrom 173 = .ok (.return_, 1) := by decide +kernel
theorem dX1_read_0 : decode cX1_read 0 = .ok (.aload_n 0, 1) := by decide +kernel
theorem dX1_read_1 : decode cX1_read 1 = .ok (.iconst 0, 1) := by decide +kernel
theorem dX1_read_2 : decode cX1_read 2 = .ok (.putfield 46, 3) := by decide +kernel
theorem dX1_read_5 : decode cX1_read 5 = .ok (.aload_n 0, 1) := by decide +kernel
theorem dX1_read_6 : decode cX1_read 6 = .ok (.iconst 0, 1) := by decide +kernel
theorem dX1_read_7 : decode cX1_read 7 = .ok (.putfield 49, 3) := by decide +kernel
theorem dX1_read_10 : decode cX1_read 10 = .ok (.aload_n 0, 1) := by decide +kernel
theorem dX1_read_11 : decode cX1_read 11 = .ok (.iconst 0, 1) := by decide +kernel
theorem dX1_read_12 : decode cX1_read 12 = .ok (.putfield 52, 3) := by decide +kernel
theorem dX1_read_15 : decode cX1_read 15 = .ok (.aload_n 0, 1) := by decide +kernel
theorem dX1_read_16 : decode cX1_read 16 = .ok (.iconst 2, 1) := by decide +kernel
theorem dX1_read_17 : decode cX1_read 17 = .ok (.putfield 39, 3) := by decide +kernel
theorem dX1_read_20 : decode cX1_read 20 = .ok (.aload_n 0, 1) := by decide +kernel
theorem dX1_read_21 : decode cX1_read 21 = .ok (.iconst 2, 1) := by decide +kernel
theorem dX1_read_22 : decode cX1_read 22 = .ok (.putfield 43, 3) := by decide +kernel
theorem dX1_read_25 : decode cX1_read 25 = .ok (.aload_n 0, 1) := by decide +kernel
theorem dX1_read_26 : decode cX1_read 26 = .ok (.getfield 21, 3) := by decide +kernel
theorem dX1_read_29 : decode cX1_read 29 = .ok (.iconst 0, 1) := by decide +kernel
theorem dX1_read_30 : decode cX1_read 30 = .ok (.invokestatic 61, 3) := by decide +kernel
theorem dX1_read_33 : decode cX1_read 33 = .ok (.iconst 0, 1) := by decide +kernel
theorem dX1_read_34 : decode cX1_read 34 = .ok (.istore_n 2, 1) := by decide +kernel
theorem dX1_read_35 : decode cX1_read 35 = .ok (.iload_n 2, 1) := by decide +kernel
theorem dX1_read_36 : decode cX1_read 36 = .ok (.bipush 60, 2) := by decide +kernel
theorem dX1_read_38 : decode cX1_read 38 = .ok (.if_icmp .gt 53, 3) := by decide +kernel
theorem dX1_read_41 : decode cX1_read 41 = .ok (.aload_n 1, 1) := by decide +kernel
theorem dX1_read_42 : decode cX1_read 42 = .ok (.invokevirtual 67, 3) := by decide +kernel
theorem dX1_read_45 : decode cX1_read 45 = .ok (.ifCond .ne 46, 3) := by decide +kernel
theorem dX1_read_48 : decode cX1_read 48 = .ok (.aload_n 1, 1) := by decide +kernel
theorem dX1_read_49 : decode cX1_read 49 = .ok (.invokevirtual 73, 3) := by decide +kernel
theorem dX1_read_52 : decode cX1_read 52 = .ok (.ifCond .ne 39, 3) := by decide +kernel
theorem dX1_read_55 : decode cX1_read 55 = .ok (.aload_n 1, 1) := by decide +kernel
theorem dX1_read_56 : decode cX1_read 56 = .ok (.ldc 76, 2) := by decide +kernel
theorem dX1_read_58 : decode cX1_read 58 = .ok (.invokevirtual 78, 3) := by decide +kernel
theorem dX1_read_61 : decode cX1_read 61 = .ok (.istore_n 3, 1) := by decide +kernel
theorem dX1_read_62 : decode cX1_read 62 = .ok (.iload_n 2, 1) := by decide +kernel
theorem dX1_read_63 : decode cX1_read 63 = .ok (.bipush 60, 2) := by decide +kernel
theorem dX1_read_65 : decode cX1_read 65 = .ok (.if_icmp .ne 8, 3) := by decide +kernel
theorem dX1_read_68 : decode cX1_read 68 = .ok (.aload_n 1, 1) := by decide +kernel
theorem dX1_read_69 : decode cX1_read 69 = .ok (.iconst 3, 1) := by decide +kernel
theorem dX1_read_70 : decode cX1_read 70 = .ok (.invokevirtual 82, 3) := by decide +kernel
theorem dX1_read_73 : decode cX1_read 73 = .ok (.aload_n 0, 1) := by decide +kernel
theorem dX1_read_74 : decode cX1_read 74 = .ok (.aload_n 1, 1) := by decide +kernel
theorem dX1_read_75 : decode cX1_read 75 = .ok (.iload_n 3, 1) := by decide +kernel
theorem dX1_read_76 : decode cX1_read 76 = .ok (.invokevirtual 86, 3) := by decide +kernel
theorem dX1_read_79 : decode cX1_read 79 = .ok (.aload_n 1, 1) := by decide +kernel
theorem dX1_read_80 : decode cX1_read 80 = .ok (.bipush 59, 2) := by decide +kernel
theorem dX1_read_82 : decode cX1_read 82 = .ok (.invokevirtual 90, 3) := by decide +kernel
theorem dX1_read_85 : decode cX1_read 85 = .ok (.iinc 2 1, 3) := by decide +kernel
theorem dX1_read_88 : decode cX1_read 88 = .ok (.goto (-53), 3) := by decide +kernel
theorem dX1_read_91 : decode cX1_read 91 = .ok (.return_, 1) := by decide +kernel
theorem dX1_readClause_0 : decode cX1_readClause 0 = .ok (.iload_n 2, 1) := by decide +kernel
theorem dX1_readClause_1 : decode cX1_readClause 1 = .ok (.tableswitch 97 0 5 #[39, 47, 55, 68, 76, 84], 39) := by decide +kernel
theorem dX1_readClause_40 : decode cX1_readClause 40 = .ok (.aload_n 0, 1) := by decide +kernel
theorem dX1_readClause_41 : decode cX1_readClause 41 = .ok (.aload_n 1, 1) := by decide +kernel
theorem dX1_readClause_42 : decode cX1_readClause 42 = .ok (.invokevirtual 94, 3) := by decide +kernel
theorem dX1_readClause_45 : decode cX1_readClause 45 = .ok (.goto 53, 3) := by decide +kernel
theorem dX1_readClause_48 : decode cX1_readClause 48 = .ok (.aload_n 0, 1) := by decide +kernel
theorem dX1_readClause_49 : decode cX1_readClause 49 = .ok (.aload_n 1, 1) := by decide +kernel
theorem dX1_readClause_50 : decode cX1_readClause 50 = .ok (.invokevirtual 98, 3) := by decide +kernel
theorem dX1_readClause_53 : decode cX1_readClause 53 = .ok (.goto 45, 3) := by decide +kernel
theorem dX1_readClause_56 : decode cX1_readClause 56 = .ok (.aload_n 0, 1) := by decide +kernel
theorem dX1_readClause_57 : decode cX1_readClause 57 = .ok (.aload_n 1, 1) := by decide +kernel
theorem dX1_readClause_58 : decode cX1_readClause 58 = .ok (.iconst 1, 1) := by decide +kernel
theorem dX1_readClause_59 : decode cX1_readClause 59 = .ok (.iconst 4, 1) := by decide +kernel
theorem dX1_readClause_60 : decode cX1_readClause 60 = .ok (.invokevirtual 101, 3) := by decide +kernel
theorem dX1_readClause_63 : decode cX1_readClause 63 = .ok (.putfield 39, 3) := by decide +kernel
theorem dX1_readClause_66 : decode cX1_readClause 66 = .ok (.goto 32, 3) := by decide +kernel
theorem dX1_readClause_69 : decode cX1_readClause 69 = .ok (.aload_n 0, 1) := by decide +kernel
theorem dX1_readClause_70 : decode cX1_readClause 70 = .ok (.aload_n 1, 1) := by decide +kernel
theorem dX1_readClause_71 : decode cX1_readClause 71 = .ok (.invokevirtual 105, 3) := by decide +kernel
theorem dX1_readClause_74 : decode cX1_readClause 74 = .ok (.goto 24, 3) := by decide +kernel
theorem dX1_readClause_77 : decode cX1_readClause 77 = .ok (.aload_n 0, 1) := by decide +kernel
theorem dX1_readClause_78 : decode cX1_readClause 78 = .ok (.aload_n 1, 1) := by decide +kernel
theorem dX1_readClause_79 : decode cX1_readClause 79 = .ok (.invokevirtual 108, 3) := by decide +kernel
theorem dX1_readClause_82 : decode cX1_readClause 82 = .ok (.goto 16, 3) := by decide +kernel
theorem dX1_readClause_85 : decode cX1_readClause 85 = .ok (.aload_n 0, 1) := by decide +kernel
theorem dX1_readClause_86 : decode cX1_readClause 86 = .ok (.aload_n 1, 1) := by decide +kernel
theorem dX1_readClause_87 : decode cX1_readClause 87 = .ok (.iconst 0, 1) := by decide +kernel
theorem dX1_readClause_88 : decode cX1_readClause 88 = .ok (.iconst 4, 1) := by decide +kernel
theorem dX1_readClause_89 : decode cX1_readClause 89 = .ok (.invokevirtual 101, 3) := by decide +kernel
theorem dX1_readClause_92 : decode cX1_readClause 92 = .ok (.putfield 43, 3) := by decide +kernel
theorem dX1_readClause_95 : decode cX1_readClause 95 = .ok (.goto 3, 3) := by decide +kernel
theorem dX1_readClause_98 : decode cX1_readClause 98 = .ok (.return_, 1) := by decide +kernel
theorem dX1_readBoard_0 : decode cX1_readBoard 0 = .ok (.aload_n 0, 1) := by decide +kernel
theorem dX1_readBoard_1 : decode cX1_readBoard 1 = .ok (.getfield 46, 3) := by decide +kernel
theorem dX1_readBoard_4 : decode cX1_readBoard 4 = .ok (.bipush 16, 2) := by decide +kernel
theorem dX1_readBoard_6 : decode cX1_readBoard 6 = .ok (.if_icmp .ne 8, 3) := by decide +kernel
theorem dX1_readBoard_9 : decode cX1_readBoard 9 = .ok (.aload_n 1, 1) := by decide +kernel
theorem dX1_readBoard_10 : decode cX1_readBoard 10 = .ok (.iconst 3, 1) := by decide +kernel
theorem dX1_readBoard_11 : decode cX1_readBoard 11 = .ok (.invokevirtual 82, 3) := by decide +kernel
theorem dX1_readBoard_14 : decode cX1_readBoard 14 = .ok (.aload_n 1, 1) := by decide +kernel
theorem dX1_readBoard_15 : decode cX1_readBoard 15 = .ok (.iconst 0, 1) := by decide +kernel
theorem dX1_readBoard_16 : decode cX1_readBoard 16 = .ok (.bipush 9, 2) := by decide +kernel
theorem dX1_readBoard_18 : decode cX1_readBoard 18 = .ok (.invokevirtual 101, 3) := by decide +kernel
theorem dX1_readBoard_21 : decode cX1_readBoard 21 = .ok (.istore_n 2, 1) := by decide +kernel
theorem dX1_readBoard_22 : decode cX1_readBoard 22 = .ok (.aload_n 1, 1) := by decide +kernel
theorem dX1_readBoard_23 : decode cX1_readBoard 23 = .ok (.iconst 0, 1) := by decide +kernel
theorem dX1_readBoard_24 : decode cX1_readBoard 24 = .ok (.bipush 20, 2) := by decide +kernel
theorem dX1_readBoard_26 : decode cX1_readBoard 26 = .ok (.invokevirtual 101, 3) := by decide +kernel
theorem dX1_readBoard_29 : decode cX1_readBoard 29 = .ok (.istore_n 3, 1) := by decide +kernel
theorem dX1_readBoard_30 : decode cX1_readBoard 30 = .ok (.aload_n 1, 1) := by decide +kernel
theorem dX1_readBoard_31 : decode cX1_readBoard 31 = .ok (.iconst 0, 1) := by decide +kernel
theorem dX1_readBoard_32 : decode cX1_readBoard 32 = .ok (.bipush 9, 2) := by decide +kernel
theorem dX1_readBoard_34 : decode cX1_readBoard 34 = .ok (.invokevirtual 101, 3) := by decide +kernel
theorem dX1_readBoard_37 : decode cX1_readBoard 37 = .ok (.istore 4, 2) := by decide +kernel
theorem dX1_readBoard_39 : decode cX1_readBoard 39 = .ok (.aload_n 1, 1) := by decide +kernel
theorem dX1_readBoard_40 : decode cX1_readBoard 40 = .ok (.invokevirtual 67, 3) := by decide +kernel
theorem dX1_readBoard_43 : decode cX1_readBoard 43 = .ok (.ifCond .ne 44, 3) := by decide +kernel
theorem dX1_readBoard_46 : decode cX1_readBoard 46 = .ok (.aload_n 0, 1) := by decide +kernel
theorem dX1_readBoard_47 : decode cX1_readBoard 47 = .ok (.getfield 9, 3) := by decide +kernel
theorem dX1_readBoard_50 : decode cX1_readBoard 50 = .ok (.aload_n 0, 1) := by decide +kernel
theorem dX1_readBoard_51 : decode cX1_readBoard 51 = .ok (.getfield 46, 3) := by decide +kernel
theorem dX1_readBoard_54 : decode cX1_readBoard 54 = .ok (.iload_n 2, 1) := by decide +kernel
theorem dX1_readBoard_55 : decode cX1_readBoard 55 = .ok (.iastore, 1) := by decide +kernel
theorem dX1_readBoard_56 : decode cX1_readBoard 56 = .ok (.aload_n 0, 1) := by decide +kernel
theorem dX1_readBoard_57 : decode cX1_readBoard 57 = .ok (.getfield 15, 3) := by decide +kernel
theorem dX1_readBoard_60 : decode cX1_readBoard 60 = .ok (.aload_n 0, 1) := by decide +kernel
theorem dX1_readBoard_61 : decode cX1_readBoard 61 = .ok (.getfield 46, 3) := by decide +kernel
theorem dX1_readBoard_64 : decode cX1_readBoard 64 = .ok (.iload_n 3, 1) := by decide +kernel
theorem dX1_readBoard_65 : decode cX1_readBoard 65 = .ok (.iastore, 1) := by decide +kernel
theorem dX1_readBoard_66 : decode cX1_readBoard 66 = .ok (.aload_n 0, 1) := by decide +kernel
theorem dX1_readBoard_67 : decode cX1_readBoard 67 = .ok (.getfield 18, 3) := by decide +kernel
theorem dX1_readBoard_70 : decode cX1_readBoard 70 = .ok (.aload_n 0, 1) := by decide +kernel
theorem dX1_readBoard_71 : decode cX1_readBoard 71 = .ok (.getfield 46, 3) := by decide +kernel
theorem dX1_readBoard_74 : decode cX1_readBoard 74 = .ok (.iload 4, 2) := by decide +kernel
theorem dX1_readBoard_76 : decode cX1_readBoard 76 = .ok (.iastore, 1) := by decide +kernel
theorem dX1_readBoard_77 : decode cX1_readBoard 77 = .ok (.aload_n 0, 1) := by decide +kernel
theorem dX1_readBoard_78 : decode cX1_readBoard 78 = .ok (.dup, 1) := by decide +kernel
theorem dX1_readBoard_79 : decode cX1_readBoard 79 = .ok (.getfield 46, 3) := by decide +kernel
theorem dX1_readBoard_82 : decode cX1_readBoard 82 = .ok (.iconst 1, 1) := by decide +kernel
theorem dX1_readBoard_83 : decode cX1_readBoard 83 = .ok (.iadd, 1) := by decide +kernel
theorem dX1_readBoard_84 : decode cX1_readBoard 84 = .ok (.putfield 46, 3) := by decide +kernel
theorem dX1_readBoard_87 : decode cX1_readBoard 87 = .ok (.return_, 1) := by decide +kernel
theorem dX1_readBarge_0 : decode cX1_readBarge 0 = .ok (.aload_n 0, 1) := by decide +kernel
theorem dX1_readBarge_1 : decode cX1_readBarge 1 = .ok (.getfield 49, 3) := by decide +kernel
theorem dX1_readBarge_4 : decode cX1_readBarge 4 = .ok (.iconst 4, 1) := by decide +kernel
theorem dX1_readBarge_5 : decode cX1_readBarge 5 = .ok (.if_icmp .ne 8, 3) := by decide +kernel
theorem dX1_readBarge_8 : decode cX1_readBarge 8 = .ok (.aload_n 1, 1) := by decide +kernel
theorem dX1_readBarge_9 : decode cX1_readBarge 9 = .ok (.iconst 3, 1) := by decide +kernel
theorem dX1_readBarge_10 : decode cX1_readBarge 10 = .ok (.invokevirtual 82, 3) := by decide +kernel
theorem dX1_readBarge_13 : decode cX1_readBarge 13 = .ok (.aload_n 1, 1) := by decide +kernel
theorem dX1_readBarge_14 : decode cX1_readBarge 14 = .ok (.iconst 0, 1) := by decide +kernel
theorem dX1_readBarge_15 : decode cX1_readBarge 15 = .ok (.bipush 9, 2) := by decide +kernel
theorem dX1_readBarge_17 : decode cX1_readBarge 17 = .ok (.invokevirtual 101, 3) := by decide +kernel
theorem dX1_readBarge_20 : decode cX1_readBarge 20 = .ok (.istore_n 2, 1) := by decide +kernel
theorem dX1_readBarge_21 : decode cX1_readBarge 21 = .ok (.aload_n 1, 1) := by decide +kernel
theorem dX1_readBarge_22 : decode cX1_readBarge 22 = .ok (.iconst 0, 1) := by decide +kernel
theorem dX1_readBarge_23 : decode cX1_readBarge 23 = .ok (.bipush 95, 2) := by decide +kernel
theorem dX1_readBarge_25 : decode cX1_readBarge 25 = .ok (.invokevirtual 101, 3) := by decide +kernel
theorem dX1_readBarge_28 : decode cX1_readBarge 28 = .ok (.istore_n 3, 1) := by decide +kernel
theorem dX1_readBarge_29 : decode cX1_readBarge 29 = .ok (.aload_n 1, 1) := by decide +kernel
theorem dX1_readBarge_30 : decode cX1_readBarge 30 = .ok (.invokevirtual 67, 3) := by decide +kernel
theorem dX1_readBarge_33 : decode cX1_readBarge 33 = .ok (.ifCond .ne 33, 3) := by decide +kernel
theorem dX1_readBarge_36 : decode cX1_readBarge 36 = .ok (.aload_n 0, 1) := by decide +kernel
theorem dX1_readBarge_37 : decode cX1_readBarge 37 = .ok (.getfield 24, 3) := by decide +kernel
theorem dX1_readBarge_40 : decode cX1_readBarge 40 = .ok (.aload_n 0, 1) := by decide +kernel
theorem dX1_readBarge_41 : decode cX1_readBarge 41 = .ok (.getfield 49, 3) := by decide +kernel
theorem dX1_readBarge_44 : decode cX1_readBarge 44 = .ok (.iload_n 2, 1) := by decide +kernel
theorem dX1_readBarge_45 : decode cX1_readBarge 45 = .ok (.iastore, 1) := by decide +kernel
theorem dX1_readBarge_46 : decode cX1_readBarge 46 = .ok (.aload_n 0, 1) := by decide +kernel
theorem dX1_readBarge_47 : decode cX1_readBarge 47 = .ok (.getfield 27, 3) := by decide +kernel
theorem dX1_readBarge_50 : decode cX1_readBarge 50 = .ok (.aload_n 0, 1) := by decide +kernel
theorem dX1_readBarge_51 : decode cX1_readBarge 51 = .ok (.getfield 49, 3) := by decide +kernel
theorem dX1_readBarge_54 : decode cX1_readBarge 54 = .ok (.iload_n 3, 1) := by decide +kernel
theorem dX1_readBarge_55 : decode cX1_readBarge 55 = .ok (.iastore, 1) := by decide +kernel
theorem dX1_readBarge_56 : decode cX1_readBarge 56 = .ok (.aload_n 0, 1) := by decide +kernel
theorem dX1_readBarge_57 : decode cX1_readBarge 57 = .ok (.dup, 1) := by decide +kernel
theorem dX1_readBarge_58 : decode cX1_readBarge 58 = .ok (.getfield 49, 3) := by decide +kernel
theorem dX1_readBarge_61 : decode cX1_readBarge 61 = .ok (.iconst 1, 1) := by decide +kernel
theorem dX1_readBarge_62 : decode cX1_readBarge 62 = .ok (.iadd, 1) := by decide +kernel
theorem dX1_readBarge_63 : decode cX1_readBarge 63 = .ok (.putfield 49, 3) := by decide +kernel
theorem dX1_readBarge_66 : decode cX1_readBarge 66 = .ok (.return_, 1) := by decide +kernel
theorem dX1_readStreet_0 : decode cX1_readStreet 0 = .ok (.aload_n 0, 1) := by decide +kernel
theorem dX1_readStreet_1 : decode cX1_readStreet 1 = .ok (.getfield 52, 3) := by decide +kernel
theorem dX1_readStreet_4 : decode cX1_readStreet 4 = .ok (.bipush 8, 2) := by decide +kernel
theorem dX1_readStreet_6 : decode cX1_readStreet 6 = .ok (.if_icmp .ne 8, 3) := by decide +kernel
theorem dX1_readStreet_9 : decode cX1_readStreet 9 = .ok (.aload_n 1, 1) := by decide +kernel
theorem dX1_readStreet_10 : decode cX1_readStreet 10 = .ok (.iconst 3, 1) := by decide +kernel
theorem dX1_readStreet_11 : decode cX1_readStreet 11 = .ok (.invokevirtual 82, 3) := by decide +kernel
theorem dX1_readStreet_14 : decode cX1_readStreet 14 = .ok (.aload_n 1, 1) := by decide +kernel
theorem dX1_readStreet_15 : decode cX1_readStreet 15 = .ok (.iconst 0, 1) := by decide +kernel
theorem dX1_readStreet_16 : decode cX1_readStreet 16 = .ok (.aload_n 0, 1) := by decide +kernel
theorem dX1_readStreet_17 : decode cX1_readStreet 17 = .ok (.getfield 46, 3) := by decide +kernel
theorem dX1_readStreet_20 : decode cX1_readStreet 20 = .ok (.iconst 1, 1) := by decide +kernel
theorem dX1_readStreet_21 : decode cX1_readStreet 21 = .ok (.isub, 1) := by decide +kernel
theorem dX1_readStreet_22 : decode cX1_readStreet 22 = .ok (.invokevirtual 101, 3) := by decide +kernel
theorem dX1_readStreet_25 : decode cX1_readStreet 25 = .ok (.istore_n 2, 1) := by decide +kernel
theorem dX1_readStreet_26 : decode cX1_readStreet 26 = .ok (.aload_n 1, 1) := by decide +kernel
theorem dX1_readStreet_27 : decode cX1_readStreet 27 = .ok (.iload_n 2, 1) := by decide +kernel
theorem dX1_readStreet_28 : decode cX1_readStreet 28 = .ok (.aload_n 0, 1) := by decide +kernel
theorem dX1_readStreet_29 : decode cX1_readStreet 29 = .ok (.getfield 46, 3) := by decide +kernel
theorem dX1_readStreet_32 : decode cX1_readStreet 32 = .ok (.iconst 1, 1) := by decide +kernel
theorem dX1_readStreet_33 : decode cX1_readStreet 33 = .ok (.isub, 1) := by decide +kernel
theorem dX1_readStreet_34 : decode cX1_readStreet 34 = .ok (.invokevirtual 101, 3) := by decide +kernel
theorem dX1_readStreet_37 : decode cX1_readStreet 37 = .ok (.istore_n 3, 1) := by decide +kernel
theorem dX1_readStreet_38 : decode cX1_readStreet 38 = .ok (.aload_n 1, 1) := by decide +kernel
theorem dX1_readStreet_39 : decode cX1_readStreet 39 = .ok (.iconst 1, 1) := by decide +kernel
theorem dX1_readStreet_40 : decode cX1_readStreet 40 = .ok (.bipush 40, 2) := by decide +kernel
theorem dX1_readStreet_42 : decode cX1_readStreet 42 = .ok (.invokevirtual 101, 3) := by decide +kernel
theorem dX1_readStreet_45 : decode cX1_readStreet 45 = .ok (.istore 4, 2) := by decide +kernel
theorem dX1_readStreet_47 : decode cX1_readStreet 47 = .ok (.aload_n 1, 1) := by decide +kernel
theorem dX1_readStreet_48 : decode cX1_readStreet 48 = .ok (.invokevirtual 67, 3) := by decide +kernel
theorem dX1_readStreet_51 : decode cX1_readStreet 51 = .ok (.ifCond .ne 44, 3) := by decide +kernel
theorem dX1_readStreet_54 : decode cX1_readStreet 54 = .ok (.aload_n 0, 1) := by decide +kernel
theorem dX1_readStreet_55 : decode cX1_readStreet 55 = .ok (.getfield 30, 3) := by decide +kernel
theorem dX1_readStreet_58 : decode cX1_readStreet 58 = .ok (.aload_n 0, 1) := by decide +kernel
theorem dX1_readStreet_59 : decode cX1_readStreet 59 = .ok (.getfield 52, 3) := by decide +kernel
theorem dX1_readStreet_62 : decode cX1_readStreet 62 = .ok (.iload_n 2, 1) := by decide +kernel
theorem dX1_readStreet_63 : decode cX1_readStreet 63 = .ok (.iastore, 1) := by decide +kernel
theorem dX1_readStreet_64 : decode cX1_readStreet 64 = .ok (.aload_n 0, 1) := by decide +kernel
theorem dX1_readStreet_65 : decode cX1_readStreet 65 = .ok (.getfield 33, 3) := by decide +kernel
theorem dX1_readStreet_68 : decode cX1_readStreet 68 = .ok (.aload_n 0, 1) := by decide +kernel
theorem dX1_readStreet_69 : decode cX1_readStreet 69 = .ok (.getfield 52, 3) := by decide +kernel
theorem dX1_readStreet_72 : decode cX1_readStreet 72 = .ok (.iload_n 3, 1) := by decide +kernel
theorem dX1_readStreet_73 : decode cX1_readStreet 73 = .ok (.iastore, 1) := by decide +kernel
theorem dX1_readStreet_74 : decode cX1_readStreet 74 = .ok (.aload_n 0, 1) := by decide +kernel
theorem dX1_readStreet_75 : decode cX1_readStreet 75 = .ok (.getfield 36, 3) := by decide +kernel
theorem dX1_readStreet_78 : decode cX1_readStreet 78 = .ok (.aload_n 0, 1) := by decide +kernel
theorem dX1_readStreet_79 : decode cX1_readStreet 79 = .ok (.getfield 52, 3) := by decide +kernel
theorem dX1_readStreet_82 : decode cX1_readStreet 82 = .ok (.iload 4, 2) := by decide +kernel
theorem dX1_readStreet_84 : decode cX1_readStreet 84 = .ok (.iastore, 1) := by decide +kernel
theorem dX1_readStreet_85 : decode cX1_readStreet 85 = .ok (.aload_n 0, 1) := by decide +kernel
theorem dX1_readStreet_86 : decode cX1_readStreet 86 = .ok (.dup, 1) := by decide +kernel
theorem dX1_readStreet_87 : decode cX1_readStreet 87 = .ok (.getfield 52, 3) := by decide +kernel
theorem dX1_readStreet_90 : decode cX1_readStreet 90 = .ok (.iconst 1, 1) := by decide +kernel
theorem dX1_readStreet_91 : decode cX1_readStreet 91 = .ok (.iadd, 1) := by decide +kernel
theorem dX1_readStreet_92 : decode cX1_readStreet 92 = .ok (.putfield 52, 3) := by decide +kernel
theorem dX1_readStreet_95 : decode cX1_readStreet 95 = .ok (.return_, 1) := by decide +kernel
theorem dX1_readFish_0 : decode cX1_readFish 0 = .ok (.aload_n 1, 1) := by decide +kernel
theorem dX1_readFish_1 : decode cX1_readFish 1 = .ok (.iconst 0, 1) := by decide +kernel
theorem dX1_readFish_2 : decode cX1_readFish 2 = .ok (.aload_n 0, 1) := by decide +kernel
theorem dX1_readFish_3 : decode cX1_readFish 3 = .ok (.getfield 46, 3) := by decide +kernel
theorem dX1_readFish_6 : decode cX1_readFish 6 = .ok (.iconst 1, 1) := by decide +kernel
theorem dX1_readFish_7 : decode cX1_readFish 7 = .ok (.isub, 1) := by decide +kernel
theorem dX1_readFish_8 : decode cX1_readFish 8 = .ok (.invokevirtual 101, 3) := by decide +kernel
theorem dX1_readFish_11 : decode cX1_readFish 11 = .ok (.istore_n 2, 1) := by decide +kernel
theorem dX1_readFish_12 : decode cX1_readFish 12 = .ok (.aload_n 1, 1) := by decide +kernel
theorem dX1_readFish_13 : decode cX1_readFish 13 = .ok (.iconst 0, 1) := by decide +kernel
theorem dX1_readFish_14 : decode cX1_readFish 14 = .ok (.bipush 40, 2) := by decide +kernel
theorem dX1_readFish_16 : decode cX1_readFish 16 = .ok (.invokevirtual 101, 3) := by decide +kernel
theorem dX1_readFish_19 : decode cX1_readFish 19 = .ok (.istore_n 3, 1) := by decide +kernel
theorem dX1_readFish_20 : decode cX1_readFish 20 = .ok (.aload_n 1, 1) := by decide +kernel
theorem dX1_readFish_21 : decode cX1_readFish 21 = .ok (.invokevirtual 67, 3) := by decide +kernel
theorem dX1_readFish_24 : decode cX1_readFish 24 = .ok (.ifCond .ne 10, 3) := by decide +kernel
theorem dX1_readFish_27 : decode cX1_readFish 27 = .ok (.aload_n 0, 1) := by decide +kernel
theorem dX1_readFish_28 : decode cX1_readFish 28 = .ok (.getfield 21, 3) := by decide +kernel
theorem dX1_readFish_31 : decode cX1_readFish 31 = .ok (.iload_n 2, 1) := by decide +kernel
theorem dX1_readFish_32 : decode cX1_readFish 32 = .ok (.iload_n 3, 1) := by decide +kernel
theorem dX1_readFish_33 : decode cX1_readFish 33 = .ok (.iastore, 1) := by decide +kernel
theorem dX1_readFish_34 : decode cX1_readFish 34 = .ok (.return_, 1) := by decide +kernel
theorem dX1_isDrained_0 : decode cX1_isDrained 0 = .ok (.iconst 0, 1) := by decide +kernel
theorem dX1_isDrained_1 : decode cX1_isDrained 1 = .ok (.istore_n 3, 1) := by decide +kernel
theorem dX1_isDrained_2 : decode cX1_isDrained 2 = .ok (.aload_n 0, 1) := by decide +kernel
theorem dX1_isDrained_3 : decode cX1_isDrained 3 = .ok (.getfield 30, 3) := by decide +kernel
theorem dX1_isDrained_6 : decode cX1_isDrained 6 = .ok (.iload_n 1, 1) := by decide +kernel
theorem dX1_isDrained_7 : decode cX1_isDrained 7 = .ok (.iaload, 1) := by decide +kernel
theorem dX1_isDrained_8 : decode cX1_isDrained 8 = .ok (.istore 4, 2) := by decide +kernel
theorem dX1_isDrained_10 : decode cX1_isDrained 10 = .ok (.iload 4, 2) := by decide +kernel
theorem dX1_isDrained_12 : decode cX1_isDrained 12 = .ok (.aload_n 0, 1) := by decide +kernel
theorem dX1_isDrained_13 : decode cX1_isDrained 13 = .ok (.getfield 33, 3) := by decide +kernel
theorem dX1_isDrained_16 : decode cX1_isDrained 16 = .ok (.iload_n 1, 1) := by decide +kernel
theorem dX1_isDrained_17 : decode cX1_isDrained 17 = .ok (.iaload, 1) := by decide +kernel
theorem dX1_isDrained_18 : decode cX1_isDrained 18 = .ok (.if_icmp .gt 32, 3) := by decide +kernel
theorem dX1_isDrained_21 : decode cX1_isDrained 21 = .ok (.iload_n 3, 1) := by decide +kernel
theorem dX1_isDrained_22 : decode cX1_isDrained 22 = .ok (.iload_n 2, 1) := by decide +kernel
theorem dX1_isDrained_23 : decode cX1_isDrained 23 = .ok (.iload 4, 2) := by decide +kernel
theorem dX1_isDrained_25 : decode cX1_isDrained 25 = .ok (.invokestatic 111, 3) := by decide +kernel
theorem dX1_isDrained_28 : decode cX1_isDrained 28 = .ok (.ifCond .eq 13, 3) := by decide +kernel
theorem dX1_isDrained_31 : decode cX1_isDrained 31 = .ok (.aload_n 0, 1) := by decide +kernel
theorem dX1_isDrained_32 : decode cX1_isDrained 32 = .ok (.getfield 18, 3) := by decide +kernel
theorem dX1_isDrained_35 : decode cX1_isDrained 35 = .ok (.iload 4, 2) := by decide +kernel
theorem dX1_isDrained_37 : decode cX1_isDrained 37 = .ok (.iaload, 1) := by decide +kernel
theorem dX1_isDrained_38 : decode cX1_isDrained 38 = .ok (.goto 4, 3) := by decide +kernel
theorem dX1_isDrained_41 : decode cX1_isDrained 41 = .ok (.iconst 0, 1) := by decide +kernel
theorem dX1_isDrained_42 : decode cX1_isDrained 42 = .ok (.iadd, 1) := by decide +kernel
theorem dX1_isDrained_43 : decode cX1_isDrained 43 = .ok (.istore_n 3, 1) := by decide +kernel
theorem dX1_isDrained_44 : decode cX1_isDrained 44 = .ok (.iinc 4 1, 3) := by decide +kernel
theorem dX1_isDrained_47 : decode cX1_isDrained 47 = .ok (.goto (-37), 3) := by decide +kernel
theorem dX1_isDrained_50 : decode cX1_isDrained 50 = .ok (.iload_n 3, 1) := by decide +kernel
theorem dX1_isDrained_51 : decode cX1_isDrained 51 = .ok (.aload_n 0, 1) := by decide +kernel
theorem dX1_isDrained_52 : decode cX1_isDrained 52 = .ok (.getfield 36, 3) := by decide +kernel
theorem dX1_isDrained_55 : decode cX1_isDrained 55 = .ok (.iload_n 1, 1) := by decide +kernel
theorem dX1_isDrained_56 : decode cX1_isDrained 56 = .ok (.iaload, 1) := by decide +kernel
theorem dX1_isDrained_57 : decode cX1_isDrained 57 = .ok (.if_icmp .lt 7, 3) := by decide +kernel
theorem dX1_isDrained_60 : decode cX1_isDrained 60 = .ok (.iconst 1, 1) := by decide +kernel
theorem dX1_isDrained_61 : decode cX1_isDrained 61 = .ok (.goto 4, 3) := by decide +kernel
theorem dX1_isDrained_64 : decode cX1_isDrained 64 = .ok (.iconst 0, 1) := by decide +kernel
theorem dX1_isDrained_65 : decode cX1_isDrained 65 = .ok (.ireturn, 1) := by decide +kernel
theorem dX1_lowerThan_0 : decode cX1_lowerThan 0 = .ok (.iconst 0, 1) := by decide +kernel
theorem dX1_lowerThan_1 : decode cX1_lowerThan 1 = .ok (.istore_n 2, 1) := by decide +kernel
theorem dX1_lowerThan_2 : decode cX1_lowerThan 2 = .ok (.iconst 0, 1) := by decide +kernel
theorem dX1_lowerThan_3 : decode cX1_lowerThan 3 = .ok (.istore_n 3, 1) := by decide +kernel
theorem dX1_lowerThan_4 : decode cX1_lowerThan 4 = .ok (.iload_n 3, 1) := by decide +kernel
theorem dX1_lowerThan_5 : decode cX1_lowerThan 5 = .ok (.aload_n 0, 1) := by decide +kernel
theorem dX1_lowerThan_6 : decode cX1_lowerThan 6 = .ok (.getfield 46, 3) := by decide +kernel
theorem dX1_lowerThan_9 : decode cX1_lowerThan 9 = .ok (.if_icmp .ge 29, 3) := by decide +kernel
theorem dX1_lowerThan_12 : decode cX1_lowerThan 12 = .ok (.iload_n 2, 1) := by decide +kernel
theorem dX1_lowerThan_13 : decode cX1_lowerThan 13 = .ok (.aload_n 0, 1) := by decide +kernel
theorem dX1_lowerThan_14 : decode cX1_lowerThan 14 = .ok (.getfield 9, 3) := by decide +kernel
theorem dX1_lowerThan_17 : decode cX1_lowerThan 17 = .ok (.iload_n 3, 1) := by decide +kernel
theorem dX1_lowerThan_18 : decode cX1_lowerThan 18 = .ok (.iaload, 1) := by decide +kernel
theorem dX1_lowerThan_19 : decode cX1_lowerThan 19 = .ok (.iload_n 1, 1) := by decide +kernel
theorem dX1_lowerThan_20 : decode cX1_lowerThan 20 = .ok (.if_icmp .ge 9, 3) := by decide +kernel
theorem dX1_lowerThan_23 : decode cX1_lowerThan 23 = .ok (.iconst 1, 1) := by decide +kernel
theorem dX1_lowerThan_24 : decode cX1_lowerThan 24 = .ok (.iload_n 3, 1) := by decide +kernel
theorem dX1_lowerThan_25 : decode cX1_lowerThan 25 = .ok (.ishl, 1) := by decide +kernel
theorem dX1_lowerThan_26 : decode cX1_lowerThan 26 = .ok (.goto 4, 3) := by decide +kernel
theorem dX1_lowerThan_29 : decode cX1_lowerThan 29 = .ok (.iconst 0, 1) := by decide +kernel
theorem dX1_lowerThan_30 : decode cX1_lowerThan 30 = .ok (.ior, 1) := by decide +kernel
theorem dX1_lowerThan_31 : decode cX1_lowerThan 31 = .ok (.istore_n 2, 1) := by decide +kernel
theorem dX1_lowerThan_32 : decode cX1_lowerThan 32 = .ok (.iinc 3 1, 3) := by decide +kernel
theorem dX1_lowerThan_35 : decode cX1_lowerThan 35 = .ok (.goto (-31), 3) := by decide +kernel
theorem dX1_lowerThan_38 : decode cX1_lowerThan 38 = .ok (.iload_n 2, 1) := by decide +kernel
theorem dX1_lowerThan_39 : decode cX1_lowerThan 39 = .ok (.ireturn, 1) := by decide +kernel
theorem dX1_bearing_0 : decode cX1_bearing 0 = .ok (.iconst 0, 1) := by decide +kernel
theorem dX1_bearing_1 : decode cX1_bearing 1 = .ok (.istore_n 2, 1) := by decide +kernel
theorem dX1_bearing_2 : decode cX1_bearing 2 = .ok (.iconst 0, 1) := by decide +kernel
theorem dX1_bearing_3 : decode cX1_bearing 3 = .ok (.istore_n 3, 1) := by decide +kernel
theorem dX1_bearing_4 : decode cX1_bearing 4 = .ok (.iload_n 3, 1) := by decide +kernel
theorem dX1_bearing_5 : decode cX1_bearing 5 = .ok (.aload_n 0, 1) := by decide +kernel
theorem dX1_bearing_6 : decode cX1_bearing 6 = .ok (.getfield 46, 3) := by decide +kernel
theorem dX1_bearing_9 : decode cX1_bearing 9 = .ok (.if_icmp .ge 29, 3) := by decide +kernel
theorem dX1_bearing_12 : decode cX1_bearing 12 = .ok (.iload_n 2, 1) := by decide +kernel
theorem dX1_bearing_13 : decode cX1_bearing 13 = .ok (.aload_n 0, 1) := by decide +kernel
theorem dX1_bearing_14 : decode cX1_bearing 14 = .ok (.getfield 15, 3) := by decide +kernel
theorem dX1_bearing_17 : decode cX1_bearing 17 = .ok (.iload_n 3, 1) := by decide +kernel
theorem dX1_bearing_18 : decode cX1_bearing 18 = .ok (.iaload, 1) := by decide +kernel
theorem dX1_bearing_19 : decode cX1_bearing 19 = .ok (.iload_n 1, 1) := by decide +kernel
theorem dX1_bearing_20 : decode cX1_bearing 20 = .ok (.if_icmp .lt 9, 3) := by decide +kernel
theorem dX1_bearing_23 : decode cX1_bearing 23 = .ok (.iconst 1, 1) := by decide +kernel
theorem dX1_bearing_24 : decode cX1_bearing 24 = .ok (.iload_n 3, 1) := by decide +kernel
theorem dX1_bearing_25 : decode cX1_bearing 25 = .ok (.ishl, 1) := by decide +kernel
theorem dX1_bearing_26 : decode cX1_bearing 26 = .ok (.goto 4, 3) := by decide +kernel
theorem dX1_bearing_29 : decode cX1_bearing 29 = .ok (.iconst 0, 1) := by decide +kernel
theorem dX1_bearing_30 : decode cX1_bearing 30 = .ok (.ior, 1) := by decide +kernel
theorem dX1_bearing_31 : decode cX1_bearing 31 = .ok (.istore_n 2, 1) := by decide +kernel
theorem dX1_bearing_32 : decode cX1_bearing 32 = .ok (.iinc 3 1, 3) := by decide +kernel
theorem dX1_bearing_35 : decode cX1_bearing 35 = .ok (.goto (-31), 3) := by decide +kernel
theorem dX1_bearing_38 : decode cX1_bearing 38 = .ok (.iload_n 2, 1) := by decide +kernel
theorem dX1_bearing_39 : decode cX1_bearing 39 = .ok (.ireturn, 1) := by decide +kernel
theorem dX1_hoursTo_0 : decode cX1_hoursTo 0 = .ok (.aload_n 0, 1) := by decide +kernel
theorem dX1_hoursTo_1 : decode cX1_hoursTo 1 = .ok (.getfield 39, 3) := by decide +kernel
theorem dX1_hoursTo_4 : decode cX1_hoursTo 4 = .ok (.ifCond .le 12, 3) := by decide +kernel
theorem dX1_hoursTo_7 : decode cX1_hoursTo 7 = .ok (.iload_n 1, 1) := by decide +kernel
theorem dX1_hoursTo_8 : decode cX1_hoursTo 8 = .ok (.aload_n 0, 1) := by decide +kernel
theorem dX1_hoursTo_9 : decode cX1_hoursTo 9 = .ok (.getfield 39, 3) := by decide +kernel
theorem dX1_hoursTo_12 : decode cX1_hoursTo 12 = .ok (.idiv, 1) := by decide +kernel
theorem dX1_hoursTo_13 : decode cX1_hoursTo 13 = .ok (.goto 4, 3) := by decide +kernel
theorem dX1_hoursTo_16 : decode cX1_hoursTo 16 = .ok (.iconst 0, 1) := by decide +kernel
theorem dX1_hoursTo_17 : decode cX1_hoursTo 17 = .ok (.ireturn, 1) := by decide +kernel
theorem dX2_init_0 : decode cX2_init 0 = .ok (.aload_n 0, 1) := by decide +kernel
theorem dX2_init_1 : decode cX2_init 1 = .ok (.invokespecial 3, 3) := by decide +kernel
theorem dX2_init_4 : decode cX2_init 4 = .ok (.aload_n 0, 1) := by decide +kernel
theorem dX2_init_5 : decode cX2_init 5 = .ok (.bipush 8, 2) := by decide +kernel
theorem dX2_init_7 : decode cX2_init 7 = .ok (.newarray .int, 2) := by decide +kernel
theorem dX2_init_9 : decode cX2_init 9 = .ok (.putfield 9, 3) := by decide +kernel
theorem dX2_init_12 : decode cX2_init 12 = .ok (.aload_n 0, 1) := by decide +kernel
theorem dX2_init_13 : decode cX2_init 13 = .ok (.aload_n 1, 1) := by decide +kernel
theorem dX2_init_14 : decode cX2_init 14 = .ok (.putfield 15, 3) := by decide +kernel
theorem dX2_init_17 : decode cX2_init 17 = .ok (.return_, 1) := by decide +kernel
theorem dX2_fewest_0 : decode cX2_fewest 0 = .ok (.iconst 0, 1) := by decide +kernel
theorem dX2_fewest_1 : decode cX2_fewest 1 = .ok (.istore_n 2, 1) := by decide +kernel
theorem dX2_fewest_2 : decode cX2_fewest 2 = .ok (.iload_n 2, 1) := by decide +kernel
theorem dX2_fewest_3 : decode cX2_fewest 3 = .ok (.aload_n 0, 1) := by decide +kernel
theorem dX2_fewest_4 : decode cX2_fewest 4 = .ok (.getfield 15, 3) := by decide +kernel
theorem dX2_fewest_7 : decode cX2_fewest 7 = .ok (.getfield 19, 3) := by decide +kernel
theorem dX2_fewest_10 : decode cX2_fewest 10 = .ok (.if_icmp .ge 36, 3) := by decide +kernel
theorem dX2_fewest_13 : decode cX2_fewest 13 = .ok (.aload_n 0, 1) := by decide +kernel
theorem dX2_fewest_14 : decode cX2_fewest 14 = .ok (.getfield 9, 3) := by decide +kernel
theorem dX2_fewest_17 : decode cX2_fewest 17 = .ok (.iload_n 2, 1) := by decide +kernel
theorem dX2_fewest_18 : decode cX2_fewest 18 = .ok (.iload_n 1, 1) := by decide +kernel
theorem dX2_fewest_19 : decode cX2_fewest 19 = .ok (.iload_n 2, 1) := by decide +kernel
theorem dX2_fewest_20 : decode cX2_fewest 20 = .ok (.invokestatic 25, 3) := by decide +kernel
theorem dX2_fewest_23 : decode cX2_fewest 23 = .ok (.ifCond .eq 15, 3) := by decide +kernel
theorem dX2_fewest_26 : decode cX2_fewest 26 = .ok (.aload_n 0, 1) := by decide +kernel
theorem dX2_fewest_27 : decode cX2_fewest 27 = .ok (.getfield 15, 3) := by decide +kernel
theorem dX2_fewest_30 : decode cX2_fewest 30 = .ok (.getfield 29, 3) := by decide +kernel
theorem dX2_fewest_33 : decode cX2_fewest 33 = .ok (.iload_n 2, 1) := by decide +kernel
theorem dX2_fewest_34 : decode cX2_fewest 34 = .ok (.iaload, 1) := by decide +kernel
theorem dX2_fewest_35 : decode cX2_fewest 35 = .ok (.goto 4, 3) := by decide +kernel
theorem dX2_fewest_38 : decode cX2_fewest 38 = .ok (.iconst 0, 1) := by decide +kernel
theorem dX2_fewest_39 : decode cX2_fewest 39 = .ok (.iastore, 1) := by decide +kernel
theorem dX2_fewest_40 : decode cX2_fewest 40 = .ok (.iinc 2 1, 3) := by decide +kernel
theorem dX2_fewest_43 : decode cX2_fewest 43 = .ok (.goto (-41), 3) := by decide +kernel
theorem dX2_fewest_46 : decode cX2_fewest 46 = .ok (.iconst 0, 1) := by decide +kernel
theorem dX2_fewest_47 : decode cX2_fewest 47 = .ok (.istore_n 2, 1) := by decide +kernel
theorem dX2_fewest_48 : decode cX2_fewest 48 = .ok (.iload_n 2, 1) := by decide +kernel
theorem dX2_fewest_49 : decode cX2_fewest 49 = .ok (.aload_n 0, 1) := by decide +kernel
theorem dX2_fewest_50 : decode cX2_fewest 50 = .ok (.getfield 15, 3) := by decide +kernel
theorem dX2_fewest_53 : decode cX2_fewest 53 = .ok (.getfield 32, 3) := by decide +kernel
theorem dX2_fewest_56 : decode cX2_fewest 56 = .ok (.if_icmp .gt 36, 3) := by decide +kernel
theorem dX2_fewest_59 : decode cX2_fewest 59 = .ok (.aload_n 0, 1) := by decide +kernel
theorem dX2_fewest_60 : decode cX2_fewest 60 = .ok (.iconst 0, 1) := by decide +kernel
theorem dX2_fewest_61 : decode cX2_fewest 61 = .ok (.putfield 35, 3) := by decide +kernel
theorem dX2_fewest_64 : decode cX2_fewest 64 = .ok (.aload_n 0, 1) := by decide +kernel
theorem dX2_fewest_65 : decode cX2_fewest 65 = .ok (.aload_n 0, 1) := by decide +kernel
theorem dX2_fewest_66 : decode cX2_fewest 66 = .ok (.getfield 15, 3) := by decide +kernel
theorem dX2_fewest_69 : decode cX2_fewest 69 = .ok (.getfield 32, 3) := by decide +kernel
theorem dX2_fewest_72 : decode cX2_fewest 72 = .ok (.iconst 1, 1) := by decide +kernel
theorem dX2_fewest_73 : decode cX2_fewest 73 = .ok (.isub, 1) := by decide +kernel
theorem dX2_fewest_74 : decode cX2_fewest 74 = .ok (.iload_n 2, 1) := by decide +kernel
theorem dX2_fewest_75 : decode cX2_fewest 75 = .ok (.invokevirtual 38, 3) := by decide +kernel
theorem dX2_fewest_78 : decode cX2_fewest 78 = .ok (.ifCond .eq 8, 3) := by decide +kernel
theorem dX2_fewest_81 : decode cX2_fewest 81 = .ok (.aload_n 0, 1) := by decide +kernel
theorem dX2_fewest_82 : decode cX2_fewest 82 = .ok (.getfield 35, 3) := by decide +kernel
theorem dX2_fewest_85 : decode cX2_fewest 85 = .ok (.ireturn, 1) := by decide +kernel
theorem dX2_fewest_86 : decode cX2_fewest 86 = .ok (.iinc 2 1, 3) := by decide +kernel
theorem dX2_fewest_89 : decode cX2_fewest 89 = .ok (.goto (-41), 3) := by decide +kernel
theorem dX2_fewest_92 : decode cX2_fewest 92 = .ok (.iconst (-1), 1) := by decide +kernel
theorem dX2_fewest_93 : decode cX2_fewest 93 = .ok (.ireturn, 1) := by decide +kernel
theorem dX2_choose_0 : decode cX2_choose 0 = .ok (.aload_n 0, 1) := by decide +kernel
theorem dX2_choose_1 : decode cX2_choose 1 = .ok (.iload_n 1, 1) := by decide +kernel
theorem dX2_choose_2 : decode cX2_choose 2 = .ok (.iload_n 2, 1) := by decide +kernel
theorem dX2_choose_3 : decode cX2_choose 3 = .ok (.invokevirtual 41, 3) := by decide +kernel
theorem dX2_choose_6 : decode cX2_choose 6 = .ok (.ifCond .ne 5, 3) := by decide +kernel
theorem dX2_choose_9 : decode cX2_choose 9 = .ok (.iconst 0, 1) := by decide +kernel
theorem dX2_choose_10 : decode cX2_choose 10 = .ok (.ireturn, 1) := by decide +kernel
theorem dX2_choose_11 : decode cX2_choose 11 = .ok (.iload_n 2, 1) := by decide +kernel
theorem dX2_choose_12 : decode cX2_choose 12 = .ok (.ifCond .eq 7, 3) := by decide +kernel
theorem dX2_choose_15 : decode cX2_choose 15 = .ok (.iload_n 1, 1) := by decide +kernel
theorem dX2_choose_16 : decode cX2_choose 16 = .ok (.ifCond .ge 13, 3) := by decide +kernel
theorem dX2_choose_19 : decode cX2_choose 19 = .ok (.iload_n 2, 1) := by decide +kernel
theorem dX2_choose_20 : decode cX2_choose 20 = .ok (.ifCond .ne 7, 3) := by decide +kernel
theorem dX2_choose_23 : decode cX2_choose 23 = .ok (.iconst 1, 1) := by decide +kernel
theorem dX2_choose_24 : decode cX2_choose 24 = .ok (.goto 4, 3) := by decide +kernel
theorem dX2_choose_27 : decode cX2_choose 27 = .ok (.iconst 0, 1) := by decide +kernel
theorem dX2_choose_28 : decode cX2_choose 28 = .ok (.ireturn, 1) := by decide +kernel
theorem dX2_choose_29 : decode cX2_choose 29 = .ok (.aload_n 0, 1) := by decide +kernel
theorem dX2_choose_30 : decode cX2_choose 30 = .ok (.iload_n 1, 1) := by decide +kernel
theorem dX2_choose_31 : decode cX2_choose 31 = .ok (.iconst 1, 1) := by decide +kernel
theorem dX2_choose_32 : decode cX2_choose 32 = .ok (.isub, 1) := by decide +kernel
theorem dX2_choose_33 : decode cX2_choose 33 = .ok (.iload_n 2, 1) := by decide +kernel
theorem dX2_choose_34 : decode cX2_choose 34 = .ok (.invokevirtual 38, 3) := by decide +kernel
theorem dX2_choose_37 : decode cX2_choose 37 = .ok (.ifCond .eq 5, 3) := by decide +kernel
theorem dX2_choose_40 : decode cX2_choose 40 = .ok (.iconst 1, 1) := by decide +kernel
theorem dX2_choose_41 : decode cX2_choose 41 = .ok (.ireturn, 1) := by decide +kernel
theorem dX2_choose_42 : decode cX2_choose 42 = .ok (.aload_n 0, 1) := by decide +kernel
theorem dX2_choose_43 : decode cX2_choose 43 = .ok (.iload_n 1, 1) := by decide +kernel
theorem dX2_choose_44 : decode cX2_choose 44 = .ok (.aload_n 0, 1) := by decide +kernel
theorem dX2_choose_45 : decode cX2_choose 45 = .ok (.getfield 15, 3) := by decide +kernel
theorem dX2_choose_48 : decode cX2_choose 48 = .ok (.getfield 44, 3) := by decide +kernel
theorem dX2_choose_51 : decode cX2_choose 51 = .ok (.iload_n 1, 1) := by decide +kernel
theorem dX2_choose_52 : decode cX2_choose 52 = .ok (.iaload, 1) := by decide +kernel
theorem dX2_choose_53 : decode cX2_choose 53 = .ok (.invokevirtual 47, 3) := by decide +kernel
theorem dX2_choose_56 : decode cX2_choose 56 = .ok (.aload_n 0, 1) := by decide +kernel
theorem dX2_choose_57 : decode cX2_choose 57 = .ok (.iload_n 1, 1) := by decide +kernel
theorem dX2_choose_58 : decode cX2_choose 58 = .ok (.iconst 1, 1) := by decide +kernel
theorem dX2_choose_59 : decode cX2_choose 59 = .ok (.isub, 1) := by decide +kernel
theorem dX2_choose_60 : decode cX2_choose 60 = .ok (.iload_n 2, 1) := by decide +kernel
theorem dX2_choose_61 : decode cX2_choose 61 = .ok (.iconst 1, 1) := by decide +kernel
theorem dX2_choose_62 : decode cX2_choose 62 = .ok (.isub, 1) := by decide +kernel
theorem dX2_choose_63 : decode cX2_choose 63 = .ok (.invokevirtual 38, 3) := by decide +kernel
theorem dX2_choose_66 : decode cX2_choose 66 = .ok (.ifCond .eq 17, 3) := by decide +kernel
theorem dX2_choose_69 : decode cX2_choose 69 = .ok (.aload_n 0, 1) := by decide +kernel
theorem dX2_choose_70 : decode cX2_choose 70 = .ok (.dup, 1) := by decide +kernel
theorem dX2_choose_71 : decode cX2_choose 71 = .ok (.getfield 35, 3) := by decide +kernel
theorem dX2_choose_74 : decode cX2_choose 74 = .ok (.iconst 1, 1) := by decide +kernel
theorem dX2_choose_75 : decode cX2_choose 75 = .ok (.iload_n 1, 1) := by decide +kernel
theorem dX2_choose_76 : decode cX2_choose 76 = .ok (.ishl, 1) := by decide +kernel
theorem dX2_choose_77 : decode cX2_choose 77 = .ok (.ior, 1) := by decide +kernel
theorem dX2_choose_78 : decode cX2_choose 78 = .ok (.putfield 35, 3) := by decide +kernel
theorem dX2_choose_81 : decode cX2_choose 81 = .ok (.iconst 1, 1) := by decide +kernel
theorem dX2_choose_82 : decode cX2_choose 82 = .ok (.ireturn, 1) := by decide +kernel
theorem dX2_choose_83 : decode cX2_choose 83 = .ok (.aload_n 0, 1) := by decide +kernel
theorem dX2_choose_84 : decode cX2_choose 84 = .ok (.iload_n 1, 1) := by decide +kernel
theorem dX2_choose_85 : decode cX2_choose 85 = .ok (.aload_n 0, 1) := by decide +kernel
theorem dX2_choose_86 : decode cX2_choose 86 = .ok (.getfield 15, 3) := by decide +kernel
theorem dX2_choose_89 : decode cX2_choose 89 = .ok (.getfield 44, 3) := by decide +kernel
theorem dX2_choose_92 : decode cX2_choose 92 = .ok (.iload_n 1, 1) := by decide +kernel
theorem dX2_choose_93 : decode cX2_choose 93 = .ok (.iaload, 1) := by decide +kernel
theorem dX2_choose_94 : decode cX2_choose 94 = .ok (.ineg, 1) := by decide +kernel
theorem dX2_choose_95 : decode cX2_choose 95 = .ok (.invokevirtual 47, 3) := by decide +kernel
theorem dX2_choose_98 : decode cX2_choose 98 = .ok (.iconst 0, 1) := by decide +kernel
theorem dX2_choose_99 : decode cX2_choose 99 = .ok (.ireturn, 1) := by decide +kernel
theorem dX2_drain_0 : decode cX2_drain 0 = .ok (.iconst 0, 1) := by decide +kernel
theorem dX2_drain_1 : decode cX2_drain 1 = .ok (.istore_n 3, 1) := by decide +kernel
theorem dX2_drain_2 : decode cX2_drain 2 = .ok (.iload_n 3, 1) := by decide +kernel
theorem dX2_drain_3 : decode cX2_drain 3 = .ok (.aload_n 0, 1) := by decide +kernel
theorem dX2_drain_4 : decode cX2_drain 4 = .ok (.getfield 15, 3) := by decide +kernel
theorem dX2_drain_7 : decode cX2_drain 7 = .ok (.getfield 19, 3) := by decide +kernel
theorem dX2_drain_10 : decode cX2_drain 10 = .ok (.if_icmp .ge 45, 3) := by decide +kernel
theorem dX2_drain_13 : decode cX2_drain 13 = .ok (.aload_n 0, 1) := by decide +kernel
theorem dX2_drain_14 : decode cX2_drain 14 = .ok (.getfield 15, 3) := by decide +kernel
theorem dX2_drain_17 : decode cX2_drain 17 = .ok (.getfield 51, 3) := by decide +kernel
theorem dX2_drain_20 : decode cX2_drain 20 = .ok (.iload_n 3, 1) := by decide +kernel
theorem dX2_drain_21 : decode cX2_drain 21 = .ok (.iaload, 1) := by decide +kernel
theorem dX2_drain_22 : decode cX2_drain 22 = .ok (.iload_n 1, 1) := by decide +kernel
theorem dX2_drain_23 : decode cX2_drain 23 = .ok (.if_icmp .gt 26, 3) := by decide +kernel
theorem dX2_drain_26 : decode cX2_drain 26 = .ok (.iload_n 1, 1) := by decide +kernel
theorem dX2_drain_27 : decode cX2_drain 27 = .ok (.aload_n 0, 1) := by decide +kernel
theorem dX2_drain_28 : decode cX2_drain 28 = .ok (.getfield 15, 3) := by decide +kernel
theorem dX2_drain_31 : decode cX2_drain 31 = .ok (.getfield 54, 3) := by decide +kernel
theorem dX2_drain_34 : decode cX2_drain 34 = .ok (.iload_n 3, 1) := by decide +kernel
theorem dX2_drain_35 : decode cX2_drain 35 = .ok (.iaload, 1) := by decide +kernel
theorem dX2_drain_36 : decode cX2_drain 36 = .ok (.if_icmp .gt 13, 3) := by decide +kernel
theorem dX2_drain_39 : decode cX2_drain 39 = .ok (.aload_n 0, 1) := by decide +kernel
theorem dX2_drain_40 : decode cX2_drain 40 = .ok (.getfield 9, 3) := by decide +kernel
theorem dX2_drain_43 : decode cX2_drain 43 = .ok (.iload_n 3, 1) := by decide +kernel
theorem dX2_drain_44 : decode cX2_drain 44 = .ok (.dup2, 1) := by decide +kernel
theorem dX2_drain_45 : decode cX2_drain 45 = .ok (.iaload, 1) := by decide +kernel
theorem dX2_drain_46 : decode cX2_drain 46 = .ok (.iload_n 2, 1) := by decide +kernel
theorem dX2_drain_47 : decode cX2_drain 47 = .ok (.isub, 1) := by decide +kernel
theorem dX2_drain_48 : decode cX2_drain 48 = .ok (.iastore, 1) := by decide +kernel
theorem dX2_drain_49 : decode cX2_drain 49 = .ok (.iinc 3 1, 3) := by decide +kernel
theorem dX2_drain_52 : decode cX2_drain 52 = .ok (.goto (-50), 3) := by decide +kernel
theorem dX2_drain_55 : decode cX2_drain 55 = .ok (.return_, 1) := by decide +kernel
theorem dX2_couldHold_0 : decode cX2_couldHold 0 = .ok (.iconst 0, 1) := by decide +kernel
theorem dX2_couldHold_1 : decode cX2_couldHold 1 = .ok (.istore_n 3, 1) := by decide +kernel
theorem dX2_couldHold_2 : decode cX2_couldHold 2 = .ok (.iload_n 3, 1) := by decide +kernel
theorem dX2_couldHold_3 : decode cX2_couldHold 3 = .ok (.aload_n 0, 1) := by decide +kernel
theorem dX2_couldHold_4 : decode cX2_couldHold 4 = .ok (.getfield 15, 3) := by decide +kernel
theorem dX2_couldHold_7 : decode cX2_couldHold 7 = .ok (.getfield 19, 3) := by decide +kernel
theorem dX2_couldHold_10 : decode cX2_couldHold 10 = .ok (.if_icmp .ge 115, 3) := by decide +kernel
theorem dX2_couldHold_13 : decode cX2_couldHold 13 = .ok (.iconst 0, 1) := by decide +kernel
theorem dX2_couldHold_14 : decode cX2_couldHold 14 = .ok (.istore 4, 2) := by decide +kernel
theorem dX2_couldHold_16 : decode cX2_couldHold 16 = .ok (.iconst 0, 1) := by decide +kernel
theorem dX2_couldHold_17 : decode cX2_couldHold 17 = .ok (.istore 5, 2) := by decide +kernel
theorem dX2_couldHold_19 : decode cX2_couldHold 19 = .ok (.aload_n 0, 1) := by decide +kernel
theorem dX2_couldHold_20 : decode cX2_couldHold 20 = .ok (.getfield 9, 3) := by decide +kernel
theorem dX2_couldHold_23 : decode cX2_couldHold 23 = .ok (.iload_n 3, 1) := by decide +kernel
theorem dX2_couldHold_24 : decode cX2_couldHold 24 = .ok (.iaload, 1) := by decide +kernel
theorem dX2_couldHold_25 : decode cX2_couldHold 25 = .ok (.ifCond .le 74, 3) := by decide +kernel
theorem dX2_couldHold_28 : decode cX2_couldHold 28 = .ok (.iload_n 1, 1) := by decide +kernel
theorem dX2_couldHold_29 : decode cX2_couldHold 29 = .ok (.aload_n 0, 1) := by decide +kernel
theorem dX2_couldHold_30 : decode cX2_couldHold 30 = .ok (.getfield 15, 3) := by decide +kernel
theorem dX2_couldHold_33 : decode cX2_couldHold 33 = .ok (.getfield 54, 3) := by decide +kernel
theorem dX2_couldHold_36 : decode cX2_couldHold 36 = .ok (.iload_n 3, 1) := by decide +kernel
theorem dX2_couldHold_37 : decode cX2_couldHold 37 = .ok (.iaload, 1) := by decide +kernel
theorem dX2_couldHold_38 : decode cX2_couldHold 38 = .ok (.invokestatic 57, 3) := by decide +kernel
theorem dX2_couldHold_41 : decode cX2_couldHold 41 = .ok (.istore 6, 2) := by decide +kernel
theorem dX2_couldHold_43 : decode cX2_couldHold 43 = .ok (.aload_n 0, 1) := by decide +kernel
theorem dX2_couldHold_44 : decode cX2_couldHold 44 = .ok (.getfield 15, 3) := by decide +kernel
theorem dX2_couldHold_47 : decode cX2_couldHold 47 = .ok (.getfield 51, 3) := by decide +kernel
theorem dX2_couldHold_50 : decode cX2_couldHold 50 = .ok (.iload_n 3, 1) := by decide +kernel
theorem dX2_couldHold_51 : decode cX2_couldHold 51 = .ok (.iaload, 1) := by decide +kernel
theorem dX2_couldHold_52 : decode cX2_couldHold 52 = .ok (.istore 7, 2) := by decide +kernel
theorem dX2_couldHold_54 : decode cX2_couldHold 54 = .ok (.iload 7, 2) := by decide +kernel
theorem dX2_couldHold_56 : decode cX2_couldHold 56 = .ok (.iload 6, 2) := by decide +kernel
theorem dX2_couldHold_58 : decode cX2_couldHold 58 = .ok (.if_icmp .gt 41, 3) := by decide +kernel
theorem dX2_couldHold_61 : decode cX2_couldHold 61 = .ok (.iload 4, 2) := by decide +kernel
theorem dX2_couldHold_63 : decode cX2_couldHold 63 = .ok (.aload_n 0, 1) := by decide +kernel
theorem dX2_couldHold_64 : decode cX2_couldHold 64 = .ok (.getfield 15, 3) := by decide +kernel
theorem dX2_couldHold_67 : decode cX2_couldHold 67 = .ok (.getfield 44, 3) := by decide +kernel
theorem dX2_couldHold_70 : decode cX2_couldHold 70 = .ok (.iload 7, 2) := by decide +kernel
theorem dX2_couldHold_72 : decode cX2_couldHold 72 = .ok (.iaload, 1) := by decide +kernel
theorem dX2_couldHold_73 : decode cX2_couldHold 73 = .ok (.iadd, 1) := by decide +kernel
theorem dX2_couldHold_74 : decode cX2_couldHold 74 = .ok (.istore 4, 2) := by decide +kernel
theorem dX2_couldHold_76 : decode cX2_couldHold 76 = .ok (.iload 5, 2) := by decide +kernel
theorem dX2_couldHold_78 : decode cX2_couldHold 78 = .ok (.aload_n 0, 1) := by decide +kernel
theorem dX2_couldHold_79 : decode cX2_couldHold 79 = .ok (.getfield 15, 3) := by decide +kernel
theorem dX2_couldHold_82 : decode cX2_couldHold 82 = .ok (.getfield 44, 3) := by decide +kernel
theorem dX2_couldHold_85 : decode cX2_couldHold 85 = .ok (.iload 7, 2) := by decide +kernel
theorem dX2_couldHold_87 : decode cX2_couldHold 87 = .ok (.iaload, 1) := by decide +kernel
theorem dX2_couldHold_88 : decode cX2_couldHold 88 = .ok (.invokestatic 63, 3) := by decide +kernel
theorem dX2_couldHold_91 : decode cX2_couldHold 91 = .ok (.istore 5, 2) := by decide +kernel
theorem dX2_couldHold_93 : decode cX2_couldHold 93 = .ok (.iinc 7 1, 3) := by decide +kernel
theorem dX2_couldHold_96 : decode cX2_couldHold 96 = .ok (.goto (-42), 3) := by decide +kernel
theorem dX2_couldHold_99 : decode cX2_couldHold 99 = .ok (.aload_n 0, 1) := by decide +kernel
theorem dX2_couldHold_100 : decode cX2_couldHold 100 = .ok (.getfield 9, 3) := by decide +kernel
theorem dX2_couldHold_103 : decode cX2_couldHold 103 = .ok (.iload_n 3, 1) := by decide +kernel
theorem dX2_couldHold_104 : decode cX2_couldHold 104 = .ok (.iaload, 1) := by decide +kernel
theorem dX2_couldHold_105 : decode cX2_couldHold 105 = .ok (.iload 4, 2) := by decide +kernel
theorem dX2_couldHold_107 : decode cX2_couldHold 107 = .ok (.iload_n 2, 1) := by decide +kernel
theorem dX2_couldHold_108 : decode cX2_couldHold 108 = .ok (.iload 5, 2) := by decide +kernel
theorem dX2_couldHold_110 : decode cX2_couldHold 110 = .ok (.imul, 1) := by decide +kernel
theorem dX2_couldHold_111 : decode cX2_couldHold 111 = .ok (.invokestatic 57, 3) := by decide +kernel
theorem dX2_couldHold_114 : decode cX2_couldHold 114 = .ok (.if_icmp .le 5, 3) := by decide +kernel
theorem dX2_couldHold_117 : decode cX2_couldHold 117 = .ok (.iconst 0, 1) := by decide +kernel
theorem dX2_couldHold_118 : decode cX2_couldHold 118 = .ok (.ireturn, 1) := by decide +kernel
theorem dX2_couldHold_119 : decode cX2_couldHold 119 = .ok (.iinc 3 1, 3) := by decide +kernel
theorem dX2_couldHold_122 : decode cX2_couldHold 122 = .ok (.goto (-120), 3) := by decide +kernel
theorem dX2_couldHold_125 : decode cX2_couldHold 125 = .ok (.iconst 1, 1) := by decide +kernel
theorem dX2_couldHold_126 : decode cX2_couldHold 126 = .ok (.ireturn, 1) := by decide +kernel
theorem dX3_init_0 : decode cX3_init 0 = .ok (.aload_n 0, 1) := by decide +kernel
theorem dX3_init_1 : decode cX3_init 1 = .ok (.invokespecial 3, 3) := by decide +kernel
theorem dX3_init_4 : decode cX3_init 4 = .ok (.aload_n 0, 1) := by decide +kernel
theorem dX3_init_5 : decode cX3_init 5 = .ok (.sipush 150, 3) := by decide +kernel
theorem dX3_init_8 : decode cX3_init 8 = .ok (.newarray .int, 2) := by decide +kernel
theorem dX3_init_10 : decode cX3_init 10 = .ok (.putfield 9, 3) := by decide +kernel
theorem dX3_init_13 : decode cX3_init 13 = .ok (.aload_n 0, 1) := by decide +kernel
theorem dX3_init_14 : decode cX3_init 14 = .ok (.sipush 150, 3) := by decide +kernel
theorem dX3_init_17 : decode cX3_init 17 = .ok (.newarray .int, 2) := by decide +kernel
theorem dX3_init_19 : decode cX3_init 19 = .ok (.putfield 15, 3) := by decide +kernel
theorem dX3_init_22 : decode cX3_init 22 = .ok (.aload_n 0, 1) := by decide +kernel
theorem dX3_init_23 : decode cX3_init 23 = .ok (.sipush 150, 3) := by decide +kernel
theorem dX3_init_26 : decode cX3_init 26 = .ok (.newarray .int, 2) := by decide +kernel
theorem dX3_init_28 : decode cX3_init 28 = .ok (.putfield 18, 3) := by decide +kernel
theorem dX3_init_31 : decode cX3_init 31 = .ok (.aload_n 0, 1) := by decide +kernel
theorem dX3_init_32 : decode cX3_init 32 = .ok (.bipush 8, 2) := by decide +kernel
theorem dX3_init_34 : decode cX3_init 34 = .ok (.newarray .int, 2) := by decide +kernel
theorem dX3_init_36 : decode cX3_init 36 = .ok (.putfield 21, 3) := by decide +kernel
theorem dX3_init_39 : decode cX3_init 39 = .ok (.aload_n 0, 1) := by decide +kernel
theorem dX3_init_40 : decode cX3_init 40 = .ok (.invokevirtual 24, 3) := by decide +kernel
theorem dX3_init_43 : decode cX3_init 43 = .ok (.return_, 1) := by decide +kernel
theorem dX3_beUntold_0 : decode cX3_beUntold 0 = .ok (.aload_n 0, 1) := by decide +kernel
theorem dX3_beUntold_1 : decode cX3_beUntold 1 = .ok (.iconst 0, 1) := by decide +kernel
theorem dX3_beUntold_2 : decode cX3_beUntold 2 = .ok (.putfield 27, 3) := by decide +kernel
theorem dX3_beUntold_5 : decode cX3_beUntold 5 = .ok (.aload_n 0, 1) := by decide +kernel
theorem dX3_beUntold_6 : decode cX3_beUntold 6 = .ok (.bipush 16, 2) := by decide +kernel
theorem dX3_beUntold_8 : decode cX3_beUntold 8 = .ok (.invokevirtual 31, 3) := by decide +kernel
theorem dX3_beUntold_11 : decode cX3_beUntold 11 = .ok (.aload_n 0, 1) := by decide +kernel
theorem dX3_beUntold_12 : decode cX3_beUntold 12 = .ok (.iconst 0, 1) := by decide +kernel
theorem dX3_beUntold_13 : decode cX3_beUntold 13 = .ok (.invokevirtual 31, 3) := by decide +kernel
theorem dX3_beUntold_16 : decode cX3_beUntold 16 = .ok (.aload_n 0, 1) := by decide +kernel
theorem dX3_beUntold_17 : decode cX3_beUntold 17 = .ok (.bipush 27, 2) := by decide +kernel
theorem dX3_beUntold_19 : decode cX3_beUntold 19 = .ok (.invokevirtual 31, 3) := by decide +kernel
theorem dX3_beUntold_22 : decode cX3_beUntold 22 = .ok (.aload_n 0, 1) := by decide +kernel
theorem dX3_beUntold_23 : decode cX3_beUntold 23 = .ok (.bipush 11, 2) := by decide +kernel
theorem dX3_beUntold_25 : decode cX3_beUntold 25 = .ok (.invokevirtual 31, 3) := by decide +kernel
theorem dX3_beUntold_28 : decode cX3_beUntold 28 = .ok (.aload_n 0, 1) := by decide +kernel
theorem dX3_beUntold_29 : decode cX3_beUntold 29 = .ok (.bipush 27, 2) := by decide +kernel
theorem dX3_beUntold_31 : decode cX3_beUntold 31 = .ok (.invokevirtual 31, 3) := by decide +kernel
theorem dX3_beUntold_34 : decode cX3_beUntold 34 = .ok (.aload_n 0, 1) := by decide +kernel
theorem dX3_beUntold_35 : decode cX3_beUntold 35 = .ok (.iconst 0, 1) := by decide +kernel
theorem dX3_beUntold_36 : decode cX3_beUntold 36 = .ok (.invokevirtual 31, 3) := by decide +kernel
theorem dX3_beUntold_39 : decode cX3_beUntold 39 = .ok (.aload_n 0, 1) := by decide +kernel
theorem dX3_beUntold_40 : decode cX3_beUntold 40 = .ok (.bipush 11, 2) := by decide +kernel
theorem dX3_beUntold_42 : decode cX3_beUntold 42 = .ok (.invokevirtual 31, 3) := by decide +kernel
theorem dX3_beUntold_45 : decode cX3_beUntold 45 = .ok (.aload_n 0, 1) := by decide +kernel
theorem dX3_beUntold_46 : decode cX3_beUntold 46 = .ok (.bipush 9, 2) := by decide +kernel
theorem dX3_beUntold_48 : decode cX3_beUntold 48 = .ok (.invokevirtual 31, 3) := by decide +kernel
theorem dX3_beUntold_51 : decode cX3_beUntold 51 = .ok (.aload_n 0, 1) := by decide +kernel
theorem dX3_beUntold_52 : decode cX3_beUntold 52 = .ok (.bipush 11, 2) := by decide +kernel
theorem dX3_beUntold_54 : decode cX3_beUntold 54 = .ok (.invokevirtual 31, 3) := by decide +kernel
theorem dX3_beUntold_57 : decode cX3_beUntold 57 = .ok (.aload_n 0, 1) := by decide +kernel
theorem dX3_beUntold_58 : decode cX3_beUntold 58 = .ok (.invokevirtual 35, 3) := by decide +kernel
theorem dX3_beUntold_61 : decode cX3_beUntold 61 = .ok (.return_, 1) := by decide +kernel
theorem dX3_read_0 : decode cX3_read 0 = .ok (.aload_n 0, 1) := by decide +kernel
theorem dX3_read_1 : decode cX3_read 1 = .ok (.iconst 0, 1) := by decide +kernel
theorem dX3_read_2 : decode cX3_read 2 = .ok (.putfield 27, 3) := by decide +kernel
theorem dX3_read_5 : decode cX3_read 5 = .ok (.aload_n 0, 1) := by decide +kernel
theorem dX3_read_6 : decode cX3_read 6 = .ok (.aload_n 1, 1) := by decide +kernel
theorem dX3_read_7 : decode cX3_read 7 = .ok (.iconst 0, 1) := by decide +kernel
theorem dX3_read_8 : decode cX3_read 8 = .ok (.invokevirtual 38, 3) := by decide +kernel
theorem dX3_read_11 : decode cX3_read 11 = .ok (.aload_n 1, 1) := by decide +kernel
theorem dX3_read_12 : decode cX3_read 12 = .ok (.invokevirtual 42, 3) := by decide +kernel
theorem dX3_read_15 : decode cX3_read 15 = .ok (.aload_n 1, 1) := by decide +kernel
theorem dX3_read_16 : decode cX3_read 16 = .ok (.invokevirtual 47, 3) := by decide +kernel
theorem dX3_read_19 : decode cX3_read 19 = .ok (.ifCond .ne 7, 3) := by decide +kernel
theorem dX3_read_22 : decode cX3_read 22 = .ok (.aload_n 0, 1) := by decide +kernel
theorem dX3_read_23 : decode cX3_read 23 = .ok (.invokevirtual 35, 3) := by decide +kernel
theorem dX3_read_26 : decode cX3_read 26 = .ok (.return_, 1) := by decide +kernel
theorem dX3_mindsFines_0 : decode cX3_mindsFines 0 = .ok (.aload_n 0, 1) := by decide +kernel
theorem dX3_mindsFines_1 : decode cX3_mindsFines 1 = .ok (.getfield 51, 3) := by decide +kernel
theorem dX3_mindsFines_4 : decode cX3_mindsFines 4 = .ok (.ireturn, 1) := by decide +kernel
theorem dX3_adoptDraft_0 : decode cX3_adoptDraft 0 = .ok (.aload_n 0, 1) := by decide +kernel
theorem dX3_adoptDraft_1 : decode cX3_adoptDraft 1 = .ok (.getfield 9, 3) := by decide +kernel
theorem dX3_adoptDraft_4 : decode cX3_adoptDraft 4 = .ok (.astore_n 1, 1) := by decide +kernel
theorem dX3_adoptDraft_5 : decode cX3_adoptDraft 5 = .ok (.aload_n 0, 1) := by decide +kernel
theorem dX3_adoptDraft_6 : decode cX3_adoptDraft 6 = .ok (.aload_n 0, 1) := by decide +kernel
theorem dX3_adoptDraft_7 : decode cX3_adoptDraft 7 = .ok (.getfield 15, 3) := by decide +kernel
theorem dX3_adoptDraft_10 : decode cX3_adoptDraft 10 = .ok (.putfield 9, 3) := by decide +kernel
theorem dX3_adoptDraft_13 : decode cX3_adoptDraft 13 = .ok (.aload_n 0, 1) := by decide +kernel
theorem dX3_adoptDraft_14 : decode cX3_adoptDraft 14 = .ok (.aload_n 1, 1) := by decide +kernel
theorem dX3_adoptDraft_15 : decode cX3_adoptDraft 15 = .ok (.putfield 15, 3) := by decide +kernel
theorem dX3_adoptDraft_18 : decode cX3_adoptDraft 18 = .ok (.aload_n 0, 1) := by decide +kernel
theorem dX3_adoptDraft_19 : decode cX3_adoptDraft 19 = .ok (.aload_n 0, 1) := by decide +kernel
theorem dX3_adoptDraft_20 : decode cX3_adoptDraft 20 = .ok (.getfield 27, 3) := by decide +kernel
theorem dX3_adoptDraft_23 : decode cX3_adoptDraft 23 = .ok (.putfield 55, 3) := by decide +kernel
theorem dX3_adoptDraft_26 : decode cX3_adoptDraft 26 = .ok (.aload_n 0, 1) := by decide +kernel
theorem dX3_adoptDraft_27 : decode cX3_adoptDraft 27 = .ok (.iconst 0, 1) := by decide +kernel
theorem dX3_adoptDraft_28 : decode cX3_adoptDraft 28 = .ok (.putfield 51, 3) := by decide +kernel
theorem dX3_adoptDraft_31 : decode cX3_adoptDraft 31 = .ok (.iconst 0, 1) := by decide +kernel
theorem dX3_adoptDraft_32 : decode cX3_adoptDraft 32 = .ok (.istore_n 2, 1) := by decide +kernel
theorem dX3_adoptDraft_33 : decode cX3_adoptDraft 33 = .ok (.iload_n 2, 1) := by decide +kernel
theorem dX3_adoptDraft_34 : decode cX3_adoptDraft 34 = .ok (.aload_n 0, 1) := by decide +kernel
theorem dX3_adoptDraft_35 : decode cX3_adoptDraft 35 = .ok (.getfield 55, 3) := by decide +kernel
theorem dX3_adoptDraft_38 : decode cX3_adoptDraft 38 = .ok (.if_icmp .ge 36, 3) := by decide +kernel
theorem dX3_adoptDraft_41 : decode cX3_adoptDraft 41 = .ok (.aload_n 0, 1) := by decide +kernel
theorem dX3_adoptDraft_42 : decode cX3_adoptDraft 42 = .ok (.aload_n 0, 1) := by decide +kernel
theorem dX3_adoptDraft_43 : decode cX3_adoptDraft 43 = .ok (.getfield 51, 3) := by decide +kernel
theorem dX3_adoptDraft_46 : decode cX3_adoptDraft 46 = .ok (.ifCond .ne 14, 3) := by decide +kernel
theorem dX3_adoptDraft_49 : decode cX3_adoptDraft 49 = .ok (.aload_n 0, 1) := by decide +kernel
theorem dX3_adoptDraft_50 : decode cX3_adoptDraft 50 = .ok (.getfield 9, 3) := by decide +kernel
theorem dX3_adoptDraft_53 : decode cX3_adoptDraft 53 = .ok (.iload_n 2, 1) := by decide +kernel
theorem dX3_adoptDraft_54 : decode cX3_adoptDraft 54 = .ok (.iaload, 1) := by decide +kernel
theorem dX3_adoptDraft_55 : decode cX3_adoptDraft 55 = .ok (.bipush 7, 2) := by decide +kernel
theorem dX3_adoptDraft_57 : decode cX3_adoptDraft 57 = .ok (.if_icmp .ne 7, 3) := by decide +kernel
theorem dX3_adoptDraft_60 : decode cX3_adoptDraft 60 = .ok (.iconst 1, 1) := by decide +kernel
theorem dX3_adoptDraft_61 : decode cX3_adoptDraft 61 = .ok (.goto 4, 3) := by decide +kernel
theorem dX3_adoptDraft_64 : decode cX3_adoptDraft 64 = .ok (.iconst 0, 1) := by decide +kernel
theorem dX3_adoptDraft_65 : decode cX3_adoptDraft 65 = .ok (.putfield 51, 3) := by decide +kernel
theorem dX3_adoptDraft_68 : decode cX3_adoptDraft 68 = .ok (.iinc 2 1, 3) := by decide +kernel
theorem dX3_adoptDraft_71 : decode cX3_adoptDraft 71 = .ok (.goto (-38), 3) := by decide +kernel
theorem dX3_adoptDraft_74 : decode cX3_adoptDraft 74 = .ok (.return_, 1) := by decide +kernel
theorem dX3_add_0 : decode cX3_add 0 = .ok (.aload_n 0, 1) := by decide +kernel
theorem dX3_add_1 : decode cX3_add 1 = .ok (.getfield 27, 3) := by decide +kernel
theorem dX3_add_4 : decode cX3_add 4 = .ok (.aload_n 0, 1) := by decide +kernel
theorem dX3_add_5 : decode cX3_add 5 = .ok (.getfield 15, 3) := by decide +kernel
theorem dX3_add_8 : decode cX3_add 8 = .ok (.arraylength, 1) := by decide +kernel
theorem dX3_add_9 : decode cX3_add 9 = .ok (.if_icmp .ge 23, 3) := by decide +kernel
theorem dX3_add_12 : decode cX3_add 12 = .ok (.aload_n 0, 1) := by decide +kernel
theorem dX3_add_13 : decode cX3_add 13 = .ok (.getfield 15, 3) := by decide +kernel
theorem dX3_add_16 : decode cX3_add 16 = .ok (.aload_n 0, 1) := by decide +kernel
theorem dX3_add_17 : decode cX3_add 17 = .ok (.getfield 27, 3) := by decide +kernel
theorem dX3_add_20 : decode cX3_add 20 = .ok (.iload_n 1, 1) := by decide +kernel
theorem dX3_add_21 : decode cX3_add 21 = .ok (.iastore, 1) := by decide +kernel
theorem dX3_add_22 : decode cX3_add 22 = .ok (.aload_n 0, 1) := by decide +kernel
theorem dX3_add_23 : decode cX3_add 23 = .ok (.dup, 1) := by decide +kernel
theorem dX3_add_24 : decode cX3_add 24 = .ok (.getfield 27, 3) := by decide +kernel
theorem dX3_add_27 : decode cX3_add 27 = .ok (.iconst 1, 1) := by decide +kernel
theorem dX3_add_28 : decode cX3_add 28 = .ok (.iadd, 1) := by decide +kernel
theorem dX3_add_29 : decode cX3_add 29 = .ok (.putfield 27, 3) := by decide +kernel
theorem dX3_add_32 : decode cX3_add 32 = .ok (.return_, 1) := by decide +kernel
theorem dX3_readSum_0 : decode cX3_readSum 0 = .ok (.aload_n 0, 1) := by decide +kernel
theorem dX3_readSum_1 : decode cX3_readSum 1 = .ok (.aload_n 1, 1) := by decide +kernel
theorem dX3_readSum_2 : decode cX3_readSum 2 = .ok (.iload_n 2, 1) := by decide +kernel
theorem dX3_readSum_3 : decode cX3_readSum 3 = .ok (.invokevirtual 58, 3) := by decide +kernel
theorem dX3_readSum_6 : decode cX3_readSum 6 = .ok (.iconst 0, 1) := by decide +kernel
theorem dX3_readSum_7 : decode cX3_readSum 7 = .ok (.istore_n 3, 1) := by decide +kernel
theorem dX3_readSum_8 : decode cX3_readSum 8 = .ok (.iload_n 3, 1) := by decide +kernel
theorem dX3_readSum_9 : decode cX3_readSum 9 = .ok (.sipush 150, 3) := by decide +kernel
theorem dX3_readSum_12 : decode cX3_readSum 12 = .ok (.if_icmp .ge 46, 3) := by decide +kernel
theorem dX3_readSum_15 : decode cX3_readSum 15 = .ok (.aload_n 1, 1) := by decide +kernel
theorem dX3_readSum_16 : decode cX3_readSum 16 = .ok (.invokevirtual 47, 3) := by decide +kernel
theorem dX3_readSum_19 : decode cX3_readSum 19 = .ok (.ifCond .ne 39, 3) := by decide +kernel
theorem dX3_readSum_22 : decode cX3_readSum 22 = .ok (.aload_n 1, 1) := by decide +kernel
theorem dX3_readSum_23 : decode cX3_readSum 23 = .ok (.ldc 61, 2) := by decide +kernel
theorem dX3_readSum_25 : decode cX3_readSum 25 = .ok (.invokevirtual 63, 3) := by decide +kernel
theorem dX3_readSum_28 : decode cX3_readSum 28 = .ok (.istore 4, 2) := by decide +kernel
theorem dX3_readSum_30 : decode cX3_readSum 30 = .ok (.iload 4, 2) := by decide +kernel
theorem dX3_readSum_32 : decode cX3_readSum 32 = .ok (.iconst (-1), 1) := by decide +kernel
theorem dX3_readSum_33 : decode cX3_readSum 33 = .ok (.if_icmp .ne 4, 3) := by decide +kernel
theorem dX3_readSum_36 : decode cX3_readSum 36 = .ok (.return_, 1) := by decide +kernel
theorem dX3_readSum_37 : decode cX3_readSum 37 = .ok (.aload_n 0, 1) := by decide +kernel
theorem dX3_readSum_38 : decode cX3_readSum 38 = .ok (.aload_n 1, 1) := by decide +kernel
theorem dX3_readSum_39 : decode cX3_readSum 39 = .ok (.iload_n 2, 1) := by decide +kernel
theorem dX3_readSum_40 : decode cX3_readSum 40 = .ok (.invokevirtual 58, 3) := by decide +kernel
theorem dX3_readSum_43 : decode cX3_readSum 43 = .ok (.aload_n 0, 1) := by decide +kernel
theorem dX3_readSum_44 : decode cX3_readSum 44 = .ok (.bipush 10, 2) := by decide +kernel
theorem dX3_readSum_46 : decode cX3_readSum 46 = .ok (.iload 4, 2) := by decide +kernel
theorem dX3_readSum_48 : decode cX3_readSum 48 = .ok (.iadd, 1) := by decide +kernel
theorem dX3_readSum_49 : decode cX3_readSum 49 = .ok (.invokevirtual 31, 3) := by decide +kernel
theorem dX3_readSum_52 : decode cX3_readSum 52 = .ok (.iinc 3 1, 3) := by decide +kernel
theorem dX3_readSum_55 : decode cX3_readSum 55 = .ok (.goto (-47), 3) := by decide +kernel
theorem dX3_readSum_58 : decode cX3_readSum 58 = .ok (.return_, 1) := by decide +kernel
theorem dX3_readProduct_0 : decode cX3_readProduct 0 = .ok (.aload_n 0, 1) := by decide +kernel
theorem dX3_readProduct_1 : decode cX3_readProduct 1 = .ok (.aload_n 1, 1) := by decide +kernel
theorem dX3_readProduct_2 : decode cX3_readProduct 2 = .ok (.iload_n 2, 1) := by decide +kernel
theorem dX3_readProduct_3 : decode cX3_readProduct 3 = .ok (.invokevirtual 67, 3) := by decide +kernel
theorem dX3_readProduct_6 : decode cX3_readProduct 6 = .ok (.iconst 0, 1) := by decide +kernel
theorem dX3_readProduct_7 : decode cX3_readProduct 7 = .ok (.istore_n 3, 1) := by decide +kernel
theorem dX3_readProduct_8 : decode cX3_readProduct 8 = .ok (.iload_n 3, 1) := by decide +kernel
theorem dX3_readProduct_9 : decode cX3_readProduct 9 = .ok (.sipush 150, 3) := by decide +kernel
theorem dX3_readProduct_12 : decode cX3_readProduct 12 = .ok (.if_icmp .ge 46, 3) := by decide +kernel
theorem dX3_readProduct_15 : decode cX3_readProduct 15 = .ok (.aload_n 1, 1) := by decide +kernel
theorem dX3_readProduct_16 : decode cX3_readProduct 16 = .ok (.invokevirtual 47, 3) := by decide +kernel
theorem dX3_readProduct_19 : decode cX3_readProduct 19 = .ok (.ifCond .ne 39, 3) := by decide +kernel
theorem dX3_readProduct_22 : decode cX3_readProduct 22 = .ok (.aload_n 1, 1) := by decide +kernel
theorem dX3_readProduct_23 : decode cX3_readProduct 23 = .ok (.ldc 70, 2) := by decide +kernel
theorem dX3_readProduct_25 : decode cX3_readProduct 25 = .ok (.invokevirtual 63, 3) := by decide +kernel
theorem dX3_readProduct_28 : decode cX3_readProduct 28 = .ok (.istore 4, 2) := by decide +kernel
theorem dX3_readProduct_30 : decode cX3_readProduct 30 = .ok (.iload 4, 2) := by decide +kernel
theorem dX3_readProduct_32 : decode cX3_readProduct 32 = .ok (.iconst (-1), 1) := by decide +kernel
theorem dX3_readProduct_33 : decode cX3_readProduct 33 = .ok (.if_icmp .ne 4, 3) := by decide +kernel
theorem dX3_readProduct_36 : decode cX3_readProduct 36 = .ok (.return_, 1) := by decide +kernel
theorem dX3_readProduct_37 : decode cX3_readProduct 37 = .ok (.aload_n 0, 1) := by decide +kernel
theorem dX3_readProduct_38 : decode cX3_readProduct 38 = .ok (.aload_n 1, 1) := by decide +kernel
theorem dX3_readProduct_39 : decode cX3_readProduct 39 = .ok (.iload_n 2, 1) := by decide +kernel
theorem dX3_readProduct_40 : decode cX3_readProduct 40 = .ok (.invokevirtual 67, 3) := by decide +kernel
theorem dX3_readProduct_43 : decode cX3_readProduct 43 = .ok (.aload_n 0, 1) := by decide +kernel
theorem dX3_readProduct_44 : decode cX3_readProduct 44 = .ok (.bipush 12, 2) := by decide +kernel
theorem dX3_readProduct_46 : decode cX3_readProduct 46 = .ok (.iload 4, 2) := by decide +kernel
theorem dX3_readProduct_48 : decode cX3_readProduct 48 = .ok (.iadd, 1) := by decide +kernel
theorem dX3_readProduct_49 : decode cX3_readProduct 49 = .ok (.invokevirtual 31, 3) := by decide +kernel
theorem dX3_readProduct_52 : decode cX3_readProduct 52 = .ok (.iinc 3 1, 3) := by decide +kernel
theorem dX3_readProduct_55 : decode cX3_readProduct 55 = .ok (.goto (-47), 3) := by decide +kernel
theorem dX3_readProduct_58 : decode cX3_readProduct 58 = .ok (.return_, 1) := by decide +kernel
theorem dX3_readUnit_0 : decode cX3_readUnit 0 = .ok (.aload_n 1, 1) := by decide +kernel
theorem dX3_readUnit_1 : decode cX3_readUnit 1 = .ok (.invokevirtual 72, 3) := by decide +kernel
theorem dX3_readUnit_4 : decode cX3_readUnit 4 = .ok (.ifCond .eq 21, 3) := by decide +kernel
theorem dX3_readUnit_7 : decode cX3_readUnit 7 = .ok (.aload_n 0, 1) := by decide +kernel
theorem dX3_readUnit_8 : decode cX3_readUnit 8 = .ok (.bipush 15, 2) := by decide +kernel
theorem dX3_readUnit_10 : decode cX3_readUnit 10 = .ok (.aload_n 1, 1) := by decide +kernel
theorem dX3_readUnit_11 : decode cX3_readUnit 11 = .ok (.iconst 0, 1) := by decide +kernel
theorem dX3_readUnit_12 : decode cX3_readUnit 12 = .ok (.sipush 999, 3) := by decide +kernel
theorem dX3_readUnit_15 : decode cX3_readUnit 15 = .ok (.invokevirtual 75, 3) := by decide +kernel
theorem dX3_readUnit_18 : decode cX3_readUnit 18 = .ok (.iadd, 1) := by decide +kernel
theorem dX3_readUnit_19 : decode cX3_readUnit 19 = .ok (.invokevirtual 31, 3) := by decide +kernel
theorem dX3_readUnit_22 : decode cX3_readUnit 22 = .ok (.goto 98, 3) := by decide +kernel
theorem dX3_readUnit_25 : decode cX3_readUnit 25 = .ok (.aload_n 1, 1) := by decide +kernel
theorem dX3_readUnit_26 : decode cX3_readUnit 26 = .ok (.ldc 79, 2) := by decide +kernel
theorem dX3_readUnit_28 : decode cX3_readUnit 28 = .ok (.invokevirtual 63, 3) := by decide +kernel
theorem dX3_readUnit_31 : decode cX3_readUnit 31 = .ok (.iconst (-1), 1) := by decide +kernel
theorem dX3_readUnit_32 : decode cX3_readUnit 32 = .ok (.if_icmp .eq 28, 3) := by decide +kernel
theorem dX3_readUnit_35 : decode cX3_readUnit 35 = .ok (.aload_n 1, 1) := by decide +kernel
theorem dX3_readUnit_36 : decode cX3_readUnit 36 = .ok (.iload_n 2, 1) := by decide +kernel
theorem dX3_readUnit_37 : decode cX3_readUnit 37 = .ok (.invokestatic 81, 3) := by decide +kernel
theorem dX3_readUnit_40 : decode cX3_readUnit 40 = .ok (.ifCond .eq 80, 3) := by decide +kernel
theorem dX3_readUnit_43 : decode cX3_readUnit 43 = .ok (.aload_n 0, 1) := by decide +kernel
theorem dX3_readUnit_44 : decode cX3_readUnit 44 = .ok (.aload_n 1, 1) := by decide +kernel
theorem dX3_readUnit_45 : decode cX3_readUnit 45 = .ok (.iload_n 2, 1) := by decide +kernel
theorem dX3_readUnit_46 : decode cX3_readUnit 46 = .ok (.iconst 1, 1) := by decide +kernel
theorem dX3_readUnit_47 : decode cX3_readUnit 47 = .ok (.iadd, 1) := by decide +kernel
theorem dX3_readUnit_48 : decode cX3_readUnit 48 = .ok (.invokevirtual 38, 3) := by decide +kernel
theorem dX3_readUnit_51 : decode cX3_readUnit 51 = .ok (.aload_n 1, 1) := by decide +kernel
theorem dX3_readUnit_52 : decode cX3_readUnit 52 = .ok (.bipush 41, 2) := by decide +kernel
theorem dX3_readUnit_54 : decode cX3_readUnit 54 = .ok (.invokevirtual 85, 3) := by decide +kernel
theorem dX3_readUnit_57 : decode cX3_readUnit 57 = .ok (.goto 63, 3) := by decide +kernel
theorem dX3_readUnit_60 : decode cX3_readUnit 60 = .ok (.aload_n 1, 1) := by decide +kernel
theorem dX3_readUnit_61 : decode cX3_readUnit 61 = .ok (.ldc 89, 2) := by decide +kernel
theorem dX3_readUnit_63 : decode cX3_readUnit 63 = .ok (.invokevirtual 91, 3) := by decide +kernel
theorem dX3_readUnit_66 : decode cX3_readUnit 66 = .ok (.istore_n 3, 1) := by decide +kernel
theorem dX3_readUnit_67 : decode cX3_readUnit 67 = .ok (.iload_n 3, 1) := by decide +kernel
theorem dX3_readUnit_68 : decode cX3_readUnit 68 = .ok (.bipush 8, 2) := by decide +kernel
theorem dX3_readUnit_70 : decode cX3_readUnit 70 = .ok (.if_icmp .lt 45, 3) := by decide +kernel
theorem dX3_readUnit_73 : decode cX3_readUnit 73 = .ok (.aload_n 1, 1) := by decide +kernel
theorem dX3_readUnit_74 : decode cX3_readUnit 74 = .ok (.iload_n 2, 1) := by decide +kernel
theorem dX3_readUnit_75 : decode cX3_readUnit 75 = .ok (.invokestatic 81, 3) := by decide +kernel
theorem dX3_readUnit_78 : decode cX3_readUnit 78 = .ok (.ifCond .eq 37, 3) := by decide +kernel
theorem dX3_readUnit_81 : decode cX3_readUnit 81 = .ok (.aload_n 1, 1) := by decide +kernel
theorem dX3_readUnit_82 : decode cX3_readUnit 82 = .ok (.bipush 91, 2) := by decide +kernel
theorem dX3_readUnit_84 : decode cX3_readUnit 84 = .ok (.invokevirtual 85, 3) := by decide +kernel
theorem dX3_readUnit_87 : decode cX3_readUnit 87 = .ok (.aload_n 0, 1) := by decide +kernel
theorem dX3_readUnit_88 : decode cX3_readUnit 88 = .ok (.aload_n 1, 1) := by decide +kernel
theorem dX3_readUnit_89 : decode cX3_readUnit 89 = .ok (.iload_n 2, 1) := by decide +kernel
theorem dX3_readUnit_90 : decode cX3_readUnit 90 = .ok (.iconst 1, 1) := by decide +kernel
theorem dX3_readUnit_91 : decode cX3_readUnit 91 = .ok (.iadd, 1) := by decide +kernel
theorem dX3_readUnit_92 : decode cX3_readUnit 92 = .ok (.invokevirtual 38, 3) := by decide +kernel
theorem dX3_readUnit_95 : decode cX3_readUnit 95 = .ok (.aload_n 1, 1) := by decide +kernel
theorem dX3_readUnit_96 : decode cX3_readUnit 96 = .ok (.bipush 44, 2) := by decide +kernel
theorem dX3_readUnit_98 : decode cX3_readUnit 98 = .ok (.invokevirtual 85, 3) := by decide +kernel
theorem dX3_readUnit_101 : decode cX3_readUnit 101 = .ok (.aload_n 0, 1) := by decide +kernel
theorem dX3_readUnit_102 : decode cX3_readUnit 102 = .ok (.aload_n 1, 1) := by decide +kernel
theorem dX3_readUnit_103 : decode cX3_readUnit 103 = .ok (.iload_n 2, 1) := by decide +kernel
theorem dX3_readUnit_104 : decode cX3_readUnit 104 = .ok (.iconst 1, 1) := by decide +kernel
theorem dX3_readUnit_105 : decode cX3_readUnit 105 = .ok (.iadd, 1) := by decide +kernel
theorem dX3_readUnit_106 : decode cX3_readUnit 106 = .ok (.invokevirtual 38, 3) := by decide +kernel
theorem dX3_readUnit_109 : decode cX3_readUnit 109 = .ok (.aload_n 1, 1) := by decide +kernel
theorem dX3_readUnit_110 : decode cX3_readUnit 110 = .ok (.bipush 93, 2) := by decide +kernel
theorem dX3_readUnit_112 : decode cX3_readUnit 112 = .ok (.invokevirtual 85, 3) := by decide +kernel
theorem dX3_readUnit_115 : decode cX3_readUnit 115 = .ok (.aload_n 0, 1) := by decide +kernel
theorem dX3_readUnit_116 : decode cX3_readUnit 116 = .ok (.iload_n 3, 1) := by decide +kernel
theorem dX3_readUnit_117 : decode cX3_readUnit 117 = .ok (.invokevirtual 31, 3) := by decide +kernel
theorem dX3_readUnit_120 : decode cX3_readUnit 120 = .ok (.return_, 1) := by decide +kernel
theorem dX3_isNestedDeeper_0 : decode cX3_isNestedDeeper 0 = .ok (.iload_n 1, 1) := by decide +kernel
theorem dX3_isNestedDeeper_1 : decode cX3_isNestedDeeper 1 = .ok (.bipush 6, 2) := by decide +kernel
theorem dX3_isNestedDeeper_3 : decode cX3_isNestedDeeper 3 = .ok (.if_icmp .ne 8, 3) := by decide +kernel
theorem dX3_isNestedDeeper_6 : decode cX3_isNestedDeeper 6 = .ok (.aload_n 0, 1) := by decide +kernel
theorem dX3_isNestedDeeper_7 : decode cX3_isNestedDeeper 7 = .ok (.iconst 3, 1) := by decide +kernel
theorem dX3_isNestedDeeper_8 : decode cX3_isNestedDeeper 8 = .ok (.invokevirtual 94, 3) := by decide +kernel
theorem dX3_isNestedDeeper_11 : decode cX3_isNestedDeeper 11 = .ok (.aload_n 0, 1) := by decide +kernel
theorem dX3_isNestedDeeper_12 : decode cX3_isNestedDeeper 12 = .ok (.invokevirtual 47, 3) := by decide +kernel
theorem dX3_isNestedDeeper_15 : decode cX3_isNestedDeeper 15 = .ok (.ifCond .ne 7, 3) := by decide +kernel
theorem dX3_isNestedDeeper_18 : decode cX3_isNestedDeeper 18 = .ok (.iconst 1, 1) := by decide +kernel
theorem dX3_isNestedDeeper_19 : decode cX3_isNestedDeeper 19 = .ok (.goto 4, 3) := by decide +kernel
theorem dX3_isNestedDeeper_22 : decode cX3_isNestedDeeper 22 = .ok (.iconst 0, 1) := by decide +kernel
theorem dX3_isNestedDeeper_23 : decode cX3_isNestedDeeper 23 = .ok (.ireturn, 1) := by decide +kernel
theorem dX3_value_0 : decode cX3_value 0 = .ok (.aload_n 0, 1) := by decide +kernel
theorem dX3_value_1 : decode cX3_value 1 = .ok (.aload_n 1, 1) := by decide +kernel
theorem dX3_value_2 : decode cX3_value 2 = .ok (.iload_n 2, 1) := by decide +kernel
theorem dX3_value_3 : decode cX3_value 3 = .ok (.iload_n 3, 1) := by decide +kernel
theorem dX3_value_4 : decode cX3_value 4 = .ok (.iload 4, 2) := by decide +kernel
theorem dX3_value_6 : decode cX3_value 6 = .ok (.invokevirtual 97, 3) := by decide +kernel
theorem dX3_value_9 : decode cX3_value 9 = .ok (.iconst 0, 1) := by decide +kernel
theorem dX3_value_10 : decode cX3_value 10 = .ok (.istore 5, 2) := by decide +kernel
theorem dX3_value_12 : decode cX3_value 12 = .ok (.iconst 0, 1) := by decide +kernel
theorem dX3_value_13 : decode cX3_value 13 = .ok (.istore 6, 2) := by decide +kernel
theorem dX3_value_15 : decode cX3_value 15 = .ok (.iload 6, 2) := by decide +kernel
theorem dX3_value_17 : decode cX3_value 17 = .ok (.aload_n 0, 1) := by decide +kernel
theorem dX3_value_18 : decode cX3_value 18 = .ok (.getfield 55, 3) := by decide +kernel
theorem dX3_value_21 : decode cX3_value 21 = .ok (.if_icmp .ge 138, 3) := by decide +kernel
theorem dX3_value_24 : decode cX3_value 24 = .ok (.aload_n 0, 1) := by decide +kernel
theorem dX3_value_25 : decode cX3_value 25 = .ok (.getfield 9, 3) := by decide +kernel
theorem dX3_value_28 : decode cX3_value 28 = .ok (.iload 6, 2) := by decide +kernel
theorem dX3_value_30 : decode cX3_value 30 = .ok (.iaload, 1) := by decide +kernel
theorem dX3_value_31 : decode cX3_value 31 = .ok (.istore 7, 2) := by decide +kernel
theorem dX3_value_33 : decode cX3_value 33 = .ok (.iload 7, 2) := by decide +kernel
theorem dX3_value_35 : decode cX3_value 35 = .ok (.bipush 8, 2) := by decide +kernel
theorem dX3_value_37 : decode cX3_value 37 = .ok (.if_icmp .lt 14, 3) := by decide +kernel
theorem dX3_value_40 : decode cX3_value 40 = .ok (.iload 7, 2) := by decide +kernel
theorem dX3_value_42 : decode cX3_value 42 = .ok (.bipush 15, 2) := by decide +kernel
theorem dX3_value_44 : decode cX3_value 44 = .ok (.if_icmp .ge 7, 3) := by decide +kernel
theorem dX3_value_47 : decode cX3_value 47 = .ok (.iconst 1, 1) := by decide +kernel
theorem dX3_value_48 : decode cX3_value 48 = .ok (.goto 4, 3) := by decide +kernel
theorem dX3_value_51 : decode cX3_value 51 = .ok (.iconst 0, 1) := by decide +kernel
theorem dX3_value_52 : decode cX3_value 52 = .ok (.istore 8, 2) := by decide +kernel
theorem dX3_value_54 : decode cX3_value 54 = .ok (.iload 8, 2) := by decide +kernel
theorem dX3_value_56 : decode cX3_value 56 = .ok (.ifCond .eq 45, 3) := by decide +kernel
theorem dX3_value_59 : decode cX3_value 59 = .ok (.iload 5, 2) := by decide +kernel
theorem dX3_value_61 : decode cX3_value 61 = .ok (.iconst 2, 1) := by decide +kernel
theorem dX3_value_62 : decode cX3_value 62 = .ok (.if_icmp .lt 39, 3) := by decide +kernel
theorem dX3_value_65 : decode cX3_value 65 = .ok (.iinc 5 (-1), 3) := by decide +kernel
theorem dX3_value_68 : decode cX3_value 68 = .ok (.aload_n 0, 1) := by decide +kernel
theorem dX3_value_69 : decode cX3_value 69 = .ok (.getfield 18, 3) := by decide +kernel
theorem dX3_value_72 : decode cX3_value 72 = .ok (.iload 5, 2) := by decide +kernel
theorem dX3_value_74 : decode cX3_value 74 = .ok (.iconst 1, 1) := by decide +kernel
theorem dX3_value_75 : decode cX3_value 75 = .ok (.isub, 1) := by decide +kernel
theorem dX3_value_76 : decode cX3_value 76 = .ok (.iload 7, 2) := by decide +kernel
theorem dX3_value_78 : decode cX3_value 78 = .ok (.aload_n 0, 1) := by decide +kernel
theorem dX3_value_79 : decode cX3_value 79 = .ok (.getfield 18, 3) := by decide +kernel
theorem dX3_value_82 : decode cX3_value 82 = .ok (.iload 5, 2) := by decide +kernel
theorem dX3_value_84 : decode cX3_value 84 = .ok (.iconst 1, 1) := by decide +kernel
theorem dX3_value_85 : decode cX3_value 85 = .ok (.isub, 1) := by decide +kernel
theorem dX3_value_86 : decode cX3_value 86 = .ok (.iaload, 1) := by decide +kernel
theorem dX3_value_87 : decode cX3_value 87 = .ok (.aload_n 0, 1) := by decide +kernel
theorem dX3_value_88 : decode cX3_value 88 = .ok (.getfield 18, 3) := by decide +kernel
theorem dX3_value_91 : decode cX3_value 91 = .ok (.iload 5, 2) := by decide +kernel
theorem dX3_value_93 : decode cX3_value 93 = .ok (.iaload, 1) := by decide +kernel
theorem dX3_value_94 : decode cX3_value 94 = .ok (.invokestatic 101, 3) := by decide +kernel
theorem dX3_value_97 : decode cX3_value 97 = .ok (.iastore, 1) := by decide +kernel
theorem dX3_value_98 : decode cX3_value 98 = .ok (.goto 55, 3) := by decide +kernel
theorem dX3_value_101 : decode cX3_value 101 = .ok (.iload 8, 2) := by decide +kernel
theorem dX3_value_103 : decode cX3_value 103 = .ok (.ifCond .ne 50, 3) := by decide +kernel
theorem dX3_value_106 : decode cX3_value 106 = .ok (.iload 7, 2) := by decide +kernel
theorem dX3_value_108 : decode cX3_value 108 = .ok (.ifCond .lt 45, 3) := by decide +kernel
theorem dX3_value_111 : decode cX3_value 111 = .ok (.iload 5, 2) := by decide +kernel
theorem dX3_value_113 : decode cX3_value 113 = .ok (.aload_n 0, 1) := by decide +kernel
theorem dX3_value_114 : decode cX3_value 114 = .ok (.getfield 18, 3) := by decide +kernel
theorem dX3_value_117 : decode cX3_value 117 = .ok (.arraylength, 1) := by decide +kernel
theorem dX3_value_118 : decode cX3_value 118 = .ok (.if_icmp .ge 35, 3) := by decide +kernel
theorem dX3_value_121 : decode cX3_value 121 = .ok (.aload_n 0, 1) := by decide +kernel
theorem dX3_value_122 : decode cX3_value 122 = .ok (.getfield 18, 3) := by decide +kernel
theorem dX3_value_125 : decode cX3_value 125 = .ok (.iload 5, 2) := by decide +kernel
theorem dX3_value_127 : decode cX3_value 127 = .ok (.iload 7, 2) := by decide +kernel
theorem dX3_value_129 : decode cX3_value 129 = .ok (.bipush 8, 2) := by decide +kernel
theorem dX3_value_131 : decode cX3_value 131 = .ok (.if_icmp .ge 13, 3) := by decide +kernel
theorem dX3_value_134 : decode cX3_value 134 = .ok (.aload_n 0, 1) := by decide +kernel
theorem dX3_value_135 : decode cX3_value 135 = .ok (.getfield 21, 3) := by decide +kernel
theorem dX3_value_138 : decode cX3_value 138 = .ok (.iload 7, 2) := by decide +kernel
theorem dX3_value_140 : decode cX3_value 140 = .ok (.iaload, 1) := by decide +kernel
theorem dX3_value_141 : decode cX3_value 141 = .ok (.goto 8, 3) := by decide +kernel
theorem dX3_value_144 : decode cX3_value 144 = .ok (.iload 7, 2) := by decide +kernel
theorem dX3_value_146 : decode cX3_value 146 = .ok (.bipush 15, 2) := by decide +kernel
theorem dX3_value_148 : decode cX3_value 148 = .ok (.isub, 1) := by decide +kernel
theorem dX3_value_149 : decode cX3_value 149 = .ok (.iastore, 1) := by decide +kernel
theorem dX3_value_150 : decode cX3_value 150 = .ok (.iinc 5 1, 3) := by decide +kernel
theorem dX3_value_153 : decode cX3_value 153 = .ok (.iinc 6 1, 3) := by decide +kernel
theorem dX3_value_156 : decode cX3_value 156 = .ok (.goto (-141), 3) := by decide +kernel
theorem dX3_value_159 : decode cX3_value 159 = .ok (.aload_n 0, 1) := by decide +kernel
theorem dX3_value_160 : decode cX3_value 160 = .ok (.getfield 18, 3) := by decide +kernel
theorem dX3_value_163 : decode cX3_value 163 = .ok (.iconst 0, 1) := by decide +kernel
theorem dX3_value_164 : decode cX3_value 164 = .ok (.iaload, 1) := by decide +kernel
theorem dX3_value_165 : decode cX3_value 165 = .ok (.ireturn, 1) := by decide +kernel
theorem dX3_findFacts_0 : decode cX3_findFacts 0 = .ok (.aload_n 0, 1) := by decide +kernel
theorem dX3_findFacts_1 : decode cX3_findFacts 1 = .ok (.getfield 21, 3) := by decide +kernel
theorem dX3_findFacts_4 : decode cX3_findFacts 4 = .ok (.iconst 0, 1) := by decide +kernel
theorem dX3_findFacts_5 : decode cX3_findFacts 5 = .ok (.iload_n 3, 1) := by decide +kernel
theorem dX3_findFacts_6 : decode cX3_findFacts 6 = .ok (.bipush 24, 2) := by decide +kernel
theorem dX3_findFacts_8 : decode cX3_findFacts 8 = .ok (.irem, 1) := by decide +kernel
theorem dX3_findFacts_9 : decode cX3_findFacts 9 = .ok (.iastore, 1) := by decide +kernel
theorem dX3_findFacts_10 : decode cX3_findFacts 10 = .ok (.aload_n 0, 1) := by decide +kernel
theorem dX3_findFacts_11 : decode cX3_findFacts 11 = .ok (.getfield 21, 3) := by decide +kernel
theorem dX3_findFacts_14 : decode cX3_findFacts 14 = .ok (.iconst 1, 1) := by decide +kernel
theorem dX3_findFacts_15 : decode cX3_findFacts 15 = .ok (.iload_n 3, 1) := by decide +kernel
theorem dX3_findFacts_16 : decode cX3_findFacts 16 = .ok (.bipush 24, 2) := by decide +kernel
theorem dX3_findFacts_18 : decode cX3_findFacts 18 = .ok (.idiv, 1) := by decide +kernel
theorem dX3_findFacts_19 : decode cX3_findFacts 19 = .ok (.iastore, 1) := by decide +kernel
theorem dX3_findFacts_20 : decode cX3_findFacts 20 = .ok (.aload_n 0, 1) := by decide +kernel
theorem dX3_findFacts_21 : decode cX3_findFacts 21 = .ok (.getfield 21, 3) := by decide +kernel
theorem dX3_findFacts_24 : decode cX3_findFacts 24 = .ok (.iconst 2, 1) := by decide +kernel
theorem dX3_findFacts_25 : decode cX3_findFacts 25 = .ok (.iload_n 2, 1) := by decide +kernel
theorem dX3_findFacts_26 : decode cX3_findFacts 26 = .ok (.iastore, 1) := by decide +kernel
theorem dX3_findFacts_27 : decode cX3_findFacts 27 = .ok (.aload_n 0, 1) := by decide +kernel
theorem dX3_findFacts_28 : decode cX3_findFacts 28 = .ok (.getfield 21, 3) := by decide +kernel
theorem dX3_findFacts_31 : decode cX3_findFacts 31 = .ok (.iconst 3, 1) := by decide +kernel
theorem dX3_findFacts_32 : decode cX3_findFacts 32 = .ok (.aload_n 1, 1) := by decide +kernel
theorem dX3_findFacts_33 : decode cX3_findFacts 33 = .ok (.getfield 105, 3) := by decide +kernel
theorem dX3_findFacts_36 : decode cX3_findFacts 36 = .ok (.iload_n 2, 1) := by decide +kernel
theorem dX3_findFacts_37 : decode cX3_findFacts 37 = .ok (.iaload, 1) := by decide +kernel
theorem dX3_findFacts_38 : decode cX3_findFacts 38 = .ok (.iastore, 1) := by decide +kernel
theorem dX3_findFacts_39 : decode cX3_findFacts 39 = .ok (.aload_n 0, 1) := by decide +kernel
theorem dX3_findFacts_40 : decode cX3_findFacts 40 = .ok (.getfield 21, 3) := by decide +kernel
theorem dX3_findFacts_43 : decode cX3_findFacts 43 = .ok (.iconst 4, 1) := by decide +kernel
theorem dX3_findFacts_44 : decode cX3_findFacts 44 = .ok (.aload_n 1, 1) := by decide +kernel
theorem dX3_findFacts_45 : decode cX3_findFacts 45 = .ok (.getfield 110, 3) := by decide +kernel
theorem dX3_findFacts_48 : decode cX3_findFacts 48 = .ok (.iload_n 2, 1) := by decide +kernel
theorem dX3_findFacts_49 : decode cX3_findFacts 49 = .ok (.iaload, 1) := by decide +kernel
theorem dX3_findFacts_50 : decode cX3_findFacts 50 = .ok (.iastore, 1) := by decide +kernel
theorem dX3_findFacts_51 : decode cX3_findFacts 51 = .ok (.aload_n 0, 1) := by decide +kernel
theorem dX3_findFacts_52 : decode cX3_findFacts 52 = .ok (.getfield 21, 3) := by decide +kernel
theorem dX3_findFacts_55 : decode cX3_findFacts 55 = .ok (.iconst 5, 1) := by decide +kernel
theorem dX3_findFacts_56 : decode cX3_findFacts 56 = .ok (.aload_n 1, 1) := by decide +kernel
theorem dX3_findFacts_57 : decode cX3_findFacts 57 = .ok (.getfield 113, 3) := by decide +kernel
theorem dX3_findFacts_60 : decode cX3_findFacts 60 = .ok (.iload_n 2, 1) := by decide +kernel
theorem dX3_findFacts_61 : decode cX3_findFacts 61 = .ok (.iaload, 1) := by decide +kernel
theorem dX3_findFacts_62 : decode cX3_findFacts 62 = .ok (.iastore, 1) := by decide +kernel
theorem dX3_findFacts_63 : decode cX3_findFacts 63 = .ok (.aload_n 0, 1) := by decide +kernel
theorem dX3_findFacts_64 : decode cX3_findFacts 64 = .ok (.getfield 21, 3) := by decide +kernel
theorem dX3_findFacts_67 : decode cX3_findFacts 67 = .ok (.bipush 6, 2) := by decide +kernel
theorem dX3_findFacts_69 : decode cX3_findFacts 69 = .ok (.aload_n 1, 1) := by decide +kernel
theorem dX3_findFacts_70 : decode cX3_findFacts 70 = .ok (.getfield 116, 3) := by decide +kernel
theorem dX3_findFacts_73 : decode cX3_findFacts 73 = .ok (.iload_n 2, 1) := by decide +kernel
theorem dX3_findFacts_74 : decode cX3_findFacts 74 = .ok (.iaload, 1) := by decide +kernel
theorem dX3_findFacts_75 : decode cX3_findFacts 75 = .ok (.iastore, 1) := by decide +kernel
theorem dX3_findFacts_76 : decode cX3_findFacts 76 = .ok (.aload_n 0, 1) := by decide +kernel
theorem dX3_findFacts_77 : decode cX3_findFacts 77 = .ok (.getfield 21, 3) := by decide +kernel
theorem dX3_findFacts_80 : decode cX3_findFacts 80 = .ok (.bipush 7, 2) := by decide +kernel
theorem dX3_findFacts_82 : decode cX3_findFacts 82 = .ok (.iload 4, 2) := by decide +kernel
theorem dX3_findFacts_84 : decode cX3_findFacts 84 = .ok (.iastore, 1) := by decide +kernel
theorem dX3_findFacts_85 : decode cX3_findFacts 85 = .ok (.return_, 1) := by decide +kernel
theorem dX3_join_0 : decode cX3_join 0 = .ok (.iload_n 0, 1) := by decide +kernel
theorem dX3_join_1 : decode cX3_join 1 = .ok (.tableswitch 101 8 14 #[43, 54, 65, 69, 73, 77, 89], 43) := by decide +kernel
theorem dX3_join_44 : decode cX3_join 44 = .ok (.iload_n 1, 1) := by decide +kernel
theorem dX3_join_45 : decode cX3_join 45 = .ok (.iload_n 2, 1) := by decide +kernel
theorem dX3_join_46 : decode cX3_join 46 = .ok (.if_icmp .ge 7, 3) := by decide +kernel
theorem dX3_join_49 : decode cX3_join 49 = .ok (.iload_n 1, 1) := by decide +kernel
theorem dX3_join_50 : decode cX3_join 50 = .ok (.goto 4, 3) := by decide +kernel
theorem dX3_join_53 : decode cX3_join 53 = .ok (.iload_n 2, 1) := by decide +kernel
theorem dX3_join_54 : decode cX3_join 54 = .ok (.ireturn, 1) := by decide +kernel
theorem dX3_join_55 : decode cX3_join 55 = .ok (.iload_n 1, 1) := by decide +kernel
theorem dX3_join_56 : decode cX3_join 56 = .ok (.iload_n 2, 1) := by decide +kernel
theorem dX3_join_57 : decode cX3_join 57 = .ok (.if_icmp .le 7, 3) := by decide +kernel
theorem dX3_join_60 : decode cX3_join 60 = .ok (.iload_n 1, 1) := by decide +kernel
theorem dX3_join_61 : decode cX3_join 61 = .ok (.goto 4, 3) := by decide +kernel
theorem dX3_join_64 : decode cX3_join 64 = .ok (.iload_n 2, 1) := by decide +kernel
theorem dX3_join_65 : decode cX3_join 65 = .ok (.ireturn, 1) := by decide +kernel
theorem dX3_join_66 : decode cX3_join 66 = .ok (.iload_n 1, 1) := by decide +kernel
theorem dX3_join_67 : decode cX3_join 67 = .ok (.iload_n 2, 1) := by decide +kernel
theorem dX3_join_68 : decode cX3_join 68 = .ok (.iadd, 1) := by decide +kernel
theorem dX3_join_69 : decode cX3_join 69 = .ok (.ireturn, 1) := by decide +kernel
theorem dX3_join_70 : decode cX3_join 70 = .ok (.iload_n 1, 1) := by decide +kernel
theorem dX3_join_71 : decode cX3_join 71 = .ok (.iload_n 2, 1) := by decide +kernel
theorem dX3_join_72 : decode cX3_join 72 = .ok (.isub, 1) := by decide +kernel
theorem dX3_join_73 : decode cX3_join 73 = .ok (.ireturn, 1) := by decide +kernel
theorem dX3_join_74 : decode cX3_join 74 = .ok (.iload_n 1, 1) := by decide +kernel
theorem dX3_join_75 : decode cX3_join 75 = .ok (.iload_n 2, 1) := by decide +kernel
theorem dX3_join_76 : decode cX3_join 76 = .ok (.imul, 1) := by decide +kernel
theorem dX3_join_77 : decode cX3_join 77 = .ok (.ireturn, 1) := by decide +kernel
theorem dX3_join_78 : decode cX3_join 78 = .ok (.iload_n 2, 1) := by decide +kernel
theorem dX3_join_79 : decode cX3_join 79 = .ok (.ifCond .ne 7, 3) := by decide +kernel
theorem dX3_join_82 : decode cX3_join 82 = .ok (.iconst 0, 1) := by decide +kernel
theorem dX3_join_83 : decode cX3_join 83 = .ok (.goto 6, 3) := by decide +kernel
theorem dX3_join_86 : decode cX3_join 86 = .ok (.iload_n 1, 1) := by decide +kernel
theorem dX3_join_87 : decode cX3_join 87 = .ok (.iload_n 2, 1) := by decide +kernel
theorem dX3_join_88 : decode cX3_join 88 = .ok (.idiv, 1) := by decide +kernel
theorem dX3_join_89 : decode cX3_join 89 = .ok (.ireturn, 1) := by decide +kernel
theorem dX3_join_90 : decode cX3_join 90 = .ok (.iload_n 2, 1) := by decide +kernel
theorem dX3_join_91 : decode cX3_join 91 = .ok (.ifCond .ne 7, 3) := by decide +kernel
theorem dX3_join_94 : decode cX3_join 94 = .ok (.iconst 0, 1) := by decide +kernel
theorem dX3_join_95 : decode cX3_join 95 = .ok (.goto 6, 3) := by decide +kernel
theorem dX3_join_98 : decode cX3_join 98 = .ok (.iload_n 1, 1) := by decide +kernel
theorem dX3_join_99 : decode cX3_join 99 = .ok (.iload_n 2, 1) := by decide +kernel
theorem dX3_join_100 : decode cX3_join 100 = .ok (.irem, 1) := by decide +kernel
theorem dX3_join_101 : decode cX3_join 101 = .ok (.ireturn, 1) := by decide +kernel
theorem dX3_join_102 : decode cX3_join 102 = .ok (.iconst 0, 1) := by decide +kernel
theorem dX3_join_103 : decode cX3_join 103 = .ok (.ireturn, 1) := by decide +kernel
theorem dX4_init_0 : decode cX4_init 0 = .ok (.aload_n 0, 1) := by decide +kernel
theorem dX4_init_1 : decode cX4_init 1 = .ok (.invokespecial 3, 3) := by decide +kernel
theorem dX4_init_4 : decode cX4_init 4 = .ok (.aload_n 0, 1) := by decide +kernel
theorem dX4_init_5 : decode cX4_init 5 = .ok (.aload_n 1, 1) := by decide +kernel
theorem dX4_init_6 : decode cX4_init 6 = .ok (.putfield 9, 3) := by decide +kernel
theorem dX4_init_9 : decode cX4_init 9 = .ok (.aload_n 0, 1) := by decide +kernel
theorem dX4_init_10 : decode cX4_init 10 = .ok (.aload_n 2, 1) := by decide +kernel
theorem dX4_init_11 : decode cX4_init 11 = .ok (.putfield 15, 3) := by decide +kernel
theorem dX4_init_14 : decode cX4_init 14 = .ok (.return_, 1) := by decide +kernel
theorem dX4_isDue_0 : decode cX4_isDue 0 = .ok (.aload_n 0, 1) := by decide +kernel
theorem dX4_isDue_1 : decode cX4_isDue 1 = .ok (.getfield 15, 3) := by decide +kernel
theorem dX4_isDue_4 : decode cX4_isDue 4 = .ok (.aload_n 0, 1) := by decide +kernel
theorem dX4_isDue_5 : decode cX4_isDue 5 = .ok (.getfield 9, 3) := by decide +kernel
theorem dX4_isDue_8 : decode cX4_isDue 8 = .ok (.iload_n 1, 1) := by decide +kernel
theorem dX4_isDue_9 : decode cX4_isDue 9 = .ok (.iload_n 2, 1) := by decide +kernel
theorem dX4_isDue_10 : decode cX4_isDue 10 = .ok (.iload_n 3, 1) := by decide +kernel
theorem dX4_isDue_11 : decode cX4_isDue 11 = .ok (.invokevirtual 19, 3) := by decide +kernel
theorem dX4_isDue_14 : decode cX4_isDue 14 = .ok (.ifCond .le 7, 3) := by decide +kernel
theorem dX4_isDue_17 : decode cX4_isDue 17 = .ok (.iconst 1, 1) := by decide +kernel
theorem dX4_isDue_18 : decode cX4_isDue 18 = .ok (.goto 4, 3) := by decide +kernel
theorem dX4_isDue_21 : decode cX4_isDue 21 = .ok (.iconst 0, 1) := by decide +kernel
theorem dX4_isDue_22 : decode cX4_isDue 22 = .ok (.ireturn, 1) := by decide +kernel
theorem dX4_dueBits_0 : decode cX4_dueBits 0 = .ok (.iconst 0, 1) := by decide +kernel
theorem dX4_dueBits_1 : decode cX4_dueBits 1 = .ok (.istore_n 3, 1) := by decide +kernel
theorem dX4_dueBits_2 : decode cX4_dueBits 2 = .ok (.iconst 0, 1) := by decide +kernel
theorem dX4_dueBits_3 : decode cX4_dueBits 3 = .ok (.istore 4, 2) := by decide +kernel
theorem dX4_dueBits_5 : decode cX4_dueBits 5 = .ok (.iload 4, 2) := by decide +kernel
theorem dX4_dueBits_7 : decode cX4_dueBits 7 = .ok (.aload_n 0, 1) := by decide +kernel
theorem dX4_dueBits_8 : decode cX4_dueBits 8 = .ok (.getfield 9, 3) := by decide +kernel
theorem dX4_dueBits_11 : decode cX4_dueBits 11 = .ok (.getfield 25, 3) := by decide +kernel
theorem dX4_dueBits_14 : decode cX4_dueBits 14 = .ok (.if_icmp .ge 43, 3) := by decide +kernel
theorem dX4_dueBits_17 : decode cX4_dueBits 17 = .ok (.iload_n 3, 1) := by decide +kernel
theorem dX4_dueBits_18 : decode cX4_dueBits 18 = .ok (.aload_n 0, 1) := by decide +kernel
theorem dX4_dueBits_19 : decode cX4_dueBits 19 = .ok (.getfield 15, 3) := by decide +kernel
theorem dX4_dueBits_22 : decode cX4_dueBits 22 = .ok (.aload_n 0, 1) := by decide +kernel
theorem dX4_dueBits_23 : decode cX4_dueBits 23 = .ok (.getfield 9, 3) := by decide +kernel
theorem dX4_dueBits_26 : decode cX4_dueBits 26 = .ok (.iload 4, 2) := by decide +kernel
theorem dX4_dueBits_28 : decode cX4_dueBits 28 = .ok (.iload_n 2, 1) := by decide +kernel
theorem dX4_dueBits_29 : decode cX4_dueBits 29 = .ok (.aload_n 1, 1) := by decide +kernel
theorem dX4_dueBits_30 : decode cX4_dueBits 30 = .ok (.iload 4, 2) := by decide +kernel
theorem dX4_dueBits_32 : decode cX4_dueBits 32 = .ok (.invokevirtual 31, 3) := by decide +kernel
theorem dX4_dueBits_35 : decode cX4_dueBits 35 = .ok (.invokevirtual 19, 3) := by decide +kernel
theorem dX4_dueBits_38 : decode cX4_dueBits 38 = .ok (.ifCond .le 10, 3) := by decide +kernel
theorem dX4_dueBits_41 : decode cX4_dueBits 41 = .ok (.iconst 1, 1) := by decide +kernel
theorem dX4_dueBits_42 : decode cX4_dueBits 42 = .ok (.iload 4, 2) := by decide +kernel
theorem dX4_dueBits_44 : decode cX4_dueBits 44 = .ok (.ishl, 1) := by decide +kernel
theorem dX4_dueBits_45 : decode cX4_dueBits 45 = .ok (.goto 4, 3) := by decide +kernel
theorem dX4_dueBits_48 : decode cX4_dueBits 48 = .ok (.iconst 0, 1) := by decide +kernel
theorem dX4_dueBits_49 : decode cX4_dueBits 49 = .ok (.ior, 1) := by decide +kernel
theorem dX4_dueBits_50 : decode cX4_dueBits 50 = .ok (.istore_n 3, 1) := by decide +kernel
theorem dX4_dueBits_51 : decode cX4_dueBits 51 = .ok (.iinc 4 1, 3) := by decide +kernel
theorem dX4_dueBits_54 : decode cX4_dueBits 54 = .ok (.goto (-49), 3) := by decide +kernel
theorem dX4_dueBits_57 : decode cX4_dueBits 57 = .ok (.iload_n 3, 1) := by decide +kernel
theorem dX4_dueBits_58 : decode cX4_dueBits 58 = .ok (.ireturn, 1) := by decide +kernel
theorem dX4_openBits_0 : decode cX4_openBits 0 = .ok (.aload_n 1, 1) := by decide +kernel
theorem dX4_openBits_1 : decode cX4_openBits 1 = .ok (.invokevirtual 37, 3) := by decide +kernel
theorem dX4_openBits_4 : decode cX4_openBits 4 = .ok (.iload_n 2, 1) := by decide +kernel
theorem dX4_openBits_5 : decode cX4_openBits 5 = .ok (.aload_n 1, 1) := by decide +kernel
theorem dX4_openBits_6 : decode cX4_openBits 6 = .ok (.invokevirtual 41, 3) := by decide +kernel
theorem dX4_openBits_9 : decode cX4_openBits 9 = .ok (.iconst (-1), 1) := by decide +kernel
theorem dX4_openBits_10 : decode cX4_openBits 10 = .ok (.ixor, 1) := by decide +kernel
theorem dX4_openBits_11 : decode cX4_openBits 11 = .ok (.iand, 1) := by decide +kernel
theorem dX4_openBits_12 : decode cX4_openBits 12 = .ok (.ior, 1) := by decide +kernel
theorem dX4_openBits_13 : decode cX4_openBits 13 = .ok (.ireturn, 1) := by decide +kernel
theorem dX4_lets_0 : decode cX4_lets 0 = .ok (.iload_n 1, 1) := by decide +kernel
theorem dX4_lets_1 : decode cX4_lets 1 = .ok (.aload_n 0, 1) := by decide +kernel
theorem dX4_lets_2 : decode cX4_lets 2 = .ok (.getfield 9, 3) := by decide +kernel
theorem dX4_lets_5 : decode cX4_lets 5 = .ok (.getfield 44, 3) := by decide +kernel
theorem dX4_lets_8 : decode cX4_lets 8 = .ok (.iload_n 2, 1) := by decide +kernel
theorem dX4_lets_9 : decode cX4_lets 9 = .ok (.iaload, 1) := by decide +kernel
theorem dX4_lets_10 : decode cX4_lets 10 = .ok (.if_icmp .le 11, 3) := by decide +kernel
theorem dX4_lets_13 : decode cX4_lets 13 = .ok (.iload_n 3, 1) := by decide +kernel
theorem dX4_lets_14 : decode cX4_lets 14 = .ok (.iload_n 2, 1) := by decide +kernel
theorem dX4_lets_15 : decode cX4_lets 15 = .ok (.invokestatic 48, 3) := by decide +kernel
theorem dX4_lets_18 : decode cX4_lets 18 = .ok (.ifCond .eq 7, 3) := by decide +kernel
theorem dX4_lets_21 : decode cX4_lets 21 = .ok (.iconst 1, 1) := by decide +kernel
theorem dX4_lets_22 : decode cX4_lets 22 = .ok (.goto 4, 3) := by decide +kernel
theorem dX4_lets_25 : decode cX4_lets 25 = .ok (.iconst 0, 1) := by decide +kernel
theorem dX4_lets_26 : decode cX4_lets 26 = .ok (.ireturn, 1) := by decide +kernel
theorem dX4_passedOn_0 : decode cX4_passedOn 0 = .ok (.iload_n 2, 1) := by decide +kernel
theorem dX4_passedOn_1 : decode cX4_passedOn 1 = .ok (.istore 4, 2) := by decide +kernel
theorem dX4_passedOn_3 : decode cX4_passedOn 3 = .ok (.iload_n 2, 1) := by decide +kernel
theorem dX4_passedOn_4 : decode cX4_passedOn 4 = .ok (.aload_n 0, 1) := by decide +kernel
theorem dX4_passedOn_5 : decode cX4_passedOn 5 = .ok (.getfield 9, 3) := by decide +kernel
theorem dX4_passedOn_8 : decode cX4_passedOn 8 = .ok (.getfield 52, 3) := by decide +kernel
theorem dX4_passedOn_11 : decode cX4_passedOn 11 = .ok (.iadd, 1) := by decide +kernel
theorem dX4_passedOn_12 : decode cX4_passedOn 12 = .ok (.aload_n 0, 1) := by decide +kernel
theorem dX4_passedOn_13 : decode cX4_passedOn 13 = .ok (.getfield 9, 3) := by decide +kernel
theorem dX4_passedOn_16 : decode cX4_passedOn 16 = .ok (.getfield 25, 3) := by decide +kernel
theorem dX4_passedOn_19 : decode cX4_passedOn 19 = .ok (.invokestatic 55, 3) := by decide +kernel
theorem dX4_passedOn_22 : decode cX4_passedOn 22 = .ok (.istore 5, 2) := by decide +kernel
theorem dX4_passedOn_24 : decode cX4_passedOn 24 = .ok (.iload 4, 2) := by decide +kernel
theorem dX4_passedOn_26 : decode cX4_passedOn 26 = .ok (.iload 5, 2) := by decide +kernel
theorem dX4_passedOn_28 : decode cX4_passedOn 28 = .ok (.if_icmp .ge 20, 3) := by decide +kernel
theorem dX4_passedOn_31 : decode cX4_passedOn 31 = .ok (.aload_n 0, 1) := by decide +kernel
theorem dX4_passedOn_32 : decode cX4_passedOn 32 = .ok (.iload_n 1, 1) := by decide +kernel
theorem dX4_passedOn_33 : decode cX4_passedOn 33 = .ok (.iload 4, 2) := by decide +kernel
theorem dX4_passedOn_35 : decode cX4_passedOn 35 = .ok (.iload_n 3, 1) := by decide +kernel
theorem dX4_passedOn_36 : decode cX4_passedOn 36 = .ok (.invokevirtual 61, 3) := by decide +kernel
theorem dX4_passedOn_39 : decode cX4_passedOn 39 = .ok (.ifCond .eq 9, 3) := by decide +kernel
theorem dX4_passedOn_42 : decode cX4_passedOn 42 = .ok (.iinc 4 1, 3) := by decide +kernel
theorem dX4_passedOn_45 : decode cX4_passedOn 45 = .ok (.goto (-21), 3) := by decide +kernel
theorem dX4_passedOn_48 : decode cX4_passedOn 48 = .ok (.iload 4, 2) := by decide +kernel
theorem dX4_passedOn_50 : decode cX4_passedOn 50 = .ok (.ireturn, 1) := by decide +kernel
theorem dX4_hasKnocked_0 : decode cX4_hasKnocked 0 = .ok (.iload_n 2, 1) := by decide +kernel
theorem dX4_hasKnocked_1 : decode cX4_hasKnocked 1 = .ok (.aload_n 0, 1) := by decide +kernel
theorem dX4_hasKnocked_2 : decode cX4_hasKnocked 2 = .ok (.getfield 9, 3) := by decide +kernel
theorem dX4_hasKnocked_5 : decode cX4_hasKnocked 5 = .ok (.getfield 25, 3) := by decide +kernel
theorem dX4_hasKnocked_8 : decode cX4_hasKnocked 8 = .ok (.if_icmp .ge 20, 3) := by decide +kernel
theorem dX4_hasKnocked_11 : decode cX4_hasKnocked 11 = .ok (.iload_n 2, 1) := by decide +kernel
theorem dX4_hasKnocked_12 : decode cX4_hasKnocked 12 = .ok (.iload_n 1, 1) := by decide +kernel
theorem dX4_hasKnocked_13 : decode cX4_hasKnocked 13 = .ok (.isub, 1) := by decide +kernel
theorem dX4_hasKnocked_14 : decode cX4_hasKnocked 14 = .ok (.aload_n 0, 1) := by decide +kernel
theorem dX4_hasKnocked_15 : decode cX4_hasKnocked 15 = .ok (.getfield 9, 3) := by decide +kernel
theorem dX4_hasKnocked_18 : decode cX4_hasKnocked 18 = .ok (.getfield 52, 3) := by decide +kernel
theorem dX4_hasKnocked_21 : decode cX4_hasKnocked 21 = .ok (.if_icmp .ge 7, 3) := by decide +kernel
theorem dX4_hasKnocked_24 : decode cX4_hasKnocked 24 = .ok (.iconst 1, 1) := by decide +kernel
theorem dX4_hasKnocked_25 : decode cX4_hasKnocked 25 = .ok (.goto 4, 3) := by decide +kernel
theorem dX4_hasKnocked_28 : decode cX4_hasKnocked 28 = .ok (.iconst 0, 1) := by decide +kernel
theorem dX4_hasKnocked_29 : decode cX4_hasKnocked 29 = .ok (.ireturn, 1) := by decide +kernel
theorem dX4_passHour_0 : decode cX4_passHour 0 = .ok (.aload_n 0, 1) := by decide +kernel
theorem dX4_passHour_1 : decode cX4_passHour 1 = .ok (.aload_n 1, 1) := by decide +kernel
theorem dX4_passHour_2 : decode cX4_passHour 2 = .ok (.iload_n 2, 1) := by decide +kernel
theorem dX4_passHour_3 : decode cX4_passHour 3 = .ok (.invokevirtual 65, 3) := by decide +kernel
theorem dX4_passHour_6 : decode cX4_passHour 6 = .ok (.iload_n 3, 1) := by decide +kernel
theorem dX4_passHour_7 : decode cX4_passHour 7 = .ok (.iconst (-1), 1) := by decide +kernel
theorem dX4_passHour_8 : decode cX4_passHour 8 = .ok (.ixor, 1) := by decide +kernel
theorem dX4_passHour_9 : decode cX4_passHour 9 = .ok (.iand, 1) := by decide +kernel
theorem dX4_passHour_10 : decode cX4_passHour 10 = .ok (.istore 4, 2) := by decide +kernel
theorem dX4_passHour_12 : decode cX4_passHour 12 = .ok (.aload_n 1, 1) := by decide +kernel
theorem dX4_passHour_13 : decode cX4_passHour 13 = .ok (.iload 4, 2) := by decide +kernel
theorem dX4_passHour_15 : decode cX4_passHour 15 = .ok (.iload_n 2, 1) := by decide +kernel
theorem dX4_passHour_16 : decode cX4_passHour 16 = .ok (.ixor, 1) := by decide +kernel
theorem dX4_passHour_17 : decode cX4_passHour 17 = .ok (.iload_n 3, 1) := by decide +kernel
theorem dX4_passHour_18 : decode cX4_passHour 18 = .ok (.iconst (-1), 1) := by decide +kernel
theorem dX4_passHour_19 : decode cX4_passHour 19 = .ok (.ixor, 1) := by decide +kernel
theorem dX4_passHour_20 : decode cX4_passHour 20 = .ok (.iand, 1) := by decide +kernel
theorem dX4_passHour_21 : decode cX4_passHour 21 = .ok (.invokevirtual 69, 3) := by decide +kernel
theorem dX4_passHour_24 : decode cX4_passHour 24 = .ok (.iconst 0, 1) := by decide +kernel
theorem dX4_passHour_25 : decode cX4_passHour 25 = .ok (.istore 5, 2) := by decide +kernel
theorem dX4_passHour_27 : decode cX4_passHour 27 = .ok (.iload 5, 2) := by decide +kernel
theorem dX4_passHour_29 : decode cX4_passHour 29 = .ok (.aload_n 0, 1) := by decide +kernel
theorem dX4_passHour_30 : decode cX4_passHour 30 = .ok (.getfield 9, 3) := by decide +kernel
theorem dX4_passHour_33 : decode cX4_passHour 33 = .ok (.getfield 73, 3) := by decide +kernel
theorem dX4_passHour_36 : decode cX4_passHour 36 = .ok (.if_icmp .ge 122, 3) := by decide +kernel
theorem dX4_passHour_39 : decode cX4_passHour 39 = .ok (.aload_n 1, 1) := by decide +kernel
theorem dX4_passHour_40 : decode cX4_passHour 40 = .ok (.iload 5, 2) := by decide +kernel
theorem dX4_passHour_42 : decode cX4_passHour 42 = .ok (.invokevirtual 76, 3) := by decide +kernel
theorem dX4_passHour_45 : decode cX4_passHour 45 = .ok (.ifCond .ne 26, 3) := by decide +kernel
theorem dX4_passHour_48 : decode cX4_passHour 48 = .ok (.aload_n 0, 1) := by decide +kernel
theorem dX4_passHour_49 : decode cX4_passHour 49 = .ok (.getfield 9, 3) := by decide +kernel
theorem dX4_passHour_52 : decode cX4_passHour 52 = .ok (.getfield 79, 3) := by decide +kernel
theorem dX4_passHour_55 : decode cX4_passHour 55 = .ok (.iload 5, 2) := by decide +kernel
theorem dX4_passHour_57 : decode cX4_passHour 57 = .ok (.iaload, 1) := by decide +kernel
theorem dX4_passHour_58 : decode cX4_passHour 58 = .ok (.aload_n 1, 1) := by decide +kernel
theorem dX4_passHour_59 : decode cX4_passHour 59 = .ok (.invokevirtual 82, 3) := by decide +kernel
theorem dX4_passHour_62 : decode cX4_passHour 62 = .ok (.if_icmp .ne 9, 3) := by decide +kernel
theorem dX4_passHour_65 : decode cX4_passHour 65 = .ok (.aload_n 1, 1) := by decide +kernel
theorem dX4_passHour_66 : decode cX4_passHour 66 = .ok (.iload 5, 2) := by decide +kernel
theorem dX4_passHour_68 : decode cX4_passHour 68 = .ok (.invokevirtual 85, 3) := by decide +kernel
theorem dX4_passHour_71 : decode cX4_passHour 71 = .ok (.aload_n 1, 1) := by decide +kernel
theorem dX4_passHour_72 : decode cX4_passHour 72 = .ok (.iload 5, 2) := by decide +kernel
theorem dX4_passHour_74 : decode cX4_passHour 74 = .ok (.invokevirtual 76, 3) := by decide +kernel
theorem dX4_passHour_77 : decode cX4_passHour 77 = .ok (.iconst 1, 1) := by decide +kernel
theorem dX4_passHour_78 : decode cX4_passHour 78 = .ok (.if_icmp .ne 74, 3) := by decide +kernel
theorem dX4_passHour_81 : decode cX4_passHour 81 = .ok (.aload_n 1, 1) := by decide +kernel
theorem dX4_passHour_82 : decode cX4_passHour 82 = .ok (.iload 5, 2) := by decide +kernel
theorem dX4_passHour_84 : decode cX4_passHour 84 = .ok (.invokevirtual 88, 3) := by decide +kernel
theorem dX4_passHour_87 : decode cX4_passHour 87 = .ok (.istore 6, 2) := by decide +kernel
theorem dX4_passHour_89 : decode cX4_passHour 89 = .ok (.aload_n 0, 1) := by decide +kernel
theorem dX4_passHour_90 : decode cX4_passHour 90 = .ok (.aload_n 0, 1) := by decide +kernel
theorem dX4_passHour_91 : decode cX4_passHour 91 = .ok (.getfield 9, 3) := by decide +kernel
theorem dX4_passHour_94 : decode cX4_passHour 94 = .ok (.getfield 91, 3) := by decide +kernel
theorem dX4_passHour_97 : decode cX4_passHour 97 = .ok (.iload 5, 2) := by decide +kernel
theorem dX4_passHour_99 : decode cX4_passHour 99 = .ok (.iaload, 1) := by decide +kernel
theorem dX4_passHour_100 : decode cX4_passHour 100 = .ok (.iload 6, 2) := by decide +kernel
theorem dX4_passHour_102 : decode cX4_passHour 102 = .ok (.iload 4, 2) := by decide +kernel
theorem dX4_passHour_104 : decode cX4_passHour 104 = .ok (.invokevirtual 94, 3) := by decide +kernel
theorem dX4_passHour_107 : decode cX4_passHour 107 = .ok (.istore 7, 2) := by decide +kernel
theorem dX4_passHour_109 : decode cX4_passHour 109 = .ok (.aload_n 1, 1) := by decide +kernel
theorem dX4_passHour_110 : decode cX4_passHour 110 = .ok (.iload 5, 2) := by decide +kernel
theorem dX4_passHour_112 : decode cX4_passHour 112 = .ok (.iload 7, 2) := by decide +kernel
theorem dX4_passHour_114 : decode cX4_passHour 114 = .ok (.invokevirtual 98, 3) := by decide +kernel
theorem dX4_passHour_117 : decode cX4_passHour 117 = .ok (.aload_n 0, 1) := by decide +kernel
theorem dX4_passHour_118 : decode cX4_passHour 118 = .ok (.iload 6, 2) := by decide +kernel
theorem dX4_passHour_120 : decode cX4_passHour 120 = .ok (.iload 7, 2) := by decide +kernel
theorem dX4_passHour_122 : decode cX4_passHour 122 = .ok (.invokevirtual 102, 3) := by decide +kernel
theorem dX4_passHour_125 : decode cX4_passHour 125 = .ok (.ifCond .eq 9, 3) := by decide +kernel
theorem dX4_passHour_128 : decode cX4_passHour 128 = .ok (.aload_n 1, 1) := by decide +kernel
theorem dX4_passHour_129 : decode cX4_passHour 129 = .ok (.iload 7, 2) := by decide +kernel
theorem dX4_passHour_131 : decode cX4_passHour 131 = .ok (.invokevirtual 105, 3) := by decide +kernel
theorem dX4_passHour_134 : decode cX4_passHour 134 = .ok (.iload 7, 2) := by decide +kernel
theorem dX4_passHour_136 : decode cX4_passHour 136 = .ok (.aload_n 0, 1) := by decide +kernel
theorem dX4_passHour_137 : decode cX4_passHour 137 = .ok (.getfield 9, 3) := by decide +kernel
theorem dX4_passHour_140 : decode cX4_passHour 140 = .ok (.getfield 25, 3) := by decide +kernel
theorem dX4_passHour_143 : decode cX4_passHour 143 = .ok (.if_icmp .ne 9, 3) := by decide +kernel
theorem dX4_passHour_146 : decode cX4_passHour 146 = .ok (.aload_n 1, 1) := by decide +kernel
theorem dX4_passHour_147 : decode cX4_passHour 147 = .ok (.iload 5, 2) := by decide +kernel
theorem dX4_passHour_149 : decode cX4_passHour 149 = .ok (.invokevirtual 108, 3) := by decide +kernel
theorem dX4_passHour_152 : decode cX4_passHour 152 = .ok (.iinc 5 1, 3) := by decide +kernel
theorem dX4_passHour_155 : decode cX4_passHour 155 = .ok (.goto (-128), 3) := by decide +kernel
theorem dX4_passHour_158 : decode cX4_passHour 158 = .ok (.aload_n 1, 1) := by decide +kernel
theorem dX4_passHour_159 : decode cX4_passHour 159 = .ok (.invokevirtual 111, 3) := by decide +kernel
theorem dX4_passHour_162 : decode cX4_passHour 162 = .ok (.return_, 1) := by decide +kernel
theorem dX5_init_0 : decode cX5_init 0 = .ok (.aload_n 0, 1) := by decide +kernel
theorem dX5_init_1 : decode cX5_init 1 = .ok (.invokespecial 3, 3) := by decide +kernel
theorem dX5_init_4 : decode cX5_init 4 = .ok (.aload_n 0, 1) := by decide +kernel
theorem dX5_init_5 : decode cX5_init 5 = .ok (.bipush 16, 2) := by decide +kernel
theorem dX5_init_7 : decode cX5_init 7 = .ok (.newarray .int, 2) := by decide +kernel
theorem dX5_init_9 : decode cX5_init 9 = .ok (.putfield 9, 3) := by decide +kernel
theorem dX5_init_12 : decode cX5_init 12 = .ok (.aload_n 0, 1) := by decide +kernel
theorem dX5_init_13 : decode cX5_init 13 = .ok (.bipush 16, 2) := by decide +kernel
theorem dX5_init_15 : decode cX5_init 15 = .ok (.newarray .int, 2) := by decide +kernel
theorem dX5_init_17 : decode cX5_init 17 = .ok (.putfield 15, 3) := by decide +kernel
theorem dX5_init_20 : decode cX5_init 20 = .ok (.aload_n 0, 1) := by decide +kernel
theorem dX5_init_21 : decode cX5_init 21 = .ok (.sipush 512, 3) := by decide +kernel
theorem dX5_init_24 : decode cX5_init 24 = .ok (.newarray .int, 2) := by decide +kernel
theorem dX5_init_26 : decode cX5_init 26 = .ok (.putfield 18, 3) := by decide +kernel
theorem dX5_init_29 : decode cX5_init 29 = .ok (.aload_n 0, 1) := by decide +kernel
theorem dX5_init_30 : decode cX5_init 30 = .ok (.sipush 512, 3) := by decide +kernel
theorem dX5_init_33 : decode cX5_init 33 = .ok (.newarray .int, 2) := by decide +kernel
theorem dX5_init_35 : decode cX5_init 35 = .ok (.putfield 21, 3) := by decide +kernel
theorem dX5_init_38 : decode cX5_init 38 = .ok (.aload_n 0, 1) := by decide +kernel
theorem dX5_init_39 : decode cX5_init 39 = .ok (.bipush 16, 2) := by decide +kernel
theorem dX5_init_41 : decode cX5_init 41 = .ok (.newarray .int, 2) := by decide +kernel
theorem dX5_init_43 : decode cX5_init 43 = .ok (.putfield 24, 3) := by decide +kernel
theorem dX5_init_46 : decode cX5_init 46 = .ok (.aload_n 0, 1) := by decide +kernel
theorem dX5_init_47 : decode cX5_init 47 = .ok (.aload_n 1, 1) := by decide +kernel
theorem dX5_init_48 : decode cX5_init 48 = .ok (.putfield 27, 3) := by decide +kernel
theorem dX5_init_51 : decode cX5_init 51 = .ok (.aload_n 0, 1) := by decide +kernel
theorem dX5_init_52 : decode cX5_init 52 = .ok (.invokevirtual 31, 3) := by decide +kernel
theorem dX5_init_55 : decode cX5_init 55 = .ok (.return_, 1) := by decide +kernel
theorem dX5_clearBook_0 : decode cX5_clearBook 0 = .ok (.aload_n 0, 1) := by decide +kernel
theorem dX5_clearBook_1 : decode cX5_clearBook 1 = .ok (.getfield 9, 3) := by decide +kernel
theorem dX5_clearBook_4 : decode cX5_clearBook 4 = .ok (.iconst (-1), 1) := by decide +kernel
theorem dX5_clearBook_5 : decode cX5_clearBook 5 = .ok (.invokestatic 34, 3) := by decide +kernel
theorem dX5_clearBook_8 : decode cX5_clearBook 8 = .ok (.aload_n 0, 1) := by decide +kernel
theorem dX5_clearBook_9 : decode cX5_clearBook 9 = .ok (.iconst 0, 1) := by decide +kernel
theorem dX5_clearBook_10 : decode cX5_clearBook 10 = .ok (.putfield 40, 3) := by decide +kernel
theorem dX5_clearBook_13 : decode cX5_clearBook 13 = .ok (.return_, 1) := by decide +kernel
theorem dX5_readBook_0 : decode cX5_readBook 0 = .ok (.aload_n 0, 1) := by decide +kernel
theorem dX5_readBook_1 : decode cX5_readBook 1 = .ok (.getfield 15, 3) := by decide +kernel
theorem dX5_readBook_4 : decode cX5_readBook 4 = .ok (.iconst (-1), 1) := by decide +kernel
theorem dX5_readBook_5 : decode cX5_readBook 5 = .ok (.invokestatic 34, 3) := by decide +kernel
theorem dX5_readBook_8 : decode cX5_readBook 8 = .ok (.iconst 0, 1) := by decide +kernel
theorem dX5_readBook_9 : decode cX5_readBook 9 = .ok (.istore_n 2, 1) := by decide +kernel
theorem dX5_readBook_10 : decode cX5_readBook 10 = .ok (.iload_n 2, 1) := by decide +kernel
theorem dX5_readBook_11 : decode cX5_readBook 11 = .ok (.bipush 12, 2) := by decide +kernel
theorem dX5_readBook_13 : decode cX5_readBook 13 = .ok (.if_icmp .gt 29, 3) := by decide +kernel
theorem dX5_readBook_16 : decode cX5_readBook 16 = .ok (.aload_n 1, 1) := by decide +kernel
theorem dX5_readBook_17 : decode cX5_readBook 17 = .ok (.invokevirtual 44, 3) := by decide +kernel
theorem dX5_readBook_20 : decode cX5_readBook 20 = .ok (.ifCond .ne 22, 3) := by decide +kernel
theorem dX5_readBook_23 : decode cX5_readBook 23 = .ok (.aload_n 1, 1) := by decide +kernel
theorem dX5_readBook_24 : decode cX5_readBook 24 = .ok (.invokevirtual 50, 3) := by decide +kernel
theorem dX5_readBook_27 : decode cX5_readBook 27 = .ok (.ifCond .ne 15, 3) := by decide +kernel
theorem dX5_readBook_30 : decode cX5_readBook 30 = .ok (.aload_n 0, 1) := by decide +kernel
theorem dX5_readBook_31 : decode cX5_readBook 31 = .ok (.aload_n 1, 1) := by decide +kernel
theorem dX5_readBook_32 : decode cX5_readBook 32 = .ok (.iload_n 2, 1) := by decide +kernel
theorem dX5_readBook_33 : decode cX5_readBook 33 = .ok (.invokevirtual 53, 3) := by decide +kernel
theorem dX5_readBook_36 : decode cX5_readBook 36 = .ok (.iinc 2 1, 3) := by decide +kernel
theorem dX5_readBook_39 : decode cX5_readBook 39 = .ok (.goto (-29), 3) := by decide +kernel
theorem dX5_readBook_42 : decode cX5_readBook 42 = .ok (.aload_n 1, 1) := by decide +kernel
theorem dX5_readBook_43 : decode cX5_readBook 43 = .ok (.invokevirtual 44, 3) := by decide +kernel
theorem dX5_readBook_46 : decode cX5_readBook 46 = .ok (.ifCond .ne 26, 3) := by decide +kernel
theorem dX5_readBook_49 : decode cX5_readBook 49 = .ok (.aload_n 0, 1) := by decide +kernel
theorem dX5_readBook_50 : decode cX5_readBook 50 = .ok (.getfield 9, 3) := by decide +kernel
theorem dX5_readBook_53 : decode cX5_readBook 53 = .ok (.astore_n 3, 1) := by decide +kernel
theorem dX5_readBook_54 : decode cX5_readBook 54 = .ok (.aload_n 0, 1) := by decide +kernel
theorem dX5_readBook_55 : decode cX5_readBook 55 = .ok (.aload_n 0, 1) := by decide +kernel
theorem dX5_readBook_56 : decode cX5_readBook 56 = .ok (.getfield 15, 3) := by decide +kernel
theorem dX5_readBook_59 : decode cX5_readBook 59 = .ok (.putfield 9, 3) := by decide +kernel
theorem dX5_readBook_62 : decode cX5_readBook 62 = .ok (.aload_n 0, 1) := by decide +kernel
theorem dX5_readBook_63 : decode cX5_readBook 63 = .ok (.aload_n 3, 1) := by decide +kernel
theorem dX5_readBook_64 : decode cX5_readBook 64 = .ok (.putfield 15, 3) := by decide +kernel
theorem dX5_readBook_67 : decode cX5_readBook 67 = .ok (.aload_n 0, 1) := by decide +kernel
theorem dX5_readBook_68 : decode cX5_readBook 68 = .ok (.iload_n 2, 1) := by decide +kernel
theorem dX5_readBook_69 : decode cX5_readBook 69 = .ok (.putfield 40, 3) := by decide +kernel
theorem dX5_readBook_72 : decode cX5_readBook 72 = .ok (.return_, 1) := by decide +kernel
theorem dX5_readLine_0 : decode cX5_readLine 0 = .ok (.aload_n 1, 1) := by decide +kernel
theorem dX5_readLine_1 : decode cX5_readLine 1 = .ok (.iconst 0, 1) := by decide +kernel
theorem dX5_readLine_2 : decode cX5_readLine 2 = .ok (.aload_n 0, 1) := by decide +kernel
theorem dX5_readLine_3 : decode cX5_readLine 3 = .ok (.getfield 27, 3) := by decide +kernel
theorem dX5_readLine_6 : decode cX5_readLine 6 = .ok (.getfield 57, 3) := by decide +kernel
theorem dX5_readLine_9 : decode cX5_readLine 9 = .ok (.iconst 1, 1) := by decide +kernel
theorem dX5_readLine_10 : decode cX5_readLine 10 = .ok (.isub, 1) := by decide +kernel
theorem dX5_readLine_11 : decode cX5_readLine 11 = .ok (.invokevirtual 62, 3) := by decide +kernel
theorem dX5_readLine_14 : decode cX5_readLine 14 = .ok (.istore_n 3, 1) := by decide +kernel
theorem dX5_readLine_15 : decode cX5_readLine 15 = .ok (.iload_n 3, 1) := by decide +kernel
theorem dX5_readLine_16 : decode cX5_readLine 16 = .ok (.iconst (-1), 1) := by decide +kernel
theorem dX5_readLine_17 : decode cX5_readLine 17 = .ok (.if_icmp .eq 18, 3) := by decide +kernel
theorem dX5_readLine_20 : decode cX5_readLine 20 = .ok (.aload_n 0, 1) := by decide +kernel
theorem dX5_readLine_21 : decode cX5_readLine 21 = .ok (.getfield 15, 3) := by decide +kernel
theorem dX5_readLine_24 : decode cX5_readLine 24 = .ok (.iload_n 3, 1) := by decide +kernel
theorem dX5_readLine_25 : decode cX5_readLine 25 = .ok (.iaload, 1) := by decide +kernel
theorem dX5_readLine_26 : decode cX5_readLine 26 = .ok (.iconst (-1), 1) := by decide +kernel
theorem dX5_readLine_27 : decode cX5_readLine 27 = .ok (.if_icmp .eq 8, 3) := by decide +kernel
theorem dX5_readLine_30 : decode cX5_readLine 30 = .ok (.aload_n 1, 1) := by decide +kernel
theorem dX5_readLine_31 : decode cX5_readLine 31 = .ok (.iconst 2, 1) := by decide +kernel
theorem dX5_readLine_32 : decode cX5_readLine 32 = .ok (.invokevirtual 66, 3) := by decide +kernel
theorem dX5_readLine_35 : decode cX5_readLine 35 = .ok (.iload_n 2, 1) := by decide +kernel
theorem dX5_readLine_36 : decode cX5_readLine 36 = .ok (.bipush 12, 2) := by decide +kernel
theorem dX5_readLine_38 : decode cX5_readLine 38 = .ok (.if_icmp .ne 8, 3) := by decide +kernel
theorem dX5_readLine_41 : decode cX5_readLine 41 = .ok (.aload_n 1, 1) := by decide +kernel
theorem dX5_readLine_42 : decode cX5_readLine 42 = .ok (.iconst 3, 1) := by decide +kernel
theorem dX5_readLine_43 : decode cX5_readLine 43 = .ok (.invokevirtual 66, 3) := by decide +kernel
theorem dX5_readLine_46 : decode cX5_readLine 46 = .ok (.aload_n 1, 1) := by decide +kernel
theorem dX5_readLine_47 : decode cX5_readLine 47 = .ok (.iconst 0, 1) := by decide +kernel
theorem dX5_readLine_48 : decode cX5_readLine 48 = .ok (.bipush 99, 2) := by decide +kernel
theorem dX5_readLine_50 : decode cX5_readLine 50 = .ok (.invokevirtual 62, 3) := by decide +kernel
theorem dX5_readLine_53 : decode cX5_readLine 53 = .ok (.istore 4, 2) := by decide +kernel
theorem dX5_readLine_55 : decode cX5_readLine 55 = .ok (.aload_n 1, 1) := by decide +kernel
theorem dX5_readLine_56 : decode cX5_readLine 56 = .ok (.bipush 59, 2) := by decide +kernel
theorem dX5_readLine_58 : decode cX5_readLine 58 = .ok (.invokevirtual 70, 3) := by decide +kernel
theorem dX5_readLine_61 : decode cX5_readLine 61 = .ok (.aload_n 1, 1) := by decide +kernel
theorem dX5_readLine_62 : decode cX5_readLine 62 = .ok (.invokevirtual 44, 3) := by decide +kernel
theorem dX5_readLine_65 : decode cX5_readLine 65 = .ok (.ifCond .ne 11, 3) := by decide +kernel
theorem dX5_readLine_68 : decode cX5_readLine 68 = .ok (.aload_n 0, 1) := by decide +kernel
theorem dX5_readLine_69 : decode cX5_readLine 69 = .ok (.getfield 15, 3) := by decide +kernel
theorem dX5_readLine_72 : decode cX5_readLine 72 = .ok (.iload_n 3, 1) := by decide +kernel
theorem dX5_readLine_73 : decode cX5_readLine 73 = .ok (.iload 4, 2) := by decide +kernel
theorem dX5_readLine_75 : decode cX5_readLine 75 = .ok (.iastore, 1) := by decide +kernel
theorem dX5_readLine_76 : decode cX5_readLine 76 = .ok (.return_, 1) := by decide +kernel
theorem dX5_isInBook_0 : decode cX5_isInBook 0 = .ok (.aload_n 0, 1) := by decide +kernel
theorem dX5_isInBook_1 : decode cX5_isInBook 1 = .ok (.getfield 9, 3) := by decide +kernel
theorem dX5_isInBook_4 : decode cX5_isInBook 4 = .ok (.iload_n 1, 1) := by decide +kernel
theorem dX5_isInBook_5 : decode cX5_isInBook 5 = .ok (.iaload, 1) := by decide +kernel
theorem dX5_isInBook_6 : decode cX5_isInBook 6 = .ok (.iconst (-1), 1) := by decide +kernel
theorem dX5_isInBook_7 : decode cX5_isInBook 7 = .ok (.if_icmp .eq 7, 3) := by decide +kernel
theorem dX5_isInBook_10 : decode cX5_isInBook 10 = .ok (.iconst 1, 1) := by decide +kernel
theorem dX5_isInBook_11 : decode cX5_isInBook 11 = .ok (.goto 4, 3) := by decide +kernel
theorem dX5_isInBook_14 : decode cX5_isInBook 14 = .ok (.iconst 0, 1) := by decide +kernel
theorem dX5_isInBook_15 : decode cX5_isInBook 15 = .ok (.ireturn, 1) := by decide +kernel
theorem dX5_smellAt_0 : decode cX5_smellAt 0 = .ok (.iload_n 1, 1) := by decide +kernel
theorem dX5_smellAt_1 : decode cX5_smellAt 1 = .ok (.aload_n 0, 1) := by decide +kernel
theorem dX5_smellAt_2 : decode cX5_smellAt 2 = .ok (.getfield 27, 3) := by decide +kernel
theorem dX5_smellAt_5 : decode cX5_smellAt 5 = .ok (.getfield 74, 3) := by decide +kernel
theorem dX5_smellAt_8 : decode cX5_smellAt 8 = .ok (.isub, 1) := by decide +kernel
theorem dX5_smellAt_9 : decode cX5_smellAt 9 = .ok (.istore_n 3, 1) := by decide +kernel
theorem dX5_smellAt_10 : decode cX5_smellAt 10 = .ok (.iload_n 3, 1) := by decide +kernel
theorem dX5_smellAt_11 : decode cX5_smellAt 11 = .ok (.ifCond .ge 10, 3) := by decide +kernel
theorem dX5_smellAt_14 : decode cX5_smellAt 14 = .ok (.iload_n 2, 1) := by decide +kernel
theorem dX5_smellAt_15 : decode cX5_smellAt 15 = .ok (.iload_n 3, 1) := by decide +kernel
theorem dX5_smellAt_16 : decode cX5_smellAt 16 = .ok (.ineg, 1) := by decide +kernel
theorem dX5_smellAt_17 : decode cX5_smellAt 17 = .ok (.ishl, 1) := by decide +kernel
theorem dX5_smellAt_18 : decode cX5_smellAt 18 = .ok (.goto 6, 3) := by decide +kernel
theorem dX5_smellAt_21 : decode cX5_smellAt 21 = .ok (.iload_n 2, 1) := by decide +kernel
theorem dX5_smellAt_22 : decode cX5_smellAt 22 = .ok (.iload_n 3, 1) := by decide +kernel
theorem dX5_smellAt_23 : decode cX5_smellAt 23 = .ok (.ishr, 1) := by decide +kernel
theorem dX5_smellAt_24 : decode cX5_smellAt 24 = .ok (.aload_n 0, 1) := by decide +kernel
theorem dX5_smellAt_25 : decode cX5_smellAt 25 = .ok (.invokevirtual 77, 3) := by decide +kernel
theorem dX5_smellAt_28 : decode cX5_smellAt 28 = .ok (.iconst 1, 1) := by decide +kernel
theorem dX5_smellAt_29 : decode cX5_smellAt 29 = .ok (.isub, 1) := by decide +kernel
theorem dX5_smellAt_30 : decode cX5_smellAt 30 = .ok (.iand, 1) := by decide +kernel
theorem dX5_smellAt_31 : decode cX5_smellAt 31 = .ok (.invokestatic 81, 3) := by decide +kernel
theorem dX5_smellAt_34 : decode cX5_smellAt 34 = .ok (.ireturn, 1) := by decide +kernel
theorem dX5_windows_0 : decode cX5_windows 0 = .ok (.iconst 2, 1) := by decide +kernel
theorem dX5_windows_1 : decode cX5_windows 1 = .ok (.aload_n 0, 1) := by decide +kernel
theorem dX5_windows_2 : decode cX5_windows 2 = .ok (.getfield 27, 3) := by decide +kernel
theorem dX5_windows_5 : decode cX5_windows 5 = .ok (.getfield 74, 3) := by decide +kernel
theorem dX5_windows_8 : decode cX5_windows 8 = .ok (.ishl, 1) := by decide +kernel
theorem dX5_windows_9 : decode cX5_windows 9 = .ok (.ireturn, 1) := by decide +kernel
theorem dX5_scentOf_0 : decode cX5_scentOf 0 = .ok (.iconst 0, 1) := by decide +kernel
theorem dX5_scentOf_1 : decode cX5_scentOf 1 = .ok (.istore_n 1, 1) := by decide +kernel
theorem dX5_scentOf_2 : decode cX5_scentOf 2 = .ok (.iconst 0, 1) := by decide +kernel
theorem dX5_scentOf_3 : decode cX5_scentOf 3 = .ok (.istore_n 2, 1) := by decide +kernel
theorem dX5_scentOf_4 : decode cX5_scentOf 4 = .ok (.iload_n 2, 1) := by decide +kernel
theorem dX5_scentOf_5 : decode cX5_scentOf 5 = .ok (.iconst 4, 1) := by decide +kernel
theorem dX5_scentOf_6 : decode cX5_scentOf 6 = .ok (.if_icmp .gt 27, 3) := by decide +kernel
theorem dX5_scentOf_9 : decode cX5_scentOf 9 = .ok (.iload_n 1, 1) := by decide +kernel
theorem dX5_scentOf_10 : decode cX5_scentOf 10 = .ok (.iload_n 0, 1) := by decide +kernel
theorem dX5_scentOf_11 : decode cX5_scentOf 11 = .ok (.iload_n 2, 1) := by decide +kernel
theorem dX5_scentOf_12 : decode cX5_scentOf 12 = .ok (.invokestatic 85, 3) := by decide +kernel
theorem dX5_scentOf_15 : decode cX5_scentOf 15 = .ok (.ifCond .eq 9, 3) := by decide +kernel
theorem dX5_scentOf_18 : decode cX5_scentOf 18 = .ok (.iload_n 2, 1) := by decide +kernel
theorem dX5_scentOf_19 : decode cX5_scentOf 19 = .ok (.iconst 1, 1) := by decide +kernel
theorem dX5_scentOf_20 : decode cX5_scentOf 20 = .ok (.iadd, 1) := by decide +kernel
theorem dX5_scentOf_21 : decode cX5_scentOf 21 = .ok (.goto 4, 3) := by decide +kernel
theorem dX5_scentOf_24 : decode cX5_scentOf 24 = .ok (.iconst 0, 1) := by decide +kernel
theorem dX5_scentOf_25 : decode cX5_scentOf 25 = .ok (.iadd, 1) := by decide +kernel
theorem dX5_scentOf_26 : decode cX5_scentOf 26 = .ok (.istore_n 1, 1) := by decide +kernel
theorem dX5_scentOf_27 : decode cX5_scentOf 27 = .ok (.iinc 2 1, 3) := by decide +kernel
theorem dX5_scentOf_30 : decode cX5_scentOf 30 = .ok (.goto (-26), 3) := by decide +kernel
theorem dX5_scentOf_33 : decode cX5_scentOf 33 = .ok (.iload_n 1, 1) := by decide +kernel
theorem dX5_scentOf_34 : decode cX5_scentOf 34 = .ok (.ireturn, 1) := by decide +kernel
theorem dX5_isRight_0 : decode cX5_isRight 0 = .ok (.aload_n 0, 1) := by decide +kernel
theorem dX5_isRight_1 : decode cX5_isRight 1 = .ok (.getfield 9, 3) := by decide +kernel
theorem dX5_isRight_4 : decode cX5_isRight 4 = .ok (.iload_n 1, 1) := by decide +kernel
theorem dX5_isRight_5 : decode cX5_isRight 5 = .ok (.iaload, 1) := by decide +kernel
theorem dX5_isRight_6 : decode cX5_isRight 6 = .ok (.iconst (-1), 1) := by decide +kernel
theorem dX5_isRight_7 : decode cX5_isRight 7 = .ok (.if_icmp .eq 16, 3) := by decide +kernel
theorem dX5_isRight_10 : decode cX5_isRight 10 = .ok (.aload_n 0, 1) := by decide +kernel
theorem dX5_isRight_11 : decode cX5_isRight 11 = .ok (.getfield 9, 3) := by decide +kernel
theorem dX5_isRight_14 : decode cX5_isRight 14 = .ok (.iload_n 1, 1) := by decide +kernel
theorem dX5_isRight_15 : decode cX5_isRight 15 = .ok (.iaload, 1) := by decide +kernel
theorem dX5_isRight_16 : decode cX5_isRight 16 = .ok (.iload_n 2, 1) := by decide +kernel
theorem dX5_isRight_17 : decode cX5_isRight 17 = .ok (.invokestatic 81, 3) := by decide +kernel
theorem dX5_isRight_20 : decode cX5_isRight 20 = .ok (.if_icmp .ne 7, 3) := by decide +kernel
theorem dX5_isRight_23 : decode cX5_isRight 23 = .ok (.iconst 1, 1) := by decide +kernel
theorem dX5_isRight_24 : decode cX5_isRight 24 = .ok (.goto 4, 3) := by decide +kernel
theorem dX5_isRight_27 : decode cX5_isRight 27 = .ok (.iconst 0, 1) := by decide +kernel
theorem dX5_isRight_28 : decode cX5_isRight 28 = .ok (.ireturn, 1) := by decide +kernel
theorem dX5_windowBehind_0 : decode cX5_windowBehind 0 = .ok (.iload_n 1, 1) := by decide +kernel
theorem dX5_windowBehind_1 : decode cX5_windowBehind 1 = .ok (.iconst 1, 1) := by decide +kernel
theorem dX5_windowBehind_2 : decode cX5_windowBehind 2 = .ok (.ishr, 1) := by decide +kernel
theorem dX5_windowBehind_3 : decode cX5_windowBehind 3 = .ok (.iload_n 2, 1) := by decide +kernel
theorem dX5_windowBehind_4 : decode cX5_windowBehind 4 = .ok (.aload_n 0, 1) := by decide +kernel
theorem dX5_windowBehind_5 : decode cX5_windowBehind 5 = .ok (.getfield 27, 3) := by decide +kernel
theorem dX5_windowBehind_8 : decode cX5_windowBehind 8 = .ok (.getfield 74, 3) := by decide +kernel
theorem dX5_windowBehind_11 : decode cX5_windowBehind 11 = .ok (.ishl, 1) := by decide +kernel
theorem dX5_windowBehind_12 : decode cX5_windowBehind 12 = .ok (.ior, 1) := by decide +kernel
theorem dX5_windowBehind_13 : decode cX5_windowBehind 13 = .ok (.ireturn, 1) := by decide +kernel
theorem dX5_waysBy_0 : decode cX5_waysBy 0 = .ok (.aload_n 0, 1) := by decide +kernel
theorem dX5_waysBy_1 : decode cX5_waysBy 1 = .ok (.getfield 18, 3) := by decide +kernel
theorem dX5_waysBy_4 : decode cX5_waysBy 4 = .ok (.iload_n 1, 1) := by decide +kernel
theorem dX5_waysBy_5 : decode cX5_waysBy 5 = .ok (.bipush 32, 2) := by decide +kernel
theorem dX5_waysBy_7 : decode cX5_waysBy 7 = .ok (.imul, 1) := by decide +kernel
theorem dX5_waysBy_8 : decode cX5_waysBy 8 = .ok (.iload_n 2, 1) := by decide +kernel
theorem dX5_waysBy_9 : decode cX5_waysBy 9 = .ok (.iadd, 1) := by decide +kernel
theorem dX5_waysBy_10 : decode cX5_waysBy 10 = .ok (.iaload, 1) := by decide +kernel
theorem dX5_waysBy_11 : decode cX5_waysBy 11 = .ok (.aload_n 0, 1) := by decide +kernel
theorem dX5_waysBy_12 : decode cX5_waysBy 12 = .ok (.getfield 21, 3) := by decide +kernel
theorem dX5_waysBy_15 : decode cX5_waysBy 15 = .ok (.iload_n 1, 1) := by decide +kernel
theorem dX5_waysBy_16 : decode cX5_waysBy 16 = .ok (.bipush 32, 2) := by decide +kernel
theorem dX5_waysBy_18 : decode cX5_waysBy 18 = .ok (.imul, 1) := by decide +kernel
theorem dX5_waysBy_19 : decode cX5_waysBy 19 = .ok (.iload_n 2, 1) := by decide +kernel
theorem dX5_waysBy_20 : decode cX5_waysBy 20 = .ok (.iadd, 1) := by decide +kernel
theorem dX5_waysBy_21 : decode cX5_waysBy 21 = .ok (.iaload, 1) := by decide +kernel
theorem dX5_waysBy_22 : decode cX5_waysBy 22 = .ok (.imul, 1) := by decide +kernel
theorem dX5_waysBy_23 : decode cX5_waysBy 23 = .ok (.ireturn, 1) := by decide +kernel
theorem dX5_weigh_0 : decode cX5_weigh 0 = .ok (.aload_n 0, 1) := by decide +kernel
theorem dX5_weigh_1 : decode cX5_weigh 1 = .ok (.getfield 18, 3) := by decide +kernel
theorem dX5_weigh_4 : decode cX5_weigh 4 = .ok (.iconst 0, 1) := by decide +kernel
theorem dX5_weigh_5 : decode cX5_weigh 5 = .ok (.invokestatic 34, 3) := by decide +kernel
theorem dX5_weigh_8 : decode cX5_weigh 8 = .ok (.aload_n 0, 1) := by decide +kernel
theorem dX5_weigh_9 : decode cX5_weigh 9 = .ok (.getfield 21, 3) := by decide +kernel
theorem dX5_weigh_12 : decode cX5_weigh 12 = .ok (.iconst 0, 1) := by decide +kernel
theorem dX5_weigh_13 : decode cX5_weigh 13 = .ok (.invokestatic 34, 3) := by decide +kernel
theorem dX5_weigh_16 : decode cX5_weigh 16 = .ok (.iconst 0, 1) := by decide +kernel
theorem dX5_weigh_17 : decode cX5_weigh 17 = .ok (.istore_n 1, 1) := by decide +kernel
theorem dX5_weigh_18 : decode cX5_weigh 18 = .ok (.iload_n 1, 1) := by decide +kernel
theorem dX5_weigh_19 : decode cX5_weigh 19 = .ok (.aload_n 0, 1) := by decide +kernel
theorem dX5_weigh_20 : decode cX5_weigh 20 = .ok (.getfield 27, 3) := by decide +kernel
theorem dX5_weigh_23 : decode cX5_weigh 23 = .ok (.getfield 57, 3) := by decide +kernel
theorem dX5_weigh_26 : decode cX5_weigh 26 = .ok (.if_icmp .ge 31, 3) := by decide +kernel
theorem dX5_weigh_29 : decode cX5_weigh 29 = .ok (.iconst 0, 1) := by decide +kernel
theorem dX5_weigh_30 : decode cX5_weigh 30 = .ok (.istore_n 2, 1) := by decide +kernel
theorem dX5_weigh_31 : decode cX5_weigh 31 = .ok (.iload_n 2, 1) := by decide +kernel
theorem dX5_weigh_32 : decode cX5_weigh 32 = .ok (.aload_n 0, 1) := by decide +kernel
theorem dX5_weigh_33 : decode cX5_weigh 33 = .ok (.invokevirtual 77, 3) := by decide +kernel
theorem dX5_weigh_36 : decode cX5_weigh 36 = .ok (.if_icmp .ge 15, 3) := by decide +kernel
theorem dX5_weigh_39 : decode cX5_weigh 39 = .ok (.aload_n 0, 1) := by decide +kernel
theorem dX5_weigh_40 : decode cX5_weigh 40 = .ok (.iload_n 1, 1) := by decide +kernel
theorem dX5_weigh_41 : decode cX5_weigh 41 = .ok (.iload_n 2, 1) := by decide +kernel
theorem dX5_weigh_42 : decode cX5_weigh 42 = .ok (.invokevirtual 89, 3) := by decide +kernel
theorem dX5_weigh_45 : decode cX5_weigh 45 = .ok (.iinc 2 1, 3) := by decide +kernel
theorem dX5_weigh_48 : decode cX5_weigh 48 = .ok (.goto (-17), 3) := by decide +kernel
theorem dX5_weigh_51 : decode cX5_weigh 51 = .ok (.iinc 1 1, 3) := by decide +kernel
theorem dX5_weigh_54 : decode cX5_weigh 54 = .ok (.goto (-36), 3) := by decide +kernel
theorem dX5_weigh_57 : decode cX5_weigh 57 = .ok (.aload_n 0, 1) := by decide +kernel
theorem dX5_weigh_58 : decode cX5_weigh 58 = .ok (.getfield 27, 3) := by decide +kernel
theorem dX5_weigh_61 : decode cX5_weigh 61 = .ok (.getfield 57, 3) := by decide +kernel
theorem dX5_weigh_64 : decode cX5_weigh 64 = .ok (.iconst 1, 1) := by decide +kernel
theorem dX5_weigh_65 : decode cX5_weigh 65 = .ok (.isub, 1) := by decide +kernel
theorem dX5_weigh_66 : decode cX5_weigh 66 = .ok (.istore_n 1, 1) := by decide +kernel
theorem dX5_weigh_67 : decode cX5_weigh 67 = .ok (.iload_n 1, 1) := by decide +kernel
theorem dX5_weigh_68 : decode cX5_weigh 68 = .ok (.ifCond .lt 31, 3) := by decide +kernel
theorem dX5_weigh_71 : decode cX5_weigh 71 = .ok (.iconst 0, 1) := by decide +kernel
theorem dX5_weigh_72 : decode cX5_weigh 72 = .ok (.istore_n 2, 1) := by decide +kernel
theorem dX5_weigh_73 : decode cX5_weigh 73 = .ok (.iload_n 2, 1) := by decide +kernel
theorem dX5_weigh_74 : decode cX5_weigh 74 = .ok (.aload_n 0, 1) := by decide +kernel
theorem dX5_weigh_75 : decode cX5_weigh 75 = .ok (.invokevirtual 77, 3) := by decide +kernel
theorem dX5_weigh_78 : decode cX5_weigh 78 = .ok (.if_icmp .ge 15, 3) := by decide +kernel
theorem dX5_weigh_81 : decode cX5_weigh 81 = .ok (.aload_n 0, 1) := by decide +kernel
theorem dX5_weigh_82 : decode cX5_weigh 82 = .ok (.iload_n 1, 1) := by decide +kernel
theorem dX5_weigh_83 : decode cX5_weigh 83 = .ok (.iload_n 2, 1) := by decide +kernel
theorem dX5_weigh_84 : decode cX5_weigh 84 = .ok (.invokevirtual 93, 3) := by decide +kernel
theorem dX5_weigh_87 : decode cX5_weigh 87 = .ok (.iinc 2 1, 3) := by decide +kernel
theorem dX5_weigh_90 : decode cX5_weigh 90 = .ok (.goto (-17), 3) := by decide +kernel
theorem dX5_weigh_93 : decode cX5_weigh 93 = .ok (.iinc 1 (-1), 3) := by decide +kernel
theorem dX5_weigh_96 : decode cX5_weigh 96 = .ok (.goto (-29), 3) := by decide +kernel
theorem dX5_weigh_99 : decode cX5_weigh 99 = .ok (.aload_n 0, 1) := by decide +kernel
theorem dX5_weigh_100 : decode cX5_weigh 100 = .ok (.aload_n 0, 1) := by decide +kernel
theorem dX5_weigh_101 : decode cX5_weigh 101 = .ok (.getfield 27, 3) := by decide +kernel
theorem dX5_weigh_104 : decode cX5_weigh 104 = .ok (.getfield 57, 3) := by decide +kernel
theorem dX5_weigh_107 : decode cX5_weigh 107 = .ok (.ifCond .ne 7, 3) := by decide +kernel
theorem dX5_weigh_110 : decode cX5_weigh 110 = .ok (.iconst 1, 1) := by decide +kernel
theorem dX5_weigh_111 : decode cX5_weigh 111 = .ok (.goto 4, 3) := by decide +kernel
theorem dX5_weigh_114 : decode cX5_weigh 114 = .ok (.iconst 0, 1) := by decide +kernel
theorem dX5_weigh_115 : decode cX5_weigh 115 = .ok (.putfield 96, 3) := by decide +kernel
theorem dX5_weigh_118 : decode cX5_weigh 118 = .ok (.iconst 0, 1) := by decide +kernel
theorem dX5_weigh_119 : decode cX5_weigh 119 = .ok (.istore_n 1, 1) := by decide +kernel
theorem dX5_weigh_120 : decode cX5_weigh 120 = .ok (.aload_n 0, 1) := by decide +kernel
theorem dX5_weigh_121 : decode cX5_weigh 121 = .ok (.getfield 27, 3) := by decide +kernel
theorem dX5_weigh_124 : decode cX5_weigh 124 = .ok (.getfield 57, 3) := by decide +kernel
theorem dX5_weigh_127 : decode cX5_weigh 127 = .ok (.ifCond .le 40, 3) := by decide +kernel
theorem dX5_weigh_130 : decode cX5_weigh 130 = .ok (.iload_n 1, 1) := by decide +kernel
theorem dX5_weigh_131 : decode cX5_weigh 131 = .ok (.aload_n 0, 1) := by decide +kernel
theorem dX5_weigh_132 : decode cX5_weigh 132 = .ok (.invokevirtual 77, 3) := by decide +kernel
theorem dX5_weigh_135 : decode cX5_weigh 135 = .ok (.if_icmp .ge 32, 3) := by decide +kernel
theorem dX5_weigh_138 : decode cX5_weigh 138 = .ok (.aload_n 0, 1) := by decide +kernel
theorem dX5_weigh_139 : decode cX5_weigh 139 = .ok (.dup, 1) := by decide +kernel
theorem dX5_weigh_140 : decode cX5_weigh 140 = .ok (.getfield 96, 3) := by decide +kernel
theorem dX5_weigh_143 : decode cX5_weigh 143 = .ok (.aload_n 0, 1) := by decide +kernel
theorem dX5_weigh_144 : decode cX5_weigh 144 = .ok (.aload_n 0, 1) := by decide +kernel
theorem dX5_weigh_145 : decode cX5_weigh 145 = .ok (.getfield 27, 3) := by decide +kernel
theorem dX5_weigh_148 : decode cX5_weigh 148 = .ok (.getfield 57, 3) := by decide +kernel
theorem dX5_weigh_151 : decode cX5_weigh 151 = .ok (.iconst 1, 1) := by decide +kernel
theorem dX5_weigh_152 : decode cX5_weigh 152 = .ok (.isub, 1) := by decide +kernel
theorem dX5_weigh_153 : decode cX5_weigh 153 = .ok (.iload_n 1, 1) := by decide +kernel
theorem dX5_weigh_154 : decode cX5_weigh 154 = .ok (.invokevirtual 99, 3) := by decide +kernel
theorem dX5_weigh_157 : decode cX5_weigh 157 = .ok (.iadd, 1) := by decide +kernel
theorem dX5_weigh_158 : decode cX5_weigh 158 = .ok (.putfield 96, 3) := by decide +kernel
theorem dX5_weigh_161 : decode cX5_weigh 161 = .ok (.iinc 1 1, 3) := by decide +kernel
theorem dX5_weigh_164 : decode cX5_weigh 164 = .ok (.goto (-44), 3) := by decide +kernel
theorem dX5_weigh_167 : decode cX5_weigh 167 = .ok (.return_, 1) := by decide +kernel
theorem dX5_weighTo_0 : decode cX5_weighTo 0 = .ok (.iload_n 2, 1) := by decide +kernel
theorem dX5_weighTo_1 : decode cX5_weighTo 1 = .ok (.ifCond .ne 7, 3) := by decide +kernel
theorem dX5_weighTo_4 : decode cX5_weighTo 4 = .ok (.iconst 1, 1) := by decide +kernel
theorem dX5_weighTo_5 : decode cX5_weighTo 5 = .ok (.goto 4, 3) := by decide +kernel
theorem dX5_weighTo_8 : decode cX5_weighTo 8 = .ok (.iconst 0, 1) := by decide +kernel
theorem dX5_weighTo_9 : decode cX5_weighTo 9 = .ok (.istore_n 3, 1) := by decide +kernel
theorem dX5_weighTo_10 : decode cX5_weighTo 10 = .ok (.iload_n 1, 1) := by decide +kernel
theorem dX5_weighTo_11 : decode cX5_weighTo 11 = .ok (.ifCond .le 17, 3) := by decide +kernel
theorem dX5_weighTo_14 : decode cX5_weighTo 14 = .ok (.aload_n 0, 1) := by decide +kernel
theorem dX5_weighTo_15 : decode cX5_weighTo 15 = .ok (.getfield 18, 3) := by decide +kernel
theorem dX5_weighTo_18 : decode cX5_weighTo 18 = .ok (.iload_n 1, 1) := by decide +kernel
theorem dX5_weighTo_19 : decode cX5_weighTo 19 = .ok (.iconst 1, 1) := by decide +kernel
theorem dX5_weighTo_20 : decode cX5_weighTo 20 = .ok (.isub, 1) := by decide +kernel
theorem dX5_weighTo_21 : decode cX5_weighTo 21 = .ok (.bipush 32, 2) := by decide +kernel
theorem dX5_weighTo_23 : decode cX5_weighTo 23 = .ok (.imul, 1) := by decide +kernel
theorem dX5_weighTo_24 : decode cX5_weighTo 24 = .ok (.iload_n 2, 1) := by decide +kernel
theorem dX5_weighTo_25 : decode cX5_weighTo 25 = .ok (.iadd, 1) := by decide +kernel
theorem dX5_weighTo_26 : decode cX5_weighTo 26 = .ok (.iaload, 1) := by decide +kernel
theorem dX5_weighTo_27 : decode cX5_weighTo 27 = .ok (.istore_n 3, 1) := by decide +kernel
theorem dX5_weighTo_28 : decode cX5_weighTo 28 = .ok (.iconst 0, 1) := by decide +kernel
theorem dX5_weighTo_29 : decode cX5_weighTo 29 = .ok (.istore 4, 2) := by decide +kernel
theorem dX5_weighTo_31 : decode cX5_weighTo 31 = .ok (.iload 4, 2) := by decide +kernel
theorem dX5_weighTo_33 : decode cX5_weighTo 33 = .ok (.iconst 1, 1) := by decide +kernel
theorem dX5_weighTo_34 : decode cX5_weighTo 34 = .ok (.if_icmp .gt 44, 3) := by decide +kernel
theorem dX5_weighTo_37 : decode cX5_weighTo 37 = .ok (.aload_n 0, 1) := by decide +kernel
theorem dX5_weighTo_38 : decode cX5_weighTo 38 = .ok (.iload_n 2, 1) := by decide +kernel
theorem dX5_weighTo_39 : decode cX5_weighTo 39 = .ok (.iload 4, 2) := by decide +kernel
theorem dX5_weighTo_41 : decode cX5_weighTo 41 = .ok (.invokevirtual 102, 3) := by decide +kernel
theorem dX5_weighTo_44 : decode cX5_weighTo 44 = .ok (.istore 5, 2) := by decide +kernel
theorem dX5_weighTo_46 : decode cX5_weighTo 46 = .ok (.aload_n 0, 1) := by decide +kernel
theorem dX5_weighTo_47 : decode cX5_weighTo 47 = .ok (.iload_n 1, 1) := by decide +kernel
theorem dX5_weighTo_48 : decode cX5_weighTo 48 = .ok (.iload 5, 2) := by decide +kernel
theorem dX5_weighTo_50 : decode cX5_weighTo 50 = .ok (.invokevirtual 105, 3) := by decide +kernel
theorem dX5_weighTo_53 : decode cX5_weighTo 53 = .ok (.ifCond .eq 19, 3) := by decide +kernel
theorem dX5_weighTo_56 : decode cX5_weighTo 56 = .ok (.aload_n 0, 1) := by decide +kernel
theorem dX5_weighTo_57 : decode cX5_weighTo 57 = .ok (.getfield 18, 3) := by decide +kernel
theorem dX5_weighTo_60 : decode cX5_weighTo 60 = .ok (.iload_n 1, 1) := by decide +kernel
theorem dX5_weighTo_61 : decode cX5_weighTo 61 = .ok (.bipush 32, 2) := by decide +kernel
theorem dX5_weighTo_63 : decode cX5_weighTo 63 = .ok (.imul, 1) := by decide +kernel
theorem dX5_weighTo_64 : decode cX5_weighTo 64 = .ok (.iload 5, 2) := by decide +kernel
theorem dX5_weighTo_66 : decode cX5_weighTo 66 = .ok (.iadd, 1) := by decide +kernel
theorem dX5_weighTo_67 : decode cX5_weighTo 67 = .ok (.dup2, 1) := by decide +kernel
theorem dX5_weighTo_68 : decode cX5_weighTo 68 = .ok (.iaload, 1) := by decide +kernel
theorem dX5_weighTo_69 : decode cX5_weighTo 69 = .ok (.iload_n 3, 1) := by decide +kernel
theorem dX5_weighTo_70 : decode cX5_weighTo 70 = .ok (.iadd, 1) := by decide +kernel
theorem dX5_weighTo_71 : decode cX5_weighTo 71 = .ok (.iastore, 1) := by decide +kernel
theorem dX5_weighTo_72 : decode cX5_weighTo 72 = .ok (.iinc 4 1, 3) := by decide +kernel
theorem dX5_weighTo_75 : decode cX5_weighTo 75 = .ok (.goto (-44), 3) := by decide +kernel
theorem dX5_weighTo_78 : decode cX5_weighTo 78 = .ok (.return_, 1) := by decide +kernel
theorem dX5_weighOn_0 : decode cX5_weighOn 0 = .ok (.iconst 0, 1) := by decide +kernel
theorem dX5_weighOn_1 : decode cX5_weighOn 1 = .ok (.istore_n 3, 1) := by decide +kernel
theorem dX5_weighOn_2 : decode cX5_weighOn 2 = .ok (.iload_n 1, 1) := by decide +kernel
theorem dX5_weighOn_3 : decode cX5_weighOn 3 = .ok (.aload_n 0, 1) := by decide +kernel
theorem dX5_weighOn_4 : decode cX5_weighOn 4 = .ok (.getfield 27, 3) := by decide +kernel
theorem dX5_weighOn_7 : decode cX5_weighOn 7 = .ok (.getfield 57, 3) := by decide +kernel
theorem dX5_weighOn_10 : decode cX5_weighOn 10 = .ok (.iconst 1, 1) := by decide +kernel
theorem dX5_weighOn_11 : decode cX5_weighOn 11 = .ok (.isub, 1) := by decide +kernel
theorem dX5_weighOn_12 : decode cX5_weighOn 12 = .ok (.if_icmp .ne 8, 3) := by decide +kernel
theorem dX5_weighOn_15 : decode cX5_weighOn 15 = .ok (.iconst 1, 1) := by decide +kernel
theorem dX5_weighOn_16 : decode cX5_weighOn 16 = .ok (.istore_n 3, 1) := by decide +kernel
theorem dX5_weighOn_17 : decode cX5_weighOn 17 = .ok (.goto 60, 3) := by decide +kernel
theorem dX5_weighOn_20 : decode cX5_weighOn 20 = .ok (.iconst 0, 1) := by decide +kernel
theorem dX5_weighOn_21 : decode cX5_weighOn 21 = .ok (.istore 4, 2) := by decide +kernel
theorem dX5_weighOn_23 : decode cX5_weighOn 23 = .ok (.iload 4, 2) := by decide +kernel
theorem dX5_weighOn_25 : decode cX5_weighOn 25 = .ok (.iconst 1, 1) := by decide +kernel
theorem dX5_weighOn_26 : decode cX5_weighOn 26 = .ok (.if_icmp .gt 51, 3) := by decide +kernel
theorem dX5_weighOn_29 : decode cX5_weighOn 29 = .ok (.aload_n 0, 1) := by decide +kernel
theorem dX5_weighOn_30 : decode cX5_weighOn 30 = .ok (.iload_n 2, 1) := by decide +kernel
theorem dX5_weighOn_31 : decode cX5_weighOn 31 = .ok (.iload 4, 2) := by decide +kernel
theorem dX5_weighOn_33 : decode cX5_weighOn 33 = .ok (.invokevirtual 102, 3) := by decide +kernel
theorem dX5_weighOn_36 : decode cX5_weighOn 36 = .ok (.istore 5, 2) := by decide +kernel
theorem dX5_weighOn_38 : decode cX5_weighOn 38 = .ok (.iload_n 3, 1) := by decide +kernel
theorem dX5_weighOn_39 : decode cX5_weighOn 39 = .ok (.aload_n 0, 1) := by decide +kernel
theorem dX5_weighOn_40 : decode cX5_weighOn 40 = .ok (.iload_n 1, 1) := by decide +kernel
theorem dX5_weighOn_41 : decode cX5_weighOn 41 = .ok (.iconst 1, 1) := by decide +kernel
theorem dX5_weighOn_42 : decode cX5_weighOn 42 = .ok (.iadd, 1) := by decide +kernel
theorem dX5_weighOn_43 : decode cX5_weighOn 43 = .ok (.iload 5, 2) := by decide +kernel
theorem dX5_weighOn_45 : decode cX5_weighOn 45 = .ok (.invokevirtual 105, 3) := by decide +kernel
theorem dX5_weighOn_48 : decode cX5_weighOn 48 = .ok (.ifCond .eq 20, 3) := by decide +kernel
theorem dX5_weighOn_51 : decode cX5_weighOn 51 = .ok (.aload_n 0, 1) := by decide +kernel
theorem dX5_weighOn_52 : decode cX5_weighOn 52 = .ok (.getfield 21, 3) := by decide +kernel
theorem dX5_weighOn_55 : decode cX5_weighOn 55 = .ok (.iload_n 1, 1) := by decide +kernel
theorem dX5_weighOn_56 : decode cX5_weighOn 56 = .ok (.iconst 1, 1) := by decide +kernel
theorem dX5_weighOn_57 : decode cX5_weighOn 57 = .ok (.iadd, 1) := by decide +kernel
theorem dX5_weighOn_58 : decode cX5_weighOn 58 = .ok (.bipush 32, 2) := by decide +kernel
theorem dX5_weighOn_60 : decode cX5_weighOn 60 = .ok (.imul, 1) := by decide +kernel
theorem dX5_weighOn_61 : decode cX5_weighOn 61 = .ok (.iload 5, 2) := by decide +kernel
theorem dX5_weighOn_63 : decode cX5_weighOn 63 = .ok (.iadd, 1) := by decide +kernel
theorem dX5_weighOn_64 : decode cX5_weighOn 64 = .ok (.iaload, 1) := by decide +kernel
theorem dX5_weighOn_65 : decode cX5_weighOn 65 = .ok (.goto 4, 3) := by decide +kernel
theorem dX5_weighOn_68 : decode cX5_weighOn 68 = .ok (.iconst 0, 1) := by decide +kernel
theorem dX5_weighOn_69 : decode cX5_weighOn 69 = .ok (.iadd, 1) := by decide +kernel
theorem dX5_weighOn_70 : decode cX5_weighOn 70 = .ok (.istore_n 3, 1) := by decide +kernel
theorem dX5_weighOn_71 : decode cX5_weighOn 71 = .ok (.iinc 4 1, 3) := by decide +kernel
theorem dX5_weighOn_74 : decode cX5_weighOn 74 = .ok (.goto (-51), 3) := by decide +kernel
theorem dX5_weighOn_77 : decode cX5_weighOn 77 = .ok (.aload_n 0, 1) := by decide +kernel
theorem dX5_weighOn_78 : decode cX5_weighOn 78 = .ok (.getfield 21, 3) := by decide +kernel
theorem dX5_weighOn_81 : decode cX5_weighOn 81 = .ok (.iload_n 1, 1) := by decide +kernel
theorem dX5_weighOn_82 : decode cX5_weighOn 82 = .ok (.bipush 32, 2) := by decide +kernel
theorem dX5_weighOn_84 : decode cX5_weighOn 84 = .ok (.imul, 1) := by decide +kernel
theorem dX5_weighOn_85 : decode cX5_weighOn 85 = .ok (.iload_n 2, 1) := by decide +kernel
theorem dX5_weighOn_86 : decode cX5_weighOn 86 = .ok (.iadd, 1) := by decide +kernel
theorem dX5_weighOn_87 : decode cX5_weighOn 87 = .ok (.iload_n 3, 1) := by decide +kernel
theorem dX5_weighOn_88 : decode cX5_weighOn 88 = .ok (.iastore, 1) := by decide +kernel
theorem dX5_weighOn_89 : decode cX5_weighOn 89 = .ok (.return_, 1) := by decide +kernel
theorem dX5_firstSet_0 : decode cX5_firstSet 0 = .ok (.aload_n 0, 1) := by decide +kernel
theorem dX5_firstSet_1 : decode cX5_firstSet 1 = .ok (.getfield 96, 3) := by decide +kernel
theorem dX5_firstSet_4 : decode cX5_firstSet 4 = .ok (.ifCond .ne 5, 3) := by decide +kernel
theorem dX5_firstSet_7 : decode cX5_firstSet 7 = .ok (.iconst (-1), 1) := by decide +kernel
theorem dX5_firstSet_8 : decode cX5_firstSet 8 = .ok (.ireturn, 1) := by decide +kernel
theorem dX5_firstSet_9 : decode cX5_firstSet 9 = .ok (.iconst 0, 1) := by decide +kernel
theorem dX5_firstSet_10 : decode cX5_firstSet 10 = .ok (.istore_n 1, 1) := by decide +kernel
theorem dX5_firstSet_11 : decode cX5_firstSet 11 = .ok (.aload_n 0, 1) := by decide +kernel
theorem dX5_firstSet_12 : decode cX5_firstSet 12 = .ok (.invokevirtual 108, 3) := by decide +kernel
theorem dX5_firstSet_15 : decode cX5_firstSet 15 = .ok (.istore_n 2, 1) := by decide +kernel
theorem dX5_firstSet_16 : decode cX5_firstSet 16 = .ok (.aload_n 0, 1) := by decide +kernel
theorem dX5_firstSet_17 : decode cX5_firstSet 17 = .ok (.getfield 27, 3) := by decide +kernel
theorem dX5_firstSet_20 : decode cX5_firstSet 20 = .ok (.getfield 57, 3) := by decide +kernel
theorem dX5_firstSet_23 : decode cX5_firstSet 23 = .ok (.iconst 1, 1) := by decide +kernel
theorem dX5_firstSet_24 : decode cX5_firstSet 24 = .ok (.isub, 1) := by decide +kernel
theorem dX5_firstSet_25 : decode cX5_firstSet 25 = .ok (.istore_n 3, 1) := by decide +kernel
theorem dX5_firstSet_26 : decode cX5_firstSet 26 = .ok (.iload_n 3, 1) := by decide +kernel
theorem dX5_firstSet_27 : decode cX5_firstSet 27 = .ok (.ifCond .lt 60, 3) := by decide +kernel
theorem dX5_firstSet_30 : decode cX5_firstSet 30 = .ok (.iload_n 1, 1) := by decide +kernel
theorem dX5_firstSet_31 : decode cX5_firstSet 31 = .ok (.iload_n 2, 1) := by decide +kernel
theorem dX5_firstSet_32 : decode cX5_firstSet 32 = .ok (.aload_n 0, 1) := by decide +kernel
theorem dX5_firstSet_33 : decode cX5_firstSet 33 = .ok (.getfield 27, 3) := by decide +kernel
theorem dX5_firstSet_36 : decode cX5_firstSet 36 = .ok (.getfield 74, 3) := by decide +kernel
theorem dX5_firstSet_39 : decode cX5_firstSet 39 = .ok (.ishr, 1) := by decide +kernel
theorem dX5_firstSet_40 : decode cX5_firstSet 40 = .ok (.iconst 1, 1) := by decide +kernel
theorem dX5_firstSet_41 : decode cX5_firstSet 41 = .ok (.iand, 1) := by decide +kernel
theorem dX5_firstSet_42 : decode cX5_firstSet 42 = .ok (.iload_n 3, 1) := by decide +kernel
theorem dX5_firstSet_43 : decode cX5_firstSet 43 = .ok (.ishl, 1) := by decide +kernel
theorem dX5_firstSet_44 : decode cX5_firstSet 44 = .ok (.ior, 1) := by decide +kernel
theorem dX5_firstSet_45 : decode cX5_firstSet 45 = .ok (.istore_n 1, 1) := by decide +kernel
theorem dX5_firstSet_46 : decode cX5_firstSet 46 = .ok (.iload_n 2, 1) := by decide +kernel
theorem dX5_firstSet_47 : decode cX5_firstSet 47 = .ok (.iconst 1, 1) := by decide +kernel
theorem dX5_firstSet_48 : decode cX5_firstSet 48 = .ok (.ishl, 1) := by decide +kernel
theorem dX5_firstSet_49 : decode cX5_firstSet 49 = .ok (.aload_n 0, 1) := by decide +kernel
theorem dX5_firstSet_50 : decode cX5_firstSet 50 = .ok (.invokevirtual 77, 3) := by decide +kernel
theorem dX5_firstSet_53 : decode cX5_firstSet 53 = .ok (.iconst 1, 1) := by decide +kernel
theorem dX5_firstSet_54 : decode cX5_firstSet 54 = .ok (.isub, 1) := by decide +kernel
theorem dX5_firstSet_55 : decode cX5_firstSet 55 = .ok (.iand, 1) := by decide +kernel
theorem dX5_firstSet_56 : decode cX5_firstSet 56 = .ok (.istore_n 2, 1) := by decide +kernel
theorem dX5_firstSet_57 : decode cX5_firstSet 57 = .ok (.iload_n 3, 1) := by decide +kernel
theorem dX5_firstSet_58 : decode cX5_firstSet 58 = .ok (.ifCond .le 23, 3) := by decide +kernel
theorem dX5_firstSet_61 : decode cX5_firstSet 61 = .ok (.aload_n 0, 1) := by decide +kernel
theorem dX5_firstSet_62 : decode cX5_firstSet 62 = .ok (.getfield 18, 3) := by decide +kernel
theorem dX5_firstSet_65 : decode cX5_firstSet 65 = .ok (.iload_n 3, 1) := by decide +kernel
theorem dX5_firstSet_66 : decode cX5_firstSet 66 = .ok (.iconst 1, 1) := by decide +kernel
theorem dX5_firstSet_67 : decode cX5_firstSet 67 = .ok (.isub, 1) := by decide +kernel
theorem dX5_firstSet_68 : decode cX5_firstSet 68 = .ok (.bipush 32, 2) := by decide +kernel
theorem dX5_firstSet_70 : decode cX5_firstSet 70 = .ok (.imul, 1) := by decide +kernel
theorem dX5_firstSet_71 : decode cX5_firstSet 71 = .ok (.iload_n 2, 1) := by decide +kernel
theorem dX5_firstSet_72 : decode cX5_firstSet 72 = .ok (.iadd, 1) := by decide +kernel
theorem dX5_firstSet_73 : decode cX5_firstSet 73 = .ok (.iaload, 1) := by decide +kernel
theorem dX5_firstSet_74 : decode cX5_firstSet 74 = .ok (.ifCond .ne 7, 3) := by decide +kernel
theorem dX5_firstSet_77 : decode cX5_firstSet 77 = .ok (.iload_n 2, 1) := by decide +kernel
theorem dX5_firstSet_78 : decode cX5_firstSet 78 = .ok (.iconst 1, 1) := by decide +kernel
theorem dX5_firstSet_79 : decode cX5_firstSet 79 = .ok (.ior, 1) := by decide +kernel
theorem dX5_firstSet_80 : decode cX5_firstSet 80 = .ok (.istore_n 2, 1) := by decide +kernel
theorem dX5_firstSet_81 : decode cX5_firstSet 81 = .ok (.iinc 3 (-1), 3) := by decide +kernel
theorem dX5_firstSet_84 : decode cX5_firstSet 84 = .ok (.goto (-58), 3) := by decide +kernel
theorem dX5_firstSet_87 : decode cX5_firstSet 87 = .ok (.iload_n 1, 1) := by decide +kernel
theorem dX5_firstSet_88 : decode cX5_firstSet 88 = .ok (.ireturn, 1) := by decide +kernel
theorem dX5_leastWindow_0 : decode cX5_leastWindow 0 = .ok (.iconst 0, 1) := by decide +kernel
theorem dX5_leastWindow_1 : decode cX5_leastWindow 1 = .ok (.istore_n 1, 1) := by decide +kernel
theorem dX5_leastWindow_2 : decode cX5_leastWindow 2 = .ok (.aload_n 0, 1) := by decide +kernel
theorem dX5_leastWindow_3 : decode cX5_leastWindow 3 = .ok (.getfield 27, 3) := by decide +kernel
theorem dX5_leastWindow_6 : decode cX5_leastWindow 6 = .ok (.getfield 57, 3) := by decide +kernel
theorem dX5_leastWindow_9 : decode cX5_leastWindow 9 = .ok (.ifCond .le 36, 3) := by decide +kernel
theorem dX5_leastWindow_12 : decode cX5_leastWindow 12 = .ok (.iload_n 1, 1) := by decide +kernel
theorem dX5_leastWindow_13 : decode cX5_leastWindow 13 = .ok (.aload_n 0, 1) := by decide +kernel
theorem dX5_leastWindow_14 : decode cX5_leastWindow 14 = .ok (.invokevirtual 77, 3) := by decide +kernel
theorem dX5_leastWindow_17 : decode cX5_leastWindow 17 = .ok (.if_icmp .ge 28, 3) := by decide +kernel
theorem dX5_leastWindow_20 : decode cX5_leastWindow 20 = .ok (.aload_n 0, 1) := by decide +kernel
theorem dX5_leastWindow_21 : decode cX5_leastWindow 21 = .ok (.aload_n 0, 1) := by decide +kernel
theorem dX5_leastWindow_22 : decode cX5_leastWindow 22 = .ok (.getfield 27, 3) := by decide +kernel
theorem dX5_leastWindow_25 : decode cX5_leastWindow 25 = .ok (.getfield 57, 3) := by decide +kernel
theorem dX5_leastWindow_28 : decode cX5_leastWindow 28 = .ok (.iconst 1, 1) := by decide +kernel
theorem dX5_leastWindow_29 : decode cX5_leastWindow 29 = .ok (.isub, 1) := by decide +kernel
theorem dX5_leastWindow_30 : decode cX5_leastWindow 30 = .ok (.iload_n 1, 1) := by decide +kernel
theorem dX5_leastWindow_31 : decode cX5_leastWindow 31 = .ok (.invokevirtual 99, 3) := by decide +kernel
theorem dX5_leastWindow_34 : decode cX5_leastWindow 34 = .ok (.ifCond .le 5, 3) := by decide +kernel
theorem dX5_leastWindow_37 : decode cX5_leastWindow 37 = .ok (.iload_n 1, 1) := by decide +kernel
theorem dX5_leastWindow_38 : decode cX5_leastWindow 38 = .ok (.ireturn, 1) := by decide +kernel
theorem dX5_leastWindow_39 : decode cX5_leastWindow 39 = .ok (.iinc 1 1, 3) := by decide +kernel
theorem dX5_leastWindow_42 : decode cX5_leastWindow 42 = .ok (.goto (-40), 3) := by decide +kernel
theorem dX5_leastWindow_45 : decode cX5_leastWindow 45 = .ok (.iconst 0, 1) := by decide +kernel
theorem dX5_leastWindow_46 : decode cX5_leastWindow 46 = .ok (.ireturn, 1) := by decide +kernel
theorem dX5_setsWith_0 : decode cX5_setsWith 0 = .ok (.iconst 0, 1) := by decide +kernel
theorem dX5_setsWith_1 : decode cX5_setsWith 1 = .ok (.istore_n 2, 1) := by decide +kernel
theorem dX5_setsWith_2 : decode cX5_setsWith 2 = .ok (.iconst 0, 1) := by decide +kernel
theorem dX5_setsWith_3 : decode cX5_setsWith 3 = .ok (.istore_n 3, 1) := by decide +kernel
theorem dX5_setsWith_4 : decode cX5_setsWith 4 = .ok (.iload_n 3, 1) := by decide +kernel
theorem dX5_setsWith_5 : decode cX5_setsWith 5 = .ok (.aload_n 0, 1) := by decide +kernel
theorem dX5_setsWith_6 : decode cX5_setsWith 6 = .ok (.invokevirtual 77, 3) := by decide +kernel
theorem dX5_setsWith_9 : decode cX5_setsWith 9 = .ok (.if_icmp .ge 36, 3) := by decide +kernel
theorem dX5_setsWith_12 : decode cX5_setsWith 12 = .ok (.iload_n 2, 1) := by decide +kernel
theorem dX5_setsWith_13 : decode cX5_setsWith 13 = .ok (.iload_n 3, 1) := by decide +kernel
theorem dX5_setsWith_14 : decode cX5_setsWith 14 = .ok (.aload_n 0, 1) := by decide +kernel
theorem dX5_setsWith_15 : decode cX5_setsWith 15 = .ok (.getfield 27, 3) := by decide +kernel
theorem dX5_setsWith_18 : decode cX5_setsWith 18 = .ok (.getfield 74, 3) := by decide +kernel
theorem dX5_setsWith_21 : decode cX5_setsWith 21 = .ok (.invokestatic 85, 3) := by decide +kernel
theorem dX5_setsWith_24 : decode cX5_setsWith 24 = .ok (.ifCond .eq 12, 3) := by decide +kernel
theorem dX5_setsWith_27 : decode cX5_setsWith 27 = .ok (.aload_n 0, 1) := by decide +kernel
theorem dX5_setsWith_28 : decode cX5_setsWith 28 = .ok (.iload_n 1, 1) := by decide +kernel
theorem dX5_setsWith_29 : decode cX5_setsWith 29 = .ok (.iload_n 3, 1) := by decide +kernel
theorem dX5_setsWith_30 : decode cX5_setsWith 30 = .ok (.invokevirtual 99, 3) := by decide +kernel
theorem dX5_setsWith_33 : decode cX5_setsWith 33 = .ok (.goto 4, 3) := by decide +kernel
theorem dX5_setsWith_36 : decode cX5_setsWith 36 = .ok (.iconst 0, 1) := by decide +kernel
theorem dX5_setsWith_37 : decode cX5_setsWith 37 = .ok (.iadd, 1) := by decide +kernel
theorem dX5_setsWith_38 : decode cX5_setsWith 38 = .ok (.istore_n 2, 1) := by decide +kernel
theorem dX5_setsWith_39 : decode cX5_setsWith 39 = .ok (.iinc 3 1, 3) := by decide +kernel
theorem dX5_setsWith_42 : decode cX5_setsWith 42 = .ok (.goto (-38), 3) := by decide +kernel
theorem dX5_setsWith_45 : decode cX5_setsWith 45 = .ok (.iload_n 2, 1) := by decide +kernel
theorem dX5_setsWith_46 : decode cX5_setsWith 46 = .ok (.ireturn, 1) := by decide +kernel
theorem dX5_boardsInAll_0 : decode cX5_boardsInAll 0 = .ok (.aload_n 0, 1) := by decide +kernel
theorem dX5_boardsInAll_1 : decode cX5_boardsInAll 1 = .ok (.aload_n 0, 1) := by decide +kernel
theorem dX5_boardsInAll_2 : decode cX5_boardsInAll 2 = .ok (.getfield 96, 3) := by decide +kernel
theorem dX5_boardsInAll_5 : decode cX5_boardsInAll 5 = .ok (.invokevirtual 111, 3) := by decide +kernel
theorem dX5_boardsInAll_8 : decode cX5_boardsInAll 8 = .ok (.ireturn, 1) := by decide +kernel
theorem dX5_boardsInNone_0 : decode cX5_boardsInNone 0 = .ok (.aload_n 0, 1) := by decide +kernel
theorem dX5_boardsInNone_1 : decode cX5_boardsInNone 1 = .ok (.iconst 0, 1) := by decide +kernel
theorem dX5_boardsInNone_2 : decode cX5_boardsInNone 2 = .ok (.invokevirtual 111, 3) := by decide +kernel
theorem dX5_boardsInNone_5 : decode cX5_boardsInNone 5 = .ok (.ireturn, 1) := by decide +kernel
theorem dX5_boardsIn_0 : decode cX5_boardsIn 0 = .ok (.iconst 0, 1) := by decide +kernel
theorem dX5_boardsIn_1 : decode cX5_boardsIn 1 = .ok (.istore_n 2, 1) := by decide +kernel
theorem dX5_boardsIn_2 : decode cX5_boardsIn 2 = .ok (.iconst 0, 1) := by decide +kernel
theorem dX5_boardsIn_3 : decode cX5_boardsIn 3 = .ok (.istore_n 3, 1) := by decide +kernel
theorem dX5_boardsIn_4 : decode cX5_boardsIn 4 = .ok (.iload_n 3, 1) := by decide +kernel
theorem dX5_boardsIn_5 : decode cX5_boardsIn 5 = .ok (.aload_n 0, 1) := by decide +kernel
theorem dX5_boardsIn_6 : decode cX5_boardsIn 6 = .ok (.getfield 27, 3) := by decide +kernel
theorem dX5_boardsIn_9 : decode cX5_boardsIn 9 = .ok (.getfield 57, 3) := by decide +kernel
theorem dX5_boardsIn_12 : decode cX5_boardsIn 12 = .ok (.if_icmp .ge 35, 3) := by decide +kernel
theorem dX5_boardsIn_15 : decode cX5_boardsIn 15 = .ok (.aload_n 0, 1) := by decide +kernel
theorem dX5_boardsIn_16 : decode cX5_boardsIn 16 = .ok (.getfield 96, 3) := by decide +kernel
theorem dX5_boardsIn_19 : decode cX5_boardsIn 19 = .ok (.ifCond .le 28, 3) := by decide +kernel
theorem dX5_boardsIn_22 : decode cX5_boardsIn 22 = .ok (.iload_n 2, 1) := by decide +kernel
