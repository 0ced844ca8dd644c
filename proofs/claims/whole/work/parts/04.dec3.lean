theorem dX11_worst_14 : decode cX11_worst 14 = .ok (.iload 4, 2) := by decide +kernel
theorem dX11_worst_16 : decode cX11_worst 16 = .ok (.aload_n 0, 1) := by decide +kernel
theorem dX11_worst_17 : decode cX11_worst 17 = .ok (.getfield 19, 3) := by decide +kernel
theorem dX11_worst_20 : decode cX11_worst 20 = .ok (.getfield 142, 3) := by decide +kernel
theorem dX11_worst_23 : decode cX11_worst 23 = .ok (.if_icmp .ge 48, 3) := by decide +kernel
theorem dX11_worst_26 : decode cX11_worst 26 = .ok (.iload_n 1, 1) := by decide +kernel
theorem dX11_worst_27 : decode cX11_worst 27 = .ok (.ifCond .ne 15, 3) := by decide +kernel
theorem dX11_worst_30 : decode cX11_worst 30 = .ok (.aload_n 0, 1) := by decide +kernel
theorem dX11_worst_31 : decode cX11_worst 31 = .ok (.getfield 45, 3) := by decide +kernel
theorem dX11_worst_34 : decode cX11_worst 34 = .ok (.iload 4, 2) := by decide +kernel
theorem dX11_worst_36 : decode cX11_worst 36 = .ok (.invokevirtual 227, 3) := by decide +kernel
theorem dX11_worst_39 : decode cX11_worst 39 = .ok (.goto 12, 3) := by decide +kernel
theorem dX11_worst_42 : decode cX11_worst 42 = .ok (.aload_n 0, 1) := by decide +kernel
theorem dX11_worst_43 : decode cX11_worst 43 = .ok (.getfield 45, 3) := by decide +kernel
theorem dX11_worst_46 : decode cX11_worst 46 = .ok (.iload 4, 2) := by decide +kernel
theorem dX11_worst_48 : decode cX11_worst 48 = .ok (.invokevirtual 230, 3) := by decide +kernel
theorem dX11_worst_51 : decode cX11_worst 51 = .ok (.istore 5, 2) := by decide +kernel
theorem dX11_worst_53 : decode cX11_worst 53 = .ok (.iload 5, 2) := by decide +kernel
theorem dX11_worst_55 : decode cX11_worst 55 = .ok (.iload_n 3, 1) := by decide +kernel
theorem dX11_worst_56 : decode cX11_worst 56 = .ok (.if_icmp .le 9, 3) := by decide +kernel
theorem dX11_worst_59 : decode cX11_worst 59 = .ok (.iload 5, 2) := by decide +kernel
theorem dX11_worst_61 : decode cX11_worst 61 = .ok (.istore_n 3, 1) := by decide +kernel
theorem dX11_worst_62 : decode cX11_worst 62 = .ok (.iload 4, 2) := by decide +kernel
theorem dX11_worst_64 : decode cX11_worst 64 = .ok (.istore_n 2, 1) := by decide +kernel
theorem dX11_worst_65 : decode cX11_worst 65 = .ok (.iinc 4 1, 3) := by decide +kernel
theorem dX11_worst_68 : decode cX11_worst 68 = .ok (.goto (-54), 3) := by decide +kernel
theorem dX11_worst_71 : decode cX11_worst 71 = .ok (.iload_n 2, 1) := by decide +kernel
theorem dX11_worst_72 : decode cX11_worst 72 = .ok (.ireturn, 1) := by decide +kernel
theorem dX11_opens_0 : decode cX11_opens 0 = .ok (.aload_n 0, 1) := by decide +kernel
theorem dX11_opens_1 : decode cX11_opens 1 = .ok (.iload_n 1, 1) := by decide +kernel
theorem dX11_opens_2 : decode cX11_opens 2 = .ok (.invokevirtual 209, 3) := by decide +kernel
theorem dX11_opens_5 : decode cX11_opens 5 = .ok (.iconst 0, 1) := by decide +kernel
theorem dX11_opens_6 : decode cX11_opens 6 = .ok (.istore_n 2, 1) := by decide +kernel
theorem dX11_opens_7 : decode cX11_opens 7 = .ok (.iload_n 2, 1) := by decide +kernel
theorem dX11_opens_8 : decode cX11_opens 8 = .ok (.sipush 240, 3) := by decide +kernel
theorem dX11_opens_11 : decode cX11_opens 11 = .ok (.if_icmp .gt 26, 3) := by decide +kernel
theorem dX11_opens_14 : decode cX11_opens 14 = .ok (.aload_n 0, 1) := by decide +kernel
theorem dX11_opens_15 : decode cX11_opens 15 = .ok (.getfield 68, 3) := by decide +kernel
theorem dX11_opens_18 : decode cX11_opens 18 = .ok (.iload_n 2, 1) := by decide +kernel
theorem dX11_opens_19 : decode cX11_opens 19 = .ok (.invokevirtual 278, 3) := by decide +kernel
theorem dX11_opens_22 : decode cX11_opens 22 = .ok (.iload_n 1, 1) := by decide +kernel
theorem dX11_opens_23 : decode cX11_opens 23 = .ok (.invokestatic 281, 3) := by decide +kernel
theorem dX11_opens_26 : decode cX11_opens 26 = .ok (.ifCond .eq 5, 3) := by decide +kernel
theorem dX11_opens_29 : decode cX11_opens 29 = .ok (.iload_n 2, 1) := by decide +kernel
theorem dX11_opens_30 : decode cX11_opens 30 = .ok (.ireturn, 1) := by decide +kernel
theorem dX11_opens_31 : decode cX11_opens 31 = .ok (.iinc 2 1, 3) := by decide +kernel
theorem dX11_opens_34 : decode cX11_opens 34 = .ok (.goto (-27), 3) := by decide +kernel
theorem dX11_opens_37 : decode cX11_opens 37 = .ok (.iconst (-1), 1) := by decide +kernel
theorem dX11_opens_38 : decode cX11_opens 38 = .ok (.ireturn, 1) := by decide +kernel
theorem dX11_often_0 : decode cX11_often 0 = .ok (.aload_n 0, 1) := by decide +kernel
theorem dX11_often_1 : decode cX11_often 1 = .ok (.iload_n 1, 1) := by decide +kernel
theorem dX11_often_2 : decode cX11_often 2 = .ok (.invokevirtual 209, 3) := by decide +kernel
theorem dX11_often_5 : decode cX11_often 5 = .ok (.aload_n 0, 1) := by decide +kernel
theorem dX11_often_6 : decode cX11_often 6 = .ok (.iload_n 2, 1) := by decide +kernel
theorem dX11_often_7 : decode cX11_often 7 = .ok (.iconst 0, 1) := by decide +kernel
theorem dX11_often_8 : decode cX11_often 8 = .ok (.sipush 240, 3) := by decide +kernel
theorem dX11_often_11 : decode cX11_often 11 = .ok (.invokevirtual 178, 3) := by decide +kernel
theorem dX11_often_14 : decode cX11_often 14 = .ok (.iconst 0, 1) := by decide +kernel
theorem dX11_often_15 : decode cX11_often 15 = .ok (.istore_n 3, 1) := by decide +kernel
theorem dX11_often_16 : decode cX11_often 16 = .ok (.iconst 0, 1) := by decide +kernel
theorem dX11_often_17 : decode cX11_often 17 = .ok (.istore 4, 2) := by decide +kernel
theorem dX11_often_19 : decode cX11_often 19 = .ok (.iload 4, 2) := by decide +kernel
theorem dX11_often_21 : decode cX11_often 21 = .ok (.iload_n 2, 1) := by decide +kernel
theorem dX11_often_22 : decode cX11_often 22 = .ok (.if_icmp .ge 25, 3) := by decide +kernel
theorem dX11_often_25 : decode cX11_often 25 = .ok (.iload_n 3, 1) := by decide +kernel
theorem dX11_often_26 : decode cX11_often 26 = .ok (.aload_n 0, 1) := by decide +kernel
theorem dX11_often_27 : decode cX11_often 27 = .ok (.getfield 68, 3) := by decide +kernel
theorem dX11_often_30 : decode cX11_often 30 = .ok (.iload 4, 2) := by decide +kernel
theorem dX11_often_32 : decode cX11_often 32 = .ok (.invokevirtual 278, 3) := by decide +kernel
theorem dX11_often_35 : decode cX11_often 35 = .ok (.iload_n 1, 1) := by decide +kernel
theorem dX11_often_36 : decode cX11_often 36 = .ok (.ishr, 1) := by decide +kernel
theorem dX11_often_37 : decode cX11_often 37 = .ok (.iconst 1, 1) := by decide +kernel
theorem dX11_often_38 : decode cX11_often 38 = .ok (.iand, 1) := by decide +kernel
theorem dX11_often_39 : decode cX11_often 39 = .ok (.iadd, 1) := by decide +kernel
theorem dX11_often_40 : decode cX11_often 40 = .ok (.istore_n 3, 1) := by decide +kernel
theorem dX11_often_41 : decode cX11_often 41 = .ok (.iinc 4 1, 3) := by decide +kernel
theorem dX11_often_44 : decode cX11_often 44 = .ok (.goto (-25), 3) := by decide +kernel
theorem dX11_often_47 : decode cX11_often 47 = .ok (.iload_n 3, 1) := by decide +kernel
theorem dX11_often_48 : decode cX11_often 48 = .ok (.ireturn, 1) := by decide +kernel
theorem dX11_peak_0 : decode cX11_peak 0 = .ok (.aload_n 0, 1) := by decide +kernel
theorem dX11_peak_1 : decode cX11_peak 1 = .ok (.iload_n 1, 1) := by decide +kernel
theorem dX11_peak_2 : decode cX11_peak 2 = .ok (.iconst 0, 1) := by decide +kernel
theorem dX11_peak_3 : decode cX11_peak 3 = .ok (.iconst 1, 1) := by decide +kernel
theorem dX11_peak_4 : decode cX11_peak 4 = .ok (.invokevirtual 178, 3) := by decide +kernel
theorem dX11_peak_7 : decode cX11_peak 7 = .ok (.iconst 0, 1) := by decide +kernel
theorem dX11_peak_8 : decode cX11_peak 8 = .ok (.istore_n 2, 1) := by decide +kernel
theorem dX11_peak_9 : decode cX11_peak 9 = .ok (.iconst 0, 1) := by decide +kernel
theorem dX11_peak_10 : decode cX11_peak 10 = .ok (.istore_n 3, 1) := by decide +kernel
theorem dX11_peak_11 : decode cX11_peak 11 = .ok (.iconst 0, 1) := by decide +kernel
theorem dX11_peak_12 : decode cX11_peak 12 = .ok (.istore 4, 2) := by decide +kernel
theorem dX11_peak_14 : decode cX11_peak 14 = .ok (.iload 4, 2) := by decide +kernel
theorem dX11_peak_16 : decode cX11_peak 16 = .ok (.sipush 240, 3) := by decide +kernel
theorem dX11_peak_19 : decode cX11_peak 19 = .ok (.if_icmp .ge 35, 3) := by decide +kernel
theorem dX11_peak_22 : decode cX11_peak 22 = .ok (.aload_n 0, 1) := by decide +kernel
theorem dX11_peak_23 : decode cX11_peak 23 = .ok (.getfield 68, 3) := by decide +kernel
theorem dX11_peak_26 : decode cX11_peak 26 = .ok (.iload 4, 2) := by decide +kernel
theorem dX11_peak_28 : decode cX11_peak 28 = .ok (.invokevirtual 278, 3) := by decide +kernel
theorem dX11_peak_31 : decode cX11_peak 31 = .ok (.invokestatic 194, 3) := by decide +kernel
theorem dX11_peak_34 : decode cX11_peak 34 = .ok (.istore 5, 2) := by decide +kernel
theorem dX11_peak_36 : decode cX11_peak 36 = .ok (.iload 5, 2) := by decide +kernel
theorem dX11_peak_38 : decode cX11_peak 38 = .ok (.iload_n 3, 1) := by decide +kernel
theorem dX11_peak_39 : decode cX11_peak 39 = .ok (.if_icmp .le 9, 3) := by decide +kernel
theorem dX11_peak_42 : decode cX11_peak 42 = .ok (.iload 5, 2) := by decide +kernel
theorem dX11_peak_44 : decode cX11_peak 44 = .ok (.istore_n 3, 1) := by decide +kernel
theorem dX11_peak_45 : decode cX11_peak 45 = .ok (.iload 4, 2) := by decide +kernel
theorem dX11_peak_47 : decode cX11_peak 47 = .ok (.istore_n 2, 1) := by decide +kernel
theorem dX11_peak_48 : decode cX11_peak 48 = .ok (.iinc 4 1, 3) := by decide +kernel
theorem dX11_peak_51 : decode cX11_peak 51 = .ok (.goto (-37), 3) := by decide +kernel
theorem dX11_peak_54 : decode cX11_peak 54 = .ok (.iload_n 1, 1) := by decide +kernel
theorem dX11_peak_55 : decode cX11_peak 55 = .ok (.ifCond .ne 7, 3) := by decide +kernel
theorem dX11_peak_58 : decode cX11_peak 58 = .ok (.iload_n 2, 1) := by decide +kernel
theorem dX11_peak_59 : decode cX11_peak 59 = .ok (.goto 4, 3) := by decide +kernel
theorem dX11_peak_62 : decode cX11_peak 62 = .ok (.iload_n 3, 1) := by decide +kernel
theorem dX11_peak_63 : decode cX11_peak 63 = .ok (.ireturn, 1) := by decide +kernel
theorem dX11_trip_0 : decode cX11_trip 0 = .ok (.aload_n 0, 1) := by decide +kernel
theorem dX11_trip_1 : decode cX11_trip 1 = .ok (.iload_n 1, 1) := by decide +kernel
theorem dX11_trip_2 : decode cX11_trip 2 = .ok (.invokevirtual 272, 3) := by decide +kernel
theorem dX11_trip_5 : decode cX11_trip 5 = .ok (.aload_n 0, 1) := by decide +kernel
theorem dX11_trip_6 : decode cX11_trip 6 = .ok (.iload_n 2, 1) := by decide +kernel
theorem dX11_trip_7 : decode cX11_trip 7 = .ok (.iconst 0, 1) := by decide +kernel
theorem dX11_trip_8 : decode cX11_trip 8 = .ok (.bipush 48, 2) := by decide +kernel
theorem dX11_trip_10 : decode cX11_trip 10 = .ok (.invokevirtual 178, 3) := by decide +kernel
theorem dX11_trip_13 : decode cX11_trip 13 = .ok (.aload_n 0, 1) := by decide +kernel
theorem dX11_trip_14 : decode cX11_trip 14 = .ok (.iload_n 3, 1) := by decide +kernel
theorem dX11_trip_15 : decode cX11_trip 15 = .ok (.iconst 0, 1) := by decide +kernel
theorem dX11_trip_16 : decode cX11_trip 16 = .ok (.iconst 2, 1) := by decide +kernel
theorem dX11_trip_17 : decode cX11_trip 17 = .ok (.invokevirtual 178, 3) := by decide +kernel
theorem dX11_trip_20 : decode cX11_trip 20 = .ok (.aload_n 0, 1) := by decide +kernel
theorem dX11_trip_21 : decode cX11_trip 21 = .ok (.getfield 68, 3) := by decide +kernel
theorem dX11_trip_24 : decode cX11_trip 24 = .ok (.iload_n 1, 1) := by decide +kernel
theorem dX11_trip_25 : decode cX11_trip 25 = .ok (.iload_n 2, 1) := by decide +kernel
theorem dX11_trip_26 : decode cX11_trip 26 = .ok (.invokevirtual 284, 3) := by decide +kernel
theorem dX11_trip_29 : decode cX11_trip 29 = .ok (.iload_n 3, 1) := by decide +kernel
theorem dX11_trip_30 : decode cX11_trip 30 = .ok (.ifCond .ne 11, 3) := by decide +kernel
theorem dX11_trip_33 : decode cX11_trip 33 = .ok (.aload_n 0, 1) := by decide +kernel
theorem dX11_trip_34 : decode cX11_trip 34 = .ok (.getfield 68, 3) := by decide +kernel
theorem dX11_trip_37 : decode cX11_trip 37 = .ok (.getfield 287, 3) := by decide +kernel
theorem dX11_trip_40 : decode cX11_trip 40 = .ok (.ireturn, 1) := by decide +kernel
theorem dX11_trip_41 : decode cX11_trip 41 = .ok (.iload_n 3, 1) := by decide +kernel
theorem dX11_trip_42 : decode cX11_trip 42 = .ok (.iconst 1, 1) := by decide +kernel
theorem dX11_trip_43 : decode cX11_trip 43 = .ok (.if_icmp .ne 13, 3) := by decide +kernel
theorem dX11_trip_46 : decode cX11_trip 46 = .ok (.aload_n 0, 1) := by decide +kernel
theorem dX11_trip_47 : decode cX11_trip 47 = .ok (.getfield 68, 3) := by decide +kernel
theorem dX11_trip_50 : decode cX11_trip 50 = .ok (.getfield 290, 3) := by decide +kernel
theorem dX11_trip_53 : decode cX11_trip 53 = .ok (.goto 10, 3) := by decide +kernel
theorem dX11_trip_56 : decode cX11_trip 56 = .ok (.aload_n 0, 1) := by decide +kernel
theorem dX11_trip_57 : decode cX11_trip 57 = .ok (.getfield 68, 3) := by decide +kernel
theorem dX11_trip_60 : decode cX11_trip 60 = .ok (.invokevirtual 293, 3) := by decide +kernel
theorem dX11_trip_63 : decode cX11_trip 63 = .ok (.ireturn, 1) := by decide +kernel
theorem dX11_soonest_0 : decode cX11_soonest 0 = .ok (.aload_n 0, 1) := by decide +kernel
theorem dX11_soonest_1 : decode cX11_soonest 1 = .ok (.iload_n 1, 1) := by decide +kernel
theorem dX11_soonest_2 : decode cX11_soonest 2 = .ok (.invokevirtual 272, 3) := by decide +kernel
theorem dX11_soonest_5 : decode cX11_soonest 5 = .ok (.aload_n 0, 1) := by decide +kernel
theorem dX11_soonest_6 : decode cX11_soonest 6 = .ok (.iload_n 2, 1) := by decide +kernel
theorem dX11_soonest_7 : decode cX11_soonest 7 = .ok (.iconst 0, 1) := by decide +kernel
theorem dX11_soonest_8 : decode cX11_soonest 8 = .ok (.bipush 48, 2) := by decide +kernel
theorem dX11_soonest_10 : decode cX11_soonest 10 = .ok (.invokevirtual 178, 3) := by decide +kernel
theorem dX11_soonest_13 : decode cX11_soonest 13 = .ok (.aload_n 0, 1) := by decide +kernel
theorem dX11_soonest_14 : decode cX11_soonest 14 = .ok (.iload_n 3, 1) := by decide +kernel
theorem dX11_soonest_15 : decode cX11_soonest 15 = .ok (.iconst 0, 1) := by decide +kernel
theorem dX11_soonest_16 : decode cX11_soonest 16 = .ok (.iconst 1, 1) := by decide +kernel
theorem dX11_soonest_17 : decode cX11_soonest 17 = .ok (.invokevirtual 178, 3) := by decide +kernel
theorem dX11_soonest_20 : decode cX11_soonest 20 = .ok (.iconst (-1), 1) := by decide +kernel
theorem dX11_soonest_21 : decode cX11_soonest 21 = .ok (.istore 4, 2) := by decide +kernel
theorem dX11_soonest_23 : decode cX11_soonest 23 = .ok (.iconst (-1), 1) := by decide +kernel
theorem dX11_soonest_24 : decode cX11_soonest 24 = .ok (.istore 5, 2) := by decide +kernel
theorem dX11_soonest_26 : decode cX11_soonest 26 = .ok (.iconst 0, 1) := by decide +kernel
theorem dX11_soonest_27 : decode cX11_soonest 27 = .ok (.istore 6, 2) := by decide +kernel
theorem dX11_soonest_29 : decode cX11_soonest 29 = .ok (.iload 6, 2) := by decide +kernel
theorem dX11_soonest_31 : decode cX11_soonest 31 = .ok (.iload_n 2, 1) := by decide +kernel
theorem dX11_soonest_32 : decode cX11_soonest 32 = .ok (.if_icmp .gt 73, 3) := by decide +kernel
theorem dX11_soonest_35 : decode cX11_soonest 35 = .ok (.aload_n 0, 1) := by decide +kernel
theorem dX11_soonest_36 : decode cX11_soonest 36 = .ok (.getfield 68, 3) := by decide +kernel
theorem dX11_soonest_39 : decode cX11_soonest 39 = .ok (.iload_n 1, 1) := by decide +kernel
theorem dX11_soonest_40 : decode cX11_soonest 40 = .ok (.iload 6, 2) := by decide +kernel
theorem dX11_soonest_42 : decode cX11_soonest 42 = .ok (.invokevirtual 284, 3) := by decide +kernel
theorem dX11_soonest_45 : decode cX11_soonest 45 = .ok (.aload_n 0, 1) := by decide +kernel
theorem dX11_soonest_46 : decode cX11_soonest 46 = .ok (.getfield 68, 3) := by decide +kernel
theorem dX11_soonest_49 : decode cX11_soonest 49 = .ok (.getfield 287, 3) := by decide +kernel
theorem dX11_soonest_52 : decode cX11_soonest 52 = .ok (.iconst (-1), 1) := by decide +kernel
theorem dX11_soonest_53 : decode cX11_soonest 53 = .ok (.if_icmp .eq 7, 3) := by decide +kernel
theorem dX11_soonest_56 : decode cX11_soonest 56 = .ok (.iconst 1, 1) := by decide +kernel
theorem dX11_soonest_57 : decode cX11_soonest 57 = .ok (.goto 4, 3) := by decide +kernel
theorem dX11_soonest_60 : decode cX11_soonest 60 = .ok (.iconst 0, 1) := by decide +kernel
theorem dX11_soonest_61 : decode cX11_soonest 61 = .ok (.istore 7, 2) := by decide +kernel
theorem dX11_soonest_63 : decode cX11_soonest 63 = .ok (.iload 7, 2) := by decide +kernel
theorem dX11_soonest_65 : decode cX11_soonest 65 = .ok (.ifCond .eq 34, 3) := by decide +kernel
theorem dX11_soonest_68 : decode cX11_soonest 68 = .ok (.iload 5, 2) := by decide +kernel
theorem dX11_soonest_70 : decode cX11_soonest 70 = .ok (.iconst (-1), 1) := by decide +kernel
theorem dX11_soonest_71 : decode cX11_soonest 71 = .ok (.if_icmp .eq 15, 3) := by decide +kernel
theorem dX11_soonest_74 : decode cX11_soonest 74 = .ok (.aload_n 0, 1) := by decide +kernel
theorem dX11_soonest_75 : decode cX11_soonest 75 = .ok (.getfield 68, 3) := by decide +kernel
theorem dX11_soonest_78 : decode cX11_soonest 78 = .ok (.getfield 287, 3) := by decide +kernel
theorem dX11_soonest_81 : decode cX11_soonest 81 = .ok (.iload 5, 2) := by decide +kernel
theorem dX11_soonest_83 : decode cX11_soonest 83 = .ok (.if_icmp .gt 16, 3) := by decide +kernel
theorem dX11_soonest_86 : decode cX11_soonest 86 = .ok (.aload_n 0, 1) := by decide +kernel
theorem dX11_soonest_87 : decode cX11_soonest 87 = .ok (.getfield 68, 3) := by decide +kernel
theorem dX11_soonest_90 : decode cX11_soonest 90 = .ok (.getfield 287, 3) := by decide +kernel
theorem dX11_soonest_93 : decode cX11_soonest 93 = .ok (.istore 5, 2) := by decide +kernel
theorem dX11_soonest_95 : decode cX11_soonest 95 = .ok (.iload 6, 2) := by decide +kernel
theorem dX11_soonest_97 : decode cX11_soonest 97 = .ok (.istore 4, 2) := by decide +kernel
theorem dX11_soonest_99 : decode cX11_soonest 99 = .ok (.iinc 6 1, 3) := by decide +kernel
theorem dX11_soonest_102 : decode cX11_soonest 102 = .ok (.goto (-73), 3) := by decide +kernel
theorem dX11_soonest_105 : decode cX11_soonest 105 = .ok (.iload_n 3, 1) := by decide +kernel
theorem dX11_soonest_106 : decode cX11_soonest 106 = .ok (.ifCond .ne 8, 3) := by decide +kernel
theorem dX11_soonest_109 : decode cX11_soonest 109 = .ok (.iload 4, 2) := by decide +kernel
theorem dX11_soonest_111 : decode cX11_soonest 111 = .ok (.goto 5, 3) := by decide +kernel
theorem dX11_soonest_114 : decode cX11_soonest 114 = .ok (.iload 5, 2) := by decide +kernel
theorem dX11_soonest_116 : decode cX11_soonest 116 = .ok (.ireturn, 1) := by decide +kernel
theorem dX11_hold_0 : decode cX11_hold 0 = .ok (.aload_n 0, 1) := by decide +kernel
theorem dX11_hold_1 : decode cX11_hold 1 = .ok (.iload_n 1, 1) := by decide +kernel
theorem dX11_hold_2 : decode cX11_hold 2 = .ok (.invokevirtual 272, 3) := by decide +kernel
theorem dX11_hold_5 : decode cX11_hold 5 = .ok (.aload_n 0, 1) := by decide +kernel
theorem dX11_hold_6 : decode cX11_hold 6 = .ok (.iload_n 2, 1) := by decide +kernel
theorem dX11_hold_7 : decode cX11_hold 7 = .ok (.iconst 0, 1) := by decide +kernel
theorem dX11_hold_8 : decode cX11_hold 8 = .ok (.bipush 48, 2) := by decide +kernel
theorem dX11_hold_10 : decode cX11_hold 10 = .ok (.invokevirtual 178, 3) := by decide +kernel
theorem dX11_hold_13 : decode cX11_hold 13 = .ok (.iconst 0, 1) := by decide +kernel
theorem dX11_hold_14 : decode cX11_hold 14 = .ok (.istore_n 3, 1) := by decide +kernel
theorem dX11_hold_15 : decode cX11_hold 15 = .ok (.iconst 0, 1) := by decide +kernel
theorem dX11_hold_16 : decode cX11_hold 16 = .ok (.istore 4, 2) := by decide +kernel
theorem dX11_hold_18 : decode cX11_hold 18 = .ok (.iload 4, 2) := by decide +kernel
theorem dX11_hold_20 : decode cX11_hold 20 = .ok (.aload_n 0, 1) := by decide +kernel
theorem dX11_hold_21 : decode cX11_hold 21 = .ok (.getfield 19, 3) := by decide +kernel
theorem dX11_hold_24 : decode cX11_hold 24 = .ok (.getfield 142, 3) := by decide +kernel
theorem dX11_hold_27 : decode cX11_hold 27 = .ok (.if_icmp .ge 47, 3) := by decide +kernel
theorem dX11_hold_30 : decode cX11_hold 30 = .ok (.aload_n 0, 1) := by decide +kernel
theorem dX11_hold_31 : decode cX11_hold 31 = .ok (.getfield 38, 3) := by decide +kernel
theorem dX11_hold_34 : decode cX11_hold 34 = .ok (.iload_n 1, 1) := by decide +kernel
theorem dX11_hold_35 : decode cX11_hold 35 = .ok (.iload 4, 2) := by decide +kernel
theorem dX11_hold_37 : decode cX11_hold 37 = .ok (.aload_n 0, 1) := by decide +kernel
theorem dX11_hold_38 : decode cX11_hold 38 = .ok (.getfield 68, 3) := by decide +kernel
theorem dX11_hold_41 : decode cX11_hold 41 = .ok (.iload_n 2, 1) := by decide +kernel
theorem dX11_hold_42 : decode cX11_hold 42 = .ok (.aload_n 0, 1) := by decide +kernel
theorem dX11_hold_43 : decode cX11_hold 43 = .ok (.getfield 19, 3) := by decide +kernel
theorem dX11_hold_46 : decode cX11_hold 46 = .ok (.iload 4, 2) := by decide +kernel
theorem dX11_hold_48 : decode cX11_hold 48 = .ok (.invokevirtual 296, 3) := by decide +kernel
theorem dX11_hold_51 : decode cX11_hold 51 = .ok (.iadd, 1) := by decide +kernel
theorem dX11_hold_52 : decode cX11_hold 52 = .ok (.invokevirtual 278, 3) := by decide +kernel
theorem dX11_hold_55 : decode cX11_hold 55 = .ok (.invokevirtual 299, 3) := by decide +kernel
theorem dX11_hold_58 : decode cX11_hold 58 = .ok (.ifCond .ne 10, 3) := by decide +kernel
theorem dX11_hold_61 : decode cX11_hold 61 = .ok (.iload_n 3, 1) := by decide +kernel
theorem dX11_hold_62 : decode cX11_hold 62 = .ok (.iconst 1, 1) := by decide +kernel
theorem dX11_hold_63 : decode cX11_hold 63 = .ok (.iload 4, 2) := by decide +kernel
theorem dX11_hold_65 : decode cX11_hold 65 = .ok (.ishl, 1) := by decide +kernel
theorem dX11_hold_66 : decode cX11_hold 66 = .ok (.ior, 1) := by decide +kernel
theorem dX11_hold_67 : decode cX11_hold 67 = .ok (.istore_n 3, 1) := by decide +kernel
theorem dX11_hold_68 : decode cX11_hold 68 = .ok (.iinc 4 1, 3) := by decide +kernel
theorem dX11_hold_71 : decode cX11_hold 71 = .ok (.goto (-53), 3) := by decide +kernel
theorem dX11_hold_74 : decode cX11_hold 74 = .ok (.iload_n 3, 1) := by decide +kernel
theorem dX11_hold_75 : decode cX11_hold 75 = .ok (.ireturn, 1) := by decide +kernel
theorem dX11_tallest_0 : decode cX11_tallest 0 = .ok (.aload_n 0, 1) := by decide +kernel
theorem dX11_tallest_1 : decode cX11_tallest 1 = .ok (.iload_n 1, 1) := by decide +kernel
theorem dX11_tallest_2 : decode cX11_tallest 2 = .ok (.iconst 0, 1) := by decide +kernel
theorem dX11_tallest_3 : decode cX11_tallest 3 = .ok (.bipush 48, 2) := by decide +kernel
theorem dX11_tallest_5 : decode cX11_tallest 5 = .ok (.invokevirtual 178, 3) := by decide +kernel
theorem dX11_tallest_8 : decode cX11_tallest 8 = .ok (.bipush 9, 2) := by decide +kernel
theorem dX11_tallest_10 : decode cX11_tallest 10 = .ok (.istore_n 2, 1) := by decide +kernel
theorem dX11_tallest_11 : decode cX11_tallest 11 = .ok (.iload_n 2, 1) := by decide +kernel
theorem dX11_tallest_12 : decode cX11_tallest 12 = .ok (.ifCond .lt 31, 3) := by decide +kernel
theorem dX11_tallest_15 : decode cX11_tallest 15 = .ok (.aload_n 0, 1) := by decide +kernel
theorem dX11_tallest_16 : decode cX11_tallest 16 = .ok (.getfield 68, 3) := by decide +kernel
theorem dX11_tallest_19 : decode cX11_tallest 19 = .ok (.iload_n 2, 1) := by decide +kernel
theorem dX11_tallest_20 : decode cX11_tallest 20 = .ok (.iload_n 1, 1) := by decide +kernel
theorem dX11_tallest_21 : decode cX11_tallest 21 = .ok (.invokevirtual 284, 3) := by decide +kernel
theorem dX11_tallest_24 : decode cX11_tallest 24 = .ok (.aload_n 0, 1) := by decide +kernel
theorem dX11_tallest_25 : decode cX11_tallest 25 = .ok (.getfield 68, 3) := by decide +kernel
theorem dX11_tallest_28 : decode cX11_tallest 28 = .ok (.getfield 287, 3) := by decide +kernel
theorem dX11_tallest_31 : decode cX11_tallest 31 = .ok (.iconst (-1), 1) := by decide +kernel
theorem dX11_tallest_32 : decode cX11_tallest 32 = .ok (.if_icmp .eq 5, 3) := by decide +kernel
theorem dX11_tallest_35 : decode cX11_tallest 35 = .ok (.iload_n 2, 1) := by decide +kernel
theorem dX11_tallest_36 : decode cX11_tallest 36 = .ok (.ireturn, 1) := by decide +kernel
theorem dX11_tallest_37 : decode cX11_tallest 37 = .ok (.iinc 2 (-1), 3) := by decide +kernel
theorem dX11_tallest_40 : decode cX11_tallest 40 = .ok (.goto (-29), 3) := by decide +kernel
theorem dX11_tallest_43 : decode cX11_tallest 43 = .ok (.iconst (-1), 1) := by decide +kernel
theorem dX11_tallest_44 : decode cX11_tallest 44 = .ok (.ireturn, 1) := by decide +kernel
theorem dX11_letter_0 : decode cX11_letter 0 = .ok (.aload_n 0, 1) := by decide +kernel
theorem dX11_letter_1 : decode cX11_letter 1 = .ok (.iload_n 1, 1) := by decide +kernel
theorem dX11_letter_2 : decode cX11_letter 2 = .ok (.invokevirtual 209, 3) := by decide +kernel
theorem dX11_letter_5 : decode cX11_letter 5 = .ok (.aload_n 0, 1) := by decide +kernel
theorem dX11_letter_6 : decode cX11_letter 6 = .ok (.iload_n 2, 1) := by decide +kernel
theorem dX11_letter_7 : decode cX11_letter 7 = .ok (.iconst 0, 1) := by decide +kernel
theorem dX11_letter_8 : decode cX11_letter 8 = .ok (.iconst 2, 1) := by decide +kernel
theorem dX11_letter_9 : decode cX11_letter 9 = .ok (.invokevirtual 178, 3) := by decide +kernel
theorem dX11_letter_12 : decode cX11_letter 12 = .ok (.iconst (-1), 1) := by decide +kernel
theorem dX11_letter_13 : decode cX11_letter 13 = .ok (.istore_n 3, 1) := by decide +kernel
theorem dX11_letter_14 : decode cX11_letter 14 = .ok (.iconst (-1), 1) := by decide +kernel
theorem dX11_letter_15 : decode cX11_letter 15 = .ok (.istore 4, 2) := by decide +kernel
theorem dX11_letter_17 : decode cX11_letter 17 = .ok (.iconst 0, 1) := by decide +kernel
theorem dX11_letter_18 : decode cX11_letter 18 = .ok (.istore 5, 2) := by decide +kernel
theorem dX11_letter_20 : decode cX11_letter 20 = .ok (.iload_n 1, 1) := by decide +kernel
theorem dX11_letter_21 : decode cX11_letter 21 = .ok (.istore 6, 2) := by decide +kernel
theorem dX11_letter_23 : decode cX11_letter 23 = .ok (.iconst 0, 1) := by decide +kernel
theorem dX11_letter_24 : decode cX11_letter 24 = .ok (.istore 7, 2) := by decide +kernel
theorem dX11_letter_26 : decode cX11_letter 26 = .ok (.iload 7, 2) := by decide +kernel
theorem dX11_letter_28 : decode cX11_letter 28 = .ok (.bipush 16, 2) := by decide +kernel
theorem dX11_letter_30 : decode cX11_letter 30 = .ok (.if_icmp .ge 81, 3) := by decide +kernel
theorem dX11_letter_33 : decode cX11_letter 33 = .ok (.iload 6, 2) := by decide +kernel
theorem dX11_letter_35 : decode cX11_letter 35 = .ok (.aload_n 0, 1) := by decide +kernel
theorem dX11_letter_36 : decode cX11_letter 36 = .ok (.getfield 19, 3) := by decide +kernel
theorem dX11_letter_39 : decode cX11_letter 39 = .ok (.getfield 142, 3) := by decide +kernel
theorem dX11_letter_42 : decode cX11_letter 42 = .ok (.if_icmp .ge 69, 3) := by decide +kernel
theorem dX11_letter_45 : decode cX11_letter 45 = .ok (.aload_n 0, 1) := by decide +kernel
theorem dX11_letter_46 : decode cX11_letter 46 = .ok (.getfield 68, 3) := by decide +kernel
theorem dX11_letter_49 : decode cX11_letter 49 = .ok (.iload 7, 2) := by decide +kernel
theorem dX11_letter_51 : decode cX11_letter 51 = .ok (.invokevirtual 278, 3) := by decide +kernel
theorem dX11_letter_54 : decode cX11_letter 54 = .ok (.iload 6, 2) := by decide +kernel
theorem dX11_letter_56 : decode cX11_letter 56 = .ok (.invokestatic 281, 3) := by decide +kernel
theorem dX11_letter_59 : decode cX11_letter 59 = .ok (.ifCond .eq 34, 3) := by decide +kernel
theorem dX11_letter_62 : decode cX11_letter 62 = .ok (.iinc 5 1, 3) := by decide +kernel
theorem dX11_letter_65 : decode cX11_letter 65 = .ok (.iload 5, 2) := by decide +kernel
theorem dX11_letter_67 : decode cX11_letter 67 = .ok (.iconst 1, 1) := by decide +kernel
theorem dX11_letter_68 : decode cX11_letter 68 = .ok (.if_icmp .ne 8, 3) := by decide +kernel
theorem dX11_letter_71 : decode cX11_letter 71 = .ok (.iload 7, 2) := by decide +kernel
theorem dX11_letter_73 : decode cX11_letter 73 = .ok (.goto 4, 3) := by decide +kernel
theorem dX11_letter_76 : decode cX11_letter 76 = .ok (.iload_n 3, 1) := by decide +kernel
theorem dX11_letter_77 : decode cX11_letter 77 = .ok (.istore_n 3, 1) := by decide +kernel
theorem dX11_letter_78 : decode cX11_letter 78 = .ok (.iload 5, 2) := by decide +kernel
theorem dX11_letter_80 : decode cX11_letter 80 = .ok (.iconst 1, 1) := by decide +kernel
theorem dX11_letter_81 : decode cX11_letter 81 = .ok (.if_icmp .ne 8, 3) := by decide +kernel
theorem dX11_letter_84 : decode cX11_letter 84 = .ok (.iload 6, 2) := by decide +kernel
theorem dX11_letter_86 : decode cX11_letter 86 = .ok (.goto 5, 3) := by decide +kernel
theorem dX11_letter_89 : decode cX11_letter 89 = .ok (.iload 4, 2) := by decide +kernel
theorem dX11_letter_91 : decode cX11_letter 91 = .ok (.istore 4, 2) := by decide +kernel
theorem dX11_letter_93 : decode cX11_letter 93 = .ok (.iload 6, 2) := by decide +kernel
theorem dX11_letter_95 : decode cX11_letter 95 = .ok (.aload_n 0, 1) := by decide +kernel
theorem dX11_letter_96 : decode cX11_letter 96 = .ok (.getfield 19, 3) := by decide +kernel
theorem dX11_letter_99 : decode cX11_letter 99 = .ok (.getfield 302, 3) := by decide +kernel
theorem dX11_letter_102 : decode cX11_letter 102 = .ok (.iadd, 1) := by decide +kernel
theorem dX11_letter_103 : decode cX11_letter 103 = .ok (.istore 6, 2) := by decide +kernel
theorem dX11_letter_105 : decode cX11_letter 105 = .ok (.iinc 7 1, 3) := by decide +kernel
theorem dX11_letter_108 : decode cX11_letter 108 = .ok (.goto (-82), 3) := by decide +kernel
theorem dX11_letter_111 : decode cX11_letter 111 = .ok (.iload_n 2, 1) := by decide +kernel
theorem dX11_letter_112 : decode cX11_letter 112 = .ok (.iconst 2, 1) := by decide +kernel
theorem dX11_letter_113 : decode cX11_letter 113 = .ok (.if_icmp .ne 6, 3) := by decide +kernel
theorem dX11_letter_116 : decode cX11_letter 116 = .ok (.iload 5, 2) := by decide +kernel
theorem dX11_letter_118 : decode cX11_letter 118 = .ok (.ireturn, 1) := by decide +kernel
theorem dX11_letter_119 : decode cX11_letter 119 = .ok (.iload_n 2, 1) := by decide +kernel
theorem dX11_letter_120 : decode cX11_letter 120 = .ok (.ifCond .ne 7, 3) := by decide +kernel
theorem dX11_letter_123 : decode cX11_letter 123 = .ok (.iload_n 3, 1) := by decide +kernel
theorem dX11_letter_124 : decode cX11_letter 124 = .ok (.goto 5, 3) := by decide +kernel
theorem dX11_letter_127 : decode cX11_letter 127 = .ok (.iload 4, 2) := by decide +kernel
theorem dX11_letter_129 : decode cX11_letter 129 = .ok (.ireturn, 1) := by decide +kernel
theorem dX11_ahead_0 : decode cX11_ahead 0 = .ok (.aload_n 0, 1) := by decide +kernel
theorem dX11_ahead_1 : decode cX11_ahead 1 = .ok (.iload_n 1, 1) := by decide +kernel
theorem dX11_ahead_2 : decode cX11_ahead 2 = .ok (.iconst 0, 1) := by decide +kernel
theorem dX11_ahead_3 : decode cX11_ahead 3 = .ok (.sipush 240, 3) := by decide +kernel
theorem dX11_ahead_6 : decode cX11_ahead 6 = .ok (.invokevirtual 178, 3) := by decide +kernel
theorem dX11_ahead_9 : decode cX11_ahead 9 = .ok (.aload_n 0, 1) := by decide +kernel
theorem dX11_ahead_10 : decode cX11_ahead 10 = .ok (.iload_n 2, 1) := by decide +kernel
theorem dX11_ahead_11 : decode cX11_ahead 11 = .ok (.iconst 0, 1) := by decide +kernel
theorem dX11_ahead_12 : decode cX11_ahead 12 = .ok (.iconst 2, 1) := by decide +kernel
theorem dX11_ahead_13 : decode cX11_ahead 13 = .ok (.invokevirtual 178, 3) := by decide +kernel
theorem dX11_ahead_16 : decode cX11_ahead 16 = .ok (.aload_n 0, 1) := by decide +kernel
theorem dX11_ahead_17 : decode cX11_ahead 17 = .ok (.getfield 68, 3) := by decide +kernel
theorem dX11_ahead_20 : decode cX11_ahead 20 = .ok (.iload_n 1, 1) := by decide +kernel
theorem dX11_ahead_21 : decode cX11_ahead 21 = .ok (.invokevirtual 305, 3) := by decide +kernel
theorem dX11_ahead_24 : decode cX11_ahead 24 = .ok (.iload_n 2, 1) := by decide +kernel
theorem dX11_ahead_25 : decode cX11_ahead 25 = .ok (.ifCond .ne 14, 3) := by decide +kernel
theorem dX11_ahead_28 : decode cX11_ahead 28 = .ok (.aload_n 0, 1) := by decide +kernel
theorem dX11_ahead_29 : decode cX11_ahead 29 = .ok (.getfield 68, 3) := by decide +kernel
theorem dX11_ahead_32 : decode cX11_ahead 32 = .ok (.getfield 308, 3) := by decide +kernel
theorem dX11_ahead_35 : decode cX11_ahead 35 = .ok (.invokevirtual 206, 3) := by decide +kernel
theorem dX11_ahead_38 : decode cX11_ahead 38 = .ok (.ireturn, 1) := by decide +kernel
theorem dX11_ahead_39 : decode cX11_ahead 39 = .ok (.iload_n 2, 1) := by decide +kernel
theorem dX11_ahead_40 : decode cX11_ahead 40 = .ok (.iconst 1, 1) := by decide +kernel
theorem dX11_ahead_41 : decode cX11_ahead 41 = .ok (.if_icmp .ne 16, 3) := by decide +kernel
theorem dX11_ahead_44 : decode cX11_ahead 44 = .ok (.aload_n 0, 1) := by decide +kernel
theorem dX11_ahead_45 : decode cX11_ahead 45 = .ok (.getfield 68, 3) := by decide +kernel
theorem dX11_ahead_48 : decode cX11_ahead 48 = .ok (.getfield 308, 3) := by decide +kernel
theorem dX11_ahead_51 : decode cX11_ahead 51 = .ok (.invokevirtual 200, 3) := by decide +kernel
theorem dX11_ahead_54 : decode cX11_ahead 54 = .ok (.goto 13, 3) := by decide +kernel
theorem dX11_ahead_57 : decode cX11_ahead 57 = .ok (.aload_n 0, 1) := by decide +kernel
theorem dX11_ahead_58 : decode cX11_ahead 58 = .ok (.getfield 68, 3) := by decide +kernel
theorem dX11_ahead_61 : decode cX11_ahead 61 = .ok (.getfield 308, 3) := by decide +kernel
theorem dX11_ahead_64 : decode cX11_ahead 64 = .ok (.invokevirtual 203, 3) := by decide +kernel
theorem dX11_ahead_67 : decode cX11_ahead 67 = .ok (.ireturn, 1) := by decide +kernel
theorem dX11_winters_0 : decode cX11_winters 0 = .ok (.aload_n 0, 1) := by decide +kernel
theorem dX11_winters_1 : decode cX11_winters 1 = .ok (.iload_n 2, 1) := by decide +kernel
theorem dX11_winters_2 : decode cX11_winters 2 = .ok (.iload_n 3, 1) := by decide +kernel
theorem dX11_winters_3 : decode cX11_winters 3 = .ok (.invokevirtual 311, 3) := by decide +kernel
theorem dX11_winters_6 : decode cX11_winters 6 = .ok (.aload_n 0, 1) := by decide +kernel
theorem dX11_winters_7 : decode cX11_winters 7 = .ok (.iload 4, 2) := by decide +kernel
theorem dX11_winters_9 : decode cX11_winters 9 = .ok (.iconst 0, 1) := by decide +kernel
theorem dX11_winters_10 : decode cX11_winters 10 = .ok (.iconst 3, 1) := by decide +kernel
theorem dX11_winters_11 : decode cX11_winters 11 = .ok (.invokevirtual 178, 3) := by decide +kernel
theorem dX11_winters_14 : decode cX11_winters 14 = .ok (.aload_n 0, 1) := by decide +kernel
theorem dX11_winters_15 : decode cX11_winters 15 = .ok (.getfield 68, 3) := by decide +kernel
theorem dX11_winters_18 : decode cX11_winters 18 = .ok (.iload_n 1, 1) := by decide +kernel
theorem dX11_winters_19 : decode cX11_winters 19 = .ok (.iload_n 2, 1) := by decide +kernel
theorem dX11_winters_20 : decode cX11_winters 20 = .ok (.iload_n 3, 1) := by decide +kernel
theorem dX11_winters_21 : decode cX11_winters 21 = .ok (.invokevirtual 314, 3) := by decide +kernel
theorem dX11_winters_24 : decode cX11_winters 24 = .ok (.iload 4, 2) := by decide +kernel
theorem dX11_winters_26 : decode cX11_winters 26 = .ok (.tableswitch 53 0 2 #[26, 37, 45], 26) := by decide +kernel
theorem dX11_winters_52 : decode cX11_winters 52 = .ok (.aload_n 0, 1) := by decide +kernel
theorem dX11_winters_53 : decode cX11_winters 53 = .ok (.getfield 68, 3) := by decide +kernel
theorem dX11_winters_56 : decode cX11_winters 56 = .ok (.getfield 308, 3) := by decide +kernel
theorem dX11_winters_59 : decode cX11_winters 59 = .ok (.invokevirtual 206, 3) := by decide +kernel
theorem dX11_winters_62 : decode cX11_winters 62 = .ok (.ireturn, 1) := by decide +kernel
theorem dX11_winters_63 : decode cX11_winters 63 = .ok (.aload_n 0, 1) := by decide +kernel
theorem dX11_winters_64 : decode cX11_winters 64 = .ok (.getfield 68, 3) := by decide +kernel
theorem dX11_winters_67 : decode cX11_winters 67 = .ok (.invokevirtual 317, 3) := by decide +kernel
theorem dX11_winters_70 : decode cX11_winters 70 = .ok (.ireturn, 1) := by decide +kernel
theorem dX11_winters_71 : decode cX11_winters 71 = .ok (.aload_n 0, 1) := by decide +kernel
theorem dX11_winters_72 : decode cX11_winters 72 = .ok (.getfield 68, 3) := by decide +kernel
theorem dX11_winters_75 : decode cX11_winters 75 = .ok (.getfield 320, 3) := by decide +kernel
theorem dX11_winters_78 : decode cX11_winters 78 = .ok (.ireturn, 1) := by decide +kernel
theorem dX11_winters_79 : decode cX11_winters 79 = .ok (.aload_n 0, 1) := by decide +kernel
theorem dX11_winters_80 : decode cX11_winters 80 = .ok (.getfield 68, 3) := by decide +kernel
theorem dX11_winters_83 : decode cX11_winters 83 = .ok (.invokevirtual 323, 3) := by decide +kernel
theorem dX11_winters_86 : decode cX11_winters 86 = .ok (.ireturn, 1) := by decide +kernel
theorem dX11_span_0 : decode cX11_span 0 = .ok (.aload_n 0, 1) := by decide +kernel
theorem dX11_span_1 : decode cX11_span 1 = .ok (.iload_n 2, 1) := by decide +kernel
theorem dX11_span_2 : decode cX11_span 2 = .ok (.iconst 1, 1) := by decide +kernel
theorem dX11_span_3 : decode cX11_span 3 = .ok (.bipush 20, 2) := by decide +kernel
theorem dX11_span_5 : decode cX11_span 5 = .ok (.invokevirtual 178, 3) := by decide +kernel
theorem dX11_span_8 : decode cX11_span 8 = .ok (.aload_n 0, 1) := by decide +kernel
theorem dX11_span_9 : decode cX11_span 9 = .ok (.iload_n 3, 1) := by decide +kernel
theorem dX11_span_10 : decode cX11_span 10 = .ok (.iload 4, 2) := by decide +kernel
theorem dX11_span_12 : decode cX11_span 12 = .ok (.invokevirtual 311, 3) := by decide +kernel
theorem dX11_span_15 : decode cX11_span 15 = .ok (.aload_n 0, 1) := by decide +kernel
theorem dX11_span_16 : decode cX11_span 16 = .ok (.iload 5, 2) := by decide +kernel
theorem dX11_span_18 : decode cX11_span 18 = .ok (.iconst 0, 1) := by decide +kernel
theorem dX11_span_19 : decode cX11_span 19 = .ok (.iconst 2, 1) := by decide +kernel
theorem dX11_span_20 : decode cX11_span 20 = .ok (.invokevirtual 178, 3) := by decide +kernel
theorem dX11_span_23 : decode cX11_span 23 = .ok (.iconst 0, 1) := by decide +kernel
theorem dX11_span_24 : decode cX11_span 24 = .ok (.istore 6, 2) := by decide +kernel
theorem dX11_span_26 : decode cX11_span 26 = .ok (.iconst 0, 1) := by decide +kernel
theorem dX11_span_27 : decode cX11_span 27 = .ok (.istore 7, 2) := by decide +kernel
theorem dX11_span_29 : decode cX11_span 29 = .ok (.iconst 0, 1) := by decide +kernel
theorem dX11_span_30 : decode cX11_span 30 = .ok (.istore 8, 2) := by decide +kernel
theorem dX11_span_32 : decode cX11_span 32 = .ok (.iconst 0, 1) := by decide +kernel
theorem dX11_span_33 : decode cX11_span 33 = .ok (.istore 9, 2) := by decide +kernel
theorem dX11_span_35 : decode cX11_span 35 = .ok (.iload 9, 2) := by decide +kernel
theorem dX11_span_37 : decode cX11_span 37 = .ok (.iload_n 2, 1) := by decide +kernel
theorem dX11_span_38 : decode cX11_span 38 = .ok (.if_icmp .ge 90, 3) := by decide +kernel
theorem dX11_span_41 : decode cX11_span 41 = .ok (.aload_n 0, 1) := by decide +kernel
theorem dX11_span_42 : decode cX11_span 42 = .ok (.getfield 68, 3) := by decide +kernel
theorem dX11_span_45 : decode cX11_span 45 = .ok (.iload_n 1, 1) := by decide +kernel
theorem dX11_span_46 : decode cX11_span 46 = .ok (.iload 9, 2) := by decide +kernel
theorem dX11_span_48 : decode cX11_span 48 = .ok (.iadd, 1) := by decide +kernel
theorem dX11_span_49 : decode cX11_span 49 = .ok (.iload_n 3, 1) := by decide +kernel
theorem dX11_span_50 : decode cX11_span 50 = .ok (.iload 4, 2) := by decide +kernel
theorem dX11_span_52 : decode cX11_span 52 = .ok (.invokevirtual 314, 3) := by decide +kernel
theorem dX11_span_55 : decode cX11_span 55 = .ok (.aload_n 0, 1) := by decide +kernel
theorem dX11_span_56 : decode cX11_span 56 = .ok (.getfield 68, 3) := by decide +kernel
theorem dX11_span_59 : decode cX11_span 59 = .ok (.invokevirtual 317, 3) := by decide +kernel
theorem dX11_span_62 : decode cX11_span 62 = .ok (.istore 10, 2) := by decide +kernel
theorem dX11_span_64 : decode cX11_span 64 = .ok (.iload 9, 2) := by decide +kernel
theorem dX11_span_66 : decode cX11_span 66 = .ok (.ifCond .ne 8, 3) := by decide +kernel
theorem dX11_span_69 : decode cX11_span 69 = .ok (.iload 10, 2) := by decide +kernel
theorem dX11_span_71 : decode cX11_span 71 = .ok (.goto 10, 3) := by decide +kernel
theorem dX11_span_74 : decode cX11_span 74 = .ok (.iload 6, 2) := by decide +kernel
theorem dX11_span_76 : decode cX11_span 76 = .ok (.iload 10, 2) := by decide +kernel
theorem dX11_span_78 : decode cX11_span 78 = .ok (.invokestatic 326, 3) := by decide +kernel
theorem dX11_span_81 : decode cX11_span 81 = .ok (.istore 6, 2) := by decide +kernel
theorem dX11_span_83 : decode cX11_span 83 = .ok (.iload 7, 2) := by decide +kernel
theorem dX11_span_85 : decode cX11_span 85 = .ok (.iload 10, 2) := by decide +kernel
theorem dX11_span_87 : decode cX11_span 87 = .ok (.invokestatic 332, 3) := by decide +kernel
theorem dX11_span_90 : decode cX11_span 90 = .ok (.istore 7, 2) := by decide +kernel
theorem dX11_span_92 : decode cX11_span 92 = .ok (.iload 8, 2) := by decide +kernel
theorem dX11_span_94 : decode cX11_span 94 = .ok (.aload_n 0, 1) := by decide +kernel
theorem dX11_span_95 : decode cX11_span 95 = .ok (.getfield 68, 3) := by decide +kernel
theorem dX11_span_98 : decode cX11_span 98 = .ok (.getfield 308, 3) := by decide +kernel
theorem dX11_span_101 : decode cX11_span 101 = .ok (.invokevirtual 206, 3) := by decide +kernel
theorem dX11_span_104 : decode cX11_span 104 = .ok (.aload_n 0, 1) := by decide +kernel
theorem dX11_span_105 : decode cX11_span 105 = .ok (.getfield 19, 3) := by decide +kernel
theorem dX11_span_108 : decode cX11_span 108 = .ok (.getfield 182, 3) := by decide +kernel
theorem dX11_span_111 : decode cX11_span 111 = .ok (.if_icmp .ne 7, 3) := by decide +kernel
theorem dX11_span_114 : decode cX11_span 114 = .ok (.iconst 1, 1) := by decide +kernel
theorem dX11_span_115 : decode cX11_span 115 = .ok (.goto 4, 3) := by decide +kernel
theorem dX11_span_118 : decode cX11_span 118 = .ok (.iconst 0, 1) := by decide +kernel
theorem dX11_span_119 : decode cX11_span 119 = .ok (.iadd, 1) := by decide +kernel
theorem dX11_span_120 : decode cX11_span 120 = .ok (.istore 8, 2) := by decide +kernel
theorem dX11_span_122 : decode cX11_span 122 = .ok (.iinc 9 1, 3) := by decide +kernel
theorem dX11_span_125 : decode cX11_span 125 = .ok (.goto (-90), 3) := by decide +kernel
theorem dX11_span_128 : decode cX11_span 128 = .ok (.iload 5, 2) := by decide +kernel
theorem dX11_span_130 : decode cX11_span 130 = .ok (.ifCond .ne 6, 3) := by decide +kernel
theorem dX11_span_133 : decode cX11_span 133 = .ok (.iload 6, 2) := by decide +kernel
theorem dX11_span_135 : decode cX11_span 135 = .ok (.ireturn, 1) := by decide +kernel
theorem dX11_span_136 : decode cX11_span 136 = .ok (.iload 5, 2) := by decide +kernel
theorem dX11_span_138 : decode cX11_span 138 = .ok (.iconst 1, 1) := by decide +kernel
theorem dX11_span_139 : decode cX11_span 139 = .ok (.if_icmp .ne 8, 3) := by decide +kernel
theorem dX11_span_142 : decode cX11_span 142 = .ok (.iload 7, 2) := by decide +kernel
theorem dX11_span_144 : decode cX11_span 144 = .ok (.goto 5, 3) := by decide +kernel
theorem dX11_span_147 : decode cX11_span 147 = .ok (.iload 8, 2) := by decide +kernel
theorem dX11_span_149 : decode cX11_span 149 = .ok (.ireturn, 1) := by decide +kernel
theorem dX11_flood_0 : decode cX11_flood 0 = .ok (.aload_n 0, 1) := by decide +kernel
theorem dX11_flood_1 : decode cX11_flood 1 = .ok (.iload_n 1, 1) := by decide +kernel
theorem dX11_flood_2 : decode cX11_flood 2 = .ok (.aload_n 0, 1) := by decide +kernel
theorem dX11_flood_3 : decode cX11_flood 3 = .ok (.getfield 19, 3) := by decide +kernel
theorem dX11_flood_6 : decode cX11_flood 6 = .ok (.getfield 185, 3) := by decide +kernel
theorem dX11_flood_9 : decode cX11_flood 9 = .ok (.invokevirtual 335, 3) := by decide +kernel
theorem dX11_flood_12 : decode cX11_flood 12 = .ok (.aload_n 0, 1) := by decide +kernel
theorem dX11_flood_13 : decode cX11_flood 13 = .ok (.getfield 77, 3) := by decide +kernel
theorem dX11_flood_16 : decode cX11_flood 16 = .ok (.iload_n 1, 1) := by decide +kernel
theorem dX11_flood_17 : decode cX11_flood 17 = .ok (.invokevirtual 338, 3) := by decide +kernel
theorem dX11_flood_20 : decode cX11_flood 20 = .ok (.ireturn, 1) := by decide +kernel
theorem dX11_holds_0 : decode cX11_holds 0 = .ok (.aload_n 0, 1) := by decide +kernel
theorem dX11_holds_1 : decode cX11_holds 1 = .ok (.iload_n 1, 1) := by decide +kernel
theorem dX11_holds_2 : decode cX11_holds 2 = .ok (.aload_n 0, 1) := by decide +kernel
theorem dX11_holds_3 : decode cX11_holds 3 = .ok (.getfield 19, 3) := by decide +kernel
theorem dX11_holds_6 : decode cX11_holds 6 = .ok (.getfield 142, 3) := by decide +kernel
theorem dX11_holds_9 : decode cX11_holds 9 = .ok (.invokevirtual 335, 3) := by decide +kernel
theorem dX11_holds_12 : decode cX11_holds 12 = .ok (.iconst 0, 1) := by decide +kernel
theorem dX11_holds_13 : decode cX11_holds 13 = .ok (.istore_n 2, 1) := by decide +kernel
theorem dX11_holds_14 : decode cX11_holds 14 = .ok (.iconst 0, 1) := by decide +kernel
theorem dX11_holds_15 : decode cX11_holds 15 = .ok (.istore_n 3, 1) := by decide +kernel
theorem dX11_holds_16 : decode cX11_holds 16 = .ok (.iload_n 3, 1) := by decide +kernel
theorem dX11_holds_17 : decode cX11_holds 17 = .ok (.aload_n 0, 1) := by decide +kernel
theorem dX11_holds_18 : decode cX11_holds 18 = .ok (.getfield 19, 3) := by decide +kernel
theorem dX11_holds_21 : decode cX11_holds 21 = .ok (.getfield 185, 3) := by decide +kernel
theorem dX11_holds_24 : decode cX11_holds 24 = .ok (.if_icmp .ge 31, 3) := by decide +kernel
theorem dX11_holds_27 : decode cX11_holds 27 = .ok (.iload_n 2, 1) := by decide +kernel
theorem dX11_holds_28 : decode cX11_holds 28 = .ok (.aload_n 0, 1) := by decide +kernel
theorem dX11_holds_29 : decode cX11_holds 29 = .ok (.getfield 19, 3) := by decide +kernel
theorem dX11_holds_32 : decode cX11_holds 32 = .ok (.iload_n 3, 1) := by decide +kernel
theorem dX11_holds_33 : decode cX11_holds 33 = .ok (.iload_n 1, 1) := by decide +kernel
theorem dX11_holds_34 : decode cX11_holds 34 = .ok (.invokevirtual 260, 3) := by decide +kernel
theorem dX11_holds_37 : decode cX11_holds 37 = .ok (.ifCond .eq 9, 3) := by decide +kernel
theorem dX11_holds_40 : decode cX11_holds 40 = .ok (.iconst 1, 1) := by decide +kernel
theorem dX11_holds_41 : decode cX11_holds 41 = .ok (.iload_n 3, 1) := by decide +kernel
theorem dX11_holds_42 : decode cX11_holds 42 = .ok (.ishl, 1) := by decide +kernel
theorem dX11_holds_43 : decode cX11_holds 43 = .ok (.goto 4, 3) := by decide +kernel
theorem dX11_holds_46 : decode cX11_holds 46 = .ok (.iconst 0, 1) := by decide +kernel
theorem dX11_holds_47 : decode cX11_holds 47 = .ok (.ior, 1) := by decide +kernel
theorem dX11_holds_48 : decode cX11_holds 48 = .ok (.istore_n 2, 1) := by decide +kernel
theorem dX11_holds_49 : decode cX11_holds 49 = .ok (.iinc 3 1, 3) := by decide +kernel
theorem dX11_holds_52 : decode cX11_holds 52 = .ok (.goto (-36), 3) := by decide +kernel
theorem dX11_holds_55 : decode cX11_holds 55 = .ok (.iload_n 2, 1) := by decide +kernel
theorem dX11_holds_56 : decode cX11_holds 56 = .ok (.ireturn, 1) := by decide +kernel
theorem dX11_smells_0 : decode cX11_smells 0 = .ok (.aload_n 0, 1) := by decide +kernel
theorem dX11_smells_1 : decode cX11_smells 1 = .ok (.iload_n 1, 1) := by decide +kernel
theorem dX11_smells_2 : decode cX11_smells 2 = .ok (.invokevirtual 209, 3) := by decide +kernel
theorem dX11_smells_5 : decode cX11_smells 5 = .ok (.aload_n 0, 1) := by decide +kernel
theorem dX11_smells_6 : decode cX11_smells 6 = .ok (.iload_n 2, 1) := by decide +kernel
theorem dX11_smells_7 : decode cX11_smells 7 = .ok (.aload_n 0, 1) := by decide +kernel
theorem dX11_smells_8 : decode cX11_smells 8 = .ok (.getfield 19, 3) := by decide +kernel
theorem dX11_smells_11 : decode cX11_smells 11 = .ok (.getfield 142, 3) := by decide +kernel
theorem dX11_smells_14 : decode cX11_smells 14 = .ok (.invokevirtual 335, 3) := by decide +kernel
theorem dX11_smells_17 : decode cX11_smells 17 = .ok (.aload_n 0, 1) := by decide +kernel
theorem dX11_smells_18 : decode cX11_smells 18 = .ok (.getfield 84, 3) := by decide +kernel
theorem dX11_smells_21 : decode cX11_smells 21 = .ok (.iload_n 1, 1) := by decide +kernel
theorem dX11_smells_22 : decode cX11_smells 22 = .ok (.iload_n 2, 1) := by decide +kernel
theorem dX11_smells_23 : decode cX11_smells 23 = .ok (.invokevirtual 341, 3) := by decide +kernel
theorem dX11_smells_26 : decode cX11_smells 26 = .ok (.ireturn, 1) := by decide +kernel
theorem dX11_openers_0 : decode cX11_openers 0 = .ok (.aload_n 0, 1) := by decide +kernel
theorem dX11_openers_1 : decode cX11_openers 1 = .ok (.iload_n 1, 1) := by decide +kernel
theorem dX11_openers_2 : decode cX11_openers 2 = .ok (.iconst 0, 1) := by decide +kernel
theorem dX11_openers_3 : decode cX11_openers 3 = .ok (.iconst 3, 1) := by decide +kernel
theorem dX11_openers_4 : decode cX11_openers 4 = .ok (.invokevirtual 178, 3) := by decide +kernel
theorem dX11_openers_7 : decode cX11_openers 7 = .ok (.aload_n 0, 1) := by decide +kernel
theorem dX11_openers_8 : decode cX11_openers 8 = .ok (.getfield 84, 3) := by decide +kernel
theorem dX11_openers_11 : decode cX11_openers 11 = .ok (.invokevirtual 344, 3) := by decide +kernel
theorem dX11_openers_14 : decode cX11_openers 14 = .ok (.iload_n 1, 1) := by decide +kernel
theorem dX11_openers_15 : decode cX11_openers 15 = .ok (.tableswitch 49 0 2 #[25, 33, 41], 25) := by decide +kernel
theorem dX11_openers_40 : decode cX11_openers 40 = .ok (.aload_n 0, 1) := by decide +kernel
theorem dX11_openers_41 : decode cX11_openers 41 = .ok (.getfield 84, 3) := by decide +kernel
theorem dX11_openers_44 : decode cX11_openers 44 = .ok (.getfield 347, 3) := by decide +kernel
theorem dX11_openers_47 : decode cX11_openers 47 = .ok (.ireturn, 1) := by decide +kernel
theorem dX11_openers_48 : decode cX11_openers 48 = .ok (.aload_n 0, 1) := by decide +kernel
theorem dX11_openers_49 : decode cX11_openers 49 = .ok (.getfield 84, 3) := by decide +kernel
theorem dX11_openers_52 : decode cX11_openers 52 = .ok (.invokevirtual 350, 3) := by decide +kernel
theorem dX11_openers_55 : decode cX11_openers 55 = .ok (.ireturn, 1) := by decide +kernel
theorem dX11_openers_56 : decode cX11_openers 56 = .ok (.aload_n 0, 1) := by decide +kernel
theorem dX11_openers_57 : decode cX11_openers 57 = .ok (.getfield 84, 3) := by decide +kernel
theorem dX11_openers_60 : decode cX11_openers 60 = .ok (.invokevirtual 353, 3) := by decide +kernel
theorem dX11_openers_63 : decode cX11_openers 63 = .ok (.ireturn, 1) := by decide +kernel
theorem dX11_openers_64 : decode cX11_openers 64 = .ok (.aload_n 0, 1) := by decide +kernel
theorem dX11_openers_65 : decode cX11_openers 65 = .ok (.getfield 84, 3) := by decide +kernel
theorem dX11_openers_68 : decode cX11_openers 68 = .ok (.invokevirtual 356, 3) := by decide +kernel
theorem dX11_openers_71 : decode cX11_openers 71 = .ok (.ireturn, 1) := by decide +kernel
theorem dX11_nose_0 : decode cX11_nose 0 = .ok (.aload_n 0, 1) := by decide +kernel
theorem dX11_nose_1 : decode cX11_nose 1 = .ok (.iload_n 1, 1) := by decide +kernel
theorem dX11_nose_2 : decode cX11_nose 2 = .ok (.iconst 0, 1) := by decide +kernel
theorem dX11_nose_3 : decode cX11_nose 3 = .ok (.iconst 1, 1) := by decide +kernel
theorem dX11_nose_4 : decode cX11_nose 4 = .ok (.invokevirtual 178, 3) := by decide +kernel
theorem dX11_nose_7 : decode cX11_nose 7 = .ok (.aload_n 0, 1) := by decide +kernel
theorem dX11_nose_8 : decode cX11_nose 8 = .ok (.getfield 84, 3) := by decide +kernel
theorem dX11_nose_11 : decode cX11_nose 11 = .ok (.invokevirtual 344, 3) := by decide +kernel
theorem dX11_nose_14 : decode cX11_nose 14 = .ok (.iconst (-1), 1) := by decide +kernel
theorem dX11_nose_15 : decode cX11_nose 15 = .ok (.istore_n 2, 1) := by decide +kernel
theorem dX11_nose_16 : decode cX11_nose 16 = .ok (.iconst (-1), 1) := by decide +kernel
theorem dX11_nose_17 : decode cX11_nose 17 = .ok (.istore_n 3, 1) := by decide +kernel
theorem dX11_nose_18 : decode cX11_nose 18 = .ok (.iconst 0, 1) := by decide +kernel
theorem dX11_nose_19 : decode cX11_nose 19 = .ok (.istore 4, 2) := by decide +kernel
theorem dX11_nose_21 : decode cX11_nose 21 = .ok (.iload 4, 2) := by decide +kernel
theorem dX11_nose_23 : decode cX11_nose 23 = .ok (.aload_n 0, 1) := by decide +kernel
theorem dX11_nose_24 : decode cX11_nose 24 = .ok (.getfield 19, 3) := by decide +kernel
theorem dX11_nose_27 : decode cX11_nose 27 = .ok (.getfield 142, 3) := by decide +kernel
theorem dX11_nose_30 : decode cX11_nose 30 = .ok (.if_icmp .ge 59, 3) := by decide +kernel
theorem dX11_nose_33 : decode cX11_nose 33 = .ok (.aload_n 0, 1) := by decide +kernel
theorem dX11_nose_34 : decode cX11_nose 34 = .ok (.getfield 84, 3) := by decide +kernel
theorem dX11_nose_37 : decode cX11_nose 37 = .ok (.iload 4, 2) := by decide +kernel
theorem dX11_nose_39 : decode cX11_nose 39 = .ok (.invokevirtual 359, 3) := by decide +kernel
theorem dX11_nose_42 : decode cX11_nose 42 = .ok (.ifCond .eq 7, 3) := by decide +kernel
theorem dX11_nose_45 : decode cX11_nose 45 = .ok (.iconst (-1), 1) := by decide +kernel
theorem dX11_nose_46 : decode cX11_nose 46 = .ok (.goto 12, 3) := by decide +kernel
theorem dX11_nose_49 : decode cX11_nose 49 = .ok (.aload_n 0, 1) := by decide +kernel
theorem dX11_nose_50 : decode cX11_nose 50 = .ok (.getfield 84, 3) := by decide +kernel
theorem dX11_nose_53 : decode cX11_nose 53 = .ok (.iload 4, 2) := by decide +kernel
theorem dX11_nose_55 : decode cX11_nose 55 = .ok (.invokevirtual 362, 3) := by decide +kernel
theorem dX11_nose_58 : decode cX11_nose 58 = .ok (.istore 5, 2) := by decide +kernel
theorem dX11_nose_60 : decode cX11_nose 60 = .ok (.iload 5, 2) := by decide +kernel
theorem dX11_nose_62 : decode cX11_nose 62 = .ok (.iconst (-1), 1) := by decide +kernel
theorem dX11_nose_63 : decode cX11_nose 63 = .ok (.if_icmp .eq 20, 3) := by decide +kernel
theorem dX11_nose_66 : decode cX11_nose 66 = .ok (.iload_n 2, 1) := by decide +kernel
theorem dX11_nose_67 : decode cX11_nose 67 = .ok (.iconst (-1), 1) := by decide +kernel
theorem dX11_nose_68 : decode cX11_nose 68 = .ok (.if_icmp .eq 9, 3) := by decide +kernel
theorem dX11_nose_71 : decode cX11_nose 71 = .ok (.iload 5, 2) := by decide +kernel
theorem dX11_nose_73 : decode cX11_nose 73 = .ok (.iload_n 3, 1) := by decide +kernel
theorem dX11_nose_74 : decode cX11_nose 74 = .ok (.if_icmp .ge 9, 3) := by decide +kernel
theorem dX11_nose_77 : decode cX11_nose 77 = .ok (.iload 4, 2) := by decide +kernel
theorem dX11_nose_79 : decode cX11_nose 79 = .ok (.istore_n 2, 1) := by decide +kernel
theorem dX11_nose_80 : decode cX11_nose 80 = .ok (.iload 5, 2) := by decide +kernel
theorem dX11_nose_82 : decode cX11_nose 82 = .ok (.istore_n 3, 1) := by decide +kernel
theorem dX11_nose_83 : decode cX11_nose 83 = .ok (.iinc 4 1, 3) := by decide +kernel
theorem dX11_nose_86 : decode cX11_nose 86 = .ok (.goto (-65), 3) := by decide +kernel
theorem dX11_nose_89 : decode cX11_nose 89 = .ok (.iload_n 1, 1) := by decide +kernel
theorem dX11_nose_90 : decode cX11_nose 90 = .ok (.ifCond .ne 7, 3) := by decide +kernel
theorem dX11_nose_93 : decode cX11_nose 93 = .ok (.iload_n 2, 1) := by decide +kernel
theorem dX11_nose_94 : decode cX11_nose 94 = .ok (.goto 4, 3) := by decide +kernel
theorem dX11_nose_97 : decode cX11_nose 97 = .ok (.iload_n 3, 1) := by decide +kernel
theorem dX11_nose_98 : decode cX11_nose 98 = .ok (.ireturn, 1) := by decide +kernel
theorem dX11_anglers_0 : decode cX11_anglers 0 = .ok (.aload_n 0, 1) := by decide +kernel
theorem dX11_anglers_1 : decode cX11_anglers 1 = .ok (.iload_n 1, 1) := by decide +kernel
theorem dX11_anglers_2 : decode cX11_anglers 2 = .ok (.iconst 0, 1) := by decide +kernel
theorem dX11_anglers_3 : decode cX11_anglers 3 = .ok (.iconst 4, 1) := by decide +kernel
theorem dX11_anglers_4 : decode cX11_anglers 4 = .ok (.invokevirtual 178, 3) := by decide +kernel
theorem dX11_anglers_7 : decode cX11_anglers 7 = .ok (.aload_n 0, 1) := by decide +kernel
theorem dX11_anglers_8 : decode cX11_anglers 8 = .ok (.iload_n 2, 1) := by decide +kernel
theorem dX11_anglers_9 : decode cX11_anglers 9 = .ok (.iconst 0, 1) := by decide +kernel
theorem dX11_anglers_10 : decode cX11_anglers 10 = .ok (.iconst 1, 1) := by decide +kernel
theorem dX11_anglers_11 : decode cX11_anglers 11 = .ok (.invokevirtual 178, 3) := by decide +kernel
theorem dX11_anglers_14 : decode cX11_anglers 14 = .ok (.aload_n 0, 1) := by decide +kernel
theorem dX11_anglers_15 : decode cX11_anglers 15 = .ok (.getfield 91, 3) := by decide +kernel
theorem dX11_anglers_18 : decode cX11_anglers 18 = .ok (.iload_n 1, 1) := by decide +kernel
theorem dX11_anglers_19 : decode cX11_anglers 19 = .ok (.invokevirtual 365, 3) := by decide +kernel
theorem dX11_anglers_22 : decode cX11_anglers 22 = .ok (.iload_n 2, 1) := by decide +kernel
theorem dX11_anglers_23 : decode cX11_anglers 23 = .ok (.ifCond .ne 13, 3) := by decide +kernel
theorem dX11_anglers_26 : decode cX11_anglers 26 = .ok (.aload_n 0, 1) := by decide +kernel
theorem dX11_anglers_27 : decode cX11_anglers 27 = .ok (.getfield 91, 3) := by decide +kernel
theorem dX11_anglers_30 : decode cX11_anglers 30 = .ok (.getfield 368, 3) := by decide +kernel
theorem dX11_anglers_33 : decode cX11_anglers 33 = .ok (.goto 10, 3) := by decide +kernel
theorem dX11_anglers_36 : decode cX11_anglers 36 = .ok (.aload_n 0, 1) := by decide +kernel
theorem dX11_anglers_37 : decode cX11_anglers 37 = .ok (.getfield 91, 3) := by decide +kernel
theorem dX11_anglers_40 : decode cX11_anglers 40 = .ok (.invokevirtual 371, 3) := by decide +kernel
theorem dX11_anglers_43 : decode cX11_anglers 43 = .ok (.ireturn, 1) := by decide +kernel
theorem dX11_stand_0 : decode cX11_stand 0 = .ok (.aload_n 0, 1) := by decide +kernel
theorem dX11_stand_1 : decode cX11_stand 1 = .ok (.iload_n 1, 1) := by decide +kernel
theorem dX11_stand_2 : decode cX11_stand 2 = .ok (.invokevirtual 209, 3) := by decide +kernel
theorem dX11_stand_5 : decode cX11_stand 5 = .ok (.aload_n 0, 1) := by decide +kernel
theorem dX11_stand_6 : decode cX11_stand 6 = .ok (.iload_n 2, 1) := by decide +kernel
theorem dX11_stand_7 : decode cX11_stand 7 = .ok (.iconst 0, 1) := by decide +kernel
theorem dX11_stand_8 : decode cX11_stand 8 = .ok (.iconst 4, 1) := by decide +kernel
theorem dX11_stand_9 : decode cX11_stand 9 = .ok (.invokevirtual 178, 3) := by decide +kernel
theorem dX11_stand_12 : decode cX11_stand 12 = .ok (.aload_n 0, 1) := by decide +kernel
theorem dX11_stand_13 : decode cX11_stand 13 = .ok (.getfield 91, 3) := by decide +kernel
theorem dX11_stand_16 : decode cX11_stand 16 = .ok (.iload_n 2, 1) := by decide +kernel
theorem dX11_stand_17 : decode cX11_stand 17 = .ok (.invokevirtual 365, 3) := by decide +kernel
theorem dX11_stand_20 : decode cX11_stand 20 = .ok (.aload_n 0, 1) := by decide +kernel
theorem dX11_stand_21 : decode cX11_stand 21 = .ok (.getfield 91, 3) := by decide +kernel
theorem dX11_stand_24 : decode cX11_stand 24 = .ok (.getfield 368, 3) := by decide +kernel
theorem dX11_stand_27 : decode cX11_stand 27 = .ok (.ifCond .ne 7, 3) := by decide +kernel
theorem dX11_stand_30 : decode cX11_stand 30 = .ok (.iconst 0, 1) := by decide +kernel
theorem dX11_stand_31 : decode cX11_stand 31 = .ok (.goto 12, 3) := by decide +kernel
theorem dX11_stand_34 : decode cX11_stand 34 = .ok (.aload_n 0, 1) := by decide +kernel
theorem dX11_stand_35 : decode cX11_stand 35 = .ok (.getfield 91, 3) := by decide +kernel
theorem dX11_stand_38 : decode cX11_stand 38 = .ok (.getfield 374, 3) := by decide +kernel
theorem dX11_stand_41 : decode cX11_stand 41 = .ok (.iload_n 1, 1) := by decide +kernel
theorem dX11_stand_42 : decode cX11_stand 42 = .ok (.iaload, 1) := by decide +kernel
theorem dX11_stand_43 : decode cX11_stand 43 = .ok (.ireturn, 1) := by decide +kernel
theorem dX11_walk_0 : decode cX11_walk 0 = .ok (.aload_n 0, 1) := by decide +kernel
theorem dX11_walk_1 : decode cX11_walk 1 = .ok (.iload_n 1, 1) := by decide +kernel
theorem dX11_walk_2 : decode cX11_walk 2 = .ok (.invokevirtual 209, 3) := by decide +kernel
theorem dX11_walk_5 : decode cX11_walk 5 = .ok (.aload_n 0, 1) := by decide +kernel
theorem dX11_walk_6 : decode cX11_walk 6 = .ok (.iload_n 2, 1) := by decide +kernel
theorem dX11_walk_7 : decode cX11_walk 7 = .ok (.invokevirtual 209, 3) := by decide +kernel
theorem dX11_walk_10 : decode cX11_walk 10 = .ok (.aload_n 0, 1) := by decide +kernel
theorem dX11_walk_11 : decode cX11_walk 11 = .ok (.iload_n 3, 1) := by decide +kernel
theorem dX11_walk_12 : decode cX11_walk 12 = .ok (.iconst 0, 1) := by decide +kernel
theorem dX11_walk_13 : decode cX11_walk 13 = .ok (.bipush 20, 2) := by decide +kernel
theorem dX11_walk_15 : decode cX11_walk 15 = .ok (.invokevirtual 178, 3) := by decide +kernel
theorem dX11_walk_18 : decode cX11_walk 18 = .ok (.aload_n 0, 1) := by decide +kernel
theorem dX11_walk_19 : decode cX11_walk 19 = .ok (.getfield 19, 3) := by decide +kernel
theorem dX11_walk_22 : decode cX11_walk 22 = .ok (.iload_n 3, 1) := by decide +kernel
theorem dX11_walk_23 : decode cX11_walk 23 = .ok (.invokevirtual 377, 3) := by decide +kernel
theorem dX11_walk_26 : decode cX11_walk 26 = .ok (.aload_n 0, 1) := by decide +kernel
theorem dX11_walk_27 : decode cX11_walk 27 = .ok (.invokevirtual 191, 3) := by decide +kernel
theorem dX11_walk_30 : decode cX11_walk 30 = .ok (.iconst (-1), 1) := by decide +kernel
theorem dX11_walk_31 : decode cX11_walk 31 = .ok (.ixor, 1) := by decide +kernel
theorem dX11_walk_32 : decode cX11_walk 32 = .ok (.iand, 1) := by decide +kernel
theorem dX11_walk_33 : decode cX11_walk 33 = .ok (.istore 4, 2) := by decide +kernel
theorem dX11_walk_35 : decode cX11_walk 35 = .ok (.iload_n 2, 1) := by decide +kernel
theorem dX11_walk_36 : decode cX11_walk 36 = .ok (.iload_n 1, 1) := by decide +kernel
theorem dX11_walk_37 : decode cX11_walk 37 = .ok (.if_icmp .ge 7, 3) := by decide +kernel
theorem dX11_walk_40 : decode cX11_walk 40 = .ok (.iconst (-1), 1) := by decide +kernel
theorem dX11_walk_41 : decode cX11_walk 41 = .ok (.goto 4, 3) := by decide +kernel
theorem dX11_walk_44 : decode cX11_walk 44 = .ok (.iconst 1, 1) := by decide +kernel
theorem dX11_walk_45 : decode cX11_walk 45 = .ok (.istore 5, 2) := by decide +kernel
theorem dX11_walk_47 : decode cX11_walk 47 = .ok (.iload_n 2, 1) := by decide +kernel
theorem dX11_walk_48 : decode cX11_walk 48 = .ok (.iload_n 1, 1) := by decide +kernel
theorem dX11_walk_49 : decode cX11_walk 49 = .ok (.isub, 1) := by decide +kernel
theorem dX11_walk_50 : decode cX11_walk 50 = .ok (.invokestatic 380, 3) := by decide +kernel
theorem dX11_walk_53 : decode cX11_walk 53 = .ok (.istore 6, 2) := by decide +kernel
theorem dX11_walk_55 : decode cX11_walk 55 = .ok (.iconst (-1), 1) := by decide +kernel
theorem dX11_walk_56 : decode cX11_walk 56 = .ok (.istore 7, 2) := by decide +kernel
theorem dX11_walk_58 : decode cX11_walk 58 = .ok (.iload 4, 2) := by decide +kernel
theorem dX11_walk_60 : decode cX11_walk 60 = .ok (.iload_n 1, 1) := by decide +kernel
theorem dX11_walk_61 : decode cX11_walk 61 = .ok (.invokestatic 281, 3) := by decide +kernel
theorem dX11_walk_64 : decode cX11_walk 64 = .ok (.ifCond .eq 7, 3) := by decide +kernel
theorem dX11_walk_67 : decode cX11_walk 67 = .ok (.iconst 1, 1) := by decide +kernel
theorem dX11_walk_68 : decode cX11_walk 68 = .ok (.goto 4, 3) := by decide +kernel
theorem dX11_walk_71 : decode cX11_walk 71 = .ok (.iconst (-1), 1) := by decide +kernel
theorem dX11_walk_72 : decode cX11_walk 72 = .ok (.istore 8, 2) := by decide +kernel
theorem dX11_walk_74 : decode cX11_walk 74 = .ok (.iconst 1, 1) := by decide +kernel
theorem dX11_walk_75 : decode cX11_walk 75 = .ok (.istore 9, 2) := by decide +kernel
theorem dX11_walk_77 : decode cX11_walk 77 = .ok (.iload 9, 2) := by decide +kernel
theorem dX11_walk_79 : decode cX11_walk 79 = .ok (.iload 6, 2) := by decide +kernel
theorem dX11_walk_81 : decode cX11_walk 81 = .ok (.if_icmp .gt 77, 3) := by decide +kernel
theorem dX11_walk_84 : decode cX11_walk 84 = .ok (.iconst (-1), 1) := by decide +kernel
theorem dX11_walk_85 : decode cX11_walk 85 = .ok (.istore 10, 2) := by decide +kernel
theorem dX11_walk_87 : decode cX11_walk 87 = .ok (.iload 4, 2) := by decide +kernel
theorem dX11_walk_89 : decode cX11_walk 89 = .ok (.iload_n 1, 1) := by decide +kernel
theorem dX11_walk_90 : decode cX11_walk 90 = .ok (.iload 5, 2) := by decide +kernel
theorem dX11_walk_92 : decode cX11_walk 92 = .ok (.iload 9, 2) := by decide +kernel
theorem dX11_walk_94 : decode cX11_walk 94 = .ok (.imul, 1) := by decide +kernel
theorem dX11_walk_95 : decode cX11_walk 95 = .ok (.iadd, 1) := by decide +kernel
theorem dX11_walk_96 : decode cX11_walk 96 = .ok (.invokestatic 281, 3) := by decide +kernel
theorem dX11_walk_99 : decode cX11_walk 99 = .ok (.ifCond .eq 45, 3) := by decide +kernel
theorem dX11_walk_102 : decode cX11_walk 102 = .ok (.iload 8, 2) := by decide +kernel
theorem dX11_walk_104 : decode cX11_walk 104 = .ok (.iconst (-1), 1) := by decide +kernel
theorem dX11_walk_105 : decode cX11_walk 105 = .ok (.if_icmp .ne 9, 3) := by decide +kernel
theorem dX11_walk_108 : decode cX11_walk 108 = .ok (.iload 7, 2) := by decide +kernel
theorem dX11_walk_110 : decode cX11_walk 110 = .ok (.iconst (-1), 1) := by decide +kernel
theorem dX11_walk_111 : decode cX11_walk 111 = .ok (.if_icmp .eq 33, 3) := by decide +kernel
theorem dX11_walk_114 : decode cX11_walk 114 = .ok (.iconst 1, 1) := by decide +kernel
theorem dX11_walk_115 : decode cX11_walk 115 = .ok (.iload 7, 2) := by decide +kernel
theorem dX11_walk_117 : decode cX11_walk 117 = .ok (.iconst (-1), 1) := by decide +kernel
theorem dX11_walk_118 : decode cX11_walk 118 = .ok (.if_icmp .eq 21, 3) := by decide +kernel
theorem dX11_walk_121 : decode cX11_walk 121 = .ok (.iload 8, 2) := by decide +kernel
theorem dX11_walk_123 : decode cX11_walk 123 = .ok (.iconst (-1), 1) := by decide +kernel
theorem dX11_walk_124 : decode cX11_walk 124 = .ok (.if_icmp .eq 10, 3) := by decide +kernel
theorem dX11_walk_127 : decode cX11_walk 127 = .ok (.iload 7, 2) := by decide +kernel
theorem dX11_walk_129 : decode cX11_walk 129 = .ok (.iload 8, 2) := by decide +kernel
theorem dX11_walk_131 : decode cX11_walk 131 = .ok (.if_icmp .ge 8, 3) := by decide +kernel
theorem dX11_walk_134 : decode cX11_walk 134 = .ok (.iload 7, 2) := by decide +kernel
theorem dX11_walk_136 : decode cX11_walk 136 = .ok (.goto 5, 3) := by decide +kernel
theorem dX11_walk_139 : decode cX11_walk 139 = .ok (.iload 8, 2) := by decide +kernel
theorem dX11_walk_141 : decode cX11_walk 141 = .ok (.iadd, 1) := by decide +kernel
theorem dX11_walk_142 : decode cX11_walk 142 = .ok (.istore 10, 2) := by decide +kernel
theorem dX11_walk_144 : decode cX11_walk 144 = .ok (.iload 8, 2) := by decide +kernel
theorem dX11_walk_146 : decode cX11_walk 146 = .ok (.istore 7, 2) := by decide +kernel
theorem dX11_walk_148 : decode cX11_walk 148 = .ok (.iload 10, 2) := by decide +kernel
theorem dX11_walk_150 : decode cX11_walk 150 = .ok (.istore 8, 2) := by decide +kernel
theorem dX11_walk_152 : decode cX11_walk 152 = .ok (.iinc 9 1, 3) := by decide +kernel
theorem dX11_walk_155 : decode cX11_walk 155 = .ok (.goto (-78), 3) := by decide +kernel
theorem dX11_walk_158 : decode cX11_walk 158 = .ok (.iload 8, 2) := by decide +kernel
theorem dX11_walk_160 : decode cX11_walk 160 = .ok (.ireturn, 1) := by decide +kernel
theorem dX11_reach_0 : decode cX11_reach 0 = .ok (.aload_n 0, 1) := by decide +kernel
theorem dX11_reach_1 : decode cX11_reach 1 = .ok (.iload_n 1, 1) := by decide +kernel
theorem dX11_reach_2 : decode cX11_reach 2 = .ok (.invokevirtual 209, 3) := by decide +kernel
theorem dX11_reach_5 : decode cX11_reach 5 = .ok (.aload_n 0, 1) := by decide +kernel
theorem dX11_reach_6 : decode cX11_reach 6 = .ok (.iload_n 2, 1) := by decide +kernel
theorem dX11_reach_7 : decode cX11_reach 7 = .ok (.iconst 0, 1) := by decide +kernel
theorem dX11_reach_8 : decode cX11_reach 8 = .ok (.bipush 20, 2) := by decide +kernel
theorem dX11_reach_10 : decode cX11_reach 10 = .ok (.invokevirtual 178, 3) := by decide +kernel
theorem dX11_reach_13 : decode cX11_reach 13 = .ok (.aload_n 0, 1) := by decide +kernel
theorem dX11_reach_14 : decode cX11_reach 14 = .ok (.getfield 19, 3) := by decide +kernel
theorem dX11_reach_17 : decode cX11_reach 17 = .ok (.iload_n 2, 1) := by decide +kernel
theorem dX11_reach_18 : decode cX11_reach 18 = .ok (.invokevirtual 377, 3) := by decide +kernel
theorem dX11_reach_21 : decode cX11_reach 21 = .ok (.aload_n 0, 1) := by decide +kernel
theorem dX11_reach_22 : decode cX11_reach 22 = .ok (.invokevirtual 191, 3) := by decide +kernel
theorem dX11_reach_25 : decode cX11_reach 25 = .ok (.iconst (-1), 1) := by decide +kernel
theorem dX11_reach_26 : decode cX11_reach 26 = .ok (.ixor, 1) := by decide +kernel
theorem dX11_reach_27 : decode cX11_reach 27 = .ok (.iand, 1) := by decide +kernel
theorem dX11_reach_28 : decode cX11_reach 28 = .ok (.istore_n 3, 1) := by decide +kernel
theorem dX11_reach_29 : decode cX11_reach 29 = .ok (.iload_n 3, 1) := by decide +kernel
theorem dX11_reach_30 : decode cX11_reach 30 = .ok (.iconst 1, 1) := by decide +kernel
theorem dX11_reach_31 : decode cX11_reach 31 = .ok (.iload_n 1, 1) := by decide +kernel
theorem dX11_reach_32 : decode cX11_reach 32 = .ok (.ishl, 1) := by decide +kernel
theorem dX11_reach_33 : decode cX11_reach 33 = .ok (.iand, 1) := by decide +kernel
theorem dX11_reach_34 : decode cX11_reach 34 = .ok (.istore 4, 2) := by decide +kernel
theorem dX11_reach_36 : decode cX11_reach 36 = .ok (.iconst 0, 1) := by decide +kernel
theorem dX11_reach_37 : decode cX11_reach 37 = .ok (.istore 5, 2) := by decide +kernel
theorem dX11_reach_39 : decode cX11_reach 39 = .ok (.iload 5, 2) := by decide +kernel
theorem dX11_reach_41 : decode cX11_reach 41 = .ok (.bipush 16, 2) := by decide +kernel
theorem dX11_reach_43 : decode cX11_reach 43 = .ok (.if_icmp .ge 35, 3) := by decide +kernel
theorem dX11_reach_46 : decode cX11_reach 46 = .ok (.iload 4, 2) := by decide +kernel
theorem dX11_reach_48 : decode cX11_reach 48 = .ok (.iload_n 3, 1) := by decide +kernel
theorem dX11_reach_49 : decode cX11_reach 49 = .ok (.iload 4, 2) := by decide +kernel
theorem dX11_reach_51 : decode cX11_reach 51 = .ok (.iconst 1, 1) := by decide +kernel
theorem dX11_reach_52 : decode cX11_reach 52 = .ok (.ishl, 1) := by decide +kernel
theorem dX11_reach_53 : decode cX11_reach 53 = .ok (.iload 4, 2) := by decide +kernel
theorem dX11_reach_55 : decode cX11_reach 55 = .ok (.iconst 2, 1) := by decide +kernel
theorem dX11_reach_56 : decode cX11_reach 56 = .ok (.ishl, 1) := by decide +kernel
theorem dX11_reach_57 : decode cX11_reach 57 = .ok (.ior, 1) := by decide +kernel
theorem dX11_reach_58 : decode cX11_reach 58 = .ok (.iload 4, 2) := by decide +kernel
theorem dX11_reach_60 : decode cX11_reach 60 = .ok (.iconst 1, 1) := by decide +kernel
theorem dX11_reach_61 : decode cX11_reach 61 = .ok (.ishr, 1) := by decide +kernel
theorem dX11_reach_62 : decode cX11_reach 62 = .ok (.ior, 1) := by decide +kernel
theorem dX11_reach_63 : decode cX11_reach 63 = .ok (.iload 4, 2) := by decide +kernel
theorem dX11_reach_65 : decode cX11_reach 65 = .ok (.iconst 2, 1) := by decide +kernel
theorem dX11_reach_66 : decode cX11_reach 66 = .ok (.ishr, 1) := by decide +kernel
theorem dX11_reach_67 : decode cX11_reach 67 = .ok (.ior, 1) := by decide +kernel
theorem dX11_reach_68 : decode cX11_reach 68 = .ok (.iand, 1) := by decide +kernel
theorem dX11_reach_69 : decode cX11_reach 69 = .ok (.ior, 1) := by decide +kernel
theorem dX11_reach_70 : decode cX11_reach 70 = .ok (.istore 4, 2) := by decide +kernel
theorem dX11_reach_72 : decode cX11_reach 72 = .ok (.iinc 5 1, 3) := by decide +kernel
theorem dX11_reach_75 : decode cX11_reach 75 = .ok (.goto (-36), 3) := by decide +kernel
theorem dX11_reach_78 : decode cX11_reach 78 = .ok (.iload 4, 2) := by decide +kernel
theorem dX11_reach_80 : decode cX11_reach 80 = .ok (.ireturn, 1) := by decide +kernel
theorem dX11_image_0 : decode cX11_image 0 = .ok (.aload_n 0, 1) := by decide +kernel
theorem dX11_image_1 : decode cX11_image 1 = .ok (.getfield 52, 3) := by decide +kernel
theorem dX11_image_4 : decode cX11_image 4 = .ok (.aload_n 0, 1) := by decide +kernel
theorem dX11_image_5 : decode cX11_image 5 = .ok (.getfield 45, 3) := by decide +kernel
theorem dX11_image_8 : decode cX11_image 8 = .ok (.invokevirtual 383, 3) := by decide +kernel
theorem dX11_image_11 : decode cX11_image 11 = .ok (.ifCond .eq 13, 3) := by decide +kernel
theorem dX11_image_14 : decode cX11_image 14 = .ok (.aload_n 0, 1) := by decide +kernel
theorem dX11_image_15 : decode cX11_image 15 = .ok (.getfield 52, 3) := by decide +kernel
theorem dX11_image_18 : decode cX11_image 18 = .ok (.getfield 387, 3) := by decide +kernel
theorem dX11_image_21 : decode cX11_image 21 = .ok (.goto 4, 3) := by decide +kernel
theorem dX11_image_24 : decode cX11_image 24 = .ok (.iconst (-1), 1) := by decide +kernel
theorem dX11_image_25 : decode cX11_image 25 = .ok (.ireturn, 1) := by decide +kernel
theorem dX11_restore_0 : decode cX11_restore 0 = .ok (.aload_n 0, 1) := by decide +kernel
theorem dX11_restore_1 : decode cX11_restore 1 = .ok (.getfield 52, 3) := by decide +kernel
theorem dX11_restore_4 : decode cX11_restore 4 = .ok (.aload_n 0, 1) := by decide +kernel
theorem dX11_restore_5 : decode cX11_restore 5 = .ok (.getfield 45, 3) := by decide +kernel
theorem dX11_restore_8 : decode cX11_restore 8 = .ok (.invokevirtual 390, 3) := by decide +kernel
theorem dX11_restore_11 : decode cX11_restore 11 = .ok (.ifCond .ne 5, 3) := by decide +kernel
theorem dX11_restore_14 : decode cX11_restore 14 = .ok (.iconst (-1), 1) := by decide +kernel
theorem dX11_restore_15 : decode cX11_restore 15 = .ok (.ireturn, 1) := by decide +kernel
theorem dX11_restore_16 : decode cX11_restore 16 = .ok (.aload_n 0, 1) := by decide +kernel
theorem dX11_restore_17 : decode cX11_restore 17 = .ok (.iconst 0, 1) := by decide +kernel
theorem dX11_restore_18 : decode cX11_restore 18 = .ok (.putfield 135, 3) := by decide +kernel
theorem dX11_restore_21 : decode cX11_restore 21 = .ok (.aload_n 0, 1) := by decide +kernel
theorem dX11_restore_22 : decode cX11_restore 22 = .ok (.getfield 68, 3) := by decide +kernel
theorem dX11_restore_25 : decode cX11_restore 25 = .ok (.invokevirtual 139, 3) := by decide +kernel
theorem dX11_restore_28 : decode cX11_restore 28 = .ok (.aload_n 0, 1) := by decide +kernel
theorem dX11_restore_29 : decode cX11_restore 29 = .ok (.getfield 52, 3) := by decide +kernel
theorem dX11_restore_32 : decode cX11_restore 32 = .ok (.getfield 387, 3) := by decide +kernel
theorem dX11_restore_35 : decode cX11_restore 35 = .ok (.ireturn, 1) := by decide +kernel
theorem dX11_status_0 : decode cX11_status 0 = .ok (.iload_n 1, 1) := by decide +kernel
theorem dX11_status_1 : decode cX11_status 1 = .ok (.ifCond .ne 8, 3) := by decide +kernel
theorem dX11_status_4 : decode cX11_status 4 = .ok (.aload_n 0, 1) := by decide +kernel
theorem dX11_status_5 : decode cX11_status 5 = .ok (.getfield 393, 3) := by decide +kernel
theorem dX11_status_8 : decode cX11_status 8 = .ok (.ireturn, 1) := by decide +kernel
theorem dX11_status_9 : decode cX11_status 9 = .ok (.iload_n 1, 1) := by decide +kernel
theorem dX11_status_10 : decode cX11_status 10 = .ok (.iconst 1, 1) := by decide +kernel
theorem dX11_status_11 : decode cX11_status 11 = .ok (.if_icmp .ne 10, 3) := by decide +kernel
theorem dX11_status_14 : decode cX11_status 14 = .ok (.aload_n 0, 1) := by decide +kernel
theorem dX11_status_15 : decode cX11_status 15 = .ok (.getfield 396, 3) := by decide +kernel
theorem dX11_status_18 : decode cX11_status 18 = .ok (.goto 4, 3) := by decide +kernel
theorem dX11_status_21 : decode cX11_status 21 = .ok (.iconst (-1), 1) := by decide +kernel
theorem dX11_status_22 : decode cX11_status 22 = .ok (.ireturn, 1) := by decide +kernel
theorem dX11_count_0 : decode cX11_count 0 = .ok (.iload_n 1, 1) := by decide +kernel
theorem dX11_count_1 : decode cX11_count 1 = .ok (.tableswitch 51 0 2 #[27, 35, 43], 27) := by decide +kernel
theorem dX11_count_28 : decode cX11_count 28 = .ok (.aload_n 0, 1) := by decide +kernel
theorem dX11_count_29 : decode cX11_count 29 = .ok (.getfield 52, 3) := by decide +kernel
theorem dX11_count_32 : decode cX11_count 32 = .ok (.getfield 387, 3) := by decide +kernel
theorem dX11_count_35 : decode cX11_count 35 = .ok (.ireturn, 1) := by decide +kernel
theorem dX11_count_36 : decode cX11_count 36 = .ok (.aload_n 0, 1) := by decide +kernel
theorem dX11_count_37 : decode cX11_count 37 = .ok (.getfield 10, 3) := by decide +kernel
theorem dX11_count_40 : decode cX11_count 40 = .ok (.invokevirtual 103, 3) := by decide +kernel
theorem dX11_count_43 : decode cX11_count 43 = .ok (.ireturn, 1) := by decide +kernel
theorem dX11_count_44 : decode cX11_count 44 = .ok (.aload_n 0, 1) := by decide +kernel
theorem dX11_count_45 : decode cX11_count 45 = .ok (.getfield 52, 3) := by decide +kernel
theorem dX11_count_48 : decode cX11_count 48 = .ok (.getfield 172, 3) := by decide +kernel
theorem dX11_count_51 : decode cX11_count 51 = .ok (.ireturn, 1) := by decide +kernel
theorem dX11_count_52 : decode cX11_count 52 = .ok (.iconst (-1), 1) := by decide +kernel
theorem dX11_count_53 : decode cX11_count 53 = .ok (.ireturn, 1) := by decide +kernel
theorem dX11_needThere_0 : decode cX11_needThere 0 = .ok (.iload_n 1, 1) := by decide +kernel
theorem dX11_needThere_1 : decode cX11_needThere 1 = .ok (.ifCond .lt 8, 3) := by decide +kernel
theorem dX11_needThere_4 : decode cX11_needThere 4 = .ok (.iload_n 1, 1) := by decide +kernel
theorem dX11_needThere_5 : decode cX11_needThere 5 = .ok (.iload_n 2, 1) := by decide +kernel
theorem dX11_needThere_6 : decode cX11_needThere 6 = .ok (.if_icmp .lt 24, 3) := by decide +kernel
theorem dX11_needThere_9 : decode cX11_needThere 9 = .ok (.aload_n 0, 1) := by decide +kernel
theorem dX11_needThere_10 : decode cX11_needThere 10 = .ok (.dup, 1) := by decide +kernel
theorem dX11_needThere_11 : decode cX11_needThere 11 = .ok (.getfield 393, 3) := by decide +kernel
theorem dX11_needThere_14 : decode cX11_needThere 14 = .ok (.iconst 1, 1) := by decide +kernel
theorem dX11_needThere_15 : decode cX11_needThere 15 = .ok (.iadd, 1) := by decide +kernel
theorem dX11_needThere_16 : decode cX11_needThere 16 = .ok (.putfield 393, 3) := by decide +kernel
theorem dX11_needThere_19 : decode cX11_needThere 19 = .ok (.new 399, 3) := by decide +kernel
theorem dX11_needThere_22 : decode cX11_needThere 22 = .ok (.dup, 1) := by decide +kernel
theorem dX11_needThere_23 : decode cX11_needThere 23 = .ok (.ldc_w 401, 3) := by decide +kernel
theorem dX11_needThere_26 : decode cX11_needThere 26 = .ok (.invokespecial 403, 3) := by decide +kernel
theorem dX11_needThere_29 : decode cX11_needThere 29 = .ok (.athrow, 1) := by decide +kernel
theorem dX11_needThere_30 : decode cX11_needThere 30 = .ok (.return_, 1) := by decide +kernel
theorem dX11_needBoard_0 : decode cX11_needBoard 0 = .ok (.aload_n 0, 1) := by decide +kernel
theorem dX11_needBoard_1 : decode cX11_needBoard 1 = .ok (.iload_n 1, 1) := by decide +kernel
theorem dX11_needBoard_2 : decode cX11_needBoard 2 = .ok (.aload_n 0, 1) := by decide +kernel
theorem dX11_needBoard_3 : decode cX11_needBoard 3 = .ok (.getfield 19, 3) := by decide +kernel
theorem dX11_needBoard_6 : decode cX11_needBoard 6 = .ok (.getfield 142, 3) := by decide +kernel
theorem dX11_needBoard_9 : decode cX11_needBoard 9 = .ok (.invokevirtual 233, 3) := by decide +kernel
theorem dX11_needBoard_12 : decode cX11_needBoard 12 = .ok (.return_, 1) := by decide +kernel
theorem dX11_needFit_0 : decode cX11_needFit 0 = .ok (.iload_n 1, 1) := by decide +kernel
theorem dX11_needFit_1 : decode cX11_needFit 1 = .ok (.iload_n 2, 1) := by decide +kernel
theorem dX11_needFit_2 : decode cX11_needFit 2 = .ok (.if_icmp .lt 8, 3) := by decide +kernel
theorem dX11_needFit_5 : decode cX11_needFit 5 = .ok (.iload_n 1, 1) := by decide +kernel
theorem dX11_needFit_6 : decode cX11_needFit 6 = .ok (.iload_n 3, 1) := by decide +kernel
theorem dX11_needFit_7 : decode cX11_needFit 7 = .ok (.if_icmp .le 24, 3) := by decide +kernel
theorem dX11_needFit_10 : decode cX11_needFit 10 = .ok (.aload_n 0, 1) := by decide +kernel
theorem dX11_needFit_11 : decode cX11_needFit 11 = .ok (.dup, 1) := by decide +kernel
theorem dX11_needFit_12 : decode cX11_needFit 12 = .ok (.getfield 396, 3) := by decide +kernel
theorem dX11_needFit_15 : decode cX11_needFit 15 = .ok (.iconst 1, 1) := by decide +kernel
theorem dX11_needFit_16 : decode cX11_needFit 16 = .ok (.iadd, 1) := by decide +kernel
theorem dX11_needFit_17 : decode cX11_needFit 17 = .ok (.putfield 396, 3) := by decide +kernel
theorem dX11_needFit_20 : decode cX11_needFit 20 = .ok (.new 406, 3) := by decide +kernel
theorem dX11_needFit_23 : decode cX11_needFit 23 = .ok (.dup, 1) := by decide +kernel
theorem dX11_needFit_24 : decode cX11_needFit 24 = .ok (.ldc_w 408, 3) := by decide +kernel
theorem dX11_needFit_27 : decode cX11_needFit 27 = .ok (.invokespecial 410, 3) := by decide +kernel
theorem dX11_needFit_30 : decode cX11_needFit 30 = .ok (.athrow, 1) := by decide +kernel
theorem dX11_needFit_31 : decode cX11_needFit 31 = .ok (.return_, 1) := by decide +kernel
theorem dX11_needMast_0 : decode cX11_needMast 0 = .ok (.aload_n 0, 1) := by decide +kernel
theorem dX11_needMast_1 : decode cX11_needMast 1 = .ok (.iload_n 1, 1) := by decide +kernel
theorem dX11_needMast_2 : decode cX11_needMast 2 = .ok (.iconst 0, 1) := by decide +kernel
theorem dX11_needMast_3 : decode cX11_needMast 3 = .ok (.bipush 9, 2) := by decide +kernel
theorem dX11_needMast_5 : decode cX11_needMast 5 = .ok (.invokevirtual 178, 3) := by decide +kernel
theorem dX11_needMast_8 : decode cX11_needMast 8 = .ok (.return_, 1) := by decide +kernel
theorem dX11_needWinter_0 : decode cX11_needWinter 0 = .ok (.aload_n 0, 1) := by decide +kernel
theorem dX11_needWinter_1 : decode cX11_needWinter 1 = .ok (.iload_n 1, 1) := by decide +kernel
theorem dX11_needWinter_2 : decode cX11_needWinter 2 = .ok (.iconst 0, 1) := by decide +kernel
theorem dX11_needWinter_3 : decode cX11_needWinter 3 = .ok (.bipush 16, 2) := by decide +kernel
theorem dX11_needWinter_5 : decode cX11_needWinter 5 = .ok (.invokevirtual 178, 3) := by decide +kernel
theorem dX11_needWinter_8 : decode cX11_needWinter 8 = .ok (.aload_n 0, 1) := by decide +kernel
theorem dX11_needWinter_9 : decode cX11_needWinter 9 = .ok (.iload_n 2, 1) := by decide +kernel
theorem dX11_needWinter_10 : decode cX11_needWinter 10 = .ok (.iconst 1, 1) := by decide +kernel
theorem dX11_needWinter_11 : decode cX11_needWinter 11 = .ok (.sipush 240, 3) := by decide +kernel
theorem dX11_needWinter_14 : decode cX11_needWinter 14 = .ok (.invokevirtual 178, 3) := by decide +kernel
theorem dX11_needWinter_17 : decode cX11_needWinter 17 = .ok (.return_, 1) := by decide +kernel
theorem dX11_needBits_0 : decode cX11_needBits 0 = .ok (.aload_n 0, 1) := by decide +kernel
theorem dX11_needBits_1 : decode cX11_needBits 1 = .ok (.iload_n 1, 1) := by decide +kernel
theorem dX11_needBits_2 : decode cX11_needBits 2 = .ok (.iconst 0, 1) := by decide +kernel
theorem dX11_needBits_3 : decode cX11_needBits 3 = .ok (.iload_n 2, 1) := by decide +kernel
theorem dX11_needBits_4 : decode cX11_needBits 4 = .ok (.invokestatic 411, 3) := by decide +kernel
theorem dX11_needBits_7 : decode cX11_needBits 7 = .ok (.invokevirtual 178, 3) := by decide +kernel
theorem dX11_needBits_10 : decode cX11_needBits 10 = .ok (.return_, 1) := by decide +kernel
theorem dX11_takeText_0 : decode cX11_takeText 0 = .ok (.aload_n 0, 1) := by decide +kernel
theorem dX11_takeText_1 : decode cX11_takeText 1 = .ok (.iload_n 1, 1) := by decide +kernel
theorem dX11_takeText_2 : decode cX11_takeText 2 = .ok (.iconst 0, 1) := by decide +kernel
theorem dX11_takeText_3 : decode cX11_takeText 3 = .ok (.iload_n 2, 1) := by decide +kernel
theorem dX11_takeText_4 : decode cX11_takeText 4 = .ok (.aload_n 0, 1) := by decide +kernel
theorem dX11_takeText_5 : decode cX11_takeText 5 = .ok (.getfield 10, 3) := by decide +kernel
theorem dX11_takeText_8 : decode cX11_takeText 8 = .ok (.invokevirtual 103, 3) := by decide +kernel
theorem dX11_takeText_11 : decode cX11_takeText 11 = .ok (.invokestatic 326, 3) := by decide +kernel
theorem dX11_takeText_14 : decode cX11_takeText 14 = .ok (.invokevirtual 178, 3) := by decide +kernel
theorem dX11_takeText_17 : decode cX11_takeText 17 = .ok (.aload_n 0, 1) := by decide +kernel
theorem dX11_takeText_18 : decode cX11_takeText 18 = .ok (.getfield 10, 3) := by decide +kernel
theorem dX11_takeText_21 : decode cX11_takeText 21 = .ok (.iload_n 1, 1) := by decide +kernel
theorem dX11_takeText_22 : decode cX11_takeText 22 = .ok (.invokevirtual 414, 3) := by decide +kernel
theorem dX11_takeText_25 : decode cX11_takeText 25 = .ok (.return_, 1) := by decide +kernel
theorem dX11_openNow_0 : decode cX11_openNow 0 = .ok (.aload_n 0, 1) := by decide +kernel
theorem dX11_openNow_1 : decode cX11_openNow 1 = .ok (.getfield 68, 3) := by decide +kernel
theorem dX11_openNow_4 : decode cX11_openNow 4 = .ok (.iconst 0, 1) := by decide +kernel
theorem dX11_openNow_5 : decode cX11_openNow 5 = .ok (.invokevirtual 278, 3) := by decide +kernel
theorem dX11_openNow_8 : decode cX11_openNow 8 = .ok (.ireturn, 1) := by decide +kernel
theorem dX11_allBits_0 : decode cX11_allBits 0 = .ok (.iconst 1, 1) := by decide +kernel
theorem dX11_allBits_1 : decode cX11_allBits 1 = .ok (.iload_n 0, 1) := by decide +kernel
theorem dX11_allBits_2 : decode cX11_allBits 2 = .ok (.ishl, 1) := by decide +kernel
theorem dX11_allBits_3 : decode cX11_allBits 3 = .ok (.iconst 1, 1) := by decide +kernel
theorem dX11_allBits_4 : decode cX11_allBits 4 = .ok (.isub, 1) := by decide +kernel
theorem dX11_allBits_5 : decode cX11_allBits 5 = .ok (.ireturn, 1) := by decide +kernel
theorem dX11_isBitOf_0 : decode cX11_isBitOf 0 = .ok (.iload_n 0, 1) := by decide +kernel
theorem dX11_isBitOf_1 : decode cX11_isBitOf 1 = .ok (.iload_n 1, 1) := by decide +kernel
theorem dX11_isBitOf_2 : decode cX11_isBitOf 2 = .ok (.ishr, 1) := by decide +kernel
theorem dX11_isBitOf_3 : decode cX11_isBitOf 3 = .ok (.iconst 1, 1) := by decide +kernel
theorem dX11_isBitOf_4 : decode cX11_isBitOf 4 = .ok (.iand, 1) := by decide +kernel
theorem dX11_isBitOf_5 : decode cX11_isBitOf 5 = .ok (.iconst 1, 1) := by decide +kernel
theorem dX11_isBitOf_6 : decode cX11_isBitOf 6 = .ok (.if_icmp .ne 7, 3) := by decide +kernel
theorem dX11_isBitOf_9 : decode cX11_isBitOf 9 = .ok (.iconst 1, 1) := by decide +kernel
theorem dX11_isBitOf_10 : decode cX11_isBitOf 10 = .ok (.goto 4, 3) := by decide +kernel
theorem dX11_isBitOf_13 : decode cX11_isBitOf 13 = .ok (.iconst 0, 1) := by decide +kernel
theorem dX11_isBitOf_14 : decode cX11_isBitOf 14 = .ok (.ireturn, 1) := by decide +kernel
theorem dX12_init_0 : decode cX12_init 0 = .ok (.aload_n 0, 1) := by decide +kernel
theorem dX12_init_1 : decode cX12_init 1 = .ok (.invokespecial 1, 3) := by decide +kernel
theorem dX12_init_4 : decode cX12_init 4 = .ok (.aload_n 0, 1) := by decide +kernel
theorem dX12_init_5 : decode cX12_init 5 = .ok (.iconst (-1), 1) := by decide +kernel
theorem dX12_init_6 : decode cX12_init 6 = .ok (.putfield 9, 3) := by decide +kernel
theorem dX12_init_9 : decode cX12_init 9 = .ok (.aload_n 0, 1) := by decide +kernel
theorem dX12_init_10 : decode cX12_init 10 = .ok (.sipush 600, 3) := by decide +kernel
theorem dX12_init_13 : decode cX12_init 13 = .ok (.newarray .int, 2) := by decide +kernel
theorem dX12_init_15 : decode cX12_init 15 = .ok (.putfield 13, 3) := by decide +kernel
theorem dX12_init_18 : decode cX12_init 18 = .ok (.aload_n 0, 1) := by decide +kernel
theorem dX12_init_19 : decode cX12_init 19 = .ok (.iconst 2, 1) := by decide +kernel
theorem dX12_init_20 : decode cX12_init 20 = .ok (.newarray .int, 2) := by decide +kernel
theorem dX12_init_22 : decode cX12_init 22 = .ok (.putfield 17, 3) := by decide +kernel
theorem dX12_init_25 : decode cX12_init 25 = .ok (.aload_n 0, 1) := by decide +kernel
theorem dX12_init_26 : decode cX12_init 26 = .ok (.iconst 5, 1) := by decide +kernel
theorem dX12_init_27 : decode cX12_init 27 = .ok (.newarray .int, 2) := by decide +kernel
theorem dX12_init_29 : decode cX12_init 29 = .ok (.putfield 20, 3) := by decide +kernel
theorem dX12_init_32 : decode cX12_init 32 = .ok (.aload_n 0, 1) := by decide +kernel
theorem dX12_init_33 : decode cX12_init 33 = .ok (.iconst 5, 1) := by decide +kernel
theorem dX12_init_34 : decode cX12_init 34 = .ok (.newarray .int, 2) := by decide +kernel
theorem dX12_init_36 : decode cX12_init 36 = .ok (.putfield 23, 3) := by decide +kernel
theorem dX12_init_39 : decode cX12_init 39 = .ok (.aload_n 0, 1) := by decide +kernel
theorem dX12_init_40 : decode cX12_init 40 = .ok (.bipush 16, 2) := by decide +kernel
theorem dX12_init_42 : decode cX12_init 42 = .ok (.iconst 4, 1) := by decide +kernel
theorem dX12_init_43 : decode cX12_init 43 = .ok (.multianewarray 26 2, 4) := by decide +kernel
theorem dX12_init_47 : decode cX12_init 47 = .ok (.putfield 28, 3) := by decide +kernel
theorem dX12_init_50 : decode cX12_init 50 = .ok (.aload_n 0, 1) := by decide +kernel
theorem dX12_init_51 : decode cX12_init 51 = .ok (.bipush 16, 2) := by decide +kernel
theorem dX12_init_53 : decode cX12_init 53 = .ok (.iconst 4, 1) := by decide +kernel
theorem dX12_init_54 : decode cX12_init 54 = .ok (.multianewarray 26 2, 4) := by decide +kernel
theorem dX12_init_58 : decode cX12_init 58 = .ok (.putfield 31, 3) := by decide +kernel
theorem dX12_init_61 : decode cX12_init 61 = .ok (.aload_n 0, 1) := by decide +kernel
theorem dX12_init_62 : decode cX12_init 62 = .ok (.iconst 4, 1) := by decide +kernel
theorem dX12_init_63 : decode cX12_init 63 = .ok (.iconst 2, 1) := by decide +kernel
theorem dX12_init_64 : decode cX12_init 64 = .ok (.multianewarray 26 2, 4) := by decide +kernel
theorem dX12_init_68 : decode cX12_init 68 = .ok (.putfield 34, 3) := by decide +kernel
theorem dX12_init_71 : decode cX12_init 71 = .ok (.aload_n 0, 1) := by decide +kernel
theorem dX12_init_72 : decode cX12_init 72 = .ok (.iconst 4, 1) := by decide +kernel
theorem dX12_init_73 : decode cX12_init 73 = .ok (.iconst 2, 1) := by decide +kernel
theorem dX12_init_74 : decode cX12_init 74 = .ok (.multianewarray 26 2, 4) := by decide +kernel
theorem dX12_init_78 : decode cX12_init 78 = .ok (.putfield 37, 3) := by decide +kernel
theorem dX12_init_81 : decode cX12_init 81 = .ok (.aload_n 0, 1) := by decide +kernel
theorem dX12_init_82 : decode cX12_init 82 = .ok (.bipush 8, 2) := by decide +kernel
theorem dX12_init_84 : decode cX12_init 84 = .ok (.iconst 3, 1) := by decide +kernel
theorem dX12_init_85 : decode cX12_init 85 = .ok (.multianewarray 26 2, 4) := by decide +kernel
theorem dX12_init_89 : decode cX12_init 89 = .ok (.putfield 40, 3) := by decide +kernel
theorem dX12_init_92 : decode cX12_init 92 = .ok (.aload_n 0, 1) := by decide +kernel
theorem dX12_init_93 : decode cX12_init 93 = .ok (.bipush 8, 2) := by decide +kernel
theorem dX12_init_95 : decode cX12_init 95 = .ok (.iconst 3, 1) := by decide +kernel
theorem dX12_init_96 : decode cX12_init 96 = .ok (.multianewarray 26 2, 4) := by decide +kernel
theorem dX12_init_100 : decode cX12_init 100 = .ok (.putfield 43, 3) := by decide +kernel
theorem dX12_init_103 : decode cX12_init 103 = .ok (.aload_n 0, 1) := by decide +kernel
theorem dX12_init_104 : decode cX12_init 104 = .ok (.sipush 160, 3) := by decide +kernel
theorem dX12_init_107 : decode cX12_init 107 = .ok (.iconst 2, 1) := by decide +kernel
theorem dX12_init_108 : decode cX12_init 108 = .ok (.multianewarray 26 2, 4) := by decide +kernel
theorem dX12_init_112 : decode cX12_init 112 = .ok (.putfield 46, 3) := by decide +kernel
theorem dX12_init_115 : decode cX12_init 115 = .ok (.aload_n 0, 1) := by decide +kernel
theorem dX12_init_116 : decode cX12_init 116 = .ok (.sipush 160, 3) := by decide +kernel
theorem dX12_init_119 : decode cX12_init 119 = .ok (.iconst 2, 1) := by decide +kernel
theorem dX12_init_120 : decode cX12_init 120 = .ok (.multianewarray 26 2, 4) := by decide +kernel
theorem dX12_init_124 : decode cX12_init 124 = .ok (.putfield 49, 3) := by decide +kernel
theorem dX12_init_127 : decode cX12_init 127 = .ok (.aload_n 0, 1) := by decide +kernel
theorem dX12_init_128 : decode cX12_init 128 = .ok (.bipush 12, 2) := by decide +kernel
theorem dX12_init_130 : decode cX12_init 130 = .ok (.iconst 2, 1) := by decide +kernel
theorem dX12_init_131 : decode cX12_init 131 = .ok (.multianewarray 26 2, 4) := by decide +kernel
theorem dX12_init_135 : decode cX12_init 135 = .ok (.putfield 52, 3) := by decide +kernel
theorem dX12_init_138 : decode cX12_init 138 = .ok (.aload_n 0, 1) := by decide +kernel
theorem dX12_init_139 : decode cX12_init 139 = .ok (.bipush 12, 2) := by decide +kernel
theorem dX12_init_141 : decode cX12_init 141 = .ok (.iconst 2, 1) := by decide +kernel
theorem dX12_init_142 : decode cX12_init 142 = .ok (.multianewarray 26 2, 4) := by decide +kernel
theorem dX12_init_146 : decode cX12_init 146 = .ok (.putfield 55, 3) := by decide +kernel
theorem dX12_init_149 : decode cX12_init 149 = .ok (.aload_n 0, 1) := by decide +kernel
theorem dX12_init_150 : decode cX12_init 150 = .ok (.sipush 160, 3) := by decide +kernel
theorem dX12_init_153 : decode cX12_init 153 = .ok (.newarray .int, 2) := by decide +kernel
theorem dX12_init_155 : decode cX12_init 155 = .ok (.putfield 58, 3) := by decide +kernel
theorem dX12_init_158 : decode cX12_init 158 = .ok (.aload_n 0, 1) := by decide +kernel
theorem dX12_init_159 : decode cX12_init 159 = .ok (.bipush 8, 2) := by decide +kernel
theorem dX12_init_161 : decode cX12_init 161 = .ok (.newarray .int, 2) := by decide +kernel
theorem dX12_init_163 : decode cX12_init 163 = .ok (.putfield 61, 3) := by decide +kernel
theorem dX12_init_166 : decode cX12_init 166 = .ok (.aload_n 0, 1) := by decide +kernel
theorem dX12_init_167 : decode cX12_init 167 = .ok (.bipush 80, 2) := by decide +kernel
theorem dX12_init_169 : decode cX12_init 169 = .ok (.iconst 3, 1) := by decide +kernel
theorem dX12_init_170 : decode cX12_init 170 = .ok (.multianewarray 26 2, 4) := by decide +kernel
theorem dX12_init_174 : decode cX12_init 174 = .ok (.putfield 64, 3) := by decide +kernel
theorem dX12_init_177 : decode cX12_init 177 = .ok (.aload_n 0, 1) := by decide +kernel
theorem dX12_init_178 : decode cX12_init 178 = .ok (.bipush 66, 2) := by decide +kernel
theorem dX12_init_180 : decode cX12_init 180 = .ok (.newarray .int, 2) := by decide +kernel
theorem dX12_init_182 : decode cX12_init 182 = .ok (.putfield 67, 3) := by decide +kernel
theorem dX12_init_185 : decode cX12_init 185 = .ok (.aload_n 0, 1) := by decide +kernel
theorem dX12_init_186 : decode cX12_init 186 = .ok (.bipush 66, 2) := by decide +kernel
theorem dX12_init_188 : decode cX12_init 188 = .ok (.newarray .int, 2) := by decide +kernel
theorem dX12_init_190 : decode cX12_init 190 = .ok (.putfield 70, 3) := by decide +kernel
theorem dX12_init_193 : decode cX12_init 193 = .ok (.aload_n 0, 1) := by decide +kernel
theorem dX12_init_194 : decode cX12_init 194 = .ok (.bipush 16, 2) := by decide +kernel
theorem dX12_init_196 : decode cX12_init 196 = .ok (.newarray .int, 2) := by decide +kernel
theorem dX12_init_198 : decode cX12_init 198 = .ok (.putfield 73, 3) := by decide +kernel
theorem dX12_init_201 : decode cX12_init 201 = .ok (.aload_n 0, 1) := by decide +kernel
theorem dX12_init_202 : decode cX12_init 202 = .ok (.bipush 16, 2) := by decide +kernel
theorem dX12_init_204 : decode cX12_init 204 = .ok (.bipush 66, 2) := by decide +kernel
theorem dX12_init_206 : decode cX12_init 206 = .ok (.multianewarray 26 2, 4) := by decide +kernel
theorem dX12_init_210 : decode cX12_init 210 = .ok (.putfield 76, 3) := by decide +kernel
theorem dX12_init_213 : decode cX12_init 213 = .ok (.aload_n 0, 1) := by decide +kernel
theorem dX12_init_214 : decode cX12_init 214 = .ok (.iconst 3, 1) := by decide +kernel
theorem dX12_init_215 : decode cX12_init 215 = .ok (.sipush 1123, 3) := by decide +kernel
theorem dX12_init_218 : decode cX12_init 218 = .ok (.multianewarray 26 2, 4) := by decide +kernel
theorem dX12_init_222 : decode cX12_init 222 = .ok (.putfield 79, 3) := by decide +kernel
theorem dX12_init_225 : decode cX12_init 225 = .ok (.aload_n 0, 1) := by decide +kernel
theorem dX12_init_226 : decode cX12_init 226 = .ok (.bipush 16, 2) := by decide +kernel
theorem dX12_init_228 : decode cX12_init 228 = .ok (.newarray .int, 2) := by decide +kernel
theorem dX12_init_230 : decode cX12_init 230 = .ok (.putfield 82, 3) := by decide +kernel
theorem dX12_init_233 : decode cX12_init 233 = .ok (.aload_n 0, 1) := by decide +kernel
theorem dX12_init_234 : decode cX12_init 234 = .ok (.bipush 16, 2) := by decide +kernel
theorem dX12_init_236 : decode cX12_init 236 = .ok (.bipush 16, 2) := by decide +kernel
theorem dX12_init_238 : decode cX12_init 238 = .ok (.multianewarray 26 2, 4) := by decide +kernel
theorem dX12_init_242 : decode cX12_init 242 = .ok (.putfield 85, 3) := by decide +kernel
theorem dX12_init_245 : decode cX12_init 245 = .ok (.aload_n 0, 1) := by decide +kernel
theorem dX12_init_246 : decode cX12_init 246 = .ok (.bipush 16, 2) := by decide +kernel
theorem dX12_init_248 : decode cX12_init 248 = .ok (.newarray .int, 2) := by decide +kernel
theorem dX12_init_250 : decode cX12_init 250 = .ok (.putfield 88, 3) := by decide +kernel
theorem dX12_init_253 : decode cX12_init 253 = .ok (.aload_n 0, 1) := by decide +kernel
theorem dX12_init_254 : decode cX12_init 254 = .ok (.bipush 16, 2) := by decide +kernel
theorem dX12_init_256 : decode cX12_init 256 = .ok (.newarray .int, 2) := by decide +kernel
theorem dX12_init_258 : decode cX12_init 258 = .ok (.putfield 91, 3) := by decide +kernel
theorem dX12_init_261 : decode cX12_init 261 = .ok (.aload_n 0, 1) := by decide +kernel
theorem dX12_init_262 : decode cX12_init 262 = .ok (.bipush 16, 2) := by decide +kernel
theorem dX12_init_264 : decode cX12_init 264 = .ok (.newarray .int, 2) := by decide +kernel
theorem dX12_init_266 : decode cX12_init 266 = .ok (.putfield 94, 3) := by decide +kernel
theorem dX12_init_269 : decode cX12_init 269 = .ok (.aload_n 0, 1) := by decide +kernel
theorem dX12_init_270 : decode cX12_init 270 = .ok (.invokevirtual 97, 3) := by decide +kernel
theorem dX12_init_273 : decode cX12_init 273 = .ok (.aload_n 0, 1) := by decide +kernel
theorem dX12_init_274 : decode cX12_init 274 = .ok (.invokevirtual 100, 3) := by decide +kernel
theorem dX12_init_277 : decode cX12_init 277 = .ok (.return_, 1) := by decide +kernel
theorem dX12_tellsNothing_0 : decode cX12_tellsNothing 0 = .ok (.iconst 0, 1) := by decide +kernel
theorem dX12_tellsNothing_1 : decode cX12_tellsNothing 1 = .ok (.istore_n 1, 1) := by decide +kernel
theorem dX12_tellsNothing_2 : decode cX12_tellsNothing 2 = .ok (.iload_n 1, 1) := by decide +kernel
theorem dX12_tellsNothing_3 : decode cX12_tellsNothing 3 = .ok (.iconst 3, 1) := by decide +kernel
theorem dX12_tellsNothing_4 : decode cX12_tellsNothing 4 = .ok (.if_icmp .ge 16, 3) := by decide +kernel
theorem dX12_tellsNothing_7 : decode cX12_tellsNothing 7 = .ok (.aload_n 0, 1) := by decide +kernel
theorem dX12_tellsNothing_8 : decode cX12_tellsNothing 8 = .ok (.getfield 20, 3) := by decide +kernel
theorem dX12_tellsNothing_11 : decode cX12_tellsNothing 11 = .ok (.iload_n 1, 1) := by decide +kernel
theorem dX12_tellsNothing_12 : decode cX12_tellsNothing 12 = .ok (.iconst 0, 1) := by decide +kernel
theorem dX12_tellsNothing_13 : decode cX12_tellsNothing 13 = .ok (.iastore, 1) := by decide +kernel
theorem dX12_tellsNothing_14 : decode cX12_tellsNothing 14 = .ok (.iinc 1 1, 3) := by decide +kernel
theorem dX12_tellsNothing_17 : decode cX12_tellsNothing 17 = .ok (.goto (-15), 3) := by decide +kernel
theorem dX12_tellsNothing_20 : decode cX12_tellsNothing 20 = .ok (.aload_n 0, 1) := by decide +kernel
theorem dX12_tellsNothing_21 : decode cX12_tellsNothing 21 = .ok (.getfield 20, 3) := by decide +kernel
theorem dX12_tellsNothing_24 : decode cX12_tellsNothing 24 = .ok (.iconst 3, 1) := by decide +kernel
theorem dX12_tellsNothing_25 : decode cX12_tellsNothing 25 = .ok (.iconst 2, 1) := by decide +kernel
theorem dX12_tellsNothing_26 : decode cX12_tellsNothing 26 = .ok (.iastore, 1) := by decide +kernel
theorem dX12_tellsNothing_27 : decode cX12_tellsNothing 27 = .ok (.aload_n 0, 1) := by decide +kernel
theorem dX12_tellsNothing_28 : decode cX12_tellsNothing 28 = .ok (.getfield 20, 3) := by decide +kernel
theorem dX12_tellsNothing_31 : decode cX12_tellsNothing 31 = .ok (.iconst 4, 1) := by decide +kernel
theorem dX12_tellsNothing_32 : decode cX12_tellsNothing 32 = .ok (.iconst 2, 1) := by decide +kernel
theorem dX12_tellsNothing_33 : decode cX12_tellsNothing 33 = .ok (.iastore, 1) := by decide +kernel
theorem dX12_tellsNothing_34 : decode cX12_tellsNothing 34 = .ok (.return_, 1) := by decide +kernel
theorem dX12_thrown_0 : decode cX12_thrown 0 = .ok (.aload_n 0, 1) := by decide +kernel
theorem dX12_thrown_1 : decode cX12_thrown 1 = .ok (.getfield 103, 3) := by decide +kernel
theorem dX12_thrown_4 : decode cX12_thrown 4 = .ok (.ireturn, 1) := by decide +kernel
theorem dX12_bad_0 : decode cX12_bad 0 = .ok (.iload_n 1, 1) := by decide +kernel
theorem dX12_bad_1 : decode cX12_bad 1 = .ok (.ifCond .eq 25, 3) := by decide +kernel
theorem dX12_bad_4 : decode cX12_bad 4 = .ok (.aload_n 0, 1) := by decide +kernel
theorem dX12_bad_5 : decode cX12_bad 5 = .ok (.getfield 103, 3) := by decide +kernel
theorem dX12_bad_8 : decode cX12_bad 8 = .ok (.ifCond .ne 18, 3) := by decide +kernel
theorem dX12_bad_11 : decode cX12_bad 11 = .ok (.aload_n 0, 1) := by decide +kernel
theorem dX12_bad_12 : decode cX12_bad 12 = .ok (.iload_n 2, 1) := by decide +kernel
theorem dX12_bad_13 : decode cX12_bad 13 = .ok (.putfield 103, 3) := by decide +kernel
theorem dX12_bad_16 : decode cX12_bad 16 = .ok (.aload_n 0, 1) := by decide +kernel
theorem dX12_bad_17 : decode cX12_bad 17 = .ok (.getfield 17, 3) := by decide +kernel
theorem dX12_bad_20 : decode cX12_bad 20 = .ok (.iload_n 3, 1) := by decide +kernel
theorem dX12_bad_21 : decode cX12_bad 21 = .ok (.dup2, 1) := by decide +kernel
theorem dX12_bad_22 : decode cX12_bad 22 = .ok (.iaload, 1) := by decide +kernel
theorem dX12_bad_23 : decode cX12_bad 23 = .ok (.iconst 1, 1) := by decide +kernel
theorem dX12_bad_24 : decode cX12_bad 24 = .ok (.iadd, 1) := by decide +kernel
theorem dX12_bad_25 : decode cX12_bad 25 = .ok (.iastore, 1) := by decide +kernel
theorem dX12_bad_26 : decode cX12_bad 26 = .ok (.aload_n 0, 1) := by decide +kernel
theorem dX12_bad_27 : decode cX12_bad 27 = .ok (.getfield 103, 3) := by decide +kernel
theorem dX12_bad_30 : decode cX12_bad 30 = .ok (.ifCond .eq 7, 3) := by decide +kernel
theorem dX12_bad_33 : decode cX12_bad 33 = .ok (.iconst 1, 1) := by decide +kernel
theorem dX12_bad_34 : decode cX12_bad 34 = .ok (.goto 4, 3) := by decide +kernel
theorem dX12_bad_37 : decode cX12_bad 37 = .ok (.iconst 0, 1) := by decide +kernel
theorem dX12_bad_38 : decode cX12_bad 38 = .ok (.ireturn, 1) := by decide +kernel
theorem dX12_in_0 : decode cX12_in 0 = .ok (.iload_n 0, 1) := by decide +kernel
theorem dX12_in_1 : decode cX12_in 1 = .ok (.iload_n 1, 1) := by decide +kernel
theorem dX12_in_2 : decode cX12_in 2 = .ok (.if_icmp .lt 12, 3) := by decide +kernel
theorem dX12_in_5 : decode cX12_in 5 = .ok (.iload_n 0, 1) := by decide +kernel
theorem dX12_in_6 : decode cX12_in 6 = .ok (.iload_n 2, 1) := by decide +kernel
theorem dX12_in_7 : decode cX12_in 7 = .ok (.if_icmp .gt 7, 3) := by decide +kernel
theorem dX12_in_10 : decode cX12_in 10 = .ok (.iconst 1, 1) := by decide +kernel
theorem dX12_in_11 : decode cX12_in 11 = .ok (.goto 4, 3) := by decide +kernel
theorem dX12_in_14 : decode cX12_in 14 = .ok (.iconst 0, 1) := by decide +kernel
theorem dX12_in_15 : decode cX12_in 15 = .ok (.ireturn, 1) := by decide +kernel
theorem dX12_less_0 : decode cX12_less 0 = .ok (.iload_n 0, 1) := by decide +kernel
theorem dX12_less_1 : decode cX12_less 1 = .ok (.iload_n 1, 1) := by decide +kernel
theorem dX12_less_2 : decode cX12_less 2 = .ok (.if_icmp .ge 7, 3) := by decide +kernel
theorem dX12_less_5 : decode cX12_less 5 = .ok (.iload_n 0, 1) := by decide +kernel
theorem dX12_less_6 : decode cX12_less 6 = .ok (.goto 4, 3) := by decide +kernel
theorem dX12_less_9 : decode cX12_less 9 = .ok (.iload_n 1, 1) := by decide +kernel
theorem dX12_less_10 : decode cX12_less 10 = .ok (.ireturn, 1) := by decide +kernel
theorem dX12_more_0 : decode cX12_more 0 = .ok (.iload_n 0, 1) := by decide +kernel
theorem dX12_more_1 : decode cX12_more 1 = .ok (.iload_n 1, 1) := by decide +kernel
theorem dX12_more_2 : decode cX12_more 2 = .ok (.if_icmp .le 7, 3) := by decide +kernel
theorem dX12_more_5 : decode cX12_more 5 = .ok (.iload_n 0, 1) := by decide +kernel
theorem dX12_more_6 : decode cX12_more 6 = .ok (.goto 4, 3) := by decide +kernel
theorem dX12_more_9 : decode cX12_more 9 = .ok (.iload_n 1, 1) := by decide +kernel
theorem dX12_more_10 : decode cX12_more 10 = .ok (.ireturn, 1) := by decide +kernel
theorem dX12_has_0 : decode cX12_has 0 = .ok (.iload_n 0, 1) := by decide +kernel
theorem dX12_has_1 : decode cX12_has 1 = .ok (.iload_n 1, 1) := by decide +kernel
theorem dX12_has_2 : decode cX12_has 2 = .ok (.ishr, 1) := by decide +kernel
theorem dX12_has_3 : decode cX12_has 3 = .ok (.iconst 1, 1) := by decide +kernel
theorem dX12_has_4 : decode cX12_has 4 = .ok (.iand, 1) := by decide +kernel
theorem dX12_has_5 : decode cX12_has 5 = .ok (.iconst 1, 1) := by decide +kernel
theorem dX12_has_6 : decode cX12_has 6 = .ok (.if_icmp .ne 7, 3) := by decide +kernel
theorem dX12_has_9 : decode cX12_has 9 = .ok (.iconst 1, 1) := by decide +kernel
theorem dX12_has_10 : decode cX12_has 10 = .ok (.goto 4, 3) := by decide +kernel
theorem dX12_has_13 : decode cX12_has 13 = .ok (.iconst 0, 1) := by decide +kernel
theorem dX12_has_14 : decode cX12_has 14 = .ok (.ireturn, 1) := by decide +kernel
theorem dX12_feed_0 : decode cX12_feed 0 = .ok (.aload_n 0, 1) := by decide +kernel
theorem dX12_feed_1 : decode cX12_feed 1 = .ok (.iconst 0, 1) := by decide +kernel
theorem dX12_feed_2 : decode cX12_feed 2 = .ok (.putfield 103, 3) := by decide +kernel
theorem dX12_feed_5 : decode cX12_feed 5 = .ok (.aload_n 0, 1) := by decide +kernel
theorem dX12_feed_6 : decode cX12_feed 6 = .ok (.getfield 106, 3) := by decide +kernel
theorem dX12_feed_9 : decode cX12_feed 9 = .ok (.bipush 20, 2) := by decide +kernel
theorem dX12_feed_11 : decode cX12_feed 11 = .ok (.iadd, 1) := by decide +kernel
theorem dX12_feed_12 : decode cX12_feed 12 = .ok (.sipush 600, 3) := by decide +kernel
theorem dX12_feed_15 : decode cX12_feed 15 = .ok (.if_icmp .le 5, 3) := by decide +kernel
theorem dX12_feed_18 : decode cX12_feed 18 = .ok (.iconst (-1), 1) := by decide +kernel
theorem dX12_feed_19 : decode cX12_feed 19 = .ok (.ireturn, 1) := by decide +kernel
theorem dX12_feed_20 : decode cX12_feed 20 = .ok (.iconst 0, 1) := by decide +kernel
theorem dX12_feed_21 : decode cX12_feed 21 = .ok (.istore 6, 2) := by decide +kernel
theorem dX12_feed_23 : decode cX12_feed 23 = .ok (.iload 6, 2) := by decide +kernel
theorem dX12_feed_25 : decode cX12_feed 25 = .ok (.bipush 20, 2) := by decide +kernel
theorem dX12_feed_27 : decode cX12_feed 27 = .ok (.if_icmp .ge 93, 3) := by decide +kernel
theorem dX12_feed_30 : decode cX12_feed 30 = .ok (.iload 6, 2) := by decide +kernel
theorem dX12_feed_32 : decode cX12_feed 32 = .ok (.iconst 4, 1) := by decide +kernel
theorem dX12_feed_33 : decode cX12_feed 33 = .ok (.if_icmp .ge 7, 3) := by decide +kernel
theorem dX12_feed_36 : decode cX12_feed 36 = .ok (.iload_n 1, 1) := by decide +kernel
theorem dX12_feed_37 : decode cX12_feed 37 = .ok (.goto 39, 3) := by decide +kernel
theorem dX12_feed_40 : decode cX12_feed 40 = .ok (.iload 6, 2) := by decide +kernel
theorem dX12_feed_42 : decode cX12_feed 42 = .ok (.bipush 8, 2) := by decide +kernel
theorem dX12_feed_44 : decode cX12_feed 44 = .ok (.if_icmp .ge 7, 3) := by decide +kernel
theorem dX12_feed_47 : decode cX12_feed 47 = .ok (.iload_n 2, 1) := by decide +kernel
theorem dX12_feed_48 : decode cX12_feed 48 = .ok (.goto 28, 3) := by decide +kernel
theorem dX12_feed_51 : decode cX12_feed 51 = .ok (.iload 6, 2) := by decide +kernel
theorem dX12_feed_53 : decode cX12_feed 53 = .ok (.bipush 12, 2) := by decide +kernel
theorem dX12_feed_55 : decode cX12_feed 55 = .ok (.if_icmp .ge 7, 3) := by decide +kernel
theorem dX12_feed_58 : decode cX12_feed 58 = .ok (.iload_n 3, 1) := by decide +kernel
theorem dX12_feed_59 : decode cX12_feed 59 = .ok (.goto 17, 3) := by decide +kernel
theorem dX12_feed_62 : decode cX12_feed 62 = .ok (.iload 6, 2) := by decide +kernel
theorem dX12_feed_64 : decode cX12_feed 64 = .ok (.bipush 16, 2) := by decide +kernel
theorem dX12_feed_66 : decode cX12_feed 66 = .ok (.if_icmp .ge 8, 3) := by decide +kernel
theorem dX12_feed_69 : decode cX12_feed 69 = .ok (.iload 4, 2) := by decide +kernel
theorem dX12_feed_71 : decode cX12_feed 71 = .ok (.goto 5, 3) := by decide +kernel
theorem dX12_feed_74 : decode cX12_feed 74 = .ok (.iload 5, 2) := by decide +kernel
theorem dX12_feed_76 : decode cX12_feed 76 = .ok (.istore 7, 2) := by decide +kernel
theorem dX12_feed_78 : decode cX12_feed 78 = .ok (.aload_n 0, 1) := by decide +kernel
theorem dX12_feed_79 : decode cX12_feed 79 = .ok (.getfield 13, 3) := by decide +kernel
theorem dX12_feed_82 : decode cX12_feed 82 = .ok (.aload_n 0, 1) := by decide +kernel
theorem dX12_feed_83 : decode cX12_feed 83 = .ok (.getfield 106, 3) := by decide +kernel
theorem dX12_feed_86 : decode cX12_feed 86 = .ok (.iload 7, 2) := by decide +kernel
theorem dX12_feed_88 : decode cX12_feed 88 = .ok (.bipush 24, 2) := by decide +kernel
theorem dX12_feed_90 : decode cX12_feed 90 = .ok (.bipush 8, 2) := by decide +kernel
theorem dX12_feed_92 : decode cX12_feed 92 = .ok (.iload 6, 2) := by decide +kernel
theorem dX12_feed_94 : decode cX12_feed 94 = .ok (.iconst 4, 1) := by decide +kernel
theorem dX12_feed_95 : decode cX12_feed 95 = .ok (.irem, 1) := by decide +kernel
theorem dX12_feed_96 : decode cX12_feed 96 = .ok (.imul, 1) := by decide +kernel
theorem dX12_feed_97 : decode cX12_feed 97 = .ok (.isub, 1) := by decide +kernel
theorem dX12_feed_98 : decode cX12_feed 98 = .ok (.ishr, 1) := by decide +kernel
theorem dX12_feed_99 : decode cX12_feed 99 = .ok (.sipush 255, 3) := by decide +kernel
theorem dX12_feed_102 : decode cX12_feed 102 = .ok (.iand, 1) := by decide +kernel
theorem dX12_feed_103 : decode cX12_feed 103 = .ok (.iastore, 1) := by decide +kernel
theorem dX12_feed_104 : decode cX12_feed 104 = .ok (.aload_n 0, 1) := by decide +kernel
theorem dX12_feed_105 : decode cX12_feed 105 = .ok (.dup, 1) := by decide +kernel
theorem dX12_feed_106 : decode cX12_feed 106 = .ok (.getfield 106, 3) := by decide +kernel
theorem dX12_feed_109 : decode cX12_feed 109 = .ok (.iconst 1, 1) := by decide +kernel
theorem dX12_feed_110 : decode cX12_feed 110 = .ok (.iadd, 1) := by decide +kernel
theorem dX12_feed_111 : decode cX12_feed 111 = .ok (.putfield 106, 3) := by decide +kernel
theorem dX12_feed_114 : decode cX12_feed 114 = .ok (.iinc 6 1, 3) := by decide +kernel
theorem dX12_feed_117 : decode cX12_feed 117 = .ok (.goto (-94), 3) := by decide +kernel
theorem dX12_feed_120 : decode cX12_feed 120 = .ok (.aload_n 0, 1) := by decide +kernel
theorem dX12_feed_121 : decode cX12_feed 121 = .ok (.getfield 106, 3) := by decide +kernel
theorem dX12_feed_124 : decode cX12_feed 124 = .ok (.ireturn, 1) := by decide +kernel
theorem dX12_byteAt_0 : decode cX12_byteAt 0 = .ok (.iload_n 1, 1) := by decide +kernel
theorem dX12_byteAt_1 : decode cX12_byteAt 1 = .ok (.aload_n 0, 1) := by decide +kernel
theorem dX12_byteAt_2 : decode cX12_byteAt 2 = .ok (.getfield 109, 3) := by decide +kernel
theorem dX12_byteAt_5 : decode cX12_byteAt 5 = .ok (.if_icmp .lt 7, 3) := by decide +kernel
theorem dX12_byteAt_8 : decode cX12_byteAt 8 = .ok (.iconst (-1), 1) := by decide +kernel
theorem dX12_byteAt_9 : decode cX12_byteAt 9 = .ok (.goto 9, 3) := by decide +kernel
theorem dX12_byteAt_12 : decode cX12_byteAt 12 = .ok (.aload_n 0, 1) := by decide +kernel
theorem dX12_byteAt_13 : decode cX12_byteAt 13 = .ok (.getfield 13, 3) := by decide +kernel
theorem dX12_byteAt_16 : decode cX12_byteAt 16 = .ok (.iload_n 1, 1) := by decide +kernel
theorem dX12_byteAt_17 : decode cX12_byteAt 17 = .ok (.iaload, 1) := by decide +kernel
theorem dX12_byteAt_18 : decode cX12_byteAt 18 = .ok (.ireturn, 1) := by decide +kernel
theorem dX12_blanks_0 : decode cX12_blanks 0 = .ok (.aload_n 0, 1) := by decide +kernel
theorem dX12_blanks_1 : decode cX12_blanks 1 = .ok (.aload_n 0, 1) := by decide +kernel
theorem dX12_blanks_2 : decode cX12_blanks 2 = .ok (.getfield 112, 3) := by decide +kernel
theorem dX12_blanks_5 : decode cX12_blanks 5 = .ok (.invokevirtual 115, 3) := by decide +kernel
theorem dX12_blanks_8 : decode cX12_blanks 8 = .ok (.bipush 32, 2) := by decide +kernel
theorem dX12_blanks_10 : decode cX12_blanks 10 = .ok (.if_icmp .ne 16, 3) := by decide +kernel
theorem dX12_blanks_13 : decode cX12_blanks 13 = .ok (.aload_n 0, 1) := by decide +kernel
theorem dX12_blanks_14 : decode cX12_blanks 14 = .ok (.dup, 1) := by decide +kernel
theorem dX12_blanks_15 : decode cX12_blanks 15 = .ok (.getfield 112, 3) := by decide +kernel
theorem dX12_blanks_18 : decode cX12_blanks 18 = .ok (.iconst 1, 1) := by decide +kernel
theorem dX12_blanks_19 : decode cX12_blanks 19 = .ok (.iadd, 1) := by decide +kernel
theorem dX12_blanks_20 : decode cX12_blanks 20 = .ok (.putfield 112, 3) := by decide +kernel
theorem dX12_blanks_23 : decode cX12_blanks 23 = .ok (.goto (-23), 3) := by decide +kernel
theorem dX12_blanks_26 : decode cX12_blanks 26 = .ok (.return_, 1) := by decide +kernel
theorem dX12_wrong_0 : decode cX12_wrong 0 = .ok (.aload_n 0, 1) := by decide +kernel
theorem dX12_wrong_1 : decode cX12_wrong 1 = .ok (.getfield 119, 3) := by decide +kernel
theorem dX12_wrong_4 : decode cX12_wrong 4 = .ok (.ifCond .ne 13, 3) := by decide +kernel
theorem dX12_wrong_7 : decode cX12_wrong 7 = .ok (.aload_n 0, 1) := by decide +kernel
theorem dX12_wrong_8 : decode cX12_wrong 8 = .ok (.iload_n 1, 1) := by decide +kernel
theorem dX12_wrong_9 : decode cX12_wrong 9 = .ok (.putfield 119, 3) := by decide +kernel
theorem dX12_wrong_12 : decode cX12_wrong 12 = .ok (.aload_n 0, 1) := by decide +kernel
theorem dX12_wrong_13 : decode cX12_wrong 13 = .ok (.iload_n 2, 1) := by decide +kernel
theorem dX12_wrong_14 : decode cX12_wrong 14 = .ok (.putfield 122, 3) := by decide +kernel
theorem dX12_wrong_17 : decode cX12_wrong 17 = .ok (.return_, 1) := by decide +kernel
theorem dX12_isDigit_0 : decode cX12_isDigit 0 = .ok (.iload_n 0, 1) := by decide +kernel
theorem dX12_isDigit_1 : decode cX12_isDigit 1 = .ok (.bipush 48, 2) := by decide +kernel
theorem dX12_isDigit_3 : decode cX12_isDigit 3 = .ok (.if_icmp .lt 13, 3) := by decide +kernel
theorem dX12_isDigit_6 : decode cX12_isDigit 6 = .ok (.iload_n 0, 1) := by decide +kernel
theorem dX12_isDigit_7 : decode cX12_isDigit 7 = .ok (.bipush 57, 2) := by decide +kernel
theorem dX12_isDigit_9 : decode cX12_isDigit 9 = .ok (.if_icmp .gt 7, 3) := by decide +kernel
theorem dX12_isDigit_12 : decode cX12_isDigit 12 = .ok (.iconst 1, 1) := by decide +kernel
theorem dX12_isDigit_13 : decode cX12_isDigit 13 = .ok (.goto 4, 3) := by decide +kernel
theorem dX12_isDigit_16 : decode cX12_isDigit 16 = .ok (.iconst 0, 1) := by decide +kernel
theorem dX12_isDigit_17 : decode cX12_isDigit 17 = .ok (.ireturn, 1) := by decide +kernel
theorem dX12_isSmall_0 : decode cX12_isSmall 0 = .ok (.iload_n 0, 1) := by decide +kernel
theorem dX12_isSmall_1 : decode cX12_isSmall 1 = .ok (.bipush 97, 2) := by decide +kernel
theorem dX12_isSmall_3 : decode cX12_isSmall 3 = .ok (.if_icmp .lt 13, 3) := by decide +kernel
theorem dX12_isSmall_6 : decode cX12_isSmall 6 = .ok (.iload_n 0, 1) := by decide +kernel
theorem dX12_isSmall_7 : decode cX12_isSmall 7 = .ok (.bipush 122, 2) := by decide +kernel
theorem dX12_isSmall_9 : decode cX12_isSmall 9 = .ok (.if_icmp .gt 7, 3) := by decide +kernel
theorem dX12_isSmall_12 : decode cX12_isSmall 12 = .ok (.iconst 1, 1) := by decide +kernel
theorem dX12_isSmall_13 : decode cX12_isSmall 13 = .ok (.goto 4, 3) := by decide +kernel
theorem dX12_isSmall_16 : decode cX12_isSmall 16 = .ok (.iconst 0, 1) := by decide +kernel
theorem dX12_isSmall_17 : decode cX12_isSmall 17 = .ok (.ireturn, 1) := by decide +kernel
theorem dX12_number_0 : decode cX12_number 0 = .ok (.aload_n 0, 1) := by decide +kernel
theorem dX12_number_1 : decode cX12_number 1 = .ok (.getfield 119, 3) := by decide +kernel
theorem dX12_number_4 : decode cX12_number 4 = .ok (.ifCond .eq 5, 3) := by decide +kernel
theorem dX12_number_7 : decode cX12_number 7 = .ok (.iconst 0, 1) := by decide +kernel
theorem dX12_number_8 : decode cX12_number 8 = .ok (.ireturn, 1) := by decide +kernel
theorem dX12_number_9 : decode cX12_number 9 = .ok (.aload_n 0, 1) := by decide +kernel
theorem dX12_number_10 : decode cX12_number 10 = .ok (.invokevirtual 125, 3) := by decide +kernel
theorem dX12_number_13 : decode cX12_number 13 = .ok (.aload_n 0, 1) := by decide +kernel
theorem dX12_number_14 : decode cX12_number 14 = .ok (.getfield 112, 3) := by decide +kernel
theorem dX12_number_17 : decode cX12_number 17 = .ok (.istore_n 3, 1) := by decide +kernel
theorem dX12_number_18 : decode cX12_number 18 = .ok (.iconst 0, 1) := by decide +kernel
theorem dX12_number_19 : decode cX12_number 19 = .ok (.istore 4, 2) := by decide +kernel
theorem dX12_number_21 : decode cX12_number 21 = .ok (.aload_n 0, 1) := by decide +kernel
theorem dX12_number_22 : decode cX12_number 22 = .ok (.aload_n 0, 1) := by decide +kernel
theorem dX12_number_23 : decode cX12_number 23 = .ok (.getfield 112, 3) := by decide +kernel
theorem dX12_number_26 : decode cX12_number 26 = .ok (.invokevirtual 115, 3) := by decide +kernel
theorem dX12_number_29 : decode cX12_number 29 = .ok (.invokestatic 128, 3) := by decide +kernel
theorem dX12_number_32 : decode cX12_number 32 = .ok (.ifCond .ne 12, 3) := by decide +kernel
theorem dX12_number_35 : decode cX12_number 35 = .ok (.aload_n 0, 1) := by decide +kernel
theorem dX12_number_36 : decode cX12_number 36 = .ok (.iconst 1, 1) := by decide +kernel
theorem dX12_number_37 : decode cX12_number 37 = .ok (.aload_n 0, 1) := by decide +kernel
theorem dX12_number_38 : decode cX12_number 38 = .ok (.getfield 112, 3) := by decide +kernel
theorem dX12_number_41 : decode cX12_number 41 = .ok (.invokevirtual 132, 3) := by decide +kernel
theorem dX12_number_44 : decode cX12_number 44 = .ok (.aload_n 0, 1) := by decide +kernel
theorem dX12_number_45 : decode cX12_number 45 = .ok (.aload_n 0, 1) := by decide +kernel
theorem dX12_number_46 : decode cX12_number 46 = .ok (.getfield 112, 3) := by decide +kernel
theorem dX12_number_49 : decode cX12_number 49 = .ok (.invokevirtual 115, 3) := by decide +kernel
theorem dX12_number_52 : decode cX12_number 52 = .ok (.invokestatic 128, 3) := by decide +kernel
theorem dX12_number_55 : decode cX12_number 55 = .ok (.ifCond .eq 51, 3) := by decide +kernel
theorem dX12_number_58 : decode cX12_number 58 = .ok (.bipush 10, 2) := by decide +kernel
theorem dX12_number_60 : decode cX12_number 60 = .ok (.iload 4, 2) := by decide +kernel
theorem dX12_number_62 : decode cX12_number 62 = .ok (.imul, 1) := by decide +kernel
theorem dX12_number_63 : decode cX12_number 63 = .ok (.aload_n 0, 1) := by decide +kernel
theorem dX12_number_64 : decode cX12_number 64 = .ok (.aload_n 0, 1) := by decide +kernel
theorem dX12_number_65 : decode cX12_number 65 = .ok (.getfield 112, 3) := by decide +kernel
theorem dX12_number_68 : decode cX12_number 68 = .ok (.invokevirtual 115, 3) := by decide +kernel
theorem dX12_number_71 : decode cX12_number 71 = .ok (.iadd, 1) := by decide +kernel
theorem dX12_number_72 : decode cX12_number 72 = .ok (.bipush 48, 2) := by decide +kernel
theorem dX12_number_74 : decode cX12_number 74 = .ok (.isub, 1) := by decide +kernel
theorem dX12_number_75 : decode cX12_number 75 = .ok (.istore 4, 2) := by decide +kernel
theorem dX12_number_77 : decode cX12_number 77 = .ok (.iload 4, 2) := by decide +kernel
theorem dX12_number_79 : decode cX12_number 79 = .ok (.ldc 136, 2) := by decide +kernel
theorem dX12_number_81 : decode cX12_number 81 = .ok (.if_icmp .le 8, 3) := by decide +kernel
theorem dX12_number_84 : decode cX12_number 84 = .ok (.ldc 136, 2) := by decide +kernel
theorem dX12_number_86 : decode cX12_number 86 = .ok (.goto 5, 3) := by decide +kernel
theorem dX12_number_89 : decode cX12_number 89 = .ok (.iload 4, 2) := by decide +kernel
theorem dX12_number_91 : decode cX12_number 91 = .ok (.istore 4, 2) := by decide +kernel
theorem dX12_number_93 : decode cX12_number 93 = .ok (.aload_n 0, 1) := by decide +kernel
theorem dX12_number_94 : decode cX12_number 94 = .ok (.dup, 1) := by decide +kernel
theorem dX12_number_95 : decode cX12_number 95 = .ok (.getfield 112, 3) := by decide +kernel
theorem dX12_number_98 : decode cX12_number 98 = .ok (.iconst 1, 1) := by decide +kernel
theorem dX12_number_99 : decode cX12_number 99 = .ok (.iadd, 1) := by decide +kernel
theorem dX12_number_100 : decode cX12_number 100 = .ok (.putfield 112, 3) := by decide +kernel
theorem dX12_number_103 : decode cX12_number 103 = .ok (.goto (-59), 3) := by decide +kernel
theorem dX12_number_106 : decode cX12_number 106 = .ok (.iload 4, 2) := by decide +kernel
theorem dX12_number_108 : decode cX12_number 108 = .ok (.iload_n 1, 1) := by decide +kernel
theorem dX12_number_109 : decode cX12_number 109 = .ok (.iload_n 2, 1) := by decide +kernel
theorem dX12_number_110 : decode cX12_number 110 = .ok (.invokestatic 137, 3) := by decide +kernel
theorem dX12_number_113 : decode cX12_number 113 = .ok (.ifCond .ne 9, 3) := by decide +kernel
theorem dX12_number_116 : decode cX12_number 116 = .ok (.aload_n 0, 1) := by decide +kernel
theorem dX12_number_117 : decode cX12_number 117 = .ok (.iconst 2, 1) := by decide +kernel
theorem dX12_number_118 : decode cX12_number 118 = .ok (.iload_n 3, 1) := by decide +kernel
theorem dX12_number_119 : decode cX12_number 119 = .ok (.invokevirtual 132, 3) := by decide +kernel
theorem dX12_number_122 : decode cX12_number 122 = .ok (.aload_n 0, 1) := by decide +kernel
theorem dX12_number_123 : decode cX12_number 123 = .ok (.getfield 119, 3) := by decide +kernel
theorem dX12_number_126 : decode cX12_number 126 = .ok (.ifCond .ne 8, 3) := by decide +kernel
theorem dX12_number_129 : decode cX12_number 129 = .ok (.iload 4, 2) := by decide +kernel
theorem dX12_number_131 : decode cX12_number 131 = .ok (.goto 4, 3) := by decide +kernel
theorem dX12_number_134 : decode cX12_number 134 = .ok (.iconst 0, 1) := by decide +kernel
theorem dX12_number_135 : decode cX12_number 135 = .ok (.ireturn, 1) := by decide +kernel
theorem dX12_wordHere_0 : decode cX12_wordHere 0 = .ok (.aload_n 0, 1) := by decide +kernel
theorem dX12_wordHere_1 : decode cX12_wordHere 1 = .ok (.invokevirtual 125, 3) := by decide +kernel
theorem dX12_wordHere_4 : decode cX12_wordHere 4 = .ok (.iconst 0, 1) := by decide +kernel
theorem dX12_wordHere_5 : decode cX12_wordHere 5 = .ok (.istore_n 1, 1) := by decide +kernel
theorem dX12_wordHere_6 : decode cX12_wordHere 6 = .ok (.iconst 0, 1) := by decide +kernel
theorem dX12_wordHere_7 : decode cX12_wordHere 7 = .ok (.istore_n 2, 1) := by decide +kernel
theorem dX12_wordHere_8 : decode cX12_wordHere 8 = .ok (.aload_n 0, 1) := by decide +kernel
theorem dX12_wordHere_9 : decode cX12_wordHere 9 = .ok (.aload_n 0, 1) := by decide +kernel
theorem dX12_wordHere_10 : decode cX12_wordHere 10 = .ok (.getfield 112, 3) := by decide +kernel
theorem dX12_wordHere_13 : decode cX12_wordHere 13 = .ok (.iload_n 2, 1) := by decide +kernel
theorem dX12_wordHere_14 : decode cX12_wordHere 14 = .ok (.iadd, 1) := by decide +kernel
theorem dX12_wordHere_15 : decode cX12_wordHere 15 = .ok (.invokevirtual 115, 3) := by decide +kernel
theorem dX12_wordHere_18 : decode cX12_wordHere 18 = .ok (.invokestatic 141, 3) := by decide +kernel
theorem dX12_wordHere_21 : decode cX12_wordHere 21 = .ok (.ifCond .eq 40, 3) := by decide +kernel
theorem dX12_wordHere_24 : decode cX12_wordHere 24 = .ok (.iload_n 2, 1) := by decide +kernel
theorem dX12_wordHere_25 : decode cX12_wordHere 25 = .ok (.bipush 6, 2) := by decide +kernel
theorem dX12_wordHere_27 : decode cX12_wordHere 27 = .ok (.if_icmp .ge 26, 3) := by decide +kernel
theorem dX12_wordHere_30 : decode cX12_wordHere 30 = .ok (.bipush 27, 2) := by decide +kernel
theorem dX12_wordHere_32 : decode cX12_wordHere 32 = .ok (.iload_n 1, 1) := by decide +kernel
theorem dX12_wordHere_33 : decode cX12_wordHere 33 = .ok (.imul, 1) := by decide +kernel
theorem dX12_wordHere_34 : decode cX12_wordHere 34 = .ok (.aload_n 0, 1) := by decide +kernel
theorem dX12_wordHere_35 : decode cX12_wordHere 35 = .ok (.aload_n 0, 1) := by decide +kernel
theorem dX12_wordHere_36 : decode cX12_wordHere 36 = .ok (.getfield 112, 3) := by decide +kernel
theorem dX12_wordHere_39 : decode cX12_wordHere 39 = .ok (.iload_n 2, 1) := by decide +kernel
theorem dX12_wordHere_40 : decode cX12_wordHere 40 = .ok (.iadd, 1) := by decide +kernel
theorem dX12_wordHere_41 : decode cX12_wordHere 41 = .ok (.invokevirtual 115, 3) := by decide +kernel
theorem dX12_wordHere_44 : decode cX12_wordHere 44 = .ok (.iadd, 1) := by decide +kernel
theorem dX12_wordHere_45 : decode cX12_wordHere 45 = .ok (.bipush 97, 2) := by decide +kernel
theorem dX12_wordHere_47 : decode cX12_wordHere 47 = .ok (.isub, 1) := by decide +kernel
theorem dX12_wordHere_48 : decode cX12_wordHere 48 = .ok (.iconst 1, 1) := by decide +kernel
theorem dX12_wordHere_49 : decode cX12_wordHere 49 = .ok (.iadd, 1) := by decide +kernel
theorem dX12_wordHere_50 : decode cX12_wordHere 50 = .ok (.goto 4, 3) := by decide +kernel
theorem dX12_wordHere_53 : decode cX12_wordHere 53 = .ok (.iload_n 1, 1) := by decide +kernel
theorem dX12_wordHere_54 : decode cX12_wordHere 54 = .ok (.istore_n 1, 1) := by decide +kernel
theorem dX12_wordHere_55 : decode cX12_wordHere 55 = .ok (.iinc 2 1, 3) := by decide +kernel
theorem dX12_wordHere_58 : decode cX12_wordHere 58 = .ok (.goto (-50), 3) := by decide +kernel
theorem dX12_wordHere_61 : decode cX12_wordHere 61 = .ok (.iload_n 2, 1) := by decide +kernel
theorem dX12_wordHere_62 : decode cX12_wordHere 62 = .ok (.bipush 6, 2) := by decide +kernel
theorem dX12_wordHere_64 : decode cX12_wordHere 64 = .ok (.if_icmp .le 7, 3) := by decide +kernel
theorem dX12_wordHere_67 : decode cX12_wordHere 67 = .ok (.iconst (-1), 1) := by decide +kernel
theorem dX12_wordHere_68 : decode cX12_wordHere 68 = .ok (.goto 4, 3) := by decide +kernel
theorem dX12_wordHere_71 : decode cX12_wordHere 71 = .ok (.iload_n 1, 1) := by decide +kernel
theorem dX12_wordHere_72 : decode cX12_wordHere 72 = .ok (.ireturn, 1) := by decide +kernel
theorem dX12_six_0 : decode cX12_six 0 = .ok (.bipush 27, 2) := by decide +kernel
theorem dX12_six_2 : decode cX12_six 2 = .ok (.bipush 27, 2) := by decide +kernel
theorem dX12_six_4 : decode cX12_six 4 = .ok (.iload_n 0, 1) := by decide +kernel
theorem dX12_six_5 : decode cX12_six 5 = .ok (.imul, 1) := by decide +kernel
theorem dX12_six_6 : decode cX12_six 6 = .ok (.iload_n 1, 1) := by decide +kernel
theorem dX12_six_7 : decode cX12_six 7 = .ok (.iadd, 1) := by decide +kernel
theorem dX12_six_8 : decode cX12_six 8 = .ok (.imul, 1) := by decide +kernel
theorem dX12_six_9 : decode cX12_six 9 = .ok (.iload_n 2, 1) := by decide +kernel
theorem dX12_six_10 : decode cX12_six 10 = .ok (.iadd, 1) := by decide +kernel
theorem dX12_six_11 : decode cX12_six 11 = .ok (.istore 6, 2) := by decide +kernel
theorem dX12_six_13 : decode cX12_six 13 = .ok (.iload_n 3, 1) := by decide +kernel
theorem dX12_six_14 : decode cX12_six 14 = .ok (.ifCond .ne 8, 3) := by decide +kernel
theorem dX12_six_17 : decode cX12_six 17 = .ok (.iload 6, 2) := by decide +kernel
theorem dX12_six_19 : decode cX12_six 19 = .ok (.goto 10, 3) := by decide +kernel
theorem dX12_six_22 : decode cX12_six 22 = .ok (.bipush 27, 2) := by decide +kernel
theorem dX12_six_24 : decode cX12_six 24 = .ok (.iload 6, 2) := by decide +kernel
theorem dX12_six_26 : decode cX12_six 26 = .ok (.imul, 1) := by decide +kernel
theorem dX12_six_27 : decode cX12_six 27 = .ok (.iload_n 3, 1) := by decide +kernel
theorem dX12_six_28 : decode cX12_six 28 = .ok (.iadd, 1) := by decide +kernel
theorem dX12_six_29 : decode cX12_six 29 = .ok (.istore 6, 2) := by decide +kernel
theorem dX12_six_31 : decode cX12_six 31 = .ok (.iload 4, 2) := by decide +kernel
theorem dX12_six_33 : decode cX12_six 33 = .ok (.ifCond .ne 8, 3) := by decide +kernel
theorem dX12_six_36 : decode cX12_six 36 = .ok (.iload 6, 2) := by decide +kernel
theorem dX12_six_38 : decode cX12_six 38 = .ok (.goto 11, 3) := by decide +kernel
theorem dX12_six_41 : decode cX12_six 41 = .ok (.bipush 27, 2) := by decide +kernel
theorem dX12_six_43 : decode cX12_six 43 = .ok (.iload 6, 2) := by decide +kernel
theorem dX12_six_45 : decode cX12_six 45 = .ok (.imul, 1) := by decide +kernel
theorem dX12_six_46 : decode cX12_six 46 = .ok (.iload 4, 2) := by decide +kernel
theorem dX12_six_48 : decode cX12_six 48 = .ok (.iadd, 1) := by decide +kernel
theorem dX12_six_49 : decode cX12_six 49 = .ok (.istore 6, 2) := by decide +kernel
theorem dX12_six_51 : decode cX12_six 51 = .ok (.iload 5, 2) := by decide +kernel
theorem dX12_six_53 : decode cX12_six 53 = .ok (.ifCond .ne 8, 3) := by decide +kernel
theorem dX12_six_56 : decode cX12_six 56 = .ok (.iload 6, 2) := by decide +kernel
theorem dX12_six_58 : decode cX12_six 58 = .ok (.goto 11, 3) := by decide +kernel
theorem dX12_six_61 : decode cX12_six 61 = .ok (.bipush 27, 2) := by decide +kernel
theorem dX12_six_63 : decode cX12_six 63 = .ok (.iload 6, 2) := by decide +kernel
theorem dX12_six_65 : decode cX12_six 65 = .ok (.imul, 1) := by decide +kernel
theorem dX12_six_66 : decode cX12_six 66 = .ok (.iload 5, 2) := by decide +kernel
theorem dX12_six_68 : decode cX12_six 68 = .ok (.iadd, 1) := by decide +kernel
theorem dX12_six_69 : decode cX12_six 69 = .ok (.ireturn, 1) := by decide +kernel
theorem dX12_isWord_0 : decode cX12_isWord 0 = .ok (.aload_n 0, 1) := by decide +kernel
theorem dX12_isWord_1 : decode cX12_isWord 1 = .ok (.getfield 119, 3) := by decide +kernel
theorem dX12_isWord_4 : decode cX12_isWord 4 = .ok (.ifCond .ne 26, 3) := by decide +kernel
theorem dX12_isWord_7 : decode cX12_isWord 7 = .ok (.aload_n 0, 1) := by decide +kernel
theorem dX12_isWord_8 : decode cX12_isWord 8 = .ok (.invokevirtual 144, 3) := by decide +kernel
theorem dX12_isWord_11 : decode cX12_isWord 11 = .ok (.iload_n 1, 1) := by decide +kernel
theorem dX12_isWord_12 : decode cX12_isWord 12 = .ok (.iload_n 2, 1) := by decide +kernel
theorem dX12_isWord_13 : decode cX12_isWord 13 = .ok (.iload_n 3, 1) := by decide +kernel
theorem dX12_isWord_14 : decode cX12_isWord 14 = .ok (.iload 4, 2) := by decide +kernel
theorem dX12_isWord_16 : decode cX12_isWord 16 = .ok (.iload 5, 2) := by decide +kernel
theorem dX12_isWord_18 : decode cX12_isWord 18 = .ok (.iload 6, 2) := by decide +kernel
theorem dX12_isWord_20 : decode cX12_isWord 20 = .ok (.invokestatic 148, 3) := by decide +kernel
theorem dX12_isWord_23 : decode cX12_isWord 23 = .ok (.if_icmp .ne 7, 3) := by decide +kernel
theorem dX12_isWord_26 : decode cX12_isWord 26 = .ok (.iconst 1, 1) := by decide +kernel
theorem dX12_isWord_27 : decode cX12_isWord 27 = .ok (.goto 4, 3) := by decide +kernel
theorem dX12_isWord_30 : decode cX12_isWord 30 = .ok (.iconst 0, 1) := by decide +kernel
theorem dX12_isWord_31 : decode cX12_isWord 31 = .ok (.ireturn, 1) := by decide +kernel
theorem dX12_skipWord_0 : decode cX12_skipWord 0 = .ok (.aload_n 0, 1) := by decide +kernel
theorem dX12_skipWord_1 : decode cX12_skipWord 1 = .ok (.aload_n 0, 1) := by decide +kernel
theorem dX12_skipWord_2 : decode cX12_skipWord 2 = .ok (.getfield 112, 3) := by decide +kernel
theorem dX12_skipWord_5 : decode cX12_skipWord 5 = .ok (.invokevirtual 115, 3) := by decide +kernel
theorem dX12_skipWord_8 : decode cX12_skipWord 8 = .ok (.invokestatic 141, 3) := by decide +kernel
theorem dX12_skipWord_11 : decode cX12_skipWord 11 = .ok (.ifCond .eq 16, 3) := by decide +kernel
theorem dX12_skipWord_14 : decode cX12_skipWord 14 = .ok (.aload_n 0, 1) := by decide +kernel
theorem dX12_skipWord_15 : decode cX12_skipWord 15 = .ok (.dup, 1) := by decide +kernel
theorem dX12_skipWord_16 : decode cX12_skipWord 16 = .ok (.getfield 112, 3) := by decide +kernel
theorem dX12_skipWord_19 : decode cX12_skipWord 19 = .ok (.iconst 1, 1) := by decide +kernel
theorem dX12_skipWord_20 : decode cX12_skipWord 20 = .ok (.iadd, 1) := by decide +kernel
theorem dX12_skipWord_21 : decode cX12_skipWord 21 = .ok (.putfield 112, 3) := by decide +kernel
theorem dX12_skipWord_24 : decode cX12_skipWord 24 = .ok (.goto (-24), 3) := by decide +kernel
theorem dX12_skipWord_27 : decode cX12_skipWord 27 = .ok (.return_, 1) := by decide +kernel
theorem dX12_takes_0 : decode cX12_takes 0 = .ok (.aload_n 0, 1) := by decide +kernel
theorem dX12_takes_1 : decode cX12_takes 1 = .ok (.iload_n 1, 1) := by decide +kernel
theorem dX12_takes_2 : decode cX12_takes 2 = .ok (.iload_n 2, 1) := by decide +kernel
theorem dX12_takes_3 : decode cX12_takes 3 = .ok (.iload_n 3, 1) := by decide +kernel
theorem dX12_takes_4 : decode cX12_takes 4 = .ok (.iload 4, 2) := by decide +kernel
theorem dX12_takes_6 : decode cX12_takes 6 = .ok (.iload 5, 2) := by decide +kernel
theorem dX12_takes_8 : decode cX12_takes 8 = .ok (.iload 6, 2) := by decide +kernel
theorem dX12_takes_10 : decode cX12_takes 10 = .ok (.invokevirtual 152, 3) := by decide +kernel
theorem dX12_takes_13 : decode cX12_takes 13 = .ok (.istore 7, 2) := by decide +kernel
theorem dX12_takes_15 : decode cX12_takes 15 = .ok (.iload 7, 2) := by decide +kernel
theorem dX12_takes_17 : decode cX12_takes 17 = .ok (.ifCond .eq 7, 3) := by decide +kernel
theorem dX12_takes_20 : decode cX12_takes 20 = .ok (.aload_n 0, 1) := by decide +kernel
theorem dX12_takes_21 : decode cX12_takes 21 = .ok (.invokevirtual 156, 3) := by decide +kernel
theorem dX12_takes_24 : decode cX12_takes 24 = .ok (.iload 7, 2) := by decide +kernel
theorem dX12_takes_26 : decode cX12_takes 26 = .ok (.ireturn, 1) := by decide +kernel
theorem dX12_sign_0 : decode cX12_sign 0 = .ok (.aload_n 0, 1) := by decide +kernel
theorem dX12_sign_1 : decode cX12_sign 1 = .ok (.getfield 119, 3) := by decide +kernel
theorem dX12_sign_4 : decode cX12_sign 4 = .ok (.ifCond .eq 4, 3) := by decide +kernel
theorem dX12_sign_7 : decode cX12_sign 7 = .ok (.return_, 1) := by decide +kernel
theorem dX12_sign_8 : decode cX12_sign 8 = .ok (.aload_n 0, 1) := by decide +kernel
theorem dX12_sign_9 : decode cX12_sign 9 = .ok (.invokevirtual 125, 3) := by decide +kernel
theorem dX12_sign_12 : decode cX12_sign 12 = .ok (.aload_n 0, 1) := by decide +kernel
theorem dX12_sign_13 : decode cX12_sign 13 = .ok (.aload_n 0, 1) := by decide +kernel
theorem dX12_sign_14 : decode cX12_sign 14 = .ok (.getfield 112, 3) := by decide +kernel
theorem dX12_sign_17 : decode cX12_sign 17 = .ok (.invokevirtual 115, 3) := by decide +kernel
theorem dX12_sign_20 : decode cX12_sign 20 = .ok (.iload_n 1, 1) := by decide +kernel
theorem dX12_sign_21 : decode cX12_sign 21 = .ok (.if_icmp .ne 16, 3) := by decide +kernel
theorem dX12_sign_24 : decode cX12_sign 24 = .ok (.aload_n 0, 1) := by decide +kernel
theorem dX12_sign_25 : decode cX12_sign 25 = .ok (.dup, 1) := by decide +kernel
theorem dX12_sign_26 : decode cX12_sign 26 = .ok (.getfield 112, 3) := by decide +kernel
theorem dX12_sign_29 : decode cX12_sign 29 = .ok (.iconst 1, 1) := by decide +kernel
theorem dX12_sign_30 : decode cX12_sign 30 = .ok (.iadd, 1) := by decide +kernel
theorem dX12_sign_31 : decode cX12_sign 31 = .ok (.putfield 112, 3) := by decide +kernel
theorem dX12_sign_34 : decode cX12_sign 34 = .ok (.goto 12, 3) := by decide +kernel
theorem dX12_sign_37 : decode cX12_sign 37 = .ok (.aload_n 0, 1) := by decide +kernel
theorem dX12_sign_38 : decode cX12_sign 38 = .ok (.iconst 1, 1) := by decide +kernel
theorem dX12_sign_39 : decode cX12_sign 39 = .ok (.aload_n 0, 1) := by decide +kernel
theorem dX12_sign_40 : decode cX12_sign 40 = .ok (.getfield 112, 3) := by decide +kernel
theorem dX12_sign_43 : decode cX12_sign 43 = .ok (.invokevirtual 132, 3) := by decide +kernel
theorem dX12_sign_46 : decode cX12_sign 46 = .ok (.return_, 1) := by decide +kernel
theorem dX12_takesSign_0 : decode cX12_takesSign 0 = .ok (.aload_n 0, 1) := by decide +kernel
theorem dX12_takesSign_1 : decode cX12_takesSign 1 = .ok (.getfield 119, 3) := by decide +kernel
theorem dX12_takesSign_4 : decode cX12_takesSign 4 = .ok (.ifCond .eq 5, 3) := by decide +kernel
theorem dX12_takesSign_7 : decode cX12_takesSign 7 = .ok (.iconst 0, 1) := by decide +kernel
theorem dX12_takesSign_8 : decode cX12_takesSign 8 = .ok (.ireturn, 1) := by decide +kernel
theorem dX12_takesSign_9 : decode cX12_takesSign 9 = .ok (.aload_n 0, 1) := by decide +kernel
theorem dX12_takesSign_10 : decode cX12_takesSign 10 = .ok (.invokevirtual 125, 3) := by decide +kernel
theorem dX12_takesSign_13 : decode cX12_takesSign 13 = .ok (.aload_n 0, 1) := by decide +kernel
theorem dX12_takesSign_14 : decode cX12_takesSign 14 = .ok (.aload_n 0, 1) := by decide +kernel
theorem dX12_takesSign_15 : decode cX12_takesSign 15 = .ok (.getfield 112, 3) := by decide +kernel
theorem dX12_takesSign_18 : decode cX12_takesSign 18 = .ok (.invokevirtual 115, 3) := by decide +kernel
theorem dX12_takesSign_21 : decode cX12_takesSign 21 = .ok (.iload_n 1, 1) := by decide +kernel
theorem dX12_takesSign_22 : decode cX12_takesSign 22 = .ok (.if_icmp .ne 7, 3) := by decide +kernel
theorem dX12_takesSign_25 : decode cX12_takesSign 25 = .ok (.iconst 1, 1) := by decide +kernel
theorem dX12_takesSign_26 : decode cX12_takesSign 26 = .ok (.goto 4, 3) := by decide +kernel
theorem dX12_takesSign_29 : decode cX12_takesSign 29 = .ok (.iconst 0, 1) := by decide +kernel
theorem dX12_takesSign_30 : decode cX12_takesSign 30 = .ok (.istore_n 2, 1) := by decide +kernel
theorem dX12_takesSign_31 : decode cX12_takesSign 31 = .ok (.iload_n 2, 1) := by decide +kernel
theorem dX12_takesSign_32 : decode cX12_takesSign 32 = .ok (.ifCond .eq 13, 3) := by decide +kernel
theorem dX12_takesSign_35 : decode cX12_takesSign 35 = .ok (.aload_n 0, 1) := by decide +kernel
theorem dX12_takesSign_36 : decode cX12_takesSign 36 = .ok (.dup, 1) := by decide +kernel
theorem dX12_takesSign_37 : decode cX12_takesSign 37 = .ok (.getfield 112, 3) := by decide +kernel
theorem dX12_takesSign_40 : decode cX12_takesSign 40 = .ok (.iconst 1, 1) := by decide +kernel
theorem dX12_takesSign_41 : decode cX12_takesSign 41 = .ok (.iadd, 1) := by decide +kernel
theorem dX12_takesSign_42 : decode cX12_takesSign 42 = .ok (.putfield 112, 3) := by decide +kernel
theorem dX12_takesSign_45 : decode cX12_takesSign 45 = .ok (.iload_n 2, 1) := by decide +kernel
theorem dX12_takesSign_46 : decode cX12_takesSign 46 = .ok (.ireturn, 1) := by decide +kernel
theorem dX12_starts_0 : decode cX12_starts 0 = .ok (.aload_n 0, 1) := by decide +kernel
theorem dX12_starts_1 : decode cX12_starts 1 = .ok (.iconst 0, 1) := by decide +kernel
theorem dX12_starts_2 : decode cX12_starts 2 = .ok (.putfield 106, 3) := by decide +kernel
theorem dX12_starts_5 : decode cX12_starts 5 = .ok (.aload_n 0, 1) := by decide +kernel
theorem dX12_starts_6 : decode cX12_starts 6 = .ok (.iload_n 1, 1) := by decide +kernel
theorem dX12_starts_7 : decode cX12_starts 7 = .ok (.putfield 109, 3) := by decide +kernel
theorem dX12_starts_10 : decode cX12_starts 10 = .ok (.aload_n 0, 1) := by decide +kernel
theorem dX12_starts_11 : decode cX12_starts 11 = .ok (.iconst 0, 1) := by decide +kernel
theorem dX12_starts_12 : decode cX12_starts 12 = .ok (.putfield 112, 3) := by decide +kernel
theorem dX12_starts_15 : decode cX12_starts 15 = .ok (.aload_n 0, 1) := by decide +kernel
theorem dX12_starts_16 : decode cX12_starts 16 = .ok (.iconst 0, 1) := by decide +kernel
theorem dX12_starts_17 : decode cX12_starts 17 = .ok (.putfield 119, 3) := by decide +kernel
theorem dX12_starts_20 : decode cX12_starts 20 = .ok (.aload_n 0, 1) := by decide +kernel
theorem dX12_starts_21 : decode cX12_starts 21 = .ok (.iconst (-1), 1) := by decide +kernel
theorem dX12_starts_22 : decode cX12_starts 22 = .ok (.putfield 122, 3) := by decide +kernel
theorem dX12_starts_25 : decode cX12_starts 25 = .ok (.aload_n 0, 1) := by decide +kernel
theorem dX12_starts_26 : decode cX12_starts 26 = .ok (.iconst 0, 1) := by decide +kernel
theorem dX12_starts_27 : decode cX12_starts 27 = .ok (.putfield 159, 3) := by decide +kernel
theorem dX12_starts_30 : decode cX12_starts 30 = .ok (.aload_n 0, 1) := by decide +kernel
theorem dX12_starts_31 : decode cX12_starts 31 = .ok (.iconst 0, 1) := by decide +kernel
theorem dX12_starts_32 : decode cX12_starts 32 = .ok (.putfield 162, 3) := by decide +kernel
theorem dX12_starts_35 : decode cX12_starts 35 = .ok (.aload_n 0, 1) := by decide +kernel
theorem dX12_starts_36 : decode cX12_starts 36 = .ok (.invokevirtual 125, 3) := by decide +kernel
theorem dX12_starts_39 : decode cX12_starts 39 = .ok (.return_, 1) := by decide +kernel
theorem dX12_ends_0 : decode cX12_ends 0 = .ok (.aload_n 0, 1) := by decide +kernel
theorem dX12_ends_1 : decode cX12_ends 1 = .ok (.aload_n 0, 1) := by decide +kernel
theorem dX12_ends_2 : decode cX12_ends 2 = .ok (.getfield 122, 3) := by decide +kernel
theorem dX12_ends_5 : decode cX12_ends 5 = .ok (.putfield 9, 3) := by decide +kernel
theorem dX12_ends_8 : decode cX12_ends 8 = .ok (.aload_n 0, 1) := by decide +kernel
theorem dX12_ends_9 : decode cX12_ends 9 = .ok (.getfield 119, 3) := by decide +kernel
theorem dX12_ends_12 : decode cX12_ends 12 = .ok (.bipush 10, 2) := by decide +kernel
theorem dX12_ends_14 : decode cX12_ends 14 = .ok (.isub, 1) := by decide +kernel
theorem dX12_ends_15 : decode cX12_ends 15 = .ok (.ireturn, 1) := by decide +kernel
theorem dX12_kindHere_0 : decode cX12_kindHere 0 = .ok (.aload_n 0, 1) := by decide +kernel
theorem dX12_kindHere_1 : decode cX12_kindHere 1 = .ok (.iconst 2, 1) := by decide +kernel
theorem dX12_kindHere_2 : decode cX12_kindHere 2 = .ok (.bipush 15, 2) := by decide +kernel
theorem dX12_kindHere_4 : decode cX12_kindHere 4 = .ok (.iconst 1, 1) := by decide +kernel
theorem dX12_kindHere_5 : decode cX12_kindHere 5 = .ok (.bipush 18, 2) := by decide +kernel
theorem dX12_kindHere_7 : decode cX12_kindHere 7 = .ok (.iconst 4, 1) := by decide +kernel
theorem dX12_kindHere_8 : decode cX12_kindHere 8 = .ok (.iconst 0, 1) := by decide +kernel
theorem dX12_kindHere_9 : decode cX12_kindHere 9 = .ok (.invokevirtual 152, 3) := by decide +kernel
theorem dX12_kindHere_12 : decode cX12_kindHere 12 = .ok (.ifCond .eq 5, 3) := by decide +kernel
theorem dX12_kindHere_15 : decode cX12_kindHere 15 = .ok (.iconst 0, 1) := by decide +kernel
theorem dX12_kindHere_16 : decode cX12_kindHere 16 = .ok (.ireturn, 1) := by decide +kernel
theorem dX12_kindHere_17 : decode cX12_kindHere 17 = .ok (.aload_n 0, 1) := by decide +kernel
theorem dX12_kindHere_18 : decode cX12_kindHere 18 = .ok (.iconst 2, 1) := by decide +kernel
theorem dX12_kindHere_19 : decode cX12_kindHere 19 = .ok (.iconst 1, 1) := by decide +kernel
theorem dX12_kindHere_20 : decode cX12_kindHere 20 = .ok (.bipush 18, 2) := by decide +kernel
theorem dX12_kindHere_22 : decode cX12_kindHere 22 = .ok (.bipush 7, 2) := by decide +kernel
theorem dX12_kindHere_24 : decode cX12_kindHere 24 = .ok (.iconst 5, 1) := by decide +kernel
theorem dX12_kindHere_25 : decode cX12_kindHere 25 = .ok (.iconst 0, 1) := by decide +kernel
theorem dX12_kindHere_26 : decode cX12_kindHere 26 = .ok (.invokevirtual 152, 3) := by decide +kernel
theorem dX12_kindHere_29 : decode cX12_kindHere 29 = .ok (.ifCond .eq 5, 3) := by decide +kernel
theorem dX12_kindHere_32 : decode cX12_kindHere 32 = .ok (.iconst 1, 1) := by decide +kernel
theorem dX12_kindHere_33 : decode cX12_kindHere 33 = .ok (.ireturn, 1) := by decide +kernel
theorem dX12_kindHere_34 : decode cX12_kindHere 34 = .ok (.aload_n 0, 1) := by decide +kernel
theorem dX12_kindHere_35 : decode cX12_kindHere 35 = .ok (.bipush 19, 2) := by decide +kernel
theorem dX12_kindHere_37 : decode cX12_kindHere 37 = .ok (.bipush 20, 2) := by decide +kernel
theorem dX12_kindHere_39 : decode cX12_kindHere 39 = .ok (.bipush 18, 2) := by decide +kernel
theorem dX12_kindHere_41 : decode cX12_kindHere 41 = .ok (.iconst 5, 1) := by decide +kernel
theorem dX12_kindHere_42 : decode cX12_kindHere 42 = .ok (.iconst 5, 1) := by decide +kernel
theorem dX12_kindHere_43 : decode cX12_kindHere 43 = .ok (.bipush 20, 2) := by decide +kernel
theorem dX12_kindHere_45 : decode cX12_kindHere 45 = .ok (.invokevirtual 152, 3) := by decide +kernel
theorem dX12_kindHere_48 : decode cX12_kindHere 48 = .ok (.ifCond .eq 5, 3) := by decide +kernel
theorem dX12_kindHere_51 : decode cX12_kindHere 51 = .ok (.iconst 2, 1) := by decide +kernel
theorem dX12_kindHere_52 : decode cX12_kindHere 52 = .ok (.ireturn, 1) := by decide +kernel
theorem dX12_kindHere_53 : decode cX12_kindHere 53 = .ok (.aload_n 0, 1) := by decide +kernel
theorem dX12_kindHere_54 : decode cX12_kindHere 54 = .ok (.bipush 6, 2) := by decide +kernel
theorem dX12_kindHere_56 : decode cX12_kindHere 56 = .ok (.bipush 12, 2) := by decide +kernel
theorem dX12_kindHere_58 : decode cX12_kindHere 58 = .ok (.bipush 15, 2) := by decide +kernel
theorem dX12_kindHere_60 : decode cX12_kindHere 60 = .ok (.bipush 23, 2) := by decide +kernel
theorem dX12_kindHere_62 : decode cX12_kindHere 62 = .ok (.iconst 0, 1) := by decide +kernel
theorem dX12_kindHere_63 : decode cX12_kindHere 63 = .ok (.iconst 0, 1) := by decide +kernel
theorem dX12_kindHere_64 : decode cX12_kindHere 64 = .ok (.invokevirtual 152, 3) := by decide +kernel
theorem dX12_kindHere_67 : decode cX12_kindHere 67 = .ok (.ifCond .eq 5, 3) := by decide +kernel
theorem dX12_kindHere_70 : decode cX12_kindHere 70 = .ok (.iconst 3, 1) := by decide +kernel
theorem dX12_kindHere_71 : decode cX12_kindHere 71 = .ok (.ireturn, 1) := by decide +kernel
theorem dX12_kindHere_72 : decode cX12_kindHere 72 = .ok (.aload_n 0, 1) := by decide +kernel
theorem dX12_kindHere_73 : decode cX12_kindHere 73 = .ok (.bipush 19, 2) := by decide +kernel
theorem dX12_kindHere_75 : decode cX12_kindHere 75 = .ok (.bipush 13, 2) := by decide +kernel
theorem dX12_kindHere_77 : decode cX12_kindHere 77 = .ok (.iconst 5, 1) := by decide +kernel
theorem dX12_kindHere_78 : decode cX12_kindHere 78 = .ok (.bipush 12, 2) := by decide +kernel
theorem dX12_kindHere_80 : decode cX12_kindHere 80 = .ok (.bipush 12, 2) := by decide +kernel
theorem dX12_kindHere_82 : decode cX12_kindHere 82 = .ok (.iconst 0, 1) := by decide +kernel
theorem dX12_kindHere_83 : decode cX12_kindHere 83 = .ok (.invokevirtual 152, 3) := by decide +kernel
theorem dX12_kindHere_86 : decode cX12_kindHere 86 = .ok (.ifCond .eq 5, 3) := by decide +kernel
theorem dX12_kindHere_89 : decode cX12_kindHere 89 = .ok (.iconst 4, 1) := by decide +kernel
theorem dX12_kindHere_90 : decode cX12_kindHere 90 = .ok (.ireturn, 1) := by decide +kernel
theorem dX12_kindHere_91 : decode cX12_kindHere 91 = .ok (.aload_n 0, 1) := by decide +kernel
theorem dX12_kindHere_92 : decode cX12_kindHere 92 = .ok (.bipush 6, 2) := by decide +kernel
theorem dX12_kindHere_94 : decode cX12_kindHere 94 = .ok (.bipush 9, 2) := by decide +kernel
theorem dX12_kindHere_96 : decode cX12_kindHere 96 = .ok (.bipush 19, 2) := by decide +kernel
theorem dX12_kindHere_98 : decode cX12_kindHere 98 = .ok (.bipush 8, 2) := by decide +kernel
theorem dX12_kindHere_100 : decode cX12_kindHere 100 = .ok (.iconst 0, 1) := by decide +kernel
theorem dX12_kindHere_101 : decode cX12_kindHere 101 = .ok (.iconst 0, 1) := by decide +kernel
theorem dX12_kindHere_102 : decode cX12_kindHere 102 = .ok (.invokevirtual 152, 3) := by decide +kernel
theorem dX12_kindHere_105 : decode cX12_kindHere 105 = .ok (.ifCond .eq 7, 3) := by decide +kernel
theorem dX12_kindHere_108 : decode cX12_kindHere 108 = .ok (.iconst 5, 1) := by decide +kernel
theorem dX12_kindHere_109 : decode cX12_kindHere 109 = .ok (.goto 4, 3) := by decide +kernel
theorem dX12_kindHere_112 : decode cX12_kindHere 112 = .ok (.iconst (-1), 1) := by decide +kernel
theorem dX12_kindHere_113 : decode cX12_kindHere 113 = .ok (.ireturn, 1) := by decide +kernel
theorem dX12_isFull_0 : decode cX12_isFull 0 = .ok (.iload_n 1, 1) := by decide +kernel
theorem dX12_isFull_1 : decode cX12_isFull 1 = .ok (.ifCond .ne 14, 3) := by decide +kernel
theorem dX12_isFull_4 : decode cX12_isFull 4 = .ok (.aload_n 0, 1) := by decide +kernel
theorem dX12_isFull_5 : decode cX12_isFull 5 = .ok (.getfield 20, 3) := by decide +kernel
theorem dX12_isFull_8 : decode cX12_isFull 8 = .ok (.iconst 0, 1) := by decide +kernel
theorem dX12_isFull_9 : decode cX12_isFull 9 = .ok (.iaload, 1) := by decide +kernel
theorem dX12_isFull_10 : decode cX12_isFull 10 = .ok (.bipush 16, 2) := by decide +kernel
theorem dX12_isFull_12 : decode cX12_isFull 12 = .ok (.if_icmp .eq 34, 3) := by decide +kernel
theorem dX12_isFull_15 : decode cX12_isFull 15 = .ok (.iload_n 1, 1) := by decide +kernel
theorem dX12_isFull_16 : decode cX12_isFull 16 = .ok (.iconst 1, 1) := by decide +kernel
theorem dX12_isFull_17 : decode cX12_isFull 17 = .ok (.if_icmp .ne 13, 3) := by decide +kernel
theorem dX12_isFull_20 : decode cX12_isFull 20 = .ok (.aload_n 0, 1) := by decide +kernel
theorem dX12_isFull_21 : decode cX12_isFull 21 = .ok (.getfield 20, 3) := by decide +kernel
theorem dX12_isFull_24 : decode cX12_isFull 24 = .ok (.iconst 1, 1) := by decide +kernel
theorem dX12_isFull_25 : decode cX12_isFull 25 = .ok (.iaload, 1) := by decide +kernel
theorem dX12_isFull_26 : decode cX12_isFull 26 = .ok (.iconst 4, 1) := by decide +kernel
theorem dX12_isFull_27 : decode cX12_isFull 27 = .ok (.if_icmp .eq 19, 3) := by decide +kernel
theorem dX12_isFull_30 : decode cX12_isFull 30 = .ok (.iload_n 1, 1) := by decide +kernel
theorem dX12_isFull_31 : decode cX12_isFull 31 = .ok (.iconst 2, 1) := by decide +kernel
theorem dX12_isFull_32 : decode cX12_isFull 32 = .ok (.if_icmp .ne 18, 3) := by decide +kernel
theorem dX12_isFull_35 : decode cX12_isFull 35 = .ok (.aload_n 0, 1) := by decide +kernel
theorem dX12_isFull_36 : decode cX12_isFull 36 = .ok (.getfield 20, 3) := by decide +kernel
theorem dX12_isFull_39 : decode cX12_isFull 39 = .ok (.iconst 2, 1) := by decide +kernel
theorem dX12_isFull_40 : decode cX12_isFull 40 = .ok (.iaload, 1) := by decide +kernel
theorem dX12_isFull_41 : decode cX12_isFull 41 = .ok (.bipush 8, 2) := by decide +kernel
theorem dX12_isFull_43 : decode cX12_isFull 43 = .ok (.if_icmp .ne 7, 3) := by decide +kernel
theorem dX12_isFull_46 : decode cX12_isFull 46 = .ok (.iconst 1, 1) := by decide +kernel
theorem dX12_isFull_47 : decode cX12_isFull 47 = .ok (.goto 4, 3) := by decide +kernel
theorem dX12_isFull_50 : decode cX12_isFull 50 = .ok (.iconst 0, 1) := by decide +kernel
theorem dX12_isFull_51 : decode cX12_isFull 51 = .ok (.ireturn, 1) := by decide +kernel
theorem dX12_clause_0 : decode cX12_clause 0 = .ok (.aload_n 0, 1) := by decide +kernel
theorem dX12_clause_1 : decode cX12_clause 1 = .ok (.invokevirtual 165, 3) := by decide +kernel
theorem dX12_clause_4 : decode cX12_clause 4 = .ok (.istore_n 1, 1) := by decide +kernel
theorem dX12_clause_5 : decode cX12_clause 5 = .ok (.iload_n 1, 1) := by decide +kernel
theorem dX12_clause_6 : decode cX12_clause 6 = .ok (.iconst (-1), 1) := by decide +kernel
theorem dX12_clause_7 : decode cX12_clause 7 = .ok (.if_icmp .ne 15, 3) := by decide +kernel
theorem dX12_clause_10 : decode cX12_clause 10 = .ok (.aload_n 0, 1) := by decide +kernel
theorem dX12_clause_11 : decode cX12_clause 11 = .ok (.iconst 1, 1) := by decide +kernel
theorem dX12_clause_12 : decode cX12_clause 12 = .ok (.aload_n 0, 1) := by decide +kernel
theorem dX12_clause_13 : decode cX12_clause 13 = .ok (.getfield 112, 3) := by decide +kernel
theorem dX12_clause_16 : decode cX12_clause 16 = .ok (.invokevirtual 132, 3) := by decide +kernel
theorem dX12_clause_19 : decode cX12_clause 19 = .ok (.goto 29, 3) := by decide +kernel
theorem dX12_clause_22 : decode cX12_clause 22 = .ok (.aload_n 0, 1) := by decide +kernel
theorem dX12_clause_23 : decode cX12_clause 23 = .ok (.getfield 159, 3) := by decide +kernel
theorem dX12_clause_26 : decode cX12_clause 26 = .ok (.bipush 60, 2) := by decide +kernel
theorem dX12_clause_28 : decode cX12_clause 28 = .ok (.if_icmp .eq 11, 3) := by decide +kernel
theorem dX12_clause_31 : decode cX12_clause 31 = .ok (.aload_n 0, 1) := by decide +kernel
theorem dX12_clause_32 : decode cX12_clause 32 = .ok (.iload_n 1, 1) := by decide +kernel
theorem dX12_clause_33 : decode cX12_clause 33 = .ok (.invokevirtual 168, 3) := by decide +kernel
theorem dX12_clause_36 : decode cX12_clause 36 = .ok (.ifCond .eq 12, 3) := by decide +kernel
theorem dX12_clause_39 : decode cX12_clause 39 = .ok (.aload_n 0, 1) := by decide +kernel
theorem dX12_clause_40 : decode cX12_clause 40 = .ok (.iconst 3, 1) := by decide +kernel
theorem dX12_clause_41 : decode cX12_clause 41 = .ok (.aload_n 0, 1) := by decide +kernel
theorem dX12_clause_42 : decode cX12_clause 42 = .ok (.getfield 112, 3) := by decide +kernel
theorem dX12_clause_45 : decode cX12_clause 45 = .ok (.invokevirtual 132, 3) := by decide +kernel
theorem dX12_clause_48 : decode cX12_clause 48 = .ok (.aload_n 0, 1) := by decide +kernel
theorem dX12_clause_49 : decode cX12_clause 49 = .ok (.getfield 119, 3) := by decide +kernel
theorem dX12_clause_52 : decode cX12_clause 52 = .ok (.ifCond .eq 4, 3) := by decide +kernel
theorem dX12_clause_55 : decode cX12_clause 55 = .ok (.return_, 1) := by decide +kernel
theorem dX12_clause_56 : decode cX12_clause 56 = .ok (.aload_n 0, 1) := by decide +kernel
theorem dX12_clause_57 : decode cX12_clause 57 = .ok (.invokevirtual 156, 3) := by decide +kernel
theorem dX12_clause_60 : decode cX12_clause 60 = .ok (.aload_n 0, 1) := by decide +kernel
theorem dX12_clause_61 : decode cX12_clause 61 = .ok (.dup, 1) := by decide +kernel
theorem dX12_clause_62 : decode cX12_clause 62 = .ok (.getfield 159, 3) := by decide +kernel
theorem dX12_clause_65 : decode cX12_clause 65 = .ok (.iconst 1, 1) := by decide +kernel
theorem dX12_clause_66 : decode cX12_clause 66 = .ok (.iadd, 1) := by decide +kernel
theorem dX12_clause_67 : decode cX12_clause 67 = .ok (.putfield 159, 3) := by decide +kernel
theorem dX12_clause_70 : decode cX12_clause 70 = .ok (.iload_n 1, 1) := by decide +kernel
theorem dX12_clause_71 : decode cX12_clause 71 = .ok (.tableswitch 221 0 5 #[37, 86, 121, 221, 221, 180], 37) := by decide +kernel
theorem dX12_clause_108 : decode cX12_clause 108 = .ok (.aload_n 0, 1) := by decide +kernel
theorem dX12_clause_109 : decode cX12_clause 109 = .ok (.getfield 28, 3) := by decide +kernel
theorem dX12_clause_112 : decode cX12_clause 112 = .ok (.aload_n 0, 1) := by decide +kernel
theorem dX12_clause_113 : decode cX12_clause 113 = .ok (.getfield 20, 3) := by decide +kernel
theorem dX12_clause_116 : decode cX12_clause 116 = .ok (.iconst 0, 1) := by decide +kernel
theorem dX12_clause_117 : decode cX12_clause 117 = .ok (.iaload, 1) := by decide +kernel
theorem dX12_clause_118 : decode cX12_clause 118 = .ok (.aaload, 1) := by decide +kernel
theorem dX12_clause_119 : decode cX12_clause 119 = .ok (.astore_n 2, 1) := by decide +kernel
theorem dX12_clause_120 : decode cX12_clause 120 = .ok (.aload_n 2, 1) := by decide +kernel
theorem dX12_clause_121 : decode cX12_clause 121 = .ok (.iconst 0, 1) := by decide +kernel
theorem dX12_clause_122 : decode cX12_clause 122 = .ok (.aload_n 0, 1) := by decide +kernel
theorem dX12_clause_123 : decode cX12_clause 123 = .ok (.iconst 0, 1) := by decide +kernel
theorem dX12_clause_124 : decode cX12_clause 124 = .ok (.bipush 9, 2) := by decide +kernel
theorem dX12_clause_126 : decode cX12_clause 126 = .ok (.invokevirtual 171, 3) := by decide +kernel
theorem dX12_clause_129 : decode cX12_clause 129 = .ok (.iastore, 1) := by decide +kernel
theorem dX12_clause_130 : decode cX12_clause 130 = .ok (.aload_n 2, 1) := by decide +kernel
theorem dX12_clause_131 : decode cX12_clause 131 = .ok (.iconst 1, 1) := by decide +kernel
theorem dX12_clause_132 : decode cX12_clause 132 = .ok (.aload_n 0, 1) := by decide +kernel
theorem dX12_clause_133 : decode cX12_clause 133 = .ok (.iconst 0, 1) := by decide +kernel
theorem dX12_clause_134 : decode cX12_clause 134 = .ok (.bipush 20, 2) := by decide +kernel
theorem dX12_clause_136 : decode cX12_clause 136 = .ok (.invokevirtual 171, 3) := by decide +kernel
theorem dX12_clause_139 : decode cX12_clause 139 = .ok (.iastore, 1) := by decide +kernel
theorem dX12_clause_140 : decode cX12_clause 140 = .ok (.aload_n 2, 1) := by decide +kernel
theorem dX12_clause_141 : decode cX12_clause 141 = .ok (.iconst 2, 1) := by decide +kernel
theorem dX12_clause_142 : decode cX12_clause 142 = .ok (.aload_n 0, 1) := by decide +kernel
theorem dX12_clause_143 : decode cX12_clause 143 = .ok (.iconst 0, 1) := by decide +kernel
theorem dX12_clause_144 : decode cX12_clause 144 = .ok (.bipush 9, 2) := by decide +kernel
theorem dX12_clause_146 : decode cX12_clause 146 = .ok (.invokevirtual 171, 3) := by decide +kernel
theorem dX12_clause_149 : decode cX12_clause 149 = .ok (.iastore, 1) := by decide +kernel
theorem dX12_clause_150 : decode cX12_clause 150 = .ok (.aload_n 2, 1) := by decide +kernel
theorem dX12_clause_151 : decode cX12_clause 151 = .ok (.iconst 3, 1) := by decide +kernel
theorem dX12_clause_152 : decode cX12_clause 152 = .ok (.iconst 0, 1) := by decide +kernel
theorem dX12_clause_153 : decode cX12_clause 153 = .ok (.iastore, 1) := by decide +kernel
theorem dX12_clause_154 : decode cX12_clause 154 = .ok (.goto 171, 3) := by decide +kernel
theorem dX12_clause_157 : decode cX12_clause 157 = .ok (.aload_n 0, 1) := by decide +kernel
theorem dX12_clause_158 : decode cX12_clause 158 = .ok (.getfield 34, 3) := by decide +kernel
theorem dX12_clause_161 : decode cX12_clause 161 = .ok (.aload_n 0, 1) := by decide +kernel
theorem dX12_clause_162 : decode cX12_clause 162 = .ok (.getfield 20, 3) := by decide +kernel
theorem dX12_clause_165 : decode cX12_clause 165 = .ok (.iconst 1, 1) := by decide +kernel
theorem dX12_clause_166 : decode cX12_clause 166 = .ok (.iaload, 1) := by decide +kernel
theorem dX12_clause_167 : decode cX12_clause 167 = .ok (.aaload, 1) := by decide +kernel
theorem dX12_clause_168 : decode cX12_clause 168 = .ok (.astore_n 2, 1) := by decide +kernel
theorem dX12_clause_169 : decode cX12_clause 169 = .ok (.aload_n 2, 1) := by decide +kernel
theorem dX12_clause_170 : decode cX12_clause 170 = .ok (.iconst 0, 1) := by decide +kernel
theorem dX12_clause_171 : decode cX12_clause 171 = .ok (.aload_n 0, 1) := by decide +kernel
theorem dX12_clause_172 : decode cX12_clause 172 = .ok (.iconst 0, 1) := by decide +kernel
theorem dX12_clause_173 : decode cX12_clause 173 = .ok (.bipush 9, 2) := by decide +kernel
theorem dX12_clause_175 : decode cX12_clause 175 = .ok (.invokevirtual 171, 3) := by decide +kernel
theorem dX12_clause_178 : decode cX12_clause 178 = .ok (.iastore, 1) := by decide +kernel
theorem dX12_clause_179 : decode cX12_clause 179 = .ok (.aload_n 2, 1) := by decide +kernel
theorem dX12_clause_180 : decode cX12_clause 180 = .ok (.iconst 1, 1) := by decide +kernel
theorem dX12_clause_181 : decode cX12_clause 181 = .ok (.aload_n 0, 1) := by decide +kernel
theorem dX12_clause_182 : decode cX12_clause 182 = .ok (.iconst 0, 1) := by decide +kernel
theorem dX12_clause_183 : decode cX12_clause 183 = .ok (.bipush 95, 2) := by decide +kernel
theorem dX12_clause_185 : decode cX12_clause 185 = .ok (.invokevirtual 171, 3) := by decide +kernel
theorem dX12_clause_188 : decode cX12_clause 188 = .ok (.iastore, 1) := by decide +kernel
theorem dX12_clause_189 : decode cX12_clause 189 = .ok (.goto 136, 3) := by decide +kernel
theorem dX12_clause_192 : decode cX12_clause 192 = .ok (.aload_n 0, 1) := by decide +kernel
theorem dX12_clause_193 : decode cX12_clause 193 = .ok (.getfield 40, 3) := by decide +kernel
theorem dX12_clause_196 : decode cX12_clause 196 = .ok (.aload_n 0, 1) := by decide +kernel
theorem dX12_clause_197 : decode cX12_clause 197 = .ok (.getfield 20, 3) := by decide +kernel
theorem dX12_clause_200 : decode cX12_clause 200 = .ok (.iconst 2, 1) := by decide +kernel
theorem dX12_clause_201 : decode cX12_clause 201 = .ok (.iaload, 1) := by decide +kernel
theorem dX12_clause_202 : decode cX12_clause 202 = .ok (.aaload, 1) := by decide +kernel
theorem dX12_clause_203 : decode cX12_clause 203 = .ok (.astore_n 2, 1) := by decide +kernel
theorem dX12_clause_204 : decode cX12_clause 204 = .ok (.aload_n 2, 1) := by decide +kernel
theorem dX12_clause_205 : decode cX12_clause 205 = .ok (.iconst 0, 1) := by decide +kernel
theorem dX12_clause_206 : decode cX12_clause 206 = .ok (.aload_n 0, 1) := by decide +kernel
theorem dX12_clause_207 : decode cX12_clause 207 = .ok (.iconst 0, 1) := by decide +kernel
theorem dX12_clause_208 : decode cX12_clause 208 = .ok (.aload_n 0, 1) := by decide +kernel
theorem dX12_clause_209 : decode cX12_clause 209 = .ok (.getfield 20, 3) := by decide +kernel
theorem dX12_clause_212 : decode cX12_clause 212 = .ok (.iconst 0, 1) := by decide +kernel
theorem dX12_clause_213 : decode cX12_clause 213 = .ok (.iaload, 1) := by decide +kernel
theorem dX12_clause_214 : decode cX12_clause 214 = .ok (.iconst 1, 1) := by decide +kernel
theorem dX12_clause_215 : decode cX12_clause 215 = .ok (.isub, 1) := by decide +kernel
theorem dX12_clause_216 : decode cX12_clause 216 = .ok (.invokevirtual 171, 3) := by decide +kernel
theorem dX12_clause_219 : decode cX12_clause 219 = .ok (.iastore, 1) := by decide +kernel
theorem dX12_clause_220 : decode cX12_clause 220 = .ok (.aload_n 2, 1) := by decide +kernel
theorem dX12_clause_221 : decode cX12_clause 221 = .ok (.iconst 1, 1) := by decide +kernel
theorem dX12_clause_222 : decode cX12_clause 222 = .ok (.aload_n 0, 1) := by decide +kernel
theorem dX12_clause_223 : decode cX12_clause 223 = .ok (.aload_n 2, 1) := by decide +kernel
theorem dX12_clause_224 : decode cX12_clause 224 = .ok (.iconst 0, 1) := by decide +kernel
theorem dX12_clause_225 : decode cX12_clause 225 = .ok (.iaload, 1) := by decide +kernel
theorem dX12_clause_226 : decode cX12_clause 226 = .ok (.aload_n 0, 1) := by decide +kernel
theorem dX12_clause_227 : decode cX12_clause 227 = .ok (.getfield 20, 3) := by decide +kernel
theorem dX12_clause_230 : decode cX12_clause 230 = .ok (.iconst 0, 1) := by decide +kernel
theorem dX12_clause_231 : decode cX12_clause 231 = .ok (.iaload, 1) := by decide +kernel
theorem dX12_clause_232 : decode cX12_clause 232 = .ok (.iconst 1, 1) := by decide +kernel
theorem dX12_clause_233 : decode cX12_clause 233 = .ok (.isub, 1) := by decide +kernel
theorem dX12_clause_234 : decode cX12_clause 234 = .ok (.invokevirtual 171, 3) := by decide +kernel
theorem dX12_clause_237 : decode cX12_clause 237 = .ok (.iastore, 1) := by decide +kernel
theorem dX12_clause_238 : decode cX12_clause 238 = .ok (.aload_n 2, 1) := by decide +kernel
theorem dX12_clause_239 : decode cX12_clause 239 = .ok (.iconst 2, 1) := by decide +kernel
theorem dX12_clause_240 : decode cX12_clause 240 = .ok (.aload_n 0, 1) := by decide +kernel
theorem dX12_clause_241 : decode cX12_clause 241 = .ok (.iconst 1, 1) := by decide +kernel
theorem dX12_clause_242 : decode cX12_clause 242 = .ok (.bipush 40, 2) := by decide +kernel
theorem dX12_clause_244 : decode cX12_clause 244 = .ok (.invokevirtual 171, 3) := by decide +kernel
theorem dX12_clause_247 : decode cX12_clause 247 = .ok (.iastore, 1) := by decide +kernel
theorem dX12_clause_248 : decode cX12_clause 248 = .ok (.goto 77, 3) := by decide +kernel
theorem dX12_clause_251 : decode cX12_clause 251 = .ok (.aload_n 0, 1) := by decide +kernel
theorem dX12_clause_252 : decode cX12_clause 252 = .ok (.iconst 0, 1) := by decide +kernel
theorem dX12_clause_253 : decode cX12_clause 253 = .ok (.aload_n 0, 1) := by decide +kernel
theorem dX12_clause_254 : decode cX12_clause 254 = .ok (.getfield 20, 3) := by decide +kernel
theorem dX12_clause_257 : decode cX12_clause 257 = .ok (.iconst 0, 1) := by decide +kernel
theorem dX12_clause_258 : decode cX12_clause 258 = .ok (.iaload, 1) := by decide +kernel
theorem dX12_clause_259 : decode cX12_clause 259 = .ok (.iconst 1, 1) := by decide +kernel
theorem dX12_clause_260 : decode cX12_clause 260 = .ok (.isub, 1) := by decide +kernel
theorem dX12_clause_261 : decode cX12_clause 261 = .ok (.invokevirtual 171, 3) := by decide +kernel
theorem dX12_clause_264 : decode cX12_clause 264 = .ok (.istore_n 2, 1) := by decide +kernel
theorem dX12_clause_265 : decode cX12_clause 265 = .ok (.aload_n 0, 1) := by decide +kernel
theorem dX12_clause_266 : decode cX12_clause 266 = .ok (.iconst 0, 1) := by decide +kernel
theorem dX12_clause_267 : decode cX12_clause 267 = .ok (.bipush 40, 2) := by decide +kernel
theorem dX12_clause_269 : decode cX12_clause 269 = .ok (.invokevirtual 171, 3) := by decide +kernel
theorem dX12_clause_272 : decode cX12_clause 272 = .ok (.istore_n 3, 1) := by decide +kernel
theorem dX12_clause_273 : decode cX12_clause 273 = .ok (.aload_n 0, 1) := by decide +kernel
theorem dX12_clause_274 : decode cX12_clause 274 = .ok (.getfield 119, 3) := by decide +kernel
theorem dX12_clause_277 : decode cX12_clause 277 = .ok (.ifCond .ne 48, 3) := by decide +kernel
theorem dX12_clause_280 : decode cX12_clause 280 = .ok (.aload_n 0, 1) := by decide +kernel
theorem dX12_clause_281 : decode cX12_clause 281 = .ok (.getfield 28, 3) := by decide +kernel
theorem dX12_clause_284 : decode cX12_clause 284 = .ok (.iload_n 2, 1) := by decide +kernel
theorem dX12_clause_285 : decode cX12_clause 285 = .ok (.aaload, 1) := by decide +kernel
theorem dX12_clause_286 : decode cX12_clause 286 = .ok (.iconst 3, 1) := by decide +kernel
theorem dX12_clause_287 : decode cX12_clause 287 = .ok (.iload_n 3, 1) := by decide +kernel
theorem dX12_clause_288 : decode cX12_clause 288 = .ok (.iastore, 1) := by decide +kernel
theorem dX12_clause_289 : decode cX12_clause 289 = .ok (.goto 36, 3) := by decide +kernel
theorem dX12_clause_292 : decode cX12_clause 292 = .ok (.aload_n 0, 1) := by decide +kernel
theorem dX12_clause_293 : decode cX12_clause 293 = .ok (.iload_n 1, 1) := by decide +kernel
theorem dX12_clause_294 : decode cX12_clause 294 = .ok (.iconst 3, 1) := by decide +kernel
theorem dX12_clause_295 : decode cX12_clause 295 = .ok (.if_icmp .ne 7, 3) := by decide +kernel
theorem dX12_clause_298 : decode cX12_clause 298 = .ok (.iconst 1, 1) := by decide +kernel
theorem dX12_clause_299 : decode cX12_clause 299 = .ok (.goto 4, 3) := by decide +kernel
theorem dX12_clause_302 : decode cX12_clause 302 = .ok (.iconst 0, 1) := by decide +kernel
theorem dX12_clause_303 : decode cX12_clause 303 = .ok (.iconst 4, 1) := by decide +kernel
theorem dX12_clause_304 : decode cX12_clause 304 = .ok (.invokevirtual 171, 3) := by decide +kernel
theorem dX12_clause_307 : decode cX12_clause 307 = .ok (.istore_n 2, 1) := by decide +kernel
theorem dX12_clause_308 : decode cX12_clause 308 = .ok (.aload_n 0, 1) := by decide +kernel
theorem dX12_clause_309 : decode cX12_clause 309 = .ok (.getfield 119, 3) := by decide +kernel
theorem dX12_clause_312 : decode cX12_clause 312 = .ok (.ifCond .ne 13, 3) := by decide +kernel
theorem dX12_clause_315 : decode cX12_clause 315 = .ok (.aload_n 0, 1) := by decide +kernel
theorem dX12_clause_316 : decode cX12_clause 316 = .ok (.getfield 20, 3) := by decide +kernel
theorem dX12_clause_319 : decode cX12_clause 319 = .ok (.iload_n 1, 1) := by decide +kernel
theorem dX12_clause_320 : decode cX12_clause 320 = .ok (.iload_n 2, 1) := by decide +kernel
theorem dX12_clause_321 : decode cX12_clause 321 = .ok (.iastore, 1) := by decide +kernel
theorem dX12_clause_322 : decode cX12_clause 322 = .ok (.goto 3, 3) := by decide +kernel
theorem dX12_clause_325 : decode cX12_clause 325 = .ok (.iload_n 1, 1) := by decide +kernel
theorem dX12_clause_326 : decode cX12_clause 326 = .ok (.iconst 3, 1) := by decide +kernel
theorem dX12_clause_327 : decode cX12_clause 327 = .ok (.if_icmp .ge 24, 3) := by decide +kernel
theorem dX12_clause_330 : decode cX12_clause 330 = .ok (.aload_n 0, 1) := by decide +kernel
theorem dX12_clause_331 : decode cX12_clause 331 = .ok (.getfield 20, 3) := by decide +kernel
theorem dX12_clause_334 : decode cX12_clause 334 = .ok (.iload_n 1, 1) := by decide +kernel
theorem dX12_clause_335 : decode cX12_clause 335 = .ok (.dup2, 1) := by decide +kernel
theorem dX12_clause_336 : decode cX12_clause 336 = .ok (.iaload, 1) := by decide +kernel
theorem dX12_clause_337 : decode cX12_clause 337 = .ok (.aload_n 0, 1) := by decide +kernel
theorem dX12_clause_338 : decode cX12_clause 338 = .ok (.getfield 119, 3) := by decide +kernel
theorem dX12_clause_341 : decode cX12_clause 341 = .ok (.ifCond .ne 7, 3) := by decide +kernel
theorem dX12_clause_344 : decode cX12_clause 344 = .ok (.iconst 1, 1) := by decide +kernel
theorem dX12_clause_345 : decode cX12_clause 345 = .ok (.goto 4, 3) := by decide +kernel
theorem dX12_clause_348 : decode cX12_clause 348 = .ok (.iconst 0, 1) := by decide +kernel
theorem dX12_clause_349 : decode cX12_clause 349 = .ok (.iadd, 1) := by decide +kernel
theorem dX12_clause_350 : decode cX12_clause 350 = .ok (.iastore, 1) := by decide +kernel
theorem dX12_clause_351 : decode cX12_clause 351 = .ok (.aload_n 0, 1) := by decide +kernel
theorem dX12_clause_352 : decode cX12_clause 352 = .ok (.bipush 59, 2) := by decide +kernel
theorem dX12_clause_354 : decode cX12_clause 354 = .ok (.invokevirtual 175, 3) := by decide +kernel
theorem dX12_clause_357 : decode cX12_clause 357 = .ok (.return_, 1) := by decide +kernel
theorem dX12_river_0 : decode cX12_river 0 = .ok (.aload_n 0, 1) := by decide +kernel
theorem dX12_river_1 : decode cX12_river 1 = .ok (.iconst 0, 1) := by decide +kernel
theorem dX12_river_2 : decode cX12_river 2 = .ok (.putfield 103, 3) := by decide +kernel
theorem dX12_river_5 : decode cX12_river 5 = .ok (.aload_n 0, 1) := by decide +kernel
theorem dX12_river_6 : decode cX12_river 6 = .ok (.iload_n 1, 1) := by decide +kernel
theorem dX12_river_7 : decode cX12_river 7 = .ok (.iconst 0, 1) := by decide +kernel
theorem dX12_river_8 : decode cX12_river 8 = .ok (.aload_n 0, 1) := by decide +kernel
theorem dX12_river_9 : decode cX12_river 9 = .ok (.getfield 106, 3) := by decide +kernel
theorem dX12_river_12 : decode cX12_river 12 = .ok (.invokestatic 137, 3) := by decide +kernel
theorem dX12_river_15 : decode cX12_river 15 = .ok (.ifCond .ne 7, 3) := by decide +kernel
theorem dX12_river_18 : decode cX12_river 18 = .ok (.iconst 1, 1) := by decide +kernel
theorem dX12_river_19 : decode cX12_river 19 = .ok (.goto 4, 3) := by decide +kernel
theorem dX12_river_22 : decode cX12_river 22 = .ok (.iconst 0, 1) := by decide +kernel
theorem dX12_river_23 : decode cX12_river 23 = .ok (.iconst 1, 1) := by decide +kernel
theorem dX12_river_24 : decode cX12_river 24 = .ok (.iconst 1, 1) := by decide +kernel
theorem dX12_river_25 : decode cX12_river 25 = .ok (.invokevirtual 179, 3) := by decide +kernel
theorem dX12_river_28 : decode cX12_river 28 = .ok (.ifCond .eq 5, 3) := by decide +kernel
theorem dX12_river_31 : decode cX12_river 31 = .ok (.iconst 0, 1) := by decide +kernel
theorem dX12_river_32 : decode cX12_river 32 = .ok (.ireturn, 1) := by decide +kernel
theorem dX12_river_33 : decode cX12_river 33 = .ok (.aload_n 0, 1) := by decide +kernel
theorem dX12_river_34 : decode cX12_river 34 = .ok (.iload_n 1, 1) := by decide +kernel
theorem dX12_river_35 : decode cX12_river 35 = .ok (.invokevirtual 183, 3) := by decide +kernel
theorem dX12_river_38 : decode cX12_river 38 = .ok (.aload_n 0, 1) := by decide +kernel
theorem dX12_river_39 : decode cX12_river 39 = .ok (.invokevirtual 97, 3) := by decide +kernel
theorem dX12_river_42 : decode cX12_river 42 = .ok (.aload_n 0, 1) := by decide +kernel
theorem dX12_river_43 : decode cX12_river 43 = .ok (.getfield 119, 3) := by decide +kernel
theorem dX12_river_46 : decode cX12_river 46 = .ok (.ifCond .ne 25, 3) := by decide +kernel
theorem dX12_river_49 : decode cX12_river 49 = .ok (.aload_n 0, 1) := by decide +kernel
theorem dX12_river_50 : decode cX12_river 50 = .ok (.getfield 112, 3) := by decide +kernel
theorem dX12_river_53 : decode cX12_river 53 = .ok (.aload_n 0, 1) := by decide +kernel
theorem dX12_river_54 : decode cX12_river 54 = .ok (.getfield 109, 3) := by decide +kernel
theorem dX12_river_57 : decode cX12_river 57 = .ok (.if_icmp .ge 14, 3) := by decide +kernel
theorem dX12_river_60 : decode cX12_river 60 = .ok (.aload_n 0, 1) := by decide +kernel
theorem dX12_river_61 : decode cX12_river 61 = .ok (.invokevirtual 186, 3) := by decide +kernel
theorem dX12_river_64 : decode cX12_river 64 = .ok (.aload_n 0, 1) := by decide +kernel
theorem dX12_river_65 : decode cX12_river 65 = .ok (.invokevirtual 125, 3) := by decide +kernel
theorem dX12_river_68 : decode cX12_river 68 = .ok (.goto (-26), 3) := by decide +kernel
theorem dX12_river_71 : decode cX12_river 71 = .ok (.aload_n 0, 1) := by decide +kernel
theorem dX12_river_72 : decode cX12_river 72 = .ok (.getfield 119, 3) := by decide +kernel
theorem dX12_river_75 : decode cX12_river 75 = .ok (.ifCond .eq 8, 3) := by decide +kernel
theorem dX12_river_78 : decode cX12_river 78 = .ok (.aload_n 0, 1) := by decide +kernel
theorem dX12_river_79 : decode cX12_river 79 = .ok (.invokevirtual 189, 3) := by decide +kernel
theorem dX12_river_82 : decode cX12_river 82 = .ok (.ireturn, 1) := by decide +kernel
theorem dX12_river_83 : decode cX12_river 83 = .ok (.aload_n 0, 1) := by decide +kernel
theorem dX12_river_84 : decode cX12_river 84 = .ok (.iconst (-1), 1) := by decide +kernel
theorem dX12_river_85 : decode cX12_river 85 = .ok (.putfield 9, 3) := by decide +kernel
theorem dX12_river_88 : decode cX12_river 88 = .ok (.aload_n 0, 1) := by decide +kernel
theorem dX12_river_89 : decode cX12_river 89 = .ok (.invokevirtual 100, 3) := by decide +kernel
theorem dX12_river_92 : decode cX12_river 92 = .ok (.aload_n 0, 1) := by decide +kernel
theorem dX12_river_93 : decode cX12_river 93 = .ok (.getfield 23, 3) := by decide +kernel
theorem dX12_river_96 : decode cX12_river 96 = .ok (.iconst 0, 1) := by decide +kernel
theorem dX12_river_97 : decode cX12_river 97 = .ok (.iaload, 1) := by decide +kernel
theorem dX12_river_98 : decode cX12_river 98 = .ok (.ireturn, 1) := by decide +kernel
theorem dX12_lays_0 : decode cX12_lays 0 = .ok (.iconst 0, 1) := by decide +kernel
theorem dX12_lays_1 : decode cX12_lays 1 = .ok (.istore_n 3, 1) := by decide +kernel
theorem dX12_lays_2 : decode cX12_lays 2 = .ok (.iload_n 3, 1) := by decide +kernel
theorem dX12_lays_3 : decode cX12_lays 3 = .ok (.iload_n 2, 1) := by decide +kernel
theorem dX12_lays_4 : decode cX12_lays 4 = .ok (.if_icmp .ge 39, 3) := by decide +kernel
theorem dX12_lays_7 : decode cX12_lays 7 = .ok (.iconst 0, 1) := by decide +kernel
theorem dX12_lays_8 : decode cX12_lays 8 = .ok (.istore 4, 2) := by decide +kernel
theorem dX12_lays_10 : decode cX12_lays 10 = .ok (.iload 4, 2) := by decide +kernel
theorem dX12_lays_12 : decode cX12_lays 12 = .ok (.aload_n 1, 1) := by decide +kernel
theorem dX12_lays_13 : decode cX12_lays 13 = .ok (.iload_n 3, 1) := by decide +kernel
theorem dX12_lays_14 : decode cX12_lays 14 = .ok (.aaload, 1) := by decide +kernel
theorem dX12_lays_15 : decode cX12_lays 15 = .ok (.arraylength, 1) := by decide +kernel
theorem dX12_lays_16 : decode cX12_lays 16 = .ok (.if_icmp .ge 21, 3) := by decide +kernel
theorem dX12_lays_19 : decode cX12_lays 19 = .ok (.aload_n 1, 1) := by decide +kernel
theorem dX12_lays_20 : decode cX12_lays 20 = .ok (.iload_n 3, 1) := by decide +kernel
theorem dX12_lays_21 : decode cX12_lays 21 = .ok (.aaload, 1) := by decide +kernel
theorem dX12_lays_22 : decode cX12_lays 22 = .ok (.iload 4, 2) := by decide +kernel
theorem dX12_lays_24 : decode cX12_lays 24 = .ok (.aload_n 0, 1) := by decide +kernel
theorem dX12_lays_25 : decode cX12_lays 25 = .ok (.iload_n 3, 1) := by decide +kernel
theorem dX12_lays_26 : decode cX12_lays 26 = .ok (.aaload, 1) := by decide +kernel
theorem dX12_lays_27 : decode cX12_lays 27 = .ok (.iload 4, 2) := by decide +kernel
theorem dX12_lays_29 : decode cX12_lays 29 = .ok (.iaload, 1) := by decide +kernel
theorem dX12_lays_30 : decode cX12_lays 30 = .ok (.iastore, 1) := by decide +kernel
theorem dX12_lays_31 : decode cX12_lays 31 = .ok (.iinc 4 1, 3) := by decide +kernel
theorem dX12_lays_34 : decode cX12_lays 34 = .ok (.goto (-24), 3) := by decide +kernel
theorem dX12_lays_37 : decode cX12_lays 37 = .ok (.iinc 3 1, 3) := by decide +kernel
theorem dX12_lays_40 : decode cX12_lays 40 = .ok (.goto (-38), 3) := by decide +kernel
theorem dX12_lays_43 : decode cX12_lays 43 = .ok (.return_, 1) := by decide +kernel
theorem dX12_copies_0 : decode cX12_copies 0 = .ok (.iconst 0, 1) := by decide +kernel
theorem dX12_copies_1 : decode cX12_copies 1 = .ok (.istore_n 2, 1) := by decide +kernel
theorem dX12_copies_2 : decode cX12_copies 2 = .ok (.iload_n 2, 1) := by decide +kernel
theorem dX12_copies_3 : decode cX12_copies 3 = .ok (.bipush 66, 2) := by decide +kernel
theorem dX12_copies_5 : decode cX12_copies 5 = .ok (.if_icmp .ge 15, 3) := by decide +kernel
theorem dX12_copies_8 : decode cX12_copies 8 = .ok (.aload_n 1, 1) := by decide +kernel
theorem dX12_copies_9 : decode cX12_copies 9 = .ok (.iload_n 2, 1) := by decide +kernel
theorem dX12_copies_10 : decode cX12_copies 10 = .ok (.aload_n 0, 1) := by decide +kernel
theorem dX12_copies_11 : decode cX12_copies 11 = .ok (.iload_n 2, 1) := by decide +kernel
theorem dX12_copies_12 : decode cX12_copies 12 = .ok (.iaload, 1) := by decide +kernel
theorem dX12_copies_13 : decode cX12_copies 13 = .ok (.iastore, 1) := by decide +kernel
theorem dX12_copies_14 : decode cX12_copies 14 = .ok (.iinc 2 1, 3) := by decide +kernel
theorem dX12_copies_17 : decode cX12_copies 17 = .ok (.goto (-15), 3) := by decide +kernel
theorem dX12_copies_20 : decode cX12_copies 20 = .ok (.return_, 1) := by decide +kernel
theorem dX12_beginsAnew_0 : decode cX12_beginsAnew 0 = .ok (.iconst 0, 1) := by decide +kernel
theorem dX12_beginsAnew_1 : decode cX12_beginsAnew 1 = .ok (.istore_n 1, 1) := by decide +kernel
theorem dX12_beginsAnew_2 : decode cX12_beginsAnew 2 = .ok (.iload_n 1, 1) := by decide +kernel
theorem dX12_beginsAnew_3 : decode cX12_beginsAnew 3 = .ok (.iconst 5, 1) := by decide +kernel
theorem dX12_beginsAnew_4 : decode cX12_beginsAnew 4 = .ok (.if_icmp .ge 21, 3) := by decide +kernel
theorem dX12_beginsAnew_7 : decode cX12_beginsAnew 7 = .ok (.aload_n 0, 1) := by decide +kernel
theorem dX12_beginsAnew_8 : decode cX12_beginsAnew 8 = .ok (.getfield 23, 3) := by decide +kernel
theorem dX12_beginsAnew_11 : decode cX12_beginsAnew 11 = .ok (.iload_n 1, 1) := by decide +kernel
theorem dX12_beginsAnew_12 : decode cX12_beginsAnew 12 = .ok (.aload_n 0, 1) := by decide +kernel
theorem dX12_beginsAnew_13 : decode cX12_beginsAnew 13 = .ok (.getfield 20, 3) := by decide +kernel
theorem dX12_beginsAnew_16 : decode cX12_beginsAnew 16 = .ok (.iload_n 1, 1) := by decide +kernel
theorem dX12_beginsAnew_17 : decode cX12_beginsAnew 17 = .ok (.iaload, 1) := by decide +kernel
theorem dX12_beginsAnew_18 : decode cX12_beginsAnew 18 = .ok (.iastore, 1) := by decide +kernel
theorem dX12_beginsAnew_19 : decode cX12_beginsAnew 19 = .ok (.iinc 1 1, 3) := by decide +kernel
theorem dX12_beginsAnew_22 : decode cX12_beginsAnew 22 = .ok (.goto (-20), 3) := by decide +kernel
theorem dX12_beginsAnew_25 : decode cX12_beginsAnew 25 = .ok (.aload_n 0, 1) := by decide +kernel
theorem dX12_beginsAnew_26 : decode cX12_beginsAnew 26 = .ok (.getfield 28, 3) := by decide +kernel
theorem dX12_beginsAnew_29 : decode cX12_beginsAnew 29 = .ok (.aload_n 0, 1) := by decide +kernel
theorem dX12_beginsAnew_30 : decode cX12_beginsAnew 30 = .ok (.getfield 31, 3) := by decide +kernel
theorem dX12_beginsAnew_33 : decode cX12_beginsAnew 33 = .ok (.aload_n 0, 1) := by decide +kernel
theorem dX12_beginsAnew_34 : decode cX12_beginsAnew 34 = .ok (.getfield 23, 3) := by decide +kernel
theorem dX12_beginsAnew_37 : decode cX12_beginsAnew 37 = .ok (.iconst 0, 1) := by decide +kernel
theorem dX12_beginsAnew_38 : decode cX12_beginsAnew 38 = .ok (.iaload, 1) := by decide +kernel
theorem dX12_beginsAnew_39 : decode cX12_beginsAnew 39 = .ok (.invokestatic 192, 3) := by decide +kernel
theorem dX12_beginsAnew_42 : decode cX12_beginsAnew 42 = .ok (.aload_n 0, 1) := by decide +kernel
theorem dX12_beginsAnew_43 : decode cX12_beginsAnew 43 = .ok (.getfield 34, 3) := by decide +kernel
theorem dX12_beginsAnew_46 : decode cX12_beginsAnew 46 = .ok (.aload_n 0, 1) := by decide +kernel
theorem dX12_beginsAnew_47 : decode cX12_beginsAnew 47 = .ok (.getfield 37, 3) := by decide +kernel
theorem dX12_beginsAnew_50 : decode cX12_beginsAnew 50 = .ok (.aload_n 0, 1) := by decide +kernel
theorem dX12_beginsAnew_51 : decode cX12_beginsAnew 51 = .ok (.getfield 23, 3) := by decide +kernel
theorem dX12_beginsAnew_54 : decode cX12_beginsAnew 54 = .ok (.iconst 1, 1) := by decide +kernel
theorem dX12_beginsAnew_55 : decode cX12_beginsAnew 55 = .ok (.iaload, 1) := by decide +kernel
theorem dX12_beginsAnew_56 : decode cX12_beginsAnew 56 = .ok (.invokestatic 192, 3) := by decide +kernel
theorem dX12_beginsAnew_59 : decode cX12_beginsAnew 59 = .ok (.aload_n 0, 1) := by decide +kernel
theorem dX12_beginsAnew_60 : decode cX12_beginsAnew 60 = .ok (.getfield 40, 3) := by decide +kernel
theorem dX12_beginsAnew_63 : decode cX12_beginsAnew 63 = .ok (.aload_n 0, 1) := by decide +kernel
theorem dX12_beginsAnew_64 : decode cX12_beginsAnew 64 = .ok (.getfield 43, 3) := by decide +kernel
theorem dX12_beginsAnew_67 : decode cX12_beginsAnew 67 = .ok (.aload_n 0, 1) := by decide +kernel
theorem dX12_beginsAnew_68 : decode cX12_beginsAnew 68 = .ok (.getfield 23, 3) := by decide +kernel
theorem dX12_beginsAnew_71 : decode cX12_beginsAnew 71 = .ok (.iconst 2, 1) := by decide +kernel
theorem dX12_beginsAnew_72 : decode cX12_beginsAnew 72 = .ok (.iaload, 1) := by decide +kernel
theorem dX12_beginsAnew_73 : decode cX12_beginsAnew 73 = .ok (.invokestatic 192, 3) := by decide +kernel
theorem dX12_beginsAnew_76 : decode cX12_beginsAnew 76 = .ok (.iconst 0, 1) := by decide +kernel
theorem dX12_beginsAnew_77 : decode cX12_beginsAnew 77 = .ok (.istore_n 1, 1) := by decide +kernel
theorem dX12_beginsAnew_78 : decode cX12_beginsAnew 78 = .ok (.iload_n 1, 1) := by decide +kernel
theorem dX12_beginsAnew_79 : decode cX12_beginsAnew 79 = .ok (.bipush 66, 2) := by decide +kernel
theorem dX12_beginsAnew_81 : decode cX12_beginsAnew 81 = .ok (.if_icmp .ge 37, 3) := by decide +kernel
theorem dX12_beginsAnew_84 : decode cX12_beginsAnew 84 = .ok (.aload_n 0, 1) := by decide +kernel
theorem dX12_beginsAnew_85 : decode cX12_beginsAnew 85 = .ok (.getfield 67, 3) := by decide +kernel
theorem dX12_beginsAnew_88 : decode cX12_beginsAnew 88 = .ok (.iload_n 1, 1) := by decide +kernel
theorem dX12_beginsAnew_89 : decode cX12_beginsAnew 89 = .ok (.iload_n 1, 1) := by decide +kernel
theorem dX12_beginsAnew_90 : decode cX12_beginsAnew 90 = .ok (.bipush 58, 2) := by decide +kernel
theorem dX12_beginsAnew_92 : decode cX12_beginsAnew 92 = .ok (.bipush 62, 2) := by decide +kernel
theorem dX12_beginsAnew_94 : decode cX12_beginsAnew 94 = .ok (.invokestatic 137, 3) := by decide +kernel
theorem dX12_beginsAnew_97 : decode cX12_beginsAnew 97 = .ok (.ifCond .ne 9, 3) := by decide +kernel
theorem dX12_beginsAnew_100 : decode cX12_beginsAnew 100 = .ok (.iload_n 1, 1) := by decide +kernel
theorem dX12_beginsAnew_101 : decode cX12_beginsAnew 101 = .ok (.bipush 64, 2) := by decide +kernel
theorem dX12_beginsAnew_103 : decode cX12_beginsAnew 103 = .ok (.if_icmp .ne 7, 3) := by decide +kernel
theorem dX12_beginsAnew_106 : decode cX12_beginsAnew 106 = .ok (.iconst (-1), 1) := by decide +kernel
theorem dX12_beginsAnew_107 : decode cX12_beginsAnew 107 = .ok (.goto 4, 3) := by decide +kernel
theorem dX12_beginsAnew_110 : decode cX12_beginsAnew 110 = .ok (.iconst 0, 1) := by decide +kernel
theorem dX12_beginsAnew_111 : decode cX12_beginsAnew 111 = .ok (.iastore, 1) := by decide +kernel
theorem dX12_beginsAnew_112 : decode cX12_beginsAnew 112 = .ok (.iinc 1 1, 3) := by decide +kernel
theorem dX12_beginsAnew_115 : decode cX12_beginsAnew 115 = .ok (.goto (-37), 3) := by decide +kernel
theorem dX12_beginsAnew_118 : decode cX12_beginsAnew 118 = .ok (.aload_n 0, 1) := by decide +kernel
theorem dX12_beginsAnew_119 : decode cX12_beginsAnew 119 = .ok (.iconst 0, 1) := by decide +kernel
theorem dX12_beginsAnew_120 : decode cX12_beginsAnew 120 = .ok (.putfield 196, 3) := by decide +kernel
theorem dX12_beginsAnew_123 : decode cX12_beginsAnew 123 = .ok (.aload_n 0, 1) := by decide +kernel
theorem dX12_beginsAnew_124 : decode cX12_beginsAnew 124 = .ok (.iconst 0, 1) := by decide +kernel
theorem dX12_beginsAnew_125 : decode cX12_beginsAnew 125 = .ok (.putfield 199, 3) := by decide +kernel
theorem dX12_beginsAnew_128 : decode cX12_beginsAnew 128 = .ok (.aload_n 0, 1) := by decide +kernel
theorem dX12_beginsAnew_129 : decode cX12_beginsAnew 129 = .ok (.iconst 0, 1) := by decide +kernel
theorem dX12_beginsAnew_130 : decode cX12_beginsAnew 130 = .ok (.putfield 202, 3) := by decide +kernel
theorem dX12_beginsAnew_133 : decode cX12_beginsAnew 133 = .ok (.aload_n 0, 1) := by decide +kernel
theorem dX12_beginsAnew_134 : decode cX12_beginsAnew 134 = .ok (.iconst 0, 1) := by decide +kernel
theorem dX12_beginsAnew_135 : decode cX12_beginsAnew 135 = .ok (.putfield 205, 3) := by decide +kernel
theorem dX12_beginsAnew_138 : decode cX12_beginsAnew 138 = .ok (.aload_n 0, 1) := by decide +kernel
theorem dX12_beginsAnew_139 : decode cX12_beginsAnew 139 = .ok (.iconst 0, 1) := by decide +kernel
theorem dX12_beginsAnew_140 : decode cX12_beginsAnew 140 = .ok (.putfield 208, 3) := by decide +kernel
theorem dX12_beginsAnew_143 : decode cX12_beginsAnew 143 = .ok (.return_, 1) := by decide +kernel
theorem dX12_notes_0 : decode cX12_notes 0 = .ok (.aload_n 0, 1) := by decide +kernel
theorem dX12_notes_1 : decode cX12_notes 1 = .ok (.getfield 119, 3) := by decide +kernel
theorem dX12_notes_4 : decode cX12_notes 4 = .ok (.ifCond .eq 4, 3) := by decide +kernel
theorem dX12_notes_7 : decode cX12_notes 7 = .ok (.return_, 1) := by decide +kernel
theorem dX12_notes_8 : decode cX12_notes 8 = .ok (.aload_n 0, 1) := by decide +kernel
theorem dX12_notes_9 : decode cX12_notes 9 = .ok (.getfield 49, 3) := by decide +kernel
theorem dX12_notes_12 : decode cX12_notes 12 = .ok (.aload_n 0, 1) := by decide +kernel
theorem dX12_notes_13 : decode cX12_notes 13 = .ok (.getfield 211, 3) := by decide +kernel
theorem dX12_notes_16 : decode cX12_notes 16 = .ok (.aaload, 1) := by decide +kernel
theorem dX12_notes_17 : decode cX12_notes 17 = .ok (.iconst 0, 1) := by decide +kernel
theorem dX12_notes_18 : decode cX12_notes 18 = .ok (.iload_n 1, 1) := by decide +kernel
theorem dX12_notes_19 : decode cX12_notes 19 = .ok (.iastore, 1) := by decide +kernel
theorem dX12_notes_20 : decode cX12_notes 20 = .ok (.aload_n 0, 1) := by decide +kernel
theorem dX12_notes_21 : decode cX12_notes 21 = .ok (.getfield 49, 3) := by decide +kernel
theorem dX12_notes_24 : decode cX12_notes 24 = .ok (.aload_n 0, 1) := by decide +kernel
theorem dX12_notes_25 : decode cX12_notes 25 = .ok (.getfield 211, 3) := by decide +kernel
theorem dX12_notes_28 : decode cX12_notes 28 = .ok (.aaload, 1) := by decide +kernel
theorem dX12_notes_29 : decode cX12_notes 29 = .ok (.iconst 1, 1) := by decide +kernel
theorem dX12_notes_30 : decode cX12_notes 30 = .ok (.iload_n 2, 1) := by decide +kernel
theorem dX12_notes_31 : decode cX12_notes 31 = .ok (.iastore, 1) := by decide +kernel
theorem dX12_notes_32 : decode cX12_notes 32 = .ok (.aload_n 0, 1) := by decide +kernel
theorem dX12_notes_33 : decode cX12_notes 33 = .ok (.dup, 1) := by decide +kernel
