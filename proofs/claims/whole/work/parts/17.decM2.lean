theorem dX11_ride_61 : decode cX11_ride 61 = .ok (.invokevirtual 358, 3) := by decide +kernel
theorem dX11_ride_64 : decode cX11_ride 64 = .ok (.goto 8, 3) := by decide +kernel
theorem dX11_ride_67 : decode cX11_ride 67 = .ok (.aload_n 0, 1) := by decide +kernel
theorem dX11_ride_68 : decode cX11_ride 68 = .ok (.iconst 1, 1) := by decide +kernel
theorem dX11_ride_69 : decode cX11_ride 69 = .ok (.invokevirtual 216, 3) := by decide +kernel
theorem dX11_ride_72 : decode cX11_ride 72 = .ok (.ireturn, 1) := by decide +kernel
theorem dX11_lifts_0 : decode cX11_lifts 0 = .ok (.aload_n 0, 1) := by decide +kernel
theorem dX11_lifts_1 : decode cX11_lifts 1 = .ok (.iconst 1, 1) := by decide +kernel
theorem dX11_lifts_2 : decode cX11_lifts 2 = .ok (.invokevirtual 318, 3) := by decide +kernel
theorem dX11_lifts_5 : decode cX11_lifts 5 = .ok (.ifCond .ne 5, 3) := by decide +kernel
theorem dX11_lifts_8 : decode cX11_lifts 8 = .ok (.iconst (-1), 1) := by decide +kernel
theorem dX11_lifts_9 : decode cX11_lifts 9 = .ok (.ireturn, 1) := by decide +kernel
theorem dX11_lifts_10 : decode cX11_lifts 10 = .ok (.iconst 0, 1) := by decide +kernel
theorem dX11_lifts_11 : decode cX11_lifts 11 = .ok (.istore_n 1, 1) := by decide +kernel
theorem dX11_lifts_12 : decode cX11_lifts 12 = .ok (.iconst 1, 1) := by decide +kernel
theorem dX11_lifts_13 : decode cX11_lifts 13 = .ok (.istore_n 2, 1) := by decide +kernel
theorem dX11_lifts_14 : decode cX11_lifts 14 = .ok (.iload_n 2, 1) := by decide +kernel
theorem dX11_lifts_15 : decode cX11_lifts 15 = .ok (.aload_n 0, 1) := by decide +kernel
theorem dX11_lifts_16 : decode cX11_lifts 16 = .ok (.getfield 17, 3) := by decide +kernel
theorem dX11_lifts_19 : decode cX11_lifts 19 = .ok (.bipush 103, 2) := by decide +kernel
theorem dX11_lifts_21 : decode cX11_lifts 21 = .ok (.iaload, 1) := by decide +kernel
theorem dX11_lifts_22 : decode cX11_lifts 22 = .ok (.if_icmp .ge 25, 3) := by decide +kernel
theorem dX11_lifts_25 : decode cX11_lifts 25 = .ok (.iload_n 1, 1) := by decide +kernel
theorem dX11_lifts_26 : decode cX11_lifts 26 = .ok (.aload_n 0, 1) := by decide +kernel
theorem dX11_lifts_27 : decode cX11_lifts 27 = .ok (.iload_n 2, 1) := by decide +kernel
theorem dX11_lifts_28 : decode cX11_lifts 28 = .ok (.invokevirtual 352, 3) := by decide +kernel
theorem dX11_lifts_31 : decode cX11_lifts 31 = .ok (.ifCond .le 7, 3) := by decide +kernel
theorem dX11_lifts_34 : decode cX11_lifts 34 = .ok (.iconst 1, 1) := by decide +kernel
theorem dX11_lifts_35 : decode cX11_lifts 35 = .ok (.goto 4, 3) := by decide +kernel
theorem dX11_lifts_38 : decode cX11_lifts 38 = .ok (.iconst 0, 1) := by decide +kernel
theorem dX11_lifts_39 : decode cX11_lifts 39 = .ok (.iadd, 1) := by decide +kernel
theorem dX11_lifts_40 : decode cX11_lifts 40 = .ok (.istore_n 1, 1) := by decide +kernel
theorem dX11_lifts_41 : decode cX11_lifts 41 = .ok (.iinc 2 1, 3) := by decide +kernel
theorem dX11_lifts_44 : decode cX11_lifts 44 = .ok (.goto (-30), 3) := by decide +kernel
theorem dX11_lifts_47 : decode cX11_lifts 47 = .ok (.iload_n 1, 1) := by decide +kernel
theorem dX11_lifts_48 : decode cX11_lifts 48 = .ok (.ireturn, 1) := by decide +kernel
theorem dX11_rides_0 : decode cX11_rides 0 = .ok (.aload_n 0, 1) := by decide +kernel
theorem dX11_rides_1 : decode cX11_rides 1 = .ok (.aload_n 0, 1) := by decide +kernel
theorem dX11_rides_2 : decode cX11_rides 2 = .ok (.getfield 223, 3) := by decide +kernel
theorem dX11_rides_5 : decode cX11_rides 5 = .ok (.ifCond .eq 23, 3) := by decide +kernel
theorem dX11_rides_8 : decode cX11_rides 8 = .ok (.iload_n 1, 1) := by decide +kernel
theorem dX11_rides_9 : decode cX11_rides 9 = .ok (.iconst 0, 1) := by decide +kernel
theorem dX11_rides_10 : decode cX11_rides 10 = .ok (.aload_n 0, 1) := by decide +kernel
theorem dX11_rides_11 : decode cX11_rides 11 = .ok (.getfield 17, 3) := by decide +kernel
theorem dX11_rides_14 : decode cX11_rides 14 = .ok (.iconst 2, 1) := by decide +kernel
theorem dX11_rides_15 : decode cX11_rides 15 = .ok (.iaload, 1) := by decide +kernel
theorem dX11_rides_16 : decode cX11_rides 16 = .ok (.iconst 1, 1) := by decide +kernel
theorem dX11_rides_17 : decode cX11_rides 17 = .ok (.isub, 1) := by decide +kernel
theorem dX11_rides_18 : decode cX11_rides 18 = .ok (.invokestatic 128, 3) := by decide +kernel
theorem dX11_rides_21 : decode cX11_rides 21 = .ok (.ifCond .eq 7, 3) := by decide +kernel
theorem dX11_rides_24 : decode cX11_rides 24 = .ok (.iconst 1, 1) := by decide +kernel
theorem dX11_rides_25 : decode cX11_rides 25 = .ok (.goto 4, 3) := by decide +kernel
theorem dX11_rides_28 : decode cX11_rides 28 = .ok (.iconst 0, 1) := by decide +kernel
theorem dX11_rides_29 : decode cX11_rides 29 = .ok (.invokevirtual 318, 3) := by decide +kernel
theorem dX11_rides_32 : decode cX11_rides 32 = .ok (.ifCond .ne 5, 3) := by decide +kernel
theorem dX11_rides_35 : decode cX11_rides 35 = .ok (.iconst (-1), 1) := by decide +kernel
theorem dX11_rides_36 : decode cX11_rides 36 = .ok (.ireturn, 1) := by decide +kernel
theorem dX11_rides_37 : decode cX11_rides 37 = .ok (.iconst 0, 1) := by decide +kernel
theorem dX11_rides_38 : decode cX11_rides 38 = .ok (.istore_n 2, 1) := by decide +kernel
theorem dX11_rides_39 : decode cX11_rides 39 = .ok (.iload_n 2, 1) := by decide +kernel
theorem dX11_rides_40 : decode cX11_rides 40 = .ok (.aload_n 0, 1) := by decide +kernel
theorem dX11_rides_41 : decode cX11_rides 41 = .ok (.getfield 17, 3) := by decide +kernel
theorem dX11_rides_44 : decode cX11_rides 44 = .ok (.bipush 103, 2) := by decide +kernel
theorem dX11_rides_46 : decode cX11_rides 46 = .ok (.iaload, 1) := by decide +kernel
theorem dX11_rides_47 : decode cX11_rides 47 = .ok (.if_icmp .ge 45, 3) := by decide +kernel
theorem dX11_rides_50 : decode cX11_rides 50 = .ok (.iconst 0, 1) := by decide +kernel
theorem dX11_rides_51 : decode cX11_rides 51 = .ok (.istore_n 3, 1) := by decide +kernel
theorem dX11_rides_52 : decode cX11_rides 52 = .ok (.iload_n 3, 1) := by decide +kernel
theorem dX11_rides_53 : decode cX11_rides 53 = .ok (.aload_n 0, 1) := by decide +kernel
theorem dX11_rides_54 : decode cX11_rides 54 = .ok (.getfield 90, 3) := by decide +kernel
theorem dX11_rides_57 : decode cX11_rides 57 = .ok (.aload_n 0, 1) := by decide +kernel
theorem dX11_rides_58 : decode cX11_rides 58 = .ok (.iload_n 2, 1) := by decide +kernel
theorem dX11_rides_59 : decode cX11_rides 59 = .ok (.invokevirtual 340, 3) := by decide +kernel
theorem dX11_rides_62 : decode cX11_rides 62 = .ok (.iaload, 1) := by decide +kernel
theorem dX11_rides_63 : decode cX11_rides 63 = .ok (.if_icmp .ge 23, 3) := by decide +kernel
theorem dX11_rides_66 : decode cX11_rides 66 = .ok (.aload_n 0, 1) := by decide +kernel
theorem dX11_rides_67 : decode cX11_rides 67 = .ok (.iload_n 2, 1) := by decide +kernel
theorem dX11_rides_68 : decode cX11_rides 68 = .ok (.iload_n 3, 1) := by decide +kernel
theorem dX11_rides_69 : decode cX11_rides 69 = .ok (.invokevirtual 358, 3) := by decide +kernel
theorem dX11_rides_72 : decode cX11_rides 72 = .ok (.iconst 2, 1) := by decide +kernel
theorem dX11_rides_73 : decode cX11_rides 73 = .ok (.idiv, 1) := by decide +kernel
theorem dX11_rides_74 : decode cX11_rides 74 = .ok (.iload_n 1, 1) := by decide +kernel
theorem dX11_rides_75 : decode cX11_rides 75 = .ok (.if_icmp .ne 5, 3) := by decide +kernel
theorem dX11_rides_78 : decode cX11_rides 78 = .ok (.iload_n 2, 1) := by decide +kernel
theorem dX11_rides_79 : decode cX11_rides 79 = .ok (.ireturn, 1) := by decide +kernel
theorem dX11_rides_80 : decode cX11_rides 80 = .ok (.iinc 3 1, 3) := by decide +kernel
theorem dX11_rides_83 : decode cX11_rides 83 = .ok (.goto (-31), 3) := by decide +kernel
theorem dX11_rides_86 : decode cX11_rides 86 = .ok (.iinc 2 1, 3) := by decide +kernel
theorem dX11_rides_89 : decode cX11_rides 89 = .ok (.goto (-50), 3) := by decide +kernel
theorem dX11_rides_92 : decode cX11_rides 92 = .ok (.iconst (-1), 1) := by decide +kernel
theorem dX11_rides_93 : decode cX11_rides 93 = .ok (.ireturn, 1) := by decide +kernel
theorem dX11_travel_0 : decode cX11_travel 0 = .ok (.aload_n 0, 1) := by decide +kernel
theorem dX11_travel_1 : decode cX11_travel 1 = .ok (.iconst 1, 1) := by decide +kernel
theorem dX11_travel_2 : decode cX11_travel 2 = .ok (.invokevirtual 318, 3) := by decide +kernel
theorem dX11_travel_5 : decode cX11_travel 5 = .ok (.ifCond .eq 10, 3) := by decide +kernel
theorem dX11_travel_8 : decode cX11_travel 8 = .ok (.aload_n 0, 1) := by decide +kernel
theorem dX11_travel_9 : decode cX11_travel 9 = .ok (.invokevirtual 361, 3) := by decide +kernel
theorem dX11_travel_12 : decode cX11_travel 12 = .ok (.goto 4, 3) := by decide +kernel
theorem dX11_travel_15 : decode cX11_travel 15 = .ok (.iconst (-1), 1) := by decide +kernel
theorem dX11_travel_16 : decode cX11_travel 16 = .ok (.ireturn, 1) := by decide +kernel
theorem dX11_laysAside_0 : decode cX11_laysAside 0 = .ok (.aload_n 0, 1) := by decide +kernel
theorem dX11_laysAside_1 : decode cX11_laysAside 1 = .ok (.getfield 17, 3) := by decide +kernel
theorem dX11_laysAside_4 : decode cX11_laysAside 4 = .ok (.iconst 0, 1) := by decide +kernel
theorem dX11_laysAside_5 : decode cX11_laysAside 5 = .ok (.aload_n 0, 1) := by decide +kernel
theorem dX11_laysAside_6 : decode cX11_laysAside 6 = .ok (.getfield 23, 3) := by decide +kernel
theorem dX11_laysAside_9 : decode cX11_laysAside 9 = .ok (.iconst 0, 1) := by decide +kernel
theorem dX11_laysAside_10 : decode cX11_laysAside 10 = .ok (.invokestatic 219, 3) := by decide +kernel
theorem dX11_laysAside_13 : decode cX11_laysAside 13 = .ok (.return_, 1) := by decide +kernel
theorem dX11_takesBack_0 : decode cX11_takesBack 0 = .ok (.aload_n 0, 1) := by decide +kernel
theorem dX11_takesBack_1 : decode cX11_takesBack 1 = .ok (.getfield 23, 3) := by decide +kernel
theorem dX11_takesBack_4 : decode cX11_takesBack 4 = .ok (.iconst 0, 1) := by decide +kernel
theorem dX11_takesBack_5 : decode cX11_takesBack 5 = .ok (.aload_n 0, 1) := by decide +kernel
theorem dX11_takesBack_6 : decode cX11_takesBack 6 = .ok (.getfield 17, 3) := by decide +kernel
theorem dX11_takesBack_9 : decode cX11_takesBack 9 = .ok (.iconst 0, 1) := by decide +kernel
theorem dX11_takesBack_10 : decode cX11_takesBack 10 = .ok (.invokestatic 219, 3) := by decide +kernel
theorem dX11_takesBack_13 : decode cX11_takesBack 13 = .ok (.return_, 1) := by decide +kernel
theorem dX11_started_0 : decode cX11_started 0 = .ok (.aload_n 0, 1) := by decide +kernel
theorem dX11_started_1 : decode cX11_started 1 = .ok (.iconst 1, 1) := by decide +kernel
theorem dX11_started_2 : decode cX11_started 2 = .ok (.invokevirtual 318, 3) := by decide +kernel
theorem dX11_started_5 : decode cX11_started 5 = .ok (.ifCond .ne 5, 3) := by decide +kernel
theorem dX11_started_8 : decode cX11_started 8 = .ok (.iconst (-1), 1) := by decide +kernel
theorem dX11_started_9 : decode cX11_started 9 = .ok (.ireturn, 1) := by decide +kernel
theorem dX11_started_10 : decode cX11_started 10 = .ok (.aload_n 0, 1) := by decide +kernel
theorem dX11_started_11 : decode cX11_started 11 = .ok (.invokevirtual 364, 3) := by decide +kernel
theorem dX11_started_14 : decode cX11_started 14 = .ok (.aload_n 0, 1) := by decide +kernel
theorem dX11_started_15 : decode cX11_started 15 = .ok (.invokevirtual 229, 3) := by decide +kernel
theorem dX11_started_18 : decode cX11_started 18 = .ok (.aload_n 0, 1) := by decide +kernel
theorem dX11_started_19 : decode cX11_started 19 = .ok (.invokevirtual 361, 3) := by decide +kernel
theorem dX11_started_22 : decode cX11_started 22 = .ok (.istore_n 1, 1) := by decide +kernel
theorem dX11_started_23 : decode cX11_started 23 = .ok (.aload_n 0, 1) := by decide +kernel
theorem dX11_started_24 : decode cX11_started 24 = .ok (.invokevirtual 367, 3) := by decide +kernel
theorem dX11_started_27 : decode cX11_started 27 = .ok (.iload_n 1, 1) := by decide +kernel
theorem dX11_started_28 : decode cX11_started 28 = .ok (.ireturn, 1) := by decide +kernel
theorem dX11_exchanges_0 : decode cX11_exchanges 0 = .ok (.iload_n 1, 1) := by decide +kernel
theorem dX11_exchanges_1 : decode cX11_exchanges 1 = .ok (.istore_n 3, 1) := by decide +kernel
theorem dX11_exchanges_2 : decode cX11_exchanges 2 = .ok (.iload_n 2, 1) := by decide +kernel
theorem dX11_exchanges_3 : decode cX11_exchanges 3 = .ok (.istore 4, 2) := by decide +kernel
theorem dX11_exchanges_5 : decode cX11_exchanges 5 = .ok (.iload_n 3, 1) := by decide +kernel
theorem dX11_exchanges_6 : decode cX11_exchanges 6 = .ok (.iload 4, 2) := by decide +kernel
theorem dX11_exchanges_8 : decode cX11_exchanges 8 = .ok (.if_icmp .gt 104, 3) := by decide +kernel
theorem dX11_exchanges_11 : decode cX11_exchanges 11 = .ok (.aload_n 0, 1) := by decide +kernel
theorem dX11_exchanges_12 : decode cX11_exchanges 12 = .ok (.getfield 17, 3) := by decide +kernel
theorem dX11_exchanges_15 : decode cX11_exchanges 15 = .ok (.bipush 104, 2) := by decide +kernel
theorem dX11_exchanges_17 : decode cX11_exchanges 17 = .ok (.iload_n 3, 1) := by decide +kernel
theorem dX11_exchanges_18 : decode cX11_exchanges 18 = .ok (.iadd, 1) := by decide +kernel
theorem dX11_exchanges_19 : decode cX11_exchanges 19 = .ok (.iaload, 1) := by decide +kernel
theorem dX11_exchanges_20 : decode cX11_exchanges 20 = .ok (.istore 5, 2) := by decide +kernel
theorem dX11_exchanges_22 : decode cX11_exchanges 22 = .ok (.aload_n 0, 1) := by decide +kernel
theorem dX11_exchanges_23 : decode cX11_exchanges 23 = .ok (.getfield 17, 3) := by decide +kernel
theorem dX11_exchanges_26 : decode cX11_exchanges 26 = .ok (.sipush 128, 3) := by decide +kernel
theorem dX11_exchanges_29 : decode cX11_exchanges 29 = .ok (.iload_n 3, 1) := by decide +kernel
theorem dX11_exchanges_30 : decode cX11_exchanges 30 = .ok (.iadd, 1) := by decide +kernel
theorem dX11_exchanges_31 : decode cX11_exchanges 31 = .ok (.iaload, 1) := by decide +kernel
theorem dX11_exchanges_32 : decode cX11_exchanges 32 = .ok (.istore 6, 2) := by decide +kernel
theorem dX11_exchanges_34 : decode cX11_exchanges 34 = .ok (.aload_n 0, 1) := by decide +kernel
theorem dX11_exchanges_35 : decode cX11_exchanges 35 = .ok (.getfield 17, 3) := by decide +kernel
theorem dX11_exchanges_38 : decode cX11_exchanges 38 = .ok (.bipush 104, 2) := by decide +kernel
theorem dX11_exchanges_40 : decode cX11_exchanges 40 = .ok (.iload_n 3, 1) := by decide +kernel
theorem dX11_exchanges_41 : decode cX11_exchanges 41 = .ok (.iadd, 1) := by decide +kernel
theorem dX11_exchanges_42 : decode cX11_exchanges 42 = .ok (.aload_n 0, 1) := by decide +kernel
theorem dX11_exchanges_43 : decode cX11_exchanges 43 = .ok (.getfield 17, 3) := by decide +kernel
theorem dX11_exchanges_46 : decode cX11_exchanges 46 = .ok (.bipush 104, 2) := by decide +kernel
theorem dX11_exchanges_48 : decode cX11_exchanges 48 = .ok (.iload 4, 2) := by decide +kernel
theorem dX11_exchanges_50 : decode cX11_exchanges 50 = .ok (.iadd, 1) := by decide +kernel
theorem dX11_exchanges_51 : decode cX11_exchanges 51 = .ok (.iaload, 1) := by decide +kernel
theorem dX11_exchanges_52 : decode cX11_exchanges 52 = .ok (.iastore, 1) := by decide +kernel
theorem dX11_exchanges_53 : decode cX11_exchanges 53 = .ok (.aload_n 0, 1) := by decide +kernel
theorem dX11_exchanges_54 : decode cX11_exchanges 54 = .ok (.getfield 17, 3) := by decide +kernel
theorem dX11_exchanges_57 : decode cX11_exchanges 57 = .ok (.sipush 128, 3) := by decide +kernel
theorem dX11_exchanges_60 : decode cX11_exchanges 60 = .ok (.iload_n 3, 1) := by decide +kernel
theorem dX11_exchanges_61 : decode cX11_exchanges 61 = .ok (.iadd, 1) := by decide +kernel
theorem dX11_exchanges_62 : decode cX11_exchanges 62 = .ok (.iconst 1, 1) := by decide +kernel
theorem dX11_exchanges_63 : decode cX11_exchanges 63 = .ok (.aload_n 0, 1) := by decide +kernel
theorem dX11_exchanges_64 : decode cX11_exchanges 64 = .ok (.getfield 17, 3) := by decide +kernel
theorem dX11_exchanges_67 : decode cX11_exchanges 67 = .ok (.sipush 128, 3) := by decide +kernel
theorem dX11_exchanges_70 : decode cX11_exchanges 70 = .ok (.iload 4, 2) := by decide +kernel
theorem dX11_exchanges_72 : decode cX11_exchanges 72 = .ok (.iadd, 1) := by decide +kernel
theorem dX11_exchanges_73 : decode cX11_exchanges 73 = .ok (.iaload, 1) := by decide +kernel
theorem dX11_exchanges_74 : decode cX11_exchanges 74 = .ok (.isub, 1) := by decide +kernel
theorem dX11_exchanges_75 : decode cX11_exchanges 75 = .ok (.iastore, 1) := by decide +kernel
theorem dX11_exchanges_76 : decode cX11_exchanges 76 = .ok (.aload_n 0, 1) := by decide +kernel
theorem dX11_exchanges_77 : decode cX11_exchanges 77 = .ok (.getfield 17, 3) := by decide +kernel
theorem dX11_exchanges_80 : decode cX11_exchanges 80 = .ok (.bipush 104, 2) := by decide +kernel
theorem dX11_exchanges_82 : decode cX11_exchanges 82 = .ok (.iload 4, 2) := by decide +kernel
theorem dX11_exchanges_84 : decode cX11_exchanges 84 = .ok (.iadd, 1) := by decide +kernel
theorem dX11_exchanges_85 : decode cX11_exchanges 85 = .ok (.iload 5, 2) := by decide +kernel
theorem dX11_exchanges_87 : decode cX11_exchanges 87 = .ok (.iastore, 1) := by decide +kernel
theorem dX11_exchanges_88 : decode cX11_exchanges 88 = .ok (.aload_n 0, 1) := by decide +kernel
theorem dX11_exchanges_89 : decode cX11_exchanges 89 = .ok (.getfield 17, 3) := by decide +kernel
theorem dX11_exchanges_92 : decode cX11_exchanges 92 = .ok (.sipush 128, 3) := by decide +kernel
theorem dX11_exchanges_95 : decode cX11_exchanges 95 = .ok (.iload 4, 2) := by decide +kernel
theorem dX11_exchanges_97 : decode cX11_exchanges 97 = .ok (.iadd, 1) := by decide +kernel
theorem dX11_exchanges_98 : decode cX11_exchanges 98 = .ok (.iconst 1, 1) := by decide +kernel
theorem dX11_exchanges_99 : decode cX11_exchanges 99 = .ok (.iload 6, 2) := by decide +kernel
theorem dX11_exchanges_101 : decode cX11_exchanges 101 = .ok (.isub, 1) := by decide +kernel
theorem dX11_exchanges_102 : decode cX11_exchanges 102 = .ok (.iastore, 1) := by decide +kernel
theorem dX11_exchanges_103 : decode cX11_exchanges 103 = .ok (.iinc 3 1, 3) := by decide +kernel
theorem dX11_exchanges_106 : decode cX11_exchanges 106 = .ok (.iinc 4 (-1), 3) := by decide +kernel
theorem dX11_exchanges_109 : decode cX11_exchanges 109 = .ok (.goto (-104), 3) := by decide +kernel
theorem dX11_exchanges_112 : decode cX11_exchanges 112 = .ok (.return_, 1) := by decide +kernel
theorem dX11_isBettered_0 : decode cX11_isBettered 0 = .ok (.aload_n 0, 1) := by decide +kernel
theorem dX11_isBettered_1 : decode cX11_isBettered 1 = .ok (.invokevirtual 361, 3) := by decide +kernel
theorem dX11_isBettered_4 : decode cX11_isBettered 4 = .ok (.istore_n 1, 1) := by decide +kernel
theorem dX11_isBettered_5 : decode cX11_isBettered 5 = .ok (.iconst 0, 1) := by decide +kernel
theorem dX11_isBettered_6 : decode cX11_isBettered 6 = .ok (.istore_n 2, 1) := by decide +kernel
theorem dX11_isBettered_7 : decode cX11_isBettered 7 = .ok (.iload_n 2, 1) := by decide +kernel
theorem dX11_isBettered_8 : decode cX11_isBettered 8 = .ok (.aload_n 0, 1) := by decide +kernel
theorem dX11_isBettered_9 : decode cX11_isBettered 9 = .ok (.getfield 17, 3) := by decide +kernel
theorem dX11_isBettered_12 : decode cX11_isBettered 12 = .ok (.bipush 103, 2) := by decide +kernel
theorem dX11_isBettered_14 : decode cX11_isBettered 14 = .ok (.iaload, 1) := by decide +kernel
theorem dX11_isBettered_15 : decode cX11_isBettered 15 = .ok (.if_icmp .ge 50, 3) := by decide +kernel
theorem dX11_isBettered_18 : decode cX11_isBettered 18 = .ok (.iload_n 2, 1) := by decide +kernel
theorem dX11_isBettered_19 : decode cX11_isBettered 19 = .ok (.istore_n 3, 1) := by decide +kernel
theorem dX11_isBettered_20 : decode cX11_isBettered 20 = .ok (.iload_n 3, 1) := by decide +kernel
theorem dX11_isBettered_21 : decode cX11_isBettered 21 = .ok (.aload_n 0, 1) := by decide +kernel
theorem dX11_isBettered_22 : decode cX11_isBettered 22 = .ok (.getfield 17, 3) := by decide +kernel
theorem dX11_isBettered_25 : decode cX11_isBettered 25 = .ok (.bipush 103, 2) := by decide +kernel
theorem dX11_isBettered_27 : decode cX11_isBettered 27 = .ok (.iaload, 1) := by decide +kernel
theorem dX11_isBettered_28 : decode cX11_isBettered 28 = .ok (.if_icmp .ge 31, 3) := by decide +kernel
theorem dX11_isBettered_31 : decode cX11_isBettered 31 = .ok (.aload_n 0, 1) := by decide +kernel
theorem dX11_isBettered_32 : decode cX11_isBettered 32 = .ok (.iload_n 2, 1) := by decide +kernel
theorem dX11_isBettered_33 : decode cX11_isBettered 33 = .ok (.iload_n 3, 1) := by decide +kernel
theorem dX11_isBettered_34 : decode cX11_isBettered 34 = .ok (.invokevirtual 370, 3) := by decide +kernel
theorem dX11_isBettered_37 : decode cX11_isBettered 37 = .ok (.aload_n 0, 1) := by decide +kernel
theorem dX11_isBettered_38 : decode cX11_isBettered 38 = .ok (.invokevirtual 361, 3) := by decide +kernel
theorem dX11_isBettered_41 : decode cX11_isBettered 41 = .ok (.iload_n 1, 1) := by decide +kernel
theorem dX11_isBettered_42 : decode cX11_isBettered 42 = .ok (.if_icmp .ge 5, 3) := by decide +kernel
theorem dX11_isBettered_45 : decode cX11_isBettered 45 = .ok (.iconst 1, 1) := by decide +kernel
theorem dX11_isBettered_46 : decode cX11_isBettered 46 = .ok (.ireturn, 1) := by decide +kernel
theorem dX11_isBettered_47 : decode cX11_isBettered 47 = .ok (.aload_n 0, 1) := by decide +kernel
theorem dX11_isBettered_48 : decode cX11_isBettered 48 = .ok (.iload_n 2, 1) := by decide +kernel
theorem dX11_isBettered_49 : decode cX11_isBettered 49 = .ok (.iload_n 3, 1) := by decide +kernel
theorem dX11_isBettered_50 : decode cX11_isBettered 50 = .ok (.invokevirtual 370, 3) := by decide +kernel
theorem dX11_isBettered_53 : decode cX11_isBettered 53 = .ok (.iinc 3 1, 3) := by decide +kernel
theorem dX11_isBettered_56 : decode cX11_isBettered 56 = .ok (.goto (-36), 3) := by decide +kernel
theorem dX11_isBettered_59 : decode cX11_isBettered 59 = .ok (.iinc 2 1, 3) := by decide +kernel
theorem dX11_isBettered_62 : decode cX11_isBettered 62 = .ok (.goto (-55), 3) := by decide +kernel
theorem dX11_isBettered_65 : decode cX11_isBettered 65 = .ok (.iconst 0, 1) := by decide +kernel
theorem dX11_isBettered_66 : decode cX11_isBettered 66 = .ok (.ireturn, 1) := by decide +kernel
theorem dX11_betters_0 : decode cX11_betters 0 = .ok (.iconst 0, 1) := by decide +kernel
theorem dX11_betters_1 : decode cX11_betters 1 = .ok (.istore_n 1, 1) := by decide +kernel
theorem dX11_betters_2 : decode cX11_betters 2 = .ok (.iload_n 1, 1) := by decide +kernel
theorem dX11_betters_3 : decode cX11_betters 3 = .ok (.sipush 200, 3) := by decide +kernel
theorem dX11_betters_6 : decode cX11_betters 6 = .ok (.if_icmp .ge 16, 3) := by decide +kernel
theorem dX11_betters_9 : decode cX11_betters 9 = .ok (.aload_n 0, 1) := by decide +kernel
theorem dX11_betters_10 : decode cX11_betters 10 = .ok (.invokevirtual 374, 3) := by decide +kernel
theorem dX11_betters_13 : decode cX11_betters 13 = .ok (.ifCond .eq 9, 3) := by decide +kernel
theorem dX11_betters_16 : decode cX11_betters 16 = .ok (.iinc 1 1, 3) := by decide +kernel
theorem dX11_betters_19 : decode cX11_betters 19 = .ok (.goto (-17), 3) := by decide +kernel
theorem dX11_betters_22 : decode cX11_betters 22 = .ok (.iload_n 1, 1) := by decide +kernel
theorem dX11_betters_23 : decode cX11_betters 23 = .ok (.ireturn, 1) := by decide +kernel
theorem dX11_better_0 : decode cX11_better 0 = .ok (.aload_n 0, 1) := by decide +kernel
theorem dX11_better_1 : decode cX11_better 1 = .ok (.iload_n 1, 1) := by decide +kernel
theorem dX11_better_2 : decode cX11_better 2 = .ok (.iconst 0, 1) := by decide +kernel
theorem dX11_better_3 : decode cX11_better 3 = .ok (.iconst 1, 1) := by decide +kernel
theorem dX11_better_4 : decode cX11_better 4 = .ok (.invokestatic 128, 3) := by decide +kernel
theorem dX11_better_7 : decode cX11_better 7 = .ok (.invokevirtual 318, 3) := by decide +kernel
theorem dX11_better_10 : decode cX11_better 10 = .ok (.ifCond .ne 5, 3) := by decide +kernel
theorem dX11_better_13 : decode cX11_better 13 = .ok (.iconst (-1), 1) := by decide +kernel
theorem dX11_better_14 : decode cX11_better 14 = .ok (.ireturn, 1) := by decide +kernel
theorem dX11_better_15 : decode cX11_better 15 = .ok (.aload_n 0, 1) := by decide +kernel
theorem dX11_better_16 : decode cX11_better 16 = .ok (.invokevirtual 364, 3) := by decide +kernel
theorem dX11_better_19 : decode cX11_better 19 = .ok (.aload_n 0, 1) := by decide +kernel
theorem dX11_better_20 : decode cX11_better 20 = .ok (.invokevirtual 377, 3) := by decide +kernel
theorem dX11_better_23 : decode cX11_better 23 = .ok (.istore_n 2, 1) := by decide +kernel
theorem dX11_better_24 : decode cX11_better 24 = .ok (.aload_n 0, 1) := by decide +kernel
theorem dX11_better_25 : decode cX11_better 25 = .ok (.invokevirtual 361, 3) := by decide +kernel
theorem dX11_better_28 : decode cX11_better 28 = .ok (.istore_n 3, 1) := by decide +kernel
theorem dX11_better_29 : decode cX11_better 29 = .ok (.aload_n 0, 1) := by decide +kernel
theorem dX11_better_30 : decode cX11_better 30 = .ok (.invokevirtual 367, 3) := by decide +kernel
theorem dX11_better_33 : decode cX11_better 33 = .ok (.iload_n 1, 1) := by decide +kernel
theorem dX11_better_34 : decode cX11_better 34 = .ok (.ifCond .ne 7, 3) := by decide +kernel
theorem dX11_better_37 : decode cX11_better 37 = .ok (.iload_n 3, 1) := by decide +kernel
theorem dX11_better_38 : decode cX11_better 38 = .ok (.goto 4, 3) := by decide +kernel
theorem dX11_better_41 : decode cX11_better 41 = .ok (.iload_n 2, 1) := by decide +kernel
theorem dX11_better_42 : decode cX11_better 42 = .ok (.ireturn, 1) := by decide +kernel
theorem dX11_isRun_0 : decode cX11_isRun 0 = .ok (.aload_n 0, 1) := by decide +kernel
theorem dX11_isRun_1 : decode cX11_isRun 1 = .ok (.getfield 223, 3) := by decide +kernel
theorem dX11_isRun_4 : decode cX11_isRun 4 = .ok (.ifCond .eq 41, 3) := by decide +kernel
theorem dX11_isRun_7 : decode cX11_isRun 7 = .ok (.iload_n 1, 1) := by decide +kernel
theorem dX11_isRun_8 : decode cX11_isRun 8 = .ok (.iconst 0, 1) := by decide +kernel
theorem dX11_isRun_9 : decode cX11_isRun 9 = .ok (.aload_n 0, 1) := by decide +kernel
theorem dX11_isRun_10 : decode cX11_isRun 10 = .ok (.getfield 17, 3) := by decide +kernel
theorem dX11_isRun_13 : decode cX11_isRun 13 = .ok (.bipush 103, 2) := by decide +kernel
theorem dX11_isRun_15 : decode cX11_isRun 15 = .ok (.iaload, 1) := by decide +kernel
theorem dX11_isRun_16 : decode cX11_isRun 16 = .ok (.iconst 1, 1) := by decide +kernel
theorem dX11_isRun_17 : decode cX11_isRun 17 = .ok (.isub, 1) := by decide +kernel
theorem dX11_isRun_18 : decode cX11_isRun 18 = .ok (.invokestatic 128, 3) := by decide +kernel
theorem dX11_isRun_21 : decode cX11_isRun 21 = .ok (.ifCond .eq 24, 3) := by decide +kernel
theorem dX11_isRun_24 : decode cX11_isRun 24 = .ok (.iload_n 2, 1) := by decide +kernel
theorem dX11_isRun_25 : decode cX11_isRun 25 = .ok (.iconst 0, 1) := by decide +kernel
theorem dX11_isRun_26 : decode cX11_isRun 26 = .ok (.aload_n 0, 1) := by decide +kernel
theorem dX11_isRun_27 : decode cX11_isRun 27 = .ok (.getfield 17, 3) := by decide +kernel
theorem dX11_isRun_30 : decode cX11_isRun 30 = .ok (.bipush 103, 2) := by decide +kernel
theorem dX11_isRun_32 : decode cX11_isRun 32 = .ok (.iaload, 1) := by decide +kernel
theorem dX11_isRun_33 : decode cX11_isRun 33 = .ok (.iconst 1, 1) := by decide +kernel
theorem dX11_isRun_34 : decode cX11_isRun 34 = .ok (.isub, 1) := by decide +kernel
theorem dX11_isRun_35 : decode cX11_isRun 35 = .ok (.invokestatic 128, 3) := by decide +kernel
theorem dX11_isRun_38 : decode cX11_isRun 38 = .ok (.ifCond .eq 7, 3) := by decide +kernel
theorem dX11_isRun_41 : decode cX11_isRun 41 = .ok (.iconst 1, 1) := by decide +kernel
theorem dX11_isRun_42 : decode cX11_isRun 42 = .ok (.goto 4, 3) := by decide +kernel
theorem dX11_isRun_45 : decode cX11_isRun 45 = .ok (.iconst 0, 1) := by decide +kernel
theorem dX11_isRun_46 : decode cX11_isRun 46 = .ok (.ireturn, 1) := by decide +kernel
theorem dX11_exchanged_0 : decode cX11_exchanged 0 = .ok (.aload_n 0, 1) := by decide +kernel
theorem dX11_exchanged_1 : decode cX11_exchanged 1 = .ok (.aload_n 0, 1) := by decide +kernel
theorem dX11_exchanged_2 : decode cX11_exchanged 2 = .ok (.iload_n 1, 1) := by decide +kernel
theorem dX11_exchanged_3 : decode cX11_exchanged 3 = .ok (.iload_n 2, 1) := by decide +kernel
theorem dX11_exchanged_4 : decode cX11_exchanged 4 = .ok (.invokevirtual 380, 3) := by decide +kernel
theorem dX11_exchanged_7 : decode cX11_exchanged 7 = .ok (.ifCond .eq 12, 3) := by decide +kernel
theorem dX11_exchanged_10 : decode cX11_exchanged 10 = .ok (.iload_n 1, 1) := by decide +kernel
theorem dX11_exchanged_11 : decode cX11_exchanged 11 = .ok (.iload_n 2, 1) := by decide +kernel
theorem dX11_exchanged_12 : decode cX11_exchanged 12 = .ok (.if_icmp .gt 7, 3) := by decide +kernel
theorem dX11_exchanged_15 : decode cX11_exchanged 15 = .ok (.iconst 1, 1) := by decide +kernel
theorem dX11_exchanged_16 : decode cX11_exchanged 16 = .ok (.goto 4, 3) := by decide +kernel
theorem dX11_exchanged_19 : decode cX11_exchanged 19 = .ok (.iconst 0, 1) := by decide +kernel
theorem dX11_exchanged_20 : decode cX11_exchanged 20 = .ok (.invokevirtual 318, 3) := by decide +kernel
theorem dX11_exchanged_23 : decode cX11_exchanged 23 = .ok (.ifCond .ne 7, 3) := by decide +kernel
theorem dX11_exchanged_26 : decode cX11_exchanged 26 = .ok (.ldc_w 386, 3) := by decide +kernel
theorem dX11_exchanged_29 : decode cX11_exchanged 29 = .ok (.ireturn, 1) := by decide +kernel
theorem dX11_exchanged_30 : decode cX11_exchanged 30 = .ok (.aload_n 0, 1) := by decide +kernel
theorem dX11_exchanged_31 : decode cX11_exchanged 31 = .ok (.invokevirtual 361, 3) := by decide +kernel
theorem dX11_exchanged_34 : decode cX11_exchanged 34 = .ok (.istore_n 3, 1) := by decide +kernel
theorem dX11_exchanged_35 : decode cX11_exchanged 35 = .ok (.aload_n 0, 1) := by decide +kernel
theorem dX11_exchanged_36 : decode cX11_exchanged 36 = .ok (.iload_n 1, 1) := by decide +kernel
theorem dX11_exchanged_37 : decode cX11_exchanged 37 = .ok (.iload_n 2, 1) := by decide +kernel
theorem dX11_exchanged_38 : decode cX11_exchanged 38 = .ok (.invokevirtual 370, 3) := by decide +kernel
theorem dX11_exchanged_41 : decode cX11_exchanged 41 = .ok (.aload_n 0, 1) := by decide +kernel
theorem dX11_exchanged_42 : decode cX11_exchanged 42 = .ok (.invokevirtual 361, 3) := by decide +kernel
theorem dX11_exchanged_45 : decode cX11_exchanged 45 = .ok (.iload_n 3, 1) := by decide +kernel
theorem dX11_exchanged_46 : decode cX11_exchanged 46 = .ok (.isub, 1) := by decide +kernel
theorem dX11_exchanged_47 : decode cX11_exchanged 47 = .ok (.istore 4, 2) := by decide +kernel
theorem dX11_exchanged_49 : decode cX11_exchanged 49 = .ok (.aload_n 0, 1) := by decide +kernel
theorem dX11_exchanged_50 : decode cX11_exchanged 50 = .ok (.iload_n 1, 1) := by decide +kernel
theorem dX11_exchanged_51 : decode cX11_exchanged 51 = .ok (.iload_n 2, 1) := by decide +kernel
theorem dX11_exchanged_52 : decode cX11_exchanged 52 = .ok (.invokevirtual 370, 3) := by decide +kernel
theorem dX11_exchanged_55 : decode cX11_exchanged 55 = .ok (.iload 4, 2) := by decide +kernel
theorem dX11_exchanged_57 : decode cX11_exchanged 57 = .ok (.ireturn, 1) := by decide +kernel
theorem dX11_branch_0 : decode cX11_branch 0 = .ok (.iload_n 2, 1) := by decide +kernel
theorem dX11_branch_1 : decode cX11_branch 1 = .ok (.aload_n 0, 1) := by decide +kernel
theorem dX11_branch_2 : decode cX11_branch 2 = .ok (.getfield 296, 3) := by decide +kernel
theorem dX11_branch_5 : decode cX11_branch 5 = .ok (.if_icmp .ne 39, 3) := by decide +kernel
theorem dX11_branch_8 : decode cX11_branch 8 = .ok (.aload_n 0, 1) := by decide +kernel
theorem dX11_branch_9 : decode cX11_branch 9 = .ok (.aload_n 0, 1) := by decide +kernel
theorem dX11_branch_10 : decode cX11_branch 10 = .ok (.getfield 93, 3) := by decide +kernel
theorem dX11_branch_13 : decode cX11_branch 13 = .ok (.iload_n 1, 1) := by decide +kernel
theorem dX11_branch_14 : decode cX11_branch 14 = .ok (.iaload, 1) := by decide +kernel
theorem dX11_branch_15 : decode cX11_branch 15 = .ok (.invokevirtual 346, 3) := by decide +kernel
theorem dX11_branch_18 : decode cX11_branch 18 = .ok (.istore_n 3, 1) := by decide +kernel
theorem dX11_branch_19 : decode cX11_branch 19 = .ok (.aload_n 0, 1) := by decide +kernel
theorem dX11_branch_20 : decode cX11_branch 20 = .ok (.aload_n 0, 1) := by decide +kernel
theorem dX11_branch_21 : decode cX11_branch 21 = .ok (.getfield 96, 3) := by decide +kernel
theorem dX11_branch_24 : decode cX11_branch 24 = .ok (.iload_n 1, 1) := by decide +kernel
theorem dX11_branch_25 : decode cX11_branch 25 = .ok (.iaload, 1) := by decide +kernel
theorem dX11_branch_26 : decode cX11_branch 26 = .ok (.invokevirtual 346, 3) := by decide +kernel
theorem dX11_branch_29 : decode cX11_branch 29 = .ok (.istore 4, 2) := by decide +kernel
theorem dX11_branch_31 : decode cX11_branch 31 = .ok (.iload_n 3, 1) := by decide +kernel
theorem dX11_branch_32 : decode cX11_branch 32 = .ok (.iload 4, 2) := by decide +kernel
theorem dX11_branch_34 : decode cX11_branch 34 = .ok (.if_icmp .ge 7, 3) := by decide +kernel
theorem dX11_branch_37 : decode cX11_branch 37 = .ok (.iload_n 3, 1) := by decide +kernel
theorem dX11_branch_38 : decode cX11_branch 38 = .ok (.goto 5, 3) := by decide +kernel
theorem dX11_branch_41 : decode cX11_branch 41 = .ok (.iload 4, 2) := by decide +kernel
theorem dX11_branch_43 : decode cX11_branch 43 = .ok (.ireturn, 1) := by decide +kernel
theorem dX11_branch_44 : decode cX11_branch 44 = .ok (.aload_n 0, 1) := by decide +kernel
theorem dX11_branch_45 : decode cX11_branch 45 = .ok (.aload_n 0, 1) := by decide +kernel
theorem dX11_branch_46 : decode cX11_branch 46 = .ok (.getfield 93, 3) := by decide +kernel
theorem dX11_branch_49 : decode cX11_branch 49 = .ok (.iload_n 1, 1) := by decide +kernel
theorem dX11_branch_50 : decode cX11_branch 50 = .ok (.iaload, 1) := by decide +kernel
theorem dX11_branch_51 : decode cX11_branch 51 = .ok (.aload_n 0, 1) := by decide +kernel
theorem dX11_branch_52 : decode cX11_branch 52 = .ok (.getfield 93, 3) := by decide +kernel
theorem dX11_branch_55 : decode cX11_branch 55 = .ok (.iload_n 2, 1) := by decide +kernel
theorem dX11_branch_56 : decode cX11_branch 56 = .ok (.iaload, 1) := by decide +kernel
theorem dX11_branch_57 : decode cX11_branch 57 = .ok (.invokevirtual 277, 3) := by decide +kernel
theorem dX11_branch_60 : decode cX11_branch 60 = .ok (.istore_n 3, 1) := by decide +kernel
theorem dX11_branch_61 : decode cX11_branch 61 = .ok (.aload_n 0, 1) := by decide +kernel
theorem dX11_branch_62 : decode cX11_branch 62 = .ok (.aload_n 0, 1) := by decide +kernel
theorem dX11_branch_63 : decode cX11_branch 63 = .ok (.getfield 93, 3) := by decide +kernel
theorem dX11_branch_66 : decode cX11_branch 66 = .ok (.iload_n 1, 1) := by decide +kernel
theorem dX11_branch_67 : decode cX11_branch 67 = .ok (.iaload, 1) := by decide +kernel
theorem dX11_branch_68 : decode cX11_branch 68 = .ok (.aload_n 0, 1) := by decide +kernel
theorem dX11_branch_69 : decode cX11_branch 69 = .ok (.getfield 96, 3) := by decide +kernel
theorem dX11_branch_72 : decode cX11_branch 72 = .ok (.iload_n 2, 1) := by decide +kernel
theorem dX11_branch_73 : decode cX11_branch 73 = .ok (.iaload, 1) := by decide +kernel
theorem dX11_branch_74 : decode cX11_branch 74 = .ok (.invokevirtual 277, 3) := by decide +kernel
theorem dX11_branch_77 : decode cX11_branch 77 = .ok (.istore 4, 2) := by decide +kernel
theorem dX11_branch_79 : decode cX11_branch 79 = .ok (.aload_n 0, 1) := by decide +kernel
theorem dX11_branch_80 : decode cX11_branch 80 = .ok (.aload_n 0, 1) := by decide +kernel
theorem dX11_branch_81 : decode cX11_branch 81 = .ok (.getfield 96, 3) := by decide +kernel
theorem dX11_branch_84 : decode cX11_branch 84 = .ok (.iload_n 1, 1) := by decide +kernel
theorem dX11_branch_85 : decode cX11_branch 85 = .ok (.iaload, 1) := by decide +kernel
theorem dX11_branch_86 : decode cX11_branch 86 = .ok (.aload_n 0, 1) := by decide +kernel
theorem dX11_branch_87 : decode cX11_branch 87 = .ok (.getfield 93, 3) := by decide +kernel
theorem dX11_branch_90 : decode cX11_branch 90 = .ok (.iload_n 2, 1) := by decide +kernel
theorem dX11_branch_91 : decode cX11_branch 91 = .ok (.iaload, 1) := by decide +kernel
theorem dX11_branch_92 : decode cX11_branch 92 = .ok (.invokevirtual 277, 3) := by decide +kernel
theorem dX11_branch_95 : decode cX11_branch 95 = .ok (.istore 5, 2) := by decide +kernel
theorem dX11_branch_97 : decode cX11_branch 97 = .ok (.aload_n 0, 1) := by decide +kernel
theorem dX11_branch_98 : decode cX11_branch 98 = .ok (.aload_n 0, 1) := by decide +kernel
theorem dX11_branch_99 : decode cX11_branch 99 = .ok (.getfield 96, 3) := by decide +kernel
theorem dX11_branch_102 : decode cX11_branch 102 = .ok (.iload_n 1, 1) := by decide +kernel
theorem dX11_branch_103 : decode cX11_branch 103 = .ok (.iaload, 1) := by decide +kernel
theorem dX11_branch_104 : decode cX11_branch 104 = .ok (.aload_n 0, 1) := by decide +kernel
theorem dX11_branch_105 : decode cX11_branch 105 = .ok (.getfield 96, 3) := by decide +kernel
theorem dX11_branch_108 : decode cX11_branch 108 = .ok (.iload_n 2, 1) := by decide +kernel
theorem dX11_branch_109 : decode cX11_branch 109 = .ok (.iaload, 1) := by decide +kernel
theorem dX11_branch_110 : decode cX11_branch 110 = .ok (.invokevirtual 277, 3) := by decide +kernel
theorem dX11_branch_113 : decode cX11_branch 113 = .ok (.istore 6, 2) := by decide +kernel
theorem dX11_branch_115 : decode cX11_branch 115 = .ok (.iload 4, 2) := by decide +kernel
theorem dX11_branch_117 : decode cX11_branch 117 = .ok (.iload_n 3, 1) := by decide +kernel
theorem dX11_branch_118 : decode cX11_branch 118 = .ok (.if_icmp .ge 8, 3) := by decide +kernel
theorem dX11_branch_121 : decode cX11_branch 121 = .ok (.iload 4, 2) := by decide +kernel
theorem dX11_branch_123 : decode cX11_branch 123 = .ok (.goto 4, 3) := by decide +kernel
theorem dX11_branch_126 : decode cX11_branch 126 = .ok (.iload_n 3, 1) := by decide +kernel
theorem dX11_branch_127 : decode cX11_branch 127 = .ok (.istore_n 3, 1) := by decide +kernel
theorem dX11_branch_128 : decode cX11_branch 128 = .ok (.iload 6, 2) := by decide +kernel
theorem dX11_branch_130 : decode cX11_branch 130 = .ok (.iload 5, 2) := by decide +kernel
theorem dX11_branch_132 : decode cX11_branch 132 = .ok (.if_icmp .ge 8, 3) := by decide +kernel
theorem dX11_branch_135 : decode cX11_branch 135 = .ok (.iload 6, 2) := by decide +kernel
theorem dX11_branch_137 : decode cX11_branch 137 = .ok (.goto 5, 3) := by decide +kernel
theorem dX11_branch_140 : decode cX11_branch 140 = .ok (.iload 5, 2) := by decide +kernel
theorem dX11_branch_142 : decode cX11_branch 142 = .ok (.istore 5, 2) := by decide +kernel
theorem dX11_branch_144 : decode cX11_branch 144 = .ok (.iload 5, 2) := by decide +kernel
theorem dX11_branch_146 : decode cX11_branch 146 = .ok (.iload_n 3, 1) := by decide +kernel
theorem dX11_branch_147 : decode cX11_branch 147 = .ok (.if_icmp .ge 8, 3) := by decide +kernel
theorem dX11_branch_150 : decode cX11_branch 150 = .ok (.iload 5, 2) := by decide +kernel
theorem dX11_branch_152 : decode cX11_branch 152 = .ok (.goto 4, 3) := by decide +kernel
theorem dX11_branch_155 : decode cX11_branch 155 = .ok (.iload_n 3, 1) := by decide +kernel
theorem dX11_branch_156 : decode cX11_branch 156 = .ok (.ireturn, 1) := by decide +kernel
theorem dX11_floor_0 : decode cX11_floor 0 = .ok (.aload_n 0, 1) := by decide +kernel
theorem dX11_floor_1 : decode cX11_floor 1 = .ok (.iconst 1, 1) := by decide +kernel
theorem dX11_floor_2 : decode cX11_floor 2 = .ok (.invokevirtual 318, 3) := by decide +kernel
theorem dX11_floor_5 : decode cX11_floor 5 = .ok (.ifCond .ne 5, 3) := by decide +kernel
theorem dX11_floor_8 : decode cX11_floor 8 = .ok (.iconst (-1), 1) := by decide +kernel
theorem dX11_floor_9 : decode cX11_floor 9 = .ok (.ireturn, 1) := by decide +kernel
theorem dX11_floor_10 : decode cX11_floor 10 = .ok (.bipush 25, 2) := by decide +kernel
theorem dX11_floor_12 : decode cX11_floor 12 = .ok (.newarray .boolean, 2) := by decide +kernel
theorem dX11_floor_14 : decode cX11_floor 14 = .ok (.astore_n 1, 1) := by decide +kernel
theorem dX11_floor_15 : decode cX11_floor 15 = .ok (.aload_n 1, 1) := by decide +kernel
theorem dX11_floor_16 : decode cX11_floor 16 = .ok (.aload_n 0, 1) := by decide +kernel
theorem dX11_floor_17 : decode cX11_floor 17 = .ok (.getfield 296, 3) := by decide +kernel
theorem dX11_floor_20 : decode cX11_floor 20 = .ok (.iconst 1, 1) := by decide +kernel
theorem dX11_floor_21 : decode cX11_floor 21 = .ok (.bastore, 1) := by decide +kernel
theorem dX11_floor_22 : decode cX11_floor 22 = .ok (.iconst 0, 1) := by decide +kernel
theorem dX11_floor_23 : decode cX11_floor 23 = .ok (.istore_n 2, 1) := by decide +kernel
theorem dX11_floor_24 : decode cX11_floor 24 = .ok (.iconst 0, 1) := by decide +kernel
theorem dX11_floor_25 : decode cX11_floor 25 = .ok (.istore_n 3, 1) := by decide +kernel
theorem dX11_floor_26 : decode cX11_floor 26 = .ok (.iload_n 3, 1) := by decide +kernel
theorem dX11_floor_27 : decode cX11_floor 27 = .ok (.aload_n 0, 1) := by decide +kernel
theorem dX11_floor_28 : decode cX11_floor 28 = .ok (.getfield 296, 3) := by decide +kernel
theorem dX11_floor_31 : decode cX11_floor 31 = .ok (.if_icmp .ge 104, 3) := by decide +kernel
theorem dX11_floor_34 : decode cX11_floor 34 = .ok (.iconst (-1), 1) := by decide +kernel
theorem dX11_floor_35 : decode cX11_floor 35 = .ok (.istore 4, 2) := by decide +kernel
theorem dX11_floor_37 : decode cX11_floor 37 = .ok (.ldc_w 283, 3) := by decide +kernel
theorem dX11_floor_40 : decode cX11_floor 40 = .ok (.istore 5, 2) := by decide +kernel
theorem dX11_floor_42 : decode cX11_floor 42 = .ok (.iconst 0, 1) := by decide +kernel
theorem dX11_floor_43 : decode cX11_floor 43 = .ok (.istore 6, 2) := by decide +kernel
theorem dX11_floor_45 : decode cX11_floor 45 = .ok (.iload 6, 2) := by decide +kernel
theorem dX11_floor_47 : decode cX11_floor 47 = .ok (.aload_n 0, 1) := by decide +kernel
theorem dX11_floor_48 : decode cX11_floor 48 = .ok (.getfield 296, 3) := by decide +kernel
theorem dX11_floor_51 : decode cX11_floor 51 = .ok (.if_icmp .ge 68, 3) := by decide +kernel
theorem dX11_floor_54 : decode cX11_floor 54 = .ok (.iconst 0, 1) := by decide +kernel
theorem dX11_floor_55 : decode cX11_floor 55 = .ok (.istore 7, 2) := by decide +kernel
theorem dX11_floor_57 : decode cX11_floor 57 = .ok (.iload 7, 2) := by decide +kernel
theorem dX11_floor_59 : decode cX11_floor 59 = .ok (.aload_n 0, 1) := by decide +kernel
theorem dX11_floor_60 : decode cX11_floor 60 = .ok (.getfield 296, 3) := by decide +kernel
theorem dX11_floor_63 : decode cX11_floor 63 = .ok (.if_icmp .gt 50, 3) := by decide +kernel
theorem dX11_floor_66 : decode cX11_floor 66 = .ok (.aload_n 1, 1) := by decide +kernel
theorem dX11_floor_67 : decode cX11_floor 67 = .ok (.iload 6, 2) := by decide +kernel
theorem dX11_floor_69 : decode cX11_floor 69 = .ok (.baload, 1) := by decide +kernel
theorem dX11_floor_70 : decode cX11_floor 70 = .ok (.ifCond .ne 43, 3) := by decide +kernel
theorem dX11_floor_73 : decode cX11_floor 73 = .ok (.aload_n 1, 1) := by decide +kernel
theorem dX11_floor_74 : decode cX11_floor 74 = .ok (.iload 7, 2) := by decide +kernel
theorem dX11_floor_76 : decode cX11_floor 76 = .ok (.baload, 1) := by decide +kernel
theorem dX11_floor_77 : decode cX11_floor 77 = .ok (.ifCond .eq 30, 3) := by decide +kernel
theorem dX11_floor_80 : decode cX11_floor 80 = .ok (.aload_n 0, 1) := by decide +kernel
theorem dX11_floor_81 : decode cX11_floor 81 = .ok (.iload 6, 2) := by decide +kernel
theorem dX11_floor_83 : decode cX11_floor 83 = .ok (.iload 7, 2) := by decide +kernel
theorem dX11_floor_85 : decode cX11_floor 85 = .ok (.invokevirtual 387, 3) := by decide +kernel
theorem dX11_floor_88 : decode cX11_floor 88 = .ok (.iload 5, 2) := by decide +kernel
theorem dX11_floor_90 : decode cX11_floor 90 = .ok (.if_icmp .ge 17, 3) := by decide +kernel
theorem dX11_floor_93 : decode cX11_floor 93 = .ok (.aload_n 0, 1) := by decide +kernel
theorem dX11_floor_94 : decode cX11_floor 94 = .ok (.iload 6, 2) := by decide +kernel
theorem dX11_floor_96 : decode cX11_floor 96 = .ok (.iload 7, 2) := by decide +kernel
theorem dX11_floor_98 : decode cX11_floor 98 = .ok (.invokevirtual 387, 3) := by decide +kernel
theorem dX11_floor_101 : decode cX11_floor 101 = .ok (.istore 5, 2) := by decide +kernel
theorem dX11_floor_103 : decode cX11_floor 103 = .ok (.iload 6, 2) := by decide +kernel
theorem dX11_floor_105 : decode cX11_floor 105 = .ok (.istore 4, 2) := by decide +kernel
theorem dX11_floor_107 : decode cX11_floor 107 = .ok (.iinc 7 1, 3) := by decide +kernel
theorem dX11_floor_110 : decode cX11_floor 110 = .ok (.goto (-53), 3) := by decide +kernel
theorem dX11_floor_113 : decode cX11_floor 113 = .ok (.iinc 6 1, 3) := by decide +kernel
theorem dX11_floor_116 : decode cX11_floor 116 = .ok (.goto (-71), 3) := by decide +kernel
theorem dX11_floor_119 : decode cX11_floor 119 = .ok (.aload_n 1, 1) := by decide +kernel
theorem dX11_floor_120 : decode cX11_floor 120 = .ok (.iload 4, 2) := by decide +kernel
theorem dX11_floor_122 : decode cX11_floor 122 = .ok (.iconst 1, 1) := by decide +kernel
theorem dX11_floor_123 : decode cX11_floor 123 = .ok (.bastore, 1) := by decide +kernel
theorem dX11_floor_124 : decode cX11_floor 124 = .ok (.iload_n 2, 1) := by decide +kernel
theorem dX11_floor_125 : decode cX11_floor 125 = .ok (.iload 5, 2) := by decide +kernel
theorem dX11_floor_127 : decode cX11_floor 127 = .ok (.iadd, 1) := by decide +kernel
theorem dX11_floor_128 : decode cX11_floor 128 = .ok (.istore_n 2, 1) := by decide +kernel
theorem dX11_floor_129 : decode cX11_floor 129 = .ok (.iinc 3 1, 3) := by decide +kernel
theorem dX11_floor_132 : decode cX11_floor 132 = .ok (.goto (-106), 3) := by decide +kernel
theorem dX11_floor_135 : decode cX11_floor 135 = .ok (.iload_n 2, 1) := by decide +kernel
theorem dX11_floor_136 : decode cX11_floor 136 = .ok (.ireturn, 1) := by decide +kernel
theorem dX11_allTime_0 : decode cX11_allTime 0 = .ok (.aload_n 0, 1) := by decide +kernel
theorem dX11_allTime_1 : decode cX11_allTime 1 = .ok (.getfield 17, 3) := by decide +kernel
theorem dX11_allTime_4 : decode cX11_allTime 4 = .ok (.bipush 6, 2) := by decide +kernel
theorem dX11_allTime_6 : decode cX11_allTime 6 = .ok (.iaload, 1) := by decide +kernel
theorem dX11_allTime_7 : decode cX11_allTime 7 = .ok (.aload_n 0, 1) := by decide +kernel
theorem dX11_allTime_8 : decode cX11_allTime 8 = .ok (.invokevirtual 361, 3) := by decide +kernel
theorem dX11_allTime_11 : decode cX11_allTime 11 = .ok (.imul, 1) := by decide +kernel
theorem dX11_allTime_12 : decode cX11_allTime 12 = .ok (.istore_n 1, 1) := by decide +kernel
theorem dX11_allTime_13 : decode cX11_allTime 13 = .ok (.iconst 0, 1) := by decide +kernel
theorem dX11_allTime_14 : decode cX11_allTime 14 = .ok (.istore_n 2, 1) := by decide +kernel
theorem dX11_allTime_15 : decode cX11_allTime 15 = .ok (.iload_n 2, 1) := by decide +kernel
theorem dX11_allTime_16 : decode cX11_allTime 16 = .ok (.aload_n 0, 1) := by decide +kernel
theorem dX11_allTime_17 : decode cX11_allTime 17 = .ok (.getfield 17, 3) := by decide +kernel
theorem dX11_allTime_20 : decode cX11_allTime 20 = .ok (.iconst 2, 1) := by decide +kernel
theorem dX11_allTime_21 : decode cX11_allTime 21 = .ok (.iaload, 1) := by decide +kernel
theorem dX11_allTime_22 : decode cX11_allTime 22 = .ok (.if_icmp .ge 31, 3) := by decide +kernel
theorem dX11_allTime_25 : decode cX11_allTime 25 = .ok (.iload_n 1, 1) := by decide +kernel
theorem dX11_allTime_26 : decode cX11_allTime 26 = .ok (.aload_n 0, 1) := by decide +kernel
theorem dX11_allTime_27 : decode cX11_allTime 27 = .ok (.getfield 17, 3) := by decide +kernel
theorem dX11_allTime_30 : decode cX11_allTime 30 = .ok (.iconst 5, 1) := by decide +kernel
theorem dX11_allTime_31 : decode cX11_allTime 31 = .ok (.iaload, 1) := by decide +kernel
theorem dX11_allTime_32 : decode cX11_allTime 32 = .ok (.aload_n 0, 1) := by decide +kernel
theorem dX11_allTime_33 : decode cX11_allTime 33 = .ok (.iconst 2, 1) := by decide +kernel
theorem dX11_allTime_34 : decode cX11_allTime 34 = .ok (.iload_n 2, 1) := by decide +kernel
theorem dX11_allTime_35 : decode cX11_allTime 35 = .ok (.imul, 1) := by decide +kernel
theorem dX11_allTime_36 : decode cX11_allTime 36 = .ok (.iconst 2, 1) := by decide +kernel
theorem dX11_allTime_37 : decode cX11_allTime 37 = .ok (.iload_n 2, 1) := by decide +kernel
theorem dX11_allTime_38 : decode cX11_allTime 38 = .ok (.imul, 1) := by decide +kernel
theorem dX11_allTime_39 : decode cX11_allTime 39 = .ok (.iconst 1, 1) := by decide +kernel
theorem dX11_allTime_40 : decode cX11_allTime 40 = .ok (.iadd, 1) := by decide +kernel
theorem dX11_allTime_41 : decode cX11_allTime 41 = .ok (.invokevirtual 241, 3) := by decide +kernel
theorem dX11_allTime_44 : decode cX11_allTime 44 = .ok (.imul, 1) := by decide +kernel
theorem dX11_allTime_45 : decode cX11_allTime 45 = .ok (.iadd, 1) := by decide +kernel
theorem dX11_allTime_46 : decode cX11_allTime 46 = .ok (.istore_n 1, 1) := by decide +kernel
theorem dX11_allTime_47 : decode cX11_allTime 47 = .ok (.iinc 2 1, 3) := by decide +kernel
theorem dX11_allTime_50 : decode cX11_allTime 50 = .ok (.goto (-35), 3) := by decide +kernel
theorem dX11_allTime_53 : decode cX11_allTime 53 = .ok (.iload_n 1, 1) := by decide +kernel
theorem dX11_allTime_54 : decode cX11_allTime 54 = .ok (.ireturn, 1) := by decide +kernel
theorem dX11_time_0 : decode cX11_time 0 = .ok (.aload_n 0, 1) := by decide +kernel
theorem dX11_time_1 : decode cX11_time 1 = .ok (.iconst 1, 1) := by decide +kernel
theorem dX11_time_2 : decode cX11_time 2 = .ok (.invokevirtual 318, 3) := by decide +kernel
theorem dX11_time_5 : decode cX11_time 5 = .ok (.ifCond .eq 10, 3) := by decide +kernel
theorem dX11_time_8 : decode cX11_time 8 = .ok (.aload_n 0, 1) := by decide +kernel
theorem dX11_time_9 : decode cX11_time 9 = .ok (.invokevirtual 390, 3) := by decide +kernel
theorem dX11_time_12 : decode cX11_time 12 = .ok (.goto 4, 3) := by decide +kernel
theorem dX11_time_15 : decode cX11_time 15 = .ok (.iconst (-1), 1) := by decide +kernel
theorem dX11_time_16 : decode cX11_time 16 = .ok (.ireturn, 1) := by decide +kernel
theorem dX11_goesTill_0 : decode cX11_goesTill 0 = .ok (.aload_n 0, 1) := by decide +kernel
theorem dX11_goesTill_1 : decode cX11_goesTill 1 = .ok (.iconst 0, 1) := by decide +kernel
theorem dX11_goesTill_2 : decode cX11_goesTill 2 = .ok (.putfield 393, 3) := by decide +kernel
theorem dX11_goesTill_5 : decode cX11_goesTill 5 = .ok (.aload_n 0, 1) := by decide +kernel
theorem dX11_goesTill_6 : decode cX11_goesTill 6 = .ok (.iconst 0, 1) := by decide +kernel
theorem dX11_goesTill_7 : decode cX11_goesTill 7 = .ok (.putfield 396, 3) := by decide +kernel
theorem dX11_goesTill_10 : decode cX11_goesTill 10 = .ok (.aload_n 0, 1) := by decide +kernel
theorem dX11_goesTill_11 : decode cX11_goesTill 11 = .ok (.iconst 0, 1) := by decide +kernel
theorem dX11_goesTill_12 : decode cX11_goesTill 12 = .ok (.putfield 399, 3) := by decide +kernel
theorem dX11_goesTill_15 : decode cX11_goesTill 15 = .ok (.iconst 0, 1) := by decide +kernel
theorem dX11_goesTill_16 : decode cX11_goesTill 16 = .ok (.istore_n 2, 1) := by decide +kernel
theorem dX11_goesTill_17 : decode cX11_goesTill 17 = .ok (.iconst 0, 1) := by decide +kernel
theorem dX11_goesTill_18 : decode cX11_goesTill 18 = .ok (.istore_n 3, 1) := by decide +kernel
theorem dX11_goesTill_19 : decode cX11_goesTill 19 = .ok (.iload_n 3, 1) := by decide +kernel
theorem dX11_goesTill_20 : decode cX11_goesTill 20 = .ok (.aload_n 0, 1) := by decide +kernel
theorem dX11_goesTill_21 : decode cX11_goesTill 21 = .ok (.getfield 17, 3) := by decide +kernel
theorem dX11_goesTill_24 : decode cX11_goesTill 24 = .ok (.bipush 103, 2) := by decide +kernel
theorem dX11_goesTill_26 : decode cX11_goesTill 26 = .ok (.iaload, 1) := by decide +kernel
theorem dX11_goesTill_27 : decode cX11_goesTill 27 = .ok (.if_icmp .ge 126, 3) := by decide +kernel
theorem dX11_goesTill_30 : decode cX11_goesTill 30 = .ok (.iload_n 2, 1) := by decide +kernel
theorem dX11_goesTill_31 : decode cX11_goesTill 31 = .ok (.aload_n 0, 1) := by decide +kernel
theorem dX11_goesTill_32 : decode cX11_goesTill 32 = .ok (.getfield 17, 3) := by decide +kernel
theorem dX11_goesTill_35 : decode cX11_goesTill 35 = .ok (.bipush 6, 2) := by decide +kernel
theorem dX11_goesTill_37 : decode cX11_goesTill 37 = .ok (.iaload, 1) := by decide +kernel
theorem dX11_goesTill_38 : decode cX11_goesTill 38 = .ok (.aload_n 0, 1) := by decide +kernel
theorem dX11_goesTill_39 : decode cX11_goesTill 39 = .ok (.iload_n 3, 1) := by decide +kernel
theorem dX11_goesTill_40 : decode cX11_goesTill 40 = .ok (.invokevirtual 352, 3) := by decide +kernel
theorem dX11_goesTill_43 : decode cX11_goesTill 43 = .ok (.imul, 1) := by decide +kernel
theorem dX11_goesTill_44 : decode cX11_goesTill 44 = .ok (.iadd, 1) := by decide +kernel
theorem dX11_goesTill_45 : decode cX11_goesTill 45 = .ok (.istore_n 2, 1) := by decide +kernel
theorem dX11_goesTill_46 : decode cX11_goesTill 46 = .ok (.iload_n 2, 1) := by decide +kernel
theorem dX11_goesTill_47 : decode cX11_goesTill 47 = .ok (.iload_n 1, 1) := by decide +kernel
theorem dX11_goesTill_48 : decode cX11_goesTill 48 = .ok (.if_icmp .le 4, 3) := by decide +kernel
theorem dX11_goesTill_51 : decode cX11_goesTill 51 = .ok (.return_, 1) := by decide +kernel
theorem dX11_goesTill_52 : decode cX11_goesTill 52 = .ok (.iconst 0, 1) := by decide +kernel
theorem dX11_goesTill_53 : decode cX11_goesTill 53 = .ok (.istore 4, 2) := by decide +kernel
theorem dX11_goesTill_55 : decode cX11_goesTill 55 = .ok (.iload 4, 2) := by decide +kernel
theorem dX11_goesTill_57 : decode cX11_goesTill 57 = .ok (.aload_n 0, 1) := by decide +kernel
theorem dX11_goesTill_58 : decode cX11_goesTill 58 = .ok (.getfield 90, 3) := by decide +kernel
theorem dX11_goesTill_61 : decode cX11_goesTill 61 = .ok (.aload_n 0, 1) := by decide +kernel
theorem dX11_goesTill_62 : decode cX11_goesTill 62 = .ok (.iload_n 3, 1) := by decide +kernel
theorem dX11_goesTill_63 : decode cX11_goesTill 63 = .ok (.invokevirtual 340, 3) := by decide +kernel
theorem dX11_goesTill_66 : decode cX11_goesTill 66 = .ok (.iaload, 1) := by decide +kernel
theorem dX11_goesTill_67 : decode cX11_goesTill 67 = .ok (.if_icmp .ge 65, 3) := by decide +kernel
theorem dX11_goesTill_70 : decode cX11_goesTill 70 = .ok (.aload_n 0, 1) := by decide +kernel
theorem dX11_goesTill_71 : decode cX11_goesTill 71 = .ok (.iload_n 3, 1) := by decide +kernel
theorem dX11_goesTill_72 : decode cX11_goesTill 72 = .ok (.iload 4, 2) := by decide +kernel
theorem dX11_goesTill_74 : decode cX11_goesTill 74 = .ok (.invokevirtual 358, 3) := by decide +kernel
theorem dX11_goesTill_77 : decode cX11_goesTill 77 = .ok (.iconst 2, 1) := by decide +kernel
theorem dX11_goesTill_78 : decode cX11_goesTill 78 = .ok (.idiv, 1) := by decide +kernel
theorem dX11_goesTill_79 : decode cX11_goesTill 79 = .ok (.istore 5, 2) := by decide +kernel
theorem dX11_goesTill_81 : decode cX11_goesTill 81 = .ok (.aload_n 0, 1) := by decide +kernel
theorem dX11_goesTill_82 : decode cX11_goesTill 82 = .ok (.iconst 1, 1) := by decide +kernel
theorem dX11_goesTill_83 : decode cX11_goesTill 83 = .ok (.putfield 399, 3) := by decide +kernel
theorem dX11_goesTill_86 : decode cX11_goesTill 86 = .ok (.iload_n 2, 1) := by decide +kernel
theorem dX11_goesTill_87 : decode cX11_goesTill 87 = .ok (.aload_n 0, 1) := by decide +kernel
theorem dX11_goesTill_88 : decode cX11_goesTill 88 = .ok (.getfield 17, 3) := by decide +kernel
theorem dX11_goesTill_91 : decode cX11_goesTill 91 = .ok (.iconst 5, 1) := by decide +kernel
theorem dX11_goesTill_92 : decode cX11_goesTill 92 = .ok (.iaload, 1) := by decide +kernel
theorem dX11_goesTill_93 : decode cX11_goesTill 93 = .ok (.aload_n 0, 1) := by decide +kernel
theorem dX11_goesTill_94 : decode cX11_goesTill 94 = .ok (.iconst 2, 1) := by decide +kernel
theorem dX11_goesTill_95 : decode cX11_goesTill 95 = .ok (.iload 5, 2) := by decide +kernel
theorem dX11_goesTill_97 : decode cX11_goesTill 97 = .ok (.imul, 1) := by decide +kernel
theorem dX11_goesTill_98 : decode cX11_goesTill 98 = .ok (.iconst 2, 1) := by decide +kernel
theorem dX11_goesTill_99 : decode cX11_goesTill 99 = .ok (.iload 5, 2) := by decide +kernel
theorem dX11_goesTill_101 : decode cX11_goesTill 101 = .ok (.imul, 1) := by decide +kernel
theorem dX11_goesTill_102 : decode cX11_goesTill 102 = .ok (.iconst 1, 1) := by decide +kernel
theorem dX11_goesTill_103 : decode cX11_goesTill 103 = .ok (.iadd, 1) := by decide +kernel
theorem dX11_goesTill_104 : decode cX11_goesTill 104 = .ok (.invokevirtual 241, 3) := by decide +kernel
theorem dX11_goesTill_107 : decode cX11_goesTill 107 = .ok (.imul, 1) := by decide +kernel
theorem dX11_goesTill_108 : decode cX11_goesTill 108 = .ok (.iadd, 1) := by decide +kernel
theorem dX11_goesTill_109 : decode cX11_goesTill 109 = .ok (.istore_n 2, 1) := by decide +kernel
theorem dX11_goesTill_110 : decode cX11_goesTill 110 = .ok (.iload_n 2, 1) := by decide +kernel
theorem dX11_goesTill_111 : decode cX11_goesTill 111 = .ok (.iload_n 1, 1) := by decide +kernel
theorem dX11_goesTill_112 : decode cX11_goesTill 112 = .ok (.if_icmp .le 4, 3) := by decide +kernel
theorem dX11_goesTill_115 : decode cX11_goesTill 115 = .ok (.return_, 1) := by decide +kernel
theorem dX11_goesTill_116 : decode cX11_goesTill 116 = .ok (.aload_n 0, 1) := by decide +kernel
theorem dX11_goesTill_117 : decode cX11_goesTill 117 = .ok (.dup, 1) := by decide +kernel
theorem dX11_goesTill_118 : decode cX11_goesTill 118 = .ok (.getfield 393, 3) := by decide +kernel
theorem dX11_goesTill_121 : decode cX11_goesTill 121 = .ok (.iconst 1, 1) := by decide +kernel
theorem dX11_goesTill_122 : decode cX11_goesTill 122 = .ok (.iadd, 1) := by decide +kernel
theorem dX11_goesTill_123 : decode cX11_goesTill 123 = .ok (.putfield 393, 3) := by decide +kernel
theorem dX11_goesTill_126 : decode cX11_goesTill 126 = .ok (.iinc 4 1, 3) := by decide +kernel
theorem dX11_goesTill_129 : decode cX11_goesTill 129 = .ok (.goto (-74), 3) := by decide +kernel
theorem dX11_goesTill_132 : decode cX11_goesTill 132 = .ok (.aload_n 0, 1) := by decide +kernel
theorem dX11_goesTill_133 : decode cX11_goesTill 133 = .ok (.iconst 0, 1) := by decide +kernel
theorem dX11_goesTill_134 : decode cX11_goesTill 134 = .ok (.putfield 399, 3) := by decide +kernel
theorem dX11_goesTill_137 : decode cX11_goesTill 137 = .ok (.aload_n 0, 1) := by decide +kernel
theorem dX11_goesTill_138 : decode cX11_goesTill 138 = .ok (.dup, 1) := by decide +kernel
theorem dX11_goesTill_139 : decode cX11_goesTill 139 = .ok (.getfield 396, 3) := by decide +kernel
theorem dX11_goesTill_142 : decode cX11_goesTill 142 = .ok (.iconst 1, 1) := by decide +kernel
theorem dX11_goesTill_143 : decode cX11_goesTill 143 = .ok (.iadd, 1) := by decide +kernel
theorem dX11_goesTill_144 : decode cX11_goesTill 144 = .ok (.putfield 396, 3) := by decide +kernel
theorem dX11_goesTill_147 : decode cX11_goesTill 147 = .ok (.iinc 3 1, 3) := by decide +kernel
theorem dX11_goesTill_150 : decode cX11_goesTill 150 = .ok (.goto (-131), 3) := by decide +kernel
theorem dX11_goesTill_153 : decode cX11_goesTill 153 = .ok (.return_, 1) := by decide +kernel
theorem dX11_pen_0 : decode cX11_pen 0 = .ok (.aload_n 0, 1) := by decide +kernel
theorem dX11_pen_1 : decode cX11_pen 1 = .ok (.iload_n 2, 1) := by decide +kernel
theorem dX11_pen_2 : decode cX11_pen 2 = .ok (.iconst 0, 1) := by decide +kernel
theorem dX11_pen_3 : decode cX11_pen 3 = .ok (.iconst 2, 1) := by decide +kernel
theorem dX11_pen_4 : decode cX11_pen 4 = .ok (.invokestatic 128, 3) := by decide +kernel
theorem dX11_pen_7 : decode cX11_pen 7 = .ok (.invokevirtual 318, 3) := by decide +kernel
theorem dX11_pen_10 : decode cX11_pen 10 = .ok (.ifCond .ne 5, 3) := by decide +kernel
theorem dX11_pen_13 : decode cX11_pen 13 = .ok (.iconst (-1), 1) := by decide +kernel
theorem dX11_pen_14 : decode cX11_pen 14 = .ok (.ireturn, 1) := by decide +kernel
theorem dX11_pen_15 : decode cX11_pen 15 = .ok (.iload_n 1, 1) := by decide +kernel
theorem dX11_pen_16 : decode cX11_pen 16 = .ok (.iconst 0, 1) := by decide +kernel
theorem dX11_pen_17 : decode cX11_pen 17 = .ok (.ldc_w 402, 3) := by decide +kernel
theorem dX11_pen_20 : decode cX11_pen 20 = .ok (.invokestatic 128, 3) := by decide +kernel
theorem dX11_pen_23 : decode cX11_pen 23 = .ok (.ifCond .ne 9, 3) := by decide +kernel
theorem dX11_pen_26 : decode cX11_pen 26 = .ok (.aload_n 0, 1) := by decide +kernel
theorem dX11_pen_27 : decode cX11_pen 27 = .ok (.iconst 2, 1) := by decide +kernel
theorem dX11_pen_28 : decode cX11_pen 28 = .ok (.invokevirtual 216, 3) := by decide +kernel
theorem dX11_pen_31 : decode cX11_pen 31 = .ok (.ireturn, 1) := by decide +kernel
theorem dX11_pen_32 : decode cX11_pen 32 = .ok (.aload_n 0, 1) := by decide +kernel
theorem dX11_pen_33 : decode cX11_pen 33 = .ok (.iload_n 1, 1) := by decide +kernel
theorem dX11_pen_34 : decode cX11_pen 34 = .ok (.invokevirtual 403, 3) := by decide +kernel
theorem dX11_pen_37 : decode cX11_pen 37 = .ok (.iload_n 2, 1) := by decide +kernel
theorem dX11_pen_38 : decode cX11_pen 38 = .ok (.ifCond .ne 10, 3) := by decide +kernel
theorem dX11_pen_41 : decode cX11_pen 41 = .ok (.aload_n 0, 1) := by decide +kernel
theorem dX11_pen_42 : decode cX11_pen 42 = .ok (.getfield 393, 3) := by decide +kernel
theorem dX11_pen_45 : decode cX11_pen 45 = .ok (.goto 27, 3) := by decide +kernel
theorem dX11_pen_48 : decode cX11_pen 48 = .ok (.iload_n 2, 1) := by decide +kernel
theorem dX11_pen_49 : decode cX11_pen 49 = .ok (.iconst 1, 1) := by decide +kernel
theorem dX11_pen_50 : decode cX11_pen 50 = .ok (.if_icmp .ne 18, 3) := by decide +kernel
theorem dX11_pen_53 : decode cX11_pen 53 = .ok (.aload_n 0, 1) := by decide +kernel
theorem dX11_pen_54 : decode cX11_pen 54 = .ok (.getfield 399, 3) := by decide +kernel
theorem dX11_pen_57 : decode cX11_pen 57 = .ok (.ifCond .eq 7, 3) := by decide +kernel
theorem dX11_pen_60 : decode cX11_pen 60 = .ok (.iconst 1, 1) := by decide +kernel
theorem dX11_pen_61 : decode cX11_pen 61 = .ok (.goto 11, 3) := by decide +kernel
theorem dX11_pen_64 : decode cX11_pen 64 = .ok (.iconst 0, 1) := by decide +kernel
theorem dX11_pen_65 : decode cX11_pen 65 = .ok (.goto 7, 3) := by decide +kernel
theorem dX11_pen_68 : decode cX11_pen 68 = .ok (.aload_n 0, 1) := by decide +kernel
theorem dX11_pen_69 : decode cX11_pen 69 = .ok (.getfield 396, 3) := by decide +kernel
theorem dX11_pen_72 : decode cX11_pen 72 = .ok (.ireturn, 1) := by decide +kernel
theorem dX11_longest_0 : decode cX11_longest 0 = .ok (.aload_n 0, 1) := by decide +kernel
theorem dX11_longest_1 : decode cX11_longest 1 = .ok (.iconst 1, 1) := by decide +kernel
theorem dX11_longest_2 : decode cX11_longest 2 = .ok (.invokevirtual 318, 3) := by decide +kernel
theorem dX11_longest_5 : decode cX11_longest 5 = .ok (.ifCond .ne 5, 3) := by decide +kernel
theorem dX11_longest_8 : decode cX11_longest 8 = .ok (.iconst (-1), 1) := by decide +kernel
theorem dX11_longest_9 : decode cX11_longest 9 = .ok (.ireturn, 1) := by decide +kernel
theorem dX11_longest_10 : decode cX11_longest 10 = .ok (.bipush (-2), 2) := by decide +kernel
theorem dX11_longest_12 : decode cX11_longest 12 = .ok (.istore_n 1, 1) := by decide +kernel
theorem dX11_longest_13 : decode cX11_longest 13 = .ok (.iconst 0, 1) := by decide +kernel
theorem dX11_longest_14 : decode cX11_longest 14 = .ok (.istore_n 2, 1) := by decide +kernel
theorem dX11_longest_15 : decode cX11_longest 15 = .ok (.iload_n 2, 1) := by decide +kernel
theorem dX11_longest_16 : decode cX11_longest 16 = .ok (.aload_n 0, 1) := by decide +kernel
theorem dX11_longest_17 : decode cX11_longest 17 = .ok (.getfield 17, 3) := by decide +kernel
theorem dX11_longest_20 : decode cX11_longest 20 = .ok (.bipush 103, 2) := by decide +kernel
theorem dX11_longest_22 : decode cX11_longest 22 = .ok (.iaload, 1) := by decide +kernel
theorem dX11_longest_23 : decode cX11_longest 23 = .ok (.if_icmp .ge 42, 3) := by decide +kernel
theorem dX11_longest_26 : decode cX11_longest 26 = .ok (.iload_n 1, 1) := by decide +kernel
theorem dX11_longest_27 : decode cX11_longest 27 = .ok (.bipush (-2), 2) := by decide +kernel
theorem dX11_longest_29 : decode cX11_longest 29 = .ok (.if_icmp .eq 24, 3) := by decide +kernel
theorem dX11_longest_32 : decode cX11_longest 32 = .ok (.aload_n 0, 1) := by decide +kernel
theorem dX11_longest_33 : decode cX11_longest 33 = .ok (.aload_n 0, 1) := by decide +kernel
theorem dX11_longest_34 : decode cX11_longest 34 = .ok (.iload_n 2, 1) := by decide +kernel
theorem dX11_longest_35 : decode cX11_longest 35 = .ok (.invokevirtual 340, 3) := by decide +kernel
theorem dX11_longest_38 : decode cX11_longest 38 = .ok (.invokevirtual 355, 3) := by decide +kernel
theorem dX11_longest_41 : decode cX11_longest 41 = .ok (.aload_n 0, 1) := by decide +kernel
theorem dX11_longest_42 : decode cX11_longest 42 = .ok (.aload_n 0, 1) := by decide +kernel
theorem dX11_longest_43 : decode cX11_longest 43 = .ok (.iload_n 1, 1) := by decide +kernel
theorem dX11_longest_44 : decode cX11_longest 44 = .ok (.invokevirtual 340, 3) := by decide +kernel
theorem dX11_longest_47 : decode cX11_longest 47 = .ok (.invokevirtual 355, 3) := by decide +kernel
theorem dX11_longest_50 : decode cX11_longest 50 = .ok (.if_icmp .le 7, 3) := by decide +kernel
theorem dX11_longest_53 : decode cX11_longest 53 = .ok (.iload_n 2, 1) := by decide +kernel
theorem dX11_longest_54 : decode cX11_longest 54 = .ok (.goto 4, 3) := by decide +kernel
theorem dX11_longest_57 : decode cX11_longest 57 = .ok (.iload_n 1, 1) := by decide +kernel
theorem dX11_longest_58 : decode cX11_longest 58 = .ok (.istore_n 1, 1) := by decide +kernel
theorem dX11_longest_59 : decode cX11_longest 59 = .ok (.iinc 2 1, 3) := by decide +kernel
theorem dX11_longest_62 : decode cX11_longest 62 = .ok (.goto (-47), 3) := by decide +kernel
theorem dX11_longest_65 : decode cX11_longest 65 = .ok (.iload_n 1, 1) := by decide +kernel
theorem dX11_longest_66 : decode cX11_longest 66 = .ok (.ireturn, 1) := by decide +kernel
theorem dX11_farthest_0 : decode cX11_farthest 0 = .ok (.aload_n 0, 1) := by decide +kernel
theorem dX11_farthest_1 : decode cX11_farthest 1 = .ok (.iconst 1, 1) := by decide +kernel
theorem dX11_farthest_2 : decode cX11_farthest 2 = .ok (.invokevirtual 318, 3) := by decide +kernel
theorem dX11_farthest_5 : decode cX11_farthest 5 = .ok (.ifCond .ne 5, 3) := by decide +kernel
theorem dX11_farthest_8 : decode cX11_farthest 8 = .ok (.iconst (-1), 1) := by decide +kernel
theorem dX11_farthest_9 : decode cX11_farthest 9 = .ok (.ireturn, 1) := by decide +kernel
theorem dX11_farthest_10 : decode cX11_farthest 10 = .ok (.aload_n 0, 1) := by decide +kernel
theorem dX11_farthest_11 : decode cX11_farthest 11 = .ok (.getfield 17, 3) := by decide +kernel
theorem dX11_farthest_14 : decode cX11_farthest 14 = .ok (.bipush 103, 2) := by decide +kernel
theorem dX11_farthest_16 : decode cX11_farthest 16 = .ok (.iaload, 1) := by decide +kernel
theorem dX11_farthest_17 : decode cX11_farthest 17 = .ok (.ifCond .ne 6, 3) := by decide +kernel
theorem dX11_farthest_20 : decode cX11_farthest 20 = .ok (.bipush (-2), 2) := by decide +kernel
theorem dX11_farthest_22 : decode cX11_farthest 22 = .ok (.ireturn, 1) := by decide +kernel
theorem dX11_farthest_23 : decode cX11_farthest 23 = .ok (.iconst 0, 1) := by decide +kernel
theorem dX11_farthest_24 : decode cX11_farthest 24 = .ok (.istore_n 1, 1) := by decide +kernel
theorem dX11_farthest_25 : decode cX11_farthest 25 = .ok (.iconst 1, 1) := by decide +kernel
theorem dX11_farthest_26 : decode cX11_farthest 26 = .ok (.istore_n 2, 1) := by decide +kernel
theorem dX11_farthest_27 : decode cX11_farthest 27 = .ok (.iload_n 2, 1) := by decide +kernel
theorem dX11_farthest_28 : decode cX11_farthest 28 = .ok (.aload_n 0, 1) := by decide +kernel
theorem dX11_farthest_29 : decode cX11_farthest 29 = .ok (.getfield 17, 3) := by decide +kernel
theorem dX11_farthest_32 : decode cX11_farthest 32 = .ok (.bipush 103, 2) := by decide +kernel
theorem dX11_farthest_34 : decode cX11_farthest 34 = .ok (.iaload, 1) := by decide +kernel
theorem dX11_farthest_35 : decode cX11_farthest 35 = .ok (.if_icmp .gt 28, 3) := by decide +kernel
theorem dX11_farthest_38 : decode cX11_farthest 38 = .ok (.aload_n 0, 1) := by decide +kernel
theorem dX11_farthest_39 : decode cX11_farthest 39 = .ok (.iload_n 2, 1) := by decide +kernel
theorem dX11_farthest_40 : decode cX11_farthest 40 = .ok (.invokevirtual 352, 3) := by decide +kernel
theorem dX11_farthest_43 : decode cX11_farthest 43 = .ok (.aload_n 0, 1) := by decide +kernel
theorem dX11_farthest_44 : decode cX11_farthest 44 = .ok (.iload_n 1, 1) := by decide +kernel
theorem dX11_farthest_45 : decode cX11_farthest 45 = .ok (.invokevirtual 352, 3) := by decide +kernel
theorem dX11_farthest_48 : decode cX11_farthest 48 = .ok (.if_icmp .le 7, 3) := by decide +kernel
theorem dX11_farthest_51 : decode cX11_farthest 51 = .ok (.iload_n 2, 1) := by decide +kernel
theorem dX11_farthest_52 : decode cX11_farthest 52 = .ok (.goto 4, 3) := by decide +kernel
theorem dX11_farthest_55 : decode cX11_farthest 55 = .ok (.iload_n 1, 1) := by decide +kernel
theorem dX11_farthest_56 : decode cX11_farthest 56 = .ok (.istore_n 1, 1) := by decide +kernel
theorem dX11_farthest_57 : decode cX11_farthest 57 = .ok (.iinc 2 1, 3) := by decide +kernel
theorem dX11_farthest_60 : decode cX11_farthest 60 = .ok (.goto (-33), 3) := by decide +kernel
theorem dX11_farthest_63 : decode cX11_farthest 63 = .ok (.iload_n 1, 1) := by decide +kernel
theorem dX11_farthest_64 : decode cX11_farthest 64 = .ok (.ireturn, 1) := by decide +kernel
theorem dX11_isPoint_0 : decode cX11_isPoint 0 = .ok (.iload_n 1, 1) := by decide +kernel
theorem dX11_isPoint_1 : decode cX11_isPoint 1 = .ok (.iconst 0, 1) := by decide +kernel
theorem dX11_isPoint_2 : decode cX11_isPoint 2 = .ok (.aload_n 0, 1) := by decide +kernel
theorem dX11_isPoint_3 : decode cX11_isPoint 3 = .ok (.getfield 17, 3) := by decide +kernel
theorem dX11_isPoint_6 : decode cX11_isPoint 6 = .ok (.iconst 0, 1) := by decide +kernel
theorem dX11_isPoint_7 : decode cX11_isPoint 7 = .ok (.iaload, 1) := by decide +kernel
theorem dX11_isPoint_8 : decode cX11_isPoint 8 = .ok (.invokestatic 128, 3) := by decide +kernel
theorem dX11_isPoint_11 : decode cX11_isPoint 11 = .ok (.ifCond .eq 21, 3) := by decide +kernel
theorem dX11_isPoint_14 : decode cX11_isPoint 14 = .ok (.iload_n 2, 1) := by decide +kernel
theorem dX11_isPoint_15 : decode cX11_isPoint 15 = .ok (.iconst 0, 1) := by decide +kernel
theorem dX11_isPoint_16 : decode cX11_isPoint 16 = .ok (.aload_n 0, 1) := by decide +kernel
theorem dX11_isPoint_17 : decode cX11_isPoint 17 = .ok (.getfield 17, 3) := by decide +kernel
theorem dX11_isPoint_20 : decode cX11_isPoint 20 = .ok (.iconst 0, 1) := by decide +kernel
theorem dX11_isPoint_21 : decode cX11_isPoint 21 = .ok (.iaload, 1) := by decide +kernel
theorem dX11_isPoint_22 : decode cX11_isPoint 22 = .ok (.invokestatic 128, 3) := by decide +kernel
theorem dX11_isPoint_25 : decode cX11_isPoint 25 = .ok (.ifCond .eq 7, 3) := by decide +kernel
theorem dX11_isPoint_28 : decode cX11_isPoint 28 = .ok (.iconst 1, 1) := by decide +kernel
theorem dX11_isPoint_29 : decode cX11_isPoint 29 = .ok (.goto 4, 3) := by decide +kernel
theorem dX11_isPoint_32 : decode cX11_isPoint 32 = .ok (.iconst 0, 1) := by decide +kernel
theorem dX11_isPoint_33 : decode cX11_isPoint 33 = .ok (.ireturn, 1) := by decide +kernel
theorem dX11_strokeWhy_0 : decode cX11_strokeWhy 0 = .ok (.aload_n 0, 1) := by decide +kernel
theorem dX11_strokeWhy_1 : decode cX11_strokeWhy 1 = .ok (.getfield 223, 3) := by decide +kernel
theorem dX11_strokeWhy_4 : decode cX11_strokeWhy 4 = .ok (.ifCond .ne 5, 3) := by decide +kernel
theorem dX11_strokeWhy_7 : decode cX11_strokeWhy 7 = .ok (.iconst 1, 1) := by decide +kernel
theorem dX11_strokeWhy_8 : decode cX11_strokeWhy 8 = .ok (.ireturn, 1) := by decide +kernel
theorem dX11_strokeWhy_9 : decode cX11_strokeWhy 9 = .ok (.aload_n 0, 1) := by decide +kernel
theorem dX11_strokeWhy_10 : decode cX11_strokeWhy 10 = .ok (.iload_n 1, 1) := by decide +kernel
theorem dX11_strokeWhy_11 : decode cX11_strokeWhy 11 = .ok (.iload_n 2, 1) := by decide +kernel
theorem dX11_strokeWhy_12 : decode cX11_strokeWhy 12 = .ok (.invokevirtual 406, 3) := by decide +kernel
theorem dX11_strokeWhy_15 : decode cX11_strokeWhy 15 = .ok (.ifCond .eq 24, 3) := by decide +kernel
theorem dX11_strokeWhy_18 : decode cX11_strokeWhy 18 = .ok (.aload_n 0, 1) := by decide +kernel
theorem dX11_strokeWhy_19 : decode cX11_strokeWhy 19 = .ok (.iload_n 3, 1) := by decide +kernel
theorem dX11_strokeWhy_20 : decode cX11_strokeWhy 20 = .ok (.iload 4, 2) := by decide +kernel
theorem dX11_strokeWhy_22 : decode cX11_strokeWhy 22 = .ok (.invokevirtual 406, 3) := by decide +kernel
theorem dX11_strokeWhy_25 : decode cX11_strokeWhy 25 = .ok (.ifCond .eq 14, 3) := by decide +kernel
theorem dX11_strokeWhy_28 : decode cX11_strokeWhy 28 = .ok (.iload_n 1, 1) := by decide +kernel
theorem dX11_strokeWhy_29 : decode cX11_strokeWhy 29 = .ok (.iload_n 3, 1) := by decide +kernel
theorem dX11_strokeWhy_30 : decode cX11_strokeWhy 30 = .ok (.if_icmp .ne 13, 3) := by decide +kernel
theorem dX11_strokeWhy_33 : decode cX11_strokeWhy 33 = .ok (.iload_n 2, 1) := by decide +kernel
theorem dX11_strokeWhy_34 : decode cX11_strokeWhy 34 = .ok (.iload 4, 2) := by decide +kernel
theorem dX11_strokeWhy_36 : decode cX11_strokeWhy 36 = .ok (.if_icmp .ne 7, 3) := by decide +kernel
theorem dX11_strokeWhy_39 : decode cX11_strokeWhy 39 = .ok (.iconst 2, 1) := by decide +kernel
theorem dX11_strokeWhy_40 : decode cX11_strokeWhy 40 = .ok (.goto 19, 3) := by decide +kernel
theorem dX11_strokeWhy_43 : decode cX11_strokeWhy 43 = .ok (.aload_n 0, 1) := by decide +kernel
theorem dX11_strokeWhy_44 : decode cX11_strokeWhy 44 = .ok (.getfield 17, 3) := by decide +kernel
theorem dX11_strokeWhy_47 : decode cX11_strokeWhy 47 = .ok (.iconst 2, 1) := by decide +kernel
theorem dX11_strokeWhy_48 : decode cX11_strokeWhy 48 = .ok (.iaload, 1) := by decide +kernel
theorem dX11_strokeWhy_49 : decode cX11_strokeWhy 49 = .ok (.bipush 24, 2) := by decide +kernel
theorem dX11_strokeWhy_51 : decode cX11_strokeWhy 51 = .ok (.if_icmp .ne 7, 3) := by decide +kernel
theorem dX11_strokeWhy_54 : decode cX11_strokeWhy 54 = .ok (.iconst 3, 1) := by decide +kernel
theorem dX11_strokeWhy_55 : decode cX11_strokeWhy 55 = .ok (.goto 4, 3) := by decide +kernel
theorem dX11_strokeWhy_58 : decode cX11_strokeWhy 58 = .ok (.iconst 0, 1) := by decide +kernel
theorem dX11_strokeWhy_59 : decode cX11_strokeWhy 59 = .ok (.ireturn, 1) := by decide +kernel
theorem dX11_comes_0 : decode cX11_comes 0 = .ok (.bipush 7, 2) := by decide +kernel
theorem dX11_comes_2 : decode cX11_comes 2 = .ok (.iconst 4, 1) := by decide +kernel
theorem dX11_comes_3 : decode cX11_comes 3 = .ok (.aload_n 0, 1) := by decide +kernel
theorem dX11_comes_4 : decode cX11_comes 4 = .ok (.getfield 17, 3) := by decide +kernel
theorem dX11_comes_7 : decode cX11_comes 7 = .ok (.iconst 2, 1) := by decide +kernel
theorem dX11_comes_8 : decode cX11_comes 8 = .ok (.iaload, 1) := by decide +kernel
theorem dX11_comes_9 : decode cX11_comes 9 = .ok (.imul, 1) := by decide +kernel
theorem dX11_comes_10 : decode cX11_comes 10 = .ok (.iadd, 1) := by decide +kernel
theorem dX11_comes_11 : decode cX11_comes 11 = .ok (.istore 5, 2) := by decide +kernel
theorem dX11_comes_13 : decode cX11_comes 13 = .ok (.aload_n 0, 1) := by decide +kernel
theorem dX11_comes_14 : decode cX11_comes 14 = .ok (.getfield 17, 3) := by decide +kernel
theorem dX11_comes_17 : decode cX11_comes 17 = .ok (.iload 5, 2) := by decide +kernel
theorem dX11_comes_19 : decode cX11_comes 19 = .ok (.iload_n 1, 1) := by decide +kernel
theorem dX11_comes_20 : decode cX11_comes 20 = .ok (.iastore, 1) := by decide +kernel
theorem dX11_comes_21 : decode cX11_comes 21 = .ok (.aload_n 0, 1) := by decide +kernel
theorem dX11_comes_22 : decode cX11_comes 22 = .ok (.getfield 17, 3) := by decide +kernel
theorem dX11_comes_25 : decode cX11_comes 25 = .ok (.iload 5, 2) := by decide +kernel
theorem dX11_comes_27 : decode cX11_comes 27 = .ok (.iconst 1, 1) := by decide +kernel
theorem dX11_comes_28 : decode cX11_comes 28 = .ok (.iadd, 1) := by decide +kernel
theorem dX11_comes_29 : decode cX11_comes 29 = .ok (.iload_n 2, 1) := by decide +kernel
theorem dX11_comes_30 : decode cX11_comes 30 = .ok (.iastore, 1) := by decide +kernel
theorem dX11_comes_31 : decode cX11_comes 31 = .ok (.aload_n 0, 1) := by decide +kernel
theorem dX11_comes_32 : decode cX11_comes 32 = .ok (.getfield 17, 3) := by decide +kernel
theorem dX11_comes_35 : decode cX11_comes 35 = .ok (.iload 5, 2) := by decide +kernel
theorem dX11_comes_37 : decode cX11_comes 37 = .ok (.iconst 2, 1) := by decide +kernel
theorem dX11_comes_38 : decode cX11_comes 38 = .ok (.iadd, 1) := by decide +kernel
theorem dX11_comes_39 : decode cX11_comes 39 = .ok (.iload_n 3, 1) := by decide +kernel
theorem dX11_comes_40 : decode cX11_comes 40 = .ok (.iastore, 1) := by decide +kernel
theorem dX11_comes_41 : decode cX11_comes 41 = .ok (.aload_n 0, 1) := by decide +kernel
theorem dX11_comes_42 : decode cX11_comes 42 = .ok (.getfield 17, 3) := by decide +kernel
theorem dX11_comes_45 : decode cX11_comes 45 = .ok (.iload 5, 2) := by decide +kernel
theorem dX11_comes_47 : decode cX11_comes 47 = .ok (.iconst 3, 1) := by decide +kernel
theorem dX11_comes_48 : decode cX11_comes 48 = .ok (.iadd, 1) := by decide +kernel
theorem dX11_comes_49 : decode cX11_comes 49 = .ok (.iload 4, 2) := by decide +kernel
theorem dX11_comes_51 : decode cX11_comes 51 = .ok (.iastore, 1) := by decide +kernel
theorem dX11_comes_52 : decode cX11_comes 52 = .ok (.aload_n 0, 1) := by decide +kernel
theorem dX11_comes_53 : decode cX11_comes 53 = .ok (.getfield 17, 3) := by decide +kernel
theorem dX11_comes_56 : decode cX11_comes 56 = .ok (.iconst 2, 1) := by decide +kernel
theorem dX11_comes_57 : decode cX11_comes 57 = .ok (.dup2, 1) := by decide +kernel
theorem dX11_comes_58 : decode cX11_comes 58 = .ok (.iaload, 1) := by decide +kernel
theorem dX11_comes_59 : decode cX11_comes 59 = .ok (.iconst 1, 1) := by decide +kernel
theorem dX11_comes_60 : decode cX11_comes 60 = .ok (.iadd, 1) := by decide +kernel
theorem dX11_comes_61 : decode cX11_comes 61 = .ok (.iastore, 1) := by decide +kernel
theorem dX11_comes_62 : decode cX11_comes 62 = .ok (.return_, 1) := by decide +kernel
theorem dX11_leaves_0 : decode cX11_leaves 0 = .ok (.bipush 7, 2) := by decide +kernel
theorem dX11_leaves_2 : decode cX11_leaves 2 = .ok (.iconst 4, 1) := by decide +kernel
theorem dX11_leaves_3 : decode cX11_leaves 3 = .ok (.iload_n 1, 1) := by decide +kernel
theorem dX11_leaves_4 : decode cX11_leaves 4 = .ok (.imul, 1) := by decide +kernel
theorem dX11_leaves_5 : decode cX11_leaves 5 = .ok (.iadd, 1) := by decide +kernel
theorem dX11_leaves_6 : decode cX11_leaves 6 = .ok (.istore_n 2, 1) := by decide +kernel
theorem dX11_leaves_7 : decode cX11_leaves 7 = .ok (.iload_n 2, 1) := by decide +kernel
theorem dX11_leaves_8 : decode cX11_leaves 8 = .ok (.bipush 7, 2) := by decide +kernel
theorem dX11_leaves_10 : decode cX11_leaves 10 = .ok (.iconst 4, 1) := by decide +kernel
theorem dX11_leaves_11 : decode cX11_leaves 11 = .ok (.aload_n 0, 1) := by decide +kernel
theorem dX11_leaves_12 : decode cX11_leaves 12 = .ok (.getfield 17, 3) := by decide +kernel
theorem dX11_leaves_15 : decode cX11_leaves 15 = .ok (.iconst 2, 1) := by decide +kernel
theorem dX11_leaves_16 : decode cX11_leaves 16 = .ok (.iaload, 1) := by decide +kernel
theorem dX11_leaves_17 : decode cX11_leaves 17 = .ok (.imul, 1) := by decide +kernel
theorem dX11_leaves_18 : decode cX11_leaves 18 = .ok (.iadd, 1) := by decide +kernel
theorem dX11_leaves_19 : decode cX11_leaves 19 = .ok (.iconst 4, 1) := by decide +kernel
theorem dX11_leaves_20 : decode cX11_leaves 20 = .ok (.isub, 1) := by decide +kernel
theorem dX11_leaves_21 : decode cX11_leaves 21 = .ok (.if_icmp .ge 23, 3) := by decide +kernel
theorem dX11_leaves_24 : decode cX11_leaves 24 = .ok (.aload_n 0, 1) := by decide +kernel
theorem dX11_leaves_25 : decode cX11_leaves 25 = .ok (.getfield 17, 3) := by decide +kernel
theorem dX11_leaves_28 : decode cX11_leaves 28 = .ok (.iload_n 2, 1) := by decide +kernel
theorem dX11_leaves_29 : decode cX11_leaves 29 = .ok (.aload_n 0, 1) := by decide +kernel
theorem dX11_leaves_30 : decode cX11_leaves 30 = .ok (.getfield 17, 3) := by decide +kernel
theorem dX11_leaves_33 : decode cX11_leaves 33 = .ok (.iload_n 2, 1) := by decide +kernel
theorem dX11_leaves_34 : decode cX11_leaves 34 = .ok (.iconst 4, 1) := by decide +kernel
theorem dX11_leaves_35 : decode cX11_leaves 35 = .ok (.iadd, 1) := by decide +kernel
theorem dX11_leaves_36 : decode cX11_leaves 36 = .ok (.iaload, 1) := by decide +kernel
theorem dX11_leaves_37 : decode cX11_leaves 37 = .ok (.iastore, 1) := by decide +kernel
theorem dX11_leaves_38 : decode cX11_leaves 38 = .ok (.iinc 2 1, 3) := by decide +kernel
theorem dX11_leaves_41 : decode cX11_leaves 41 = .ok (.goto (-34), 3) := by decide +kernel
theorem dX11_leaves_44 : decode cX11_leaves 44 = .ok (.aload_n 0, 1) := by decide +kernel
theorem dX11_leaves_45 : decode cX11_leaves 45 = .ok (.getfield 17, 3) := by decide +kernel
theorem dX11_leaves_48 : decode cX11_leaves 48 = .ok (.iconst 2, 1) := by decide +kernel
theorem dX11_leaves_49 : decode cX11_leaves 49 = .ok (.dup2, 1) := by decide +kernel
theorem dX11_leaves_50 : decode cX11_leaves 50 = .ok (.iaload, 1) := by decide +kernel
theorem dX11_leaves_51 : decode cX11_leaves 51 = .ok (.iconst 1, 1) := by decide +kernel
theorem dX11_leaves_52 : decode cX11_leaves 52 = .ok (.isub, 1) := by decide +kernel
theorem dX11_leaves_53 : decode cX11_leaves 53 = .ok (.iastore, 1) := by decide +kernel
theorem dX11_leaves_54 : decode cX11_leaves 54 = .ok (.return_, 1) := by decide +kernel
theorem dX11_would_0 : decode cX11_would 0 = .ok (.aload_n 0, 1) := by decide +kernel
theorem dX11_would_1 : decode cX11_would 1 = .ok (.aload_n 0, 1) := by decide +kernel
theorem dX11_would_2 : decode cX11_would 2 = .ok (.iload_n 1, 1) := by decide +kernel
theorem dX11_would_3 : decode cX11_would 3 = .ok (.iload_n 2, 1) := by decide +kernel
theorem dX11_would_4 : decode cX11_would 4 = .ok (.iload_n 3, 1) := by decide +kernel
theorem dX11_would_5 : decode cX11_would 5 = .ok (.iload 4, 2) := by decide +kernel
theorem dX11_would_7 : decode cX11_would 7 = .ok (.invokevirtual 409, 3) := by decide +kernel
theorem dX11_would_10 : decode cX11_would 10 = .ok (.invokevirtual 207, 3) := by decide +kernel
theorem dX11_would_13 : decode cX11_would 13 = .ok (.ifCond .eq 7, 3) := by decide +kernel
theorem dX11_would_16 : decode cX11_would 16 = .ok (.ldc_w 386, 3) := by decide +kernel
theorem dX11_would_19 : decode cX11_would 19 = .ok (.ireturn, 1) := by decide +kernel
theorem dX11_would_20 : decode cX11_would 20 = .ok (.aload_n 0, 1) := by decide +kernel
theorem dX11_would_21 : decode cX11_would 21 = .ok (.invokevirtual 311, 3) := by decide +kernel
theorem dX11_would_24 : decode cX11_would 24 = .ok (.aload_n 0, 1) := by decide +kernel
theorem dX11_would_25 : decode cX11_would 25 = .ok (.getfield 296, 3) := by decide +kernel
theorem dX11_would_28 : decode cX11_would 28 = .ok (.istore 5, 2) := by decide +kernel
theorem dX11_would_30 : decode cX11_would 30 = .ok (.aload_n 0, 1) := by decide +kernel
theorem dX11_would_31 : decode cX11_would 31 = .ok (.iload_n 1, 1) := by decide +kernel
theorem dX11_would_32 : decode cX11_would 32 = .ok (.iload_n 2, 1) := by decide +kernel
theorem dX11_would_33 : decode cX11_would 33 = .ok (.iload_n 3, 1) := by decide +kernel
theorem dX11_would_34 : decode cX11_would 34 = .ok (.iload 4, 2) := by decide +kernel
theorem dX11_would_36 : decode cX11_would 36 = .ok (.invokevirtual 413, 3) := by decide +kernel
theorem dX11_would_39 : decode cX11_would 39 = .ok (.aload_n 0, 1) := by decide +kernel
theorem dX11_would_40 : decode cX11_would 40 = .ok (.invokevirtual 311, 3) := by decide +kernel
theorem dX11_would_43 : decode cX11_would 43 = .ok (.aload_n 0, 1) := by decide +kernel
theorem dX11_would_44 : decode cX11_would 44 = .ok (.getfield 296, 3) := by decide +kernel
theorem dX11_would_47 : decode cX11_would 47 = .ok (.iload 5, 2) := by decide +kernel
theorem dX11_would_49 : decode cX11_would 49 = .ok (.isub, 1) := by decide +kernel
theorem dX11_would_50 : decode cX11_would 50 = .ok (.istore 6, 2) := by decide +kernel
theorem dX11_would_52 : decode cX11_would 52 = .ok (.aload_n 0, 1) := by decide +kernel
theorem dX11_would_53 : decode cX11_would 53 = .ok (.getfield 17, 3) := by decide +kernel
theorem dX11_would_56 : decode cX11_would 56 = .ok (.iconst 2, 1) := by decide +kernel
theorem dX11_would_57 : decode cX11_would 57 = .ok (.dup2, 1) := by decide +kernel
theorem dX11_would_58 : decode cX11_would 58 = .ok (.iaload, 1) := by decide +kernel
theorem dX11_would_59 : decode cX11_would 59 = .ok (.iconst 1, 1) := by decide +kernel
theorem dX11_would_60 : decode cX11_would 60 = .ok (.isub, 1) := by decide +kernel
theorem dX11_would_61 : decode cX11_would 61 = .ok (.iastore, 1) := by decide +kernel
theorem dX11_would_62 : decode cX11_would 62 = .ok (.iload 6, 2) := by decide +kernel
theorem dX11_would_64 : decode cX11_would 64 = .ok (.ireturn, 1) := by decide +kernel
theorem dX11_worst_0 : decode cX11_worst 0 = .ok (.aload_n 0, 1) := by decide +kernel
theorem dX11_worst_1 : decode cX11_worst 1 = .ok (.iconst 1, 1) := by decide +kernel
theorem dX11_worst_2 : decode cX11_worst 2 = .ok (.invokevirtual 318, 3) := by decide +kernel
theorem dX11_worst_5 : decode cX11_worst 5 = .ok (.ifCond .ne 5, 3) := by decide +kernel
theorem dX11_worst_8 : decode cX11_worst 8 = .ok (.iconst (-1), 1) := by decide +kernel
theorem dX11_worst_9 : decode cX11_worst 9 = .ok (.ireturn, 1) := by decide +kernel
theorem dX11_worst_10 : decode cX11_worst 10 = .ok (.bipush (-2), 2) := by decide +kernel
theorem dX11_worst_12 : decode cX11_worst 12 = .ok (.istore_n 1, 1) := by decide +kernel
theorem dX11_worst_13 : decode cX11_worst 13 = .ok (.ldc_w 283, 3) := by decide +kernel
theorem dX11_worst_16 : decode cX11_worst 16 = .ok (.istore_n 2, 1) := by decide +kernel
theorem dX11_worst_17 : decode cX11_worst 17 = .ok (.aload_n 0, 1) := by decide +kernel
theorem dX11_worst_18 : decode cX11_worst 18 = .ok (.invokevirtual 364, 3) := by decide +kernel
theorem dX11_worst_21 : decode cX11_worst 21 = .ok (.iconst 0, 1) := by decide +kernel
theorem dX11_worst_22 : decode cX11_worst 22 = .ok (.istore_n 3, 1) := by decide +kernel
theorem dX11_worst_23 : decode cX11_worst 23 = .ok (.iload_n 3, 1) := by decide +kernel
theorem dX11_worst_24 : decode cX11_worst 24 = .ok (.aload_n 0, 1) := by decide +kernel
theorem dX11_worst_25 : decode cX11_worst 25 = .ok (.getfield 23, 3) := by decide +kernel
theorem dX11_worst_28 : decode cX11_worst 28 = .ok (.iconst 2, 1) := by decide +kernel
theorem dX11_worst_29 : decode cX11_worst 29 = .ok (.iaload, 1) := by decide +kernel
theorem dX11_worst_30 : decode cX11_worst 30 = .ok (.if_icmp .ge 37, 3) := by decide +kernel
theorem dX11_worst_33 : decode cX11_worst 33 = .ok (.aload_n 0, 1) := by decide +kernel
theorem dX11_worst_34 : decode cX11_worst 34 = .ok (.iload_n 3, 1) := by decide +kernel
theorem dX11_worst_35 : decode cX11_worst 35 = .ok (.invokevirtual 417, 3) := by decide +kernel
theorem dX11_worst_38 : decode cX11_worst 38 = .ok (.aload_n 0, 1) := by decide +kernel
theorem dX11_worst_39 : decode cX11_worst 39 = .ok (.invokevirtual 311, 3) := by decide +kernel
theorem dX11_worst_42 : decode cX11_worst 42 = .ok (.aload_n 0, 1) := by decide +kernel
theorem dX11_worst_43 : decode cX11_worst 43 = .ok (.getfield 296, 3) := by decide +kernel
theorem dX11_worst_46 : decode cX11_worst 46 = .ok (.iload_n 2, 1) := by decide +kernel
theorem dX11_worst_47 : decode cX11_worst 47 = .ok (.if_icmp .ge 10, 3) := by decide +kernel
theorem dX11_worst_50 : decode cX11_worst 50 = .ok (.aload_n 0, 1) := by decide +kernel
theorem dX11_worst_51 : decode cX11_worst 51 = .ok (.getfield 296, 3) := by decide +kernel
theorem dX11_worst_54 : decode cX11_worst 54 = .ok (.istore_n 2, 1) := by decide +kernel
theorem dX11_worst_55 : decode cX11_worst 55 = .ok (.iload_n 3, 1) := by decide +kernel
theorem dX11_worst_56 : decode cX11_worst 56 = .ok (.istore_n 1, 1) := by decide +kernel
theorem dX11_worst_57 : decode cX11_worst 57 = .ok (.aload_n 0, 1) := by decide +kernel
theorem dX11_worst_58 : decode cX11_worst 58 = .ok (.invokevirtual 367, 3) := by decide +kernel
theorem dX11_worst_61 : decode cX11_worst 61 = .ok (.iinc 3 1, 3) := by decide +kernel
theorem dX11_worst_64 : decode cX11_worst 64 = .ok (.goto (-41), 3) := by decide +kernel
theorem dX11_worst_67 : decode cX11_worst 67 = .ok (.iload_n 1, 1) := by decide +kernel
theorem dX11_worst_68 : decode cX11_worst 68 = .ok (.ireturn, 1) := by decide +kernel
theorem dX11_trailsBy_0 : decode cX11_trailsBy 0 = .ok (.aload_n 0, 1) := by decide +kernel
theorem dX11_trailsBy_1 : decode cX11_trailsBy 1 = .ok (.getfield 17, 3) := by decide +kernel
theorem dX11_trailsBy_4 : decode cX11_trailsBy 4 = .ok (.iconst 1, 1) := by decide +kernel
theorem dX11_trailsBy_5 : decode cX11_trailsBy 5 = .ok (.iaload, 1) := by decide +kernel
theorem dX11_trailsBy_6 : decode cX11_trailsBy 6 = .ok (.istore_n 2, 1) := by decide +kernel
theorem dX11_trailsBy_7 : decode cX11_trailsBy 7 = .ok (.aload_n 0, 1) := by decide +kernel
theorem dX11_trailsBy_8 : decode cX11_trailsBy 8 = .ok (.getfield 17, 3) := by decide +kernel
theorem dX11_trailsBy_11 : decode cX11_trailsBy 11 = .ok (.iconst 1, 1) := by decide +kernel
theorem dX11_trailsBy_12 : decode cX11_trailsBy 12 = .ok (.iload_n 1, 1) := by decide +kernel
theorem dX11_trailsBy_13 : decode cX11_trailsBy 13 = .ok (.iastore, 1) := by decide +kernel
theorem dX11_trailsBy_14 : decode cX11_trailsBy 14 = .ok (.aload_n 0, 1) := by decide +kernel
theorem dX11_trailsBy_15 : decode cX11_trailsBy 15 = .ok (.invokevirtual 311, 3) := by decide +kernel
theorem dX11_trailsBy_18 : decode cX11_trailsBy 18 = .ok (.aload_n 0, 1) := by decide +kernel
theorem dX11_trailsBy_19 : decode cX11_trailsBy 19 = .ok (.getfield 17, 3) := by decide +kernel
theorem dX11_trailsBy_22 : decode cX11_trailsBy 22 = .ok (.iconst 1, 1) := by decide +kernel
theorem dX11_trailsBy_23 : decode cX11_trailsBy 23 = .ok (.iload_n 2, 1) := by decide +kernel
theorem dX11_trailsBy_24 : decode cX11_trailsBy 24 = .ok (.iastore, 1) := by decide +kernel
theorem dX11_trailsBy_25 : decode cX11_trailsBy 25 = .ok (.aload_n 0, 1) := by decide +kernel
theorem dX11_trailsBy_26 : decode cX11_trailsBy 26 = .ok (.getfield 296, 3) := by decide +kernel
theorem dX11_trailsBy_29 : decode cX11_trailsBy 29 = .ok (.ireturn, 1) := by decide +kernel
theorem dX11_nearest_0 : decode cX11_nearest 0 = .ok (.aload_n 0, 1) := by decide +kernel
theorem dX11_nearest_1 : decode cX11_nearest 1 = .ok (.iconst 1, 1) := by decide +kernel
theorem dX11_nearest_2 : decode cX11_nearest 2 = .ok (.invokevirtual 318, 3) := by decide +kernel
theorem dX11_nearest_5 : decode cX11_nearest 5 = .ok (.ifCond .ne 5, 3) := by decide +kernel
theorem dX11_nearest_8 : decode cX11_nearest 8 = .ok (.iconst (-1), 1) := by decide +kernel
theorem dX11_nearest_9 : decode cX11_nearest 9 = .ok (.ireturn, 1) := by decide +kernel
theorem dX11_nearest_10 : decode cX11_nearest 10 = .ok (.iconst 0, 1) := by decide +kernel
theorem dX11_nearest_11 : decode cX11_nearest 11 = .ok (.istore_n 1, 1) := by decide +kernel
theorem dX11_nearest_12 : decode cX11_nearest 12 = .ok (.ldc_w 283, 3) := by decide +kernel
theorem dX11_nearest_15 : decode cX11_nearest 15 = .ok (.istore_n 2, 1) := by decide +kernel
theorem dX11_nearest_16 : decode cX11_nearest 16 = .ok (.iconst 0, 1) := by decide +kernel
theorem dX11_nearest_17 : decode cX11_nearest 17 = .ok (.istore_n 3, 1) := by decide +kernel
theorem dX11_nearest_18 : decode cX11_nearest 18 = .ok (.iload_n 3, 1) := by decide +kernel
theorem dX11_nearest_19 : decode cX11_nearest 19 = .ok (.bipush 50, 2) := by decide +kernel
theorem dX11_nearest_21 : decode cX11_nearest 21 = .ok (.if_icmp .gt 41, 3) := by decide +kernel
theorem dX11_nearest_24 : decode cX11_nearest 24 = .ok (.aload_n 0, 1) := by decide +kernel
theorem dX11_nearest_25 : decode cX11_nearest 25 = .ok (.iload_n 3, 1) := by decide +kernel
theorem dX11_nearest_26 : decode cX11_nearest 26 = .ok (.invokevirtual 420, 3) := by decide +kernel
theorem dX11_nearest_29 : decode cX11_nearest 29 = .ok (.istore 4, 2) := by decide +kernel
theorem dX11_nearest_31 : decode cX11_nearest 31 = .ok (.iload 4, 2) := by decide +kernel
theorem dX11_nearest_33 : decode cX11_nearest 33 = .ok (.iload_n 2, 1) := by decide +kernel
theorem dX11_nearest_34 : decode cX11_nearest 34 = .ok (.if_icmp .ge 7, 3) := by decide +kernel
theorem dX11_nearest_37 : decode cX11_nearest 37 = .ok (.iload_n 3, 1) := by decide +kernel
theorem dX11_nearest_38 : decode cX11_nearest 38 = .ok (.goto 4, 3) := by decide +kernel
theorem dX11_nearest_41 : decode cX11_nearest 41 = .ok (.iload_n 1, 1) := by decide +kernel
theorem dX11_nearest_42 : decode cX11_nearest 42 = .ok (.istore_n 1, 1) := by decide +kernel
theorem dX11_nearest_43 : decode cX11_nearest 43 = .ok (.iload 4, 2) := by decide +kernel
theorem dX11_nearest_45 : decode cX11_nearest 45 = .ok (.iload_n 2, 1) := by decide +kernel
theorem dX11_nearest_46 : decode cX11_nearest 46 = .ok (.if_icmp .ge 8, 3) := by decide +kernel
theorem dX11_nearest_49 : decode cX11_nearest 49 = .ok (.iload 4, 2) := by decide +kernel
theorem dX11_nearest_51 : decode cX11_nearest 51 = .ok (.goto 4, 3) := by decide +kernel
theorem dX11_nearest_54 : decode cX11_nearest 54 = .ok (.iload_n 2, 1) := by decide +kernel
theorem dX11_nearest_55 : decode cX11_nearest 55 = .ok (.istore_n 2, 1) := by decide +kernel
theorem dX11_nearest_56 : decode cX11_nearest 56 = .ok (.iinc 3 1, 3) := by decide +kernel
theorem dX11_nearest_59 : decode cX11_nearest 59 = .ok (.goto (-41), 3) := by decide +kernel
theorem dX11_nearest_62 : decode cX11_nearest 62 = .ok (.iload_n 1, 1) := by decide +kernel
theorem dX11_nearest_63 : decode cX11_nearest 63 = .ok (.ireturn, 1) := by decide +kernel
theorem dX11_enough_0 : decode cX11_enough 0 = .ok (.aload_n 0, 1) := by decide +kernel
theorem dX11_enough_1 : decode cX11_enough 1 = .ok (.aload_n 0, 1) := by decide +kernel
theorem dX11_enough_2 : decode cX11_enough 2 = .ok (.getfield 223, 3) := by decide +kernel
theorem dX11_enough_5 : decode cX11_enough 5 = .ok (.iload_n 1, 1) := by decide +kernel
theorem dX11_enough_6 : decode cX11_enough 6 = .ok (.iconst 1, 1) := by decide +kernel
theorem dX11_enough_7 : decode cX11_enough 7 = .ok (.bipush 24, 2) := by decide +kernel
theorem dX11_enough_9 : decode cX11_enough 9 = .ok (.invokestatic 128, 3) := by decide +kernel
theorem dX11_enough_12 : decode cX11_enough 12 = .ok (.invokestatic 423, 3) := by decide +kernel
theorem dX11_enough_15 : decode cX11_enough 15 = .ok (.invokevirtual 207, 3) := by decide +kernel
theorem dX11_enough_18 : decode cX11_enough 18 = .ok (.ifCond .eq 5, 3) := by decide +kernel
theorem dX11_enough_21 : decode cX11_enough 21 = .ok (.iconst (-1), 1) := by decide +kernel
theorem dX11_enough_22 : decode cX11_enough 22 = .ok (.ireturn, 1) := by decide +kernel
theorem dX11_enough_23 : decode cX11_enough 23 = .ok (.iconst 0, 1) := by decide +kernel
theorem dX11_enough_24 : decode cX11_enough 24 = .ok (.istore_n 2, 1) := by decide +kernel
theorem dX11_enough_25 : decode cX11_enough 25 = .ok (.iload_n 2, 1) := by decide +kernel
theorem dX11_enough_26 : decode cX11_enough 26 = .ok (.bipush 50, 2) := by decide +kernel
theorem dX11_enough_28 : decode cX11_enough 28 = .ok (.if_icmp .gt 20, 3) := by decide +kernel
theorem dX11_enough_31 : decode cX11_enough 31 = .ok (.aload_n 0, 1) := by decide +kernel
theorem dX11_enough_32 : decode cX11_enough 32 = .ok (.iload_n 2, 1) := by decide +kernel
theorem dX11_enough_33 : decode cX11_enough 33 = .ok (.invokevirtual 420, 3) := by decide +kernel
theorem dX11_enough_36 : decode cX11_enough 36 = .ok (.iload_n 1, 1) := by decide +kernel
theorem dX11_enough_37 : decode cX11_enough 37 = .ok (.if_icmp .gt 5, 3) := by decide +kernel
theorem dX11_enough_40 : decode cX11_enough 40 = .ok (.iload_n 2, 1) := by decide +kernel
theorem dX11_enough_41 : decode cX11_enough 41 = .ok (.ireturn, 1) := by decide +kernel
theorem dX11_enough_42 : decode cX11_enough 42 = .ok (.iinc 2 1, 3) := by decide +kernel
theorem dX11_enough_45 : decode cX11_enough 45 = .ok (.goto (-20), 3) := by decide +kernel
theorem dX11_enough_48 : decode cX11_enough 48 = .ok (.bipush (-2), 2) := by decide +kernel
theorem dX11_enough_50 : decode cX11_enough 50 = .ok (.ireturn, 1) := by decide +kernel
theorem dX11_keeps_0 : decode cX11_keeps 0 = .ok (.aload_n 0, 1) := by decide +kernel
theorem dX11_keeps_1 : decode cX11_keeps 1 = .ok (.getfield 226, 3) := by decide +kernel
theorem dX11_keeps_4 : decode cX11_keeps 4 = .ok (.bipush 10, 2) := by decide +kernel
theorem dX11_keeps_6 : decode cX11_keeps 6 = .ok (.if_icmp .ne 44, 3) := by decide +kernel
theorem dX11_keeps_9 : decode cX11_keeps 9 = .ok (.iconst 0, 1) := by decide +kernel
theorem dX11_keeps_10 : decode cX11_keeps 10 = .ok (.istore_n 1, 1) := by decide +kernel
theorem dX11_keeps_11 : decode cX11_keeps 11 = .ok (.iload_n 1, 1) := by decide +kernel
theorem dX11_keeps_12 : decode cX11_keeps 12 = .ok (.sipush 1368, 3) := by decide +kernel
theorem dX11_keeps_15 : decode cX11_keeps 15 = .ok (.if_icmp .ge 25, 3) := by decide +kernel
theorem dX11_keeps_18 : decode cX11_keeps 18 = .ok (.aload_n 0, 1) := by decide +kernel
theorem dX11_keeps_19 : decode cX11_keeps 19 = .ok (.getfield 26, 3) := by decide +kernel
theorem dX11_keeps_22 : decode cX11_keeps 22 = .ok (.iload_n 1, 1) := by decide +kernel
theorem dX11_keeps_23 : decode cX11_keeps 23 = .ok (.aload_n 0, 1) := by decide +kernel
theorem dX11_keeps_24 : decode cX11_keeps 24 = .ok (.getfield 26, 3) := by decide +kernel
theorem dX11_keeps_27 : decode cX11_keeps 27 = .ok (.iload_n 1, 1) := by decide +kernel
theorem dX11_keeps_28 : decode cX11_keeps 28 = .ok (.sipush 152, 3) := by decide +kernel
theorem dX11_keeps_31 : decode cX11_keeps 31 = .ok (.iadd, 1) := by decide +kernel
theorem dX11_keeps_32 : decode cX11_keeps 32 = .ok (.iaload, 1) := by decide +kernel
theorem dX11_keeps_33 : decode cX11_keeps 33 = .ok (.iastore, 1) := by decide +kernel
theorem dX11_keeps_34 : decode cX11_keeps 34 = .ok (.iinc 1 1, 3) := by decide +kernel
theorem dX11_keeps_37 : decode cX11_keeps 37 = .ok (.goto (-26), 3) := by decide +kernel
theorem dX11_keeps_40 : decode cX11_keeps 40 = .ok (.aload_n 0, 1) := by decide +kernel
theorem dX11_keeps_41 : decode cX11_keeps 41 = .ok (.dup, 1) := by decide +kernel
theorem dX11_keeps_42 : decode cX11_keeps 42 = .ok (.getfield 226, 3) := by decide +kernel
theorem dX11_keeps_45 : decode cX11_keeps 45 = .ok (.iconst 1, 1) := by decide +kernel
theorem dX11_keeps_46 : decode cX11_keeps 46 = .ok (.isub, 1) := by decide +kernel
theorem dX11_keeps_47 : decode cX11_keeps 47 = .ok (.putfield 226, 3) := by decide +kernel
theorem dX11_keeps_50 : decode cX11_keeps 50 = .ok (.aload_n 0, 1) := by decide +kernel
theorem dX11_keeps_51 : decode cX11_keeps 51 = .ok (.getfield 17, 3) := by decide +kernel
theorem dX11_keeps_54 : decode cX11_keeps 54 = .ok (.iconst 0, 1) := by decide +kernel
theorem dX11_keeps_55 : decode cX11_keeps 55 = .ok (.aload_n 0, 1) := by decide +kernel
theorem dX11_keeps_56 : decode cX11_keeps 56 = .ok (.getfield 26, 3) := by decide +kernel
theorem dX11_keeps_59 : decode cX11_keeps 59 = .ok (.sipush 152, 3) := by decide +kernel
theorem dX11_keeps_62 : decode cX11_keeps 62 = .ok (.aload_n 0, 1) := by decide +kernel
theorem dX11_keeps_63 : decode cX11_keeps 63 = .ok (.getfield 226, 3) := by decide +kernel
theorem dX11_keeps_66 : decode cX11_keeps 66 = .ok (.imul, 1) := by decide +kernel
theorem dX11_keeps_67 : decode cX11_keeps 67 = .ok (.invokestatic 219, 3) := by decide +kernel
theorem dX11_keeps_70 : decode cX11_keeps 70 = .ok (.aload_n 0, 1) := by decide +kernel
theorem dX11_keeps_71 : decode cX11_keeps 71 = .ok (.dup, 1) := by decide +kernel
theorem dX11_keeps_72 : decode cX11_keeps 72 = .ok (.getfield 226, 3) := by decide +kernel
theorem dX11_keeps_75 : decode cX11_keeps 75 = .ok (.iconst 1, 1) := by decide +kernel
theorem dX11_keeps_76 : decode cX11_keeps 76 = .ok (.iadd, 1) := by decide +kernel
theorem dX11_keeps_77 : decode cX11_keeps 77 = .ok (.putfield 226, 3) := by decide +kernel
theorem dX11_keeps_80 : decode cX11_keeps 80 = .ok (.return_, 1) := by decide +kernel
theorem dX11_add_0 : decode cX11_add 0 = .ok (.aload_n 0, 1) := by decide +kernel
theorem dX11_add_1 : decode cX11_add 1 = .ok (.aload_n 0, 1) := by decide +kernel
theorem dX11_add_2 : decode cX11_add 2 = .ok (.iload_n 1, 1) := by decide +kernel
theorem dX11_add_3 : decode cX11_add 3 = .ok (.iload_n 2, 1) := by decide +kernel
theorem dX11_add_4 : decode cX11_add 4 = .ok (.iload_n 3, 1) := by decide +kernel
theorem dX11_add_5 : decode cX11_add 5 = .ok (.iload 4, 2) := by decide +kernel
theorem dX11_add_7 : decode cX11_add 7 = .ok (.invokevirtual 409, 3) := by decide +kernel
theorem dX11_add_10 : decode cX11_add 10 = .ok (.invokevirtual 207, 3) := by decide +kernel
theorem dX11_add_13 : decode cX11_add 13 = .ok (.ifCond .eq 5, 3) := by decide +kernel
theorem dX11_add_16 : decode cX11_add 16 = .ok (.iconst (-1), 1) := by decide +kernel
theorem dX11_add_17 : decode cX11_add 17 = .ok (.ireturn, 1) := by decide +kernel
theorem dX11_add_18 : decode cX11_add 18 = .ok (.aload_n 0, 1) := by decide +kernel
theorem dX11_add_19 : decode cX11_add 19 = .ok (.invokevirtual 426, 3) := by decide +kernel
theorem dX11_add_22 : decode cX11_add 22 = .ok (.aload_n 0, 1) := by decide +kernel
theorem dX11_add_23 : decode cX11_add 23 = .ok (.iload_n 1, 1) := by decide +kernel
theorem dX11_add_24 : decode cX11_add 24 = .ok (.iload_n 2, 1) := by decide +kernel
theorem dX11_add_25 : decode cX11_add 25 = .ok (.iload_n 3, 1) := by decide +kernel
theorem dX11_add_26 : decode cX11_add 26 = .ok (.iload 4, 2) := by decide +kernel
theorem dX11_add_28 : decode cX11_add 28 = .ok (.invokevirtual 413, 3) := by decide +kernel
theorem dX11_add_31 : decode cX11_add 31 = .ok (.aload_n 0, 1) := by decide +kernel
theorem dX11_add_32 : decode cX11_add 32 = .ok (.invokevirtual 229, 3) := by decide +kernel
theorem dX11_add_35 : decode cX11_add 35 = .ok (.aload_n 0, 1) := by decide +kernel
theorem dX11_add_36 : decode cX11_add 36 = .ok (.getfield 17, 3) := by decide +kernel
theorem dX11_add_39 : decode cX11_add 39 = .ok (.iconst 2, 1) := by decide +kernel
theorem dX11_add_40 : decode cX11_add 40 = .ok (.iaload, 1) := by decide +kernel
theorem dX11_add_41 : decode cX11_add 41 = .ok (.ireturn, 1) := by decide +kernel
theorem dX11_drop_0 : decode cX11_drop 0 = .ok (.aload_n 0, 1) := by decide +kernel
theorem dX11_drop_1 : decode cX11_drop 1 = .ok (.aload_n 0, 1) := by decide +kernel
theorem dX11_drop_2 : decode cX11_drop 2 = .ok (.getfield 223, 3) := by decide +kernel
theorem dX11_drop_5 : decode cX11_drop 5 = .ok (.ifCond .eq 23, 3) := by decide +kernel
theorem dX11_drop_8 : decode cX11_drop 8 = .ok (.iload_n 1, 1) := by decide +kernel
theorem dX11_drop_9 : decode cX11_drop 9 = .ok (.iconst 0, 1) := by decide +kernel
theorem dX11_drop_10 : decode cX11_drop 10 = .ok (.aload_n 0, 1) := by decide +kernel
theorem dX11_drop_11 : decode cX11_drop 11 = .ok (.getfield 17, 3) := by decide +kernel
theorem dX11_drop_14 : decode cX11_drop 14 = .ok (.iconst 2, 1) := by decide +kernel
theorem dX11_drop_15 : decode cX11_drop 15 = .ok (.iaload, 1) := by decide +kernel
theorem dX11_drop_16 : decode cX11_drop 16 = .ok (.iconst 1, 1) := by decide +kernel
theorem dX11_drop_17 : decode cX11_drop 17 = .ok (.isub, 1) := by decide +kernel
theorem dX11_drop_18 : decode cX11_drop 18 = .ok (.invokestatic 128, 3) := by decide +kernel
theorem dX11_drop_21 : decode cX11_drop 21 = .ok (.ifCond .eq 7, 3) := by decide +kernel
theorem dX11_drop_24 : decode cX11_drop 24 = .ok (.iconst 1, 1) := by decide +kernel
theorem dX11_drop_25 : decode cX11_drop 25 = .ok (.goto 4, 3) := by decide +kernel
theorem dX11_drop_28 : decode cX11_drop 28 = .ok (.iconst 0, 1) := by decide +kernel
theorem dX11_drop_29 : decode cX11_drop 29 = .ok (.invokestatic 314, 3) := by decide +kernel
theorem dX11_drop_32 : decode cX11_drop 32 = .ok (.invokevirtual 207, 3) := by decide +kernel
theorem dX11_drop_35 : decode cX11_drop 35 = .ok (.ifCond .eq 5, 3) := by decide +kernel
theorem dX11_drop_38 : decode cX11_drop 38 = .ok (.iconst (-1), 1) := by decide +kernel
theorem dX11_drop_39 : decode cX11_drop 39 = .ok (.ireturn, 1) := by decide +kernel
theorem dX11_drop_40 : decode cX11_drop 40 = .ok (.aload_n 0, 1) := by decide +kernel
theorem dX11_drop_41 : decode cX11_drop 41 = .ok (.invokevirtual 426, 3) := by decide +kernel
theorem dX11_drop_44 : decode cX11_drop 44 = .ok (.aload_n 0, 1) := by decide +kernel
theorem dX11_drop_45 : decode cX11_drop 45 = .ok (.iload_n 1, 1) := by decide +kernel
theorem dX11_drop_46 : decode cX11_drop 46 = .ok (.invokevirtual 417, 3) := by decide +kernel
theorem dX11_drop_49 : decode cX11_drop 49 = .ok (.aload_n 0, 1) := by decide +kernel
theorem dX11_drop_50 : decode cX11_drop 50 = .ok (.invokevirtual 229, 3) := by decide +kernel
theorem dX11_drop_53 : decode cX11_drop 53 = .ok (.aload_n 0, 1) := by decide +kernel
theorem dX11_drop_54 : decode cX11_drop 54 = .ok (.getfield 17, 3) := by decide +kernel
theorem dX11_drop_57 : decode cX11_drop 57 = .ok (.iconst 2, 1) := by decide +kernel
theorem dX11_drop_58 : decode cX11_drop 58 = .ok (.iaload, 1) := by decide +kernel
theorem dX11_drop_59 : decode cX11_drop 59 = .ok (.ireturn, 1) := by decide +kernel
theorem dX11_home_0 : decode cX11_home 0 = .ok (.aload_n 0, 1) := by decide +kernel
theorem dX11_home_1 : decode cX11_home 1 = .ok (.aload_n 0, 1) := by decide +kernel
theorem dX11_home_2 : decode cX11_home 2 = .ok (.getfield 223, 3) := by decide +kernel
theorem dX11_home_5 : decode cX11_home 5 = .ok (.aload_n 0, 1) := by decide +kernel
theorem dX11_home_6 : decode cX11_home 6 = .ok (.iload_n 1, 1) := by decide +kernel
theorem dX11_home_7 : decode cX11_home 7 = .ok (.iload_n 2, 1) := by decide +kernel
theorem dX11_home_8 : decode cX11_home 8 = .ok (.invokevirtual 406, 3) := by decide +kernel
theorem dX11_home_11 : decode cX11_home 11 = .ok (.invokestatic 423, 3) := by decide +kernel
theorem dX11_home_14 : decode cX11_home 14 = .ok (.invokevirtual 207, 3) := by decide +kernel
theorem dX11_home_17 : decode cX11_home 17 = .ok (.ifCond .eq 5, 3) := by decide +kernel
theorem dX11_home_20 : decode cX11_home 20 = .ok (.iconst (-1), 1) := by decide +kernel
theorem dX11_home_21 : decode cX11_home 21 = .ok (.ireturn, 1) := by decide +kernel
theorem dX11_home_22 : decode cX11_home 22 = .ok (.aload_n 0, 1) := by decide +kernel
theorem dX11_home_23 : decode cX11_home 23 = .ok (.invokevirtual 426, 3) := by decide +kernel
theorem dX11_home_26 : decode cX11_home 26 = .ok (.aload_n 0, 1) := by decide +kernel
theorem dX11_home_27 : decode cX11_home 27 = .ok (.getfield 17, 3) := by decide +kernel
theorem dX11_home_30 : decode cX11_home 30 = .ok (.iconst 3, 1) := by decide +kernel
theorem dX11_home_31 : decode cX11_home 31 = .ok (.iload_n 1, 1) := by decide +kernel
theorem dX11_home_32 : decode cX11_home 32 = .ok (.iastore, 1) := by decide +kernel
theorem dX11_home_33 : decode cX11_home 33 = .ok (.aload_n 0, 1) := by decide +kernel
theorem dX11_home_34 : decode cX11_home 34 = .ok (.getfield 17, 3) := by decide +kernel
theorem dX11_home_37 : decode cX11_home 37 = .ok (.iconst 4, 1) := by decide +kernel
theorem dX11_home_38 : decode cX11_home 38 = .ok (.iload_n 2, 1) := by decide +kernel
theorem dX11_home_39 : decode cX11_home 39 = .ok (.iastore, 1) := by decide +kernel
theorem dX11_home_40 : decode cX11_home 40 = .ok (.aload_n 0, 1) := by decide +kernel
theorem dX11_home_41 : decode cX11_home 41 = .ok (.invokevirtual 311, 3) := by decide +kernel
theorem dX11_home_44 : decode cX11_home 44 = .ok (.aload_n 0, 1) := by decide +kernel
theorem dX11_home_45 : decode cX11_home 45 = .ok (.invokevirtual 361, 3) := by decide +kernel
theorem dX11_home_48 : decode cX11_home 48 = .ok (.ireturn, 1) := by decide +kernel
theorem dX11_join_0 : decode cX11_join 0 = .ok (.aload_n 0, 1) := by decide +kernel
theorem dX11_join_1 : decode cX11_join 1 = .ok (.aload_n 0, 1) := by decide +kernel
theorem dX11_join_2 : decode cX11_join 2 = .ok (.getfield 223, 3) := by decide +kernel
theorem dX11_join_5 : decode cX11_join 5 = .ok (.iload_n 1, 1) := by decide +kernel
theorem dX11_join_6 : decode cX11_join 6 = .ok (.iconst 0, 1) := by decide +kernel
theorem dX11_join_7 : decode cX11_join 7 = .ok (.bipush 50, 2) := by decide +kernel
theorem dX11_join_9 : decode cX11_join 9 = .ok (.invokestatic 128, 3) := by decide +kernel
theorem dX11_join_12 : decode cX11_join 12 = .ok (.invokestatic 423, 3) := by decide +kernel
theorem dX11_join_15 : decode cX11_join 15 = .ok (.invokevirtual 207, 3) := by decide +kernel
theorem dX11_join_18 : decode cX11_join 18 = .ok (.ifCond .eq 5, 3) := by decide +kernel
theorem dX11_join_21 : decode cX11_join 21 = .ok (.iconst (-1), 1) := by decide +kernel
theorem dX11_join_22 : decode cX11_join 22 = .ok (.ireturn, 1) := by decide +kernel
theorem dX11_join_23 : decode cX11_join 23 = .ok (.aload_n 0, 1) := by decide +kernel
theorem dX11_join_24 : decode cX11_join 24 = .ok (.invokevirtual 426, 3) := by decide +kernel
theorem dX11_join_27 : decode cX11_join 27 = .ok (.aload_n 0, 1) := by decide +kernel
theorem dX11_join_28 : decode cX11_join 28 = .ok (.getfield 17, 3) := by decide +kernel
theorem dX11_join_31 : decode cX11_join 31 = .ok (.iconst 1, 1) := by decide +kernel
theorem dX11_join_32 : decode cX11_join 32 = .ok (.iaload, 1) := by decide +kernel
theorem dX11_join_33 : decode cX11_join 33 = .ok (.iload_n 1, 1) := by decide +kernel
theorem dX11_join_34 : decode cX11_join 34 = .ok (.if_icmp .eq 7, 3) := by decide +kernel
theorem dX11_join_37 : decode cX11_join 37 = .ok (.iconst 1, 1) := by decide +kernel
theorem dX11_join_38 : decode cX11_join 38 = .ok (.goto 4, 3) := by decide +kernel
theorem dX11_join_41 : decode cX11_join 41 = .ok (.iconst 0, 1) := by decide +kernel
theorem dX11_join_42 : decode cX11_join 42 = .ok (.istore_n 2, 1) := by decide +kernel
theorem dX11_join_43 : decode cX11_join 43 = .ok (.aload_n 0, 1) := by decide +kernel
theorem dX11_join_44 : decode cX11_join 44 = .ok (.getfield 17, 3) := by decide +kernel
theorem dX11_join_47 : decode cX11_join 47 = .ok (.iconst 1, 1) := by decide +kernel
theorem dX11_join_48 : decode cX11_join 48 = .ok (.iload_n 1, 1) := by decide +kernel
theorem dX11_join_49 : decode cX11_join 49 = .ok (.iastore, 1) := by decide +kernel
theorem dX11_join_50 : decode cX11_join 50 = .ok (.iload_n 2, 1) := by decide +kernel
theorem dX11_join_51 : decode cX11_join 51 = .ok (.ifCond .eq 7, 3) := by decide +kernel
theorem dX11_join_54 : decode cX11_join 54 = .ok (.aload_n 0, 1) := by decide +kernel
theorem dX11_join_55 : decode cX11_join 55 = .ok (.invokevirtual 229, 3) := by decide +kernel
theorem dX11_join_58 : decode cX11_join 58 = .ok (.aload_n 0, 1) := by decide +kernel
theorem dX11_join_59 : decode cX11_join 59 = .ok (.getfield 17, 3) := by decide +kernel
theorem dX11_join_62 : decode cX11_join 62 = .ok (.bipush 103, 2) := by decide +kernel
theorem dX11_join_64 : decode cX11_join 64 = .ok (.iaload, 1) := by decide +kernel
theorem dX11_join_65 : decode cX11_join 65 = .ok (.ireturn, 1) := by decide +kernel
theorem dX11_pace_0 : decode cX11_pace 0 = .ok (.aload_n 0, 1) := by decide +kernel
theorem dX11_pace_1 : decode cX11_pace 1 = .ok (.aload_n 0, 1) := by decide +kernel
theorem dX11_pace_2 : decode cX11_pace 2 = .ok (.getfield 223, 3) := by decide +kernel
theorem dX11_pace_5 : decode cX11_pace 5 = .ok (.iload_n 1, 1) := by decide +kernel
theorem dX11_pace_6 : decode cX11_pace 6 = .ok (.iconst 1, 1) := by decide +kernel
theorem dX11_pace_7 : decode cX11_pace 7 = .ok (.bipush 9, 2) := by decide +kernel
theorem dX11_pace_9 : decode cX11_pace 9 = .ok (.invokestatic 128, 3) := by decide +kernel
theorem dX11_pace_12 : decode cX11_pace 12 = .ok (.ifCond .eq 17, 3) := by decide +kernel
theorem dX11_pace_15 : decode cX11_pace 15 = .ok (.iload_n 2, 1) := by decide +kernel
theorem dX11_pace_16 : decode cX11_pace 16 = .ok (.iconst 1, 1) := by decide +kernel
theorem dX11_pace_17 : decode cX11_pace 17 = .ok (.bipush 9, 2) := by decide +kernel
theorem dX11_pace_19 : decode cX11_pace 19 = .ok (.invokestatic 128, 3) := by decide +kernel
theorem dX11_pace_22 : decode cX11_pace 22 = .ok (.ifCond .eq 7, 3) := by decide +kernel
theorem dX11_pace_25 : decode cX11_pace 25 = .ok (.iconst 1, 1) := by decide +kernel
theorem dX11_pace_26 : decode cX11_pace 26 = .ok (.goto 4, 3) := by decide +kernel
theorem dX11_pace_29 : decode cX11_pace 29 = .ok (.iconst 0, 1) := by decide +kernel
theorem dX11_pace_30 : decode cX11_pace 30 = .ok (.invokestatic 423, 3) := by decide +kernel
theorem dX11_pace_33 : decode cX11_pace 33 = .ok (.invokevirtual 207, 3) := by decide +kernel
theorem dX11_pace_36 : decode cX11_pace 36 = .ok (.ifCond .eq 5, 3) := by decide +kernel
theorem dX11_pace_39 : decode cX11_pace 39 = .ok (.iconst (-1), 1) := by decide +kernel
theorem dX11_pace_40 : decode cX11_pace 40 = .ok (.ireturn, 1) := by decide +kernel
theorem dX11_pace_41 : decode cX11_pace 41 = .ok (.aload_n 0, 1) := by decide +kernel
theorem dX11_pace_42 : decode cX11_pace 42 = .ok (.invokevirtual 426, 3) := by decide +kernel
theorem dX11_pace_45 : decode cX11_pace 45 = .ok (.aload_n 0, 1) := by decide +kernel
theorem dX11_pace_46 : decode cX11_pace 46 = .ok (.getfield 17, 3) := by decide +kernel
theorem dX11_pace_49 : decode cX11_pace 49 = .ok (.iconst 5, 1) := by decide +kernel
theorem dX11_pace_50 : decode cX11_pace 50 = .ok (.iload_n 1, 1) := by decide +kernel
theorem dX11_pace_51 : decode cX11_pace 51 = .ok (.iastore, 1) := by decide +kernel
theorem dX11_pace_52 : decode cX11_pace 52 = .ok (.aload_n 0, 1) := by decide +kernel
theorem dX11_pace_53 : decode cX11_pace 53 = .ok (.getfield 17, 3) := by decide +kernel
theorem dX11_pace_56 : decode cX11_pace 56 = .ok (.bipush 6, 2) := by decide +kernel
theorem dX11_pace_58 : decode cX11_pace 58 = .ok (.iload_n 2, 1) := by decide +kernel
theorem dX11_pace_59 : decode cX11_pace 59 = .ok (.iastore, 1) := by decide +kernel
theorem dX11_pace_60 : decode cX11_pace 60 = .ok (.aload_n 0, 1) := by decide +kernel
theorem dX11_pace_61 : decode cX11_pace 61 = .ok (.invokevirtual 311, 3) := by decide +kernel
theorem dX11_pace_64 : decode cX11_pace 64 = .ok (.aload_n 0, 1) := by decide +kernel
theorem dX11_pace_65 : decode cX11_pace 65 = .ok (.invokevirtual 390, 3) := by decide +kernel
theorem dX11_pace_68 : decode cX11_pace 68 = .ok (.ireturn, 1) := by decide +kernel
theorem dX11_exchange_0 : decode cX11_exchange 0 = .ok (.aload_n 0, 1) := by decide +kernel
theorem dX11_exchange_1 : decode cX11_exchange 1 = .ok (.aload_n 0, 1) := by decide +kernel
theorem dX11_exchange_2 : decode cX11_exchange 2 = .ok (.iload_n 1, 1) := by decide +kernel
theorem dX11_exchange_3 : decode cX11_exchange 3 = .ok (.iload_n 2, 1) := by decide +kernel
theorem dX11_exchange_4 : decode cX11_exchange 4 = .ok (.invokevirtual 380, 3) := by decide +kernel
theorem dX11_exchange_7 : decode cX11_exchange 7 = .ok (.iload_n 1, 1) := by decide +kernel
theorem dX11_exchange_8 : decode cX11_exchange 8 = .ok (.iload_n 2, 1) := by decide +kernel
theorem dX11_exchange_9 : decode cX11_exchange 9 = .ok (.if_icmp .gt 7, 3) := by decide +kernel
theorem dX11_exchange_12 : decode cX11_exchange 12 = .ok (.iconst 1, 1) := by decide +kernel
theorem dX11_exchange_13 : decode cX11_exchange 13 = .ok (.goto 4, 3) := by decide +kernel
theorem dX11_exchange_16 : decode cX11_exchange 16 = .ok (.iconst 0, 1) := by decide +kernel
theorem dX11_exchange_17 : decode cX11_exchange 17 = .ok (.invokestatic 423, 3) := by decide +kernel
theorem dX11_exchange_20 : decode cX11_exchange 20 = .ok (.invokevirtual 207, 3) := by decide +kernel
theorem dX11_exchange_23 : decode cX11_exchange 23 = .ok (.ifCond .eq 5, 3) := by decide +kernel
theorem dX11_exchange_26 : decode cX11_exchange 26 = .ok (.iconst (-1), 1) := by decide +kernel
theorem dX11_exchange_27 : decode cX11_exchange 27 = .ok (.ireturn, 1) := by decide +kernel
theorem dX11_exchange_28 : decode cX11_exchange 28 = .ok (.aload_n 0, 1) := by decide +kernel
theorem dX11_exchange_29 : decode cX11_exchange 29 = .ok (.invokevirtual 426, 3) := by decide +kernel
theorem dX11_exchange_32 : decode cX11_exchange 32 = .ok (.aload_n 0, 1) := by decide +kernel
theorem dX11_exchange_33 : decode cX11_exchange 33 = .ok (.invokevirtual 311, 3) := by decide +kernel
theorem dX11_exchange_36 : decode cX11_exchange 36 = .ok (.aload_n 0, 1) := by decide +kernel
theorem dX11_exchange_37 : decode cX11_exchange 37 = .ok (.iload_n 1, 1) := by decide +kernel
theorem dX11_exchange_38 : decode cX11_exchange 38 = .ok (.iload_n 2, 1) := by decide +kernel
theorem dX11_exchange_39 : decode cX11_exchange 39 = .ok (.invokevirtual 370, 3) := by decide +kernel
theorem dX11_exchange_42 : decode cX11_exchange 42 = .ok (.aload_n 0, 1) := by decide +kernel
theorem dX11_exchange_43 : decode cX11_exchange 43 = .ok (.invokevirtual 361, 3) := by decide +kernel
theorem dX11_exchange_46 : decode cX11_exchange 46 = .ok (.ireturn, 1) := by decide +kernel
theorem dX11_improve_0 : decode cX11_improve 0 = .ok (.aload_n 0, 1) := by decide +kernel
theorem dX11_improve_1 : decode cX11_improve 1 = .ok (.iconst 1, 1) := by decide +kernel
theorem dX11_improve_2 : decode cX11_improve 2 = .ok (.invokevirtual 318, 3) := by decide +kernel
theorem dX11_improve_5 : decode cX11_improve 5 = .ok (.ifCond .ne 5, 3) := by decide +kernel
theorem dX11_improve_8 : decode cX11_improve 8 = .ok (.iconst (-1), 1) := by decide +kernel
theorem dX11_improve_9 : decode cX11_improve 9 = .ok (.ireturn, 1) := by decide +kernel
theorem dX11_improve_10 : decode cX11_improve 10 = .ok (.aload_n 0, 1) := by decide +kernel
theorem dX11_improve_11 : decode cX11_improve 11 = .ok (.invokevirtual 364, 3) := by decide +kernel
theorem dX11_improve_14 : decode cX11_improve 14 = .ok (.aload_n 0, 1) := by decide +kernel
theorem dX11_improve_15 : decode cX11_improve 15 = .ok (.invokevirtual 377, 3) := by decide +kernel
theorem dX11_improve_18 : decode cX11_improve 18 = .ok (.istore_n 1, 1) := by decide +kernel
theorem dX11_improve_19 : decode cX11_improve 19 = .ok (.iload_n 1, 1) := by decide +kernel
theorem dX11_improve_20 : decode cX11_improve 20 = .ok (.ifCond .ne 9, 3) := by decide +kernel
theorem dX11_improve_23 : decode cX11_improve 23 = .ok (.aload_n 0, 1) := by decide +kernel
theorem dX11_improve_24 : decode cX11_improve 24 = .ok (.iconst 5, 1) := by decide +kernel
theorem dX11_improve_25 : decode cX11_improve 25 = .ok (.invokevirtual 216, 3) := by decide +kernel
theorem dX11_improve_28 : decode cX11_improve 28 = .ok (.ireturn, 1) := by decide +kernel
theorem dX11_improve_29 : decode cX11_improve 29 = .ok (.aload_n 0, 1) := by decide +kernel
theorem dX11_improve_30 : decode cX11_improve 30 = .ok (.invokevirtual 361, 3) := by decide +kernel
theorem dX11_improve_33 : decode cX11_improve 33 = .ok (.istore_n 2, 1) := by decide +kernel
theorem dX11_improve_34 : decode cX11_improve 34 = .ok (.sipush 152, 3) := by decide +kernel
theorem dX11_improve_37 : decode cX11_improve 37 = .ok (.newarray .int, 2) := by decide +kernel
theorem dX11_improve_39 : decode cX11_improve 39 = .ok (.astore_n 3, 1) := by decide +kernel
theorem dX11_improve_40 : decode cX11_improve 40 = .ok (.aload_n 0, 1) := by decide +kernel
theorem dX11_improve_41 : decode cX11_improve 41 = .ok (.getfield 17, 3) := by decide +kernel
theorem dX11_improve_44 : decode cX11_improve 44 = .ok (.iconst 0, 1) := by decide +kernel
theorem dX11_improve_45 : decode cX11_improve 45 = .ok (.aload_n 3, 1) := by decide +kernel
theorem dX11_improve_46 : decode cX11_improve 46 = .ok (.iconst 0, 1) := by decide +kernel
theorem dX11_improve_47 : decode cX11_improve 47 = .ok (.invokestatic 219, 3) := by decide +kernel
theorem dX11_improve_50 : decode cX11_improve 50 = .ok (.aload_n 0, 1) := by decide +kernel
theorem dX11_improve_51 : decode cX11_improve 51 = .ok (.invokevirtual 367, 3) := by decide +kernel
theorem dX11_improve_54 : decode cX11_improve 54 = .ok (.aload_n 0, 1) := by decide +kernel
theorem dX11_improve_55 : decode cX11_improve 55 = .ok (.invokevirtual 426, 3) := by decide +kernel
theorem dX11_improve_58 : decode cX11_improve 58 = .ok (.aload_n 3, 1) := by decide +kernel
theorem dX11_improve_59 : decode cX11_improve 59 = .ok (.iconst 0, 1) := by decide +kernel
theorem dX11_improve_60 : decode cX11_improve 60 = .ok (.aload_n 0, 1) := by decide +kernel
theorem dX11_improve_61 : decode cX11_improve 61 = .ok (.getfield 17, 3) := by decide +kernel
theorem dX11_improve_64 : decode cX11_improve 64 = .ok (.iconst 0, 1) := by decide +kernel
theorem dX11_improve_65 : decode cX11_improve 65 = .ok (.invokestatic 219, 3) := by decide +kernel
theorem dX11_improve_68 : decode cX11_improve 68 = .ok (.iload_n 2, 1) := by decide +kernel
theorem dX11_improve_69 : decode cX11_improve 69 = .ok (.ireturn, 1) := by decide +kernel
theorem dX11_undo_0 : decode cX11_undo 0 = .ok (.aload_n 0, 1) := by decide +kernel
theorem dX11_undo_1 : decode cX11_undo 1 = .ok (.aload_n 0, 1) := by decide +kernel
theorem dX11_undo_2 : decode cX11_undo 2 = .ok (.getfield 226, 3) := by decide +kernel
theorem dX11_undo_5 : decode cX11_undo 5 = .ok (.ifCond .le 7, 3) := by decide +kernel
theorem dX11_undo_8 : decode cX11_undo 8 = .ok (.iconst 1, 1) := by decide +kernel
theorem dX11_undo_9 : decode cX11_undo 9 = .ok (.goto 4, 3) := by decide +kernel
theorem dX11_undo_12 : decode cX11_undo 12 = .ok (.iconst 0, 1) := by decide +kernel
theorem dX11_undo_13 : decode cX11_undo 13 = .ok (.invokestatic 314, 3) := by decide +kernel
theorem dX11_undo_16 : decode cX11_undo 16 = .ok (.invokevirtual 207, 3) := by decide +kernel
theorem dX11_undo_19 : decode cX11_undo 19 = .ok (.ifCond .eq 5, 3) := by decide +kernel
theorem dX11_undo_22 : decode cX11_undo 22 = .ok (.iconst 0, 1) := by decide +kernel
theorem dX11_undo_23 : decode cX11_undo 23 = .ok (.ireturn, 1) := by decide +kernel
theorem dX11_undo_24 : decode cX11_undo 24 = .ok (.aload_n 0, 1) := by decide +kernel
theorem dX11_undo_25 : decode cX11_undo 25 = .ok (.dup, 1) := by decide +kernel
theorem dX11_undo_26 : decode cX11_undo 26 = .ok (.getfield 226, 3) := by decide +kernel
theorem dX11_undo_29 : decode cX11_undo 29 = .ok (.iconst 1, 1) := by decide +kernel
theorem dX11_undo_30 : decode cX11_undo 30 = .ok (.isub, 1) := by decide +kernel
theorem dX11_undo_31 : decode cX11_undo 31 = .ok (.putfield 226, 3) := by decide +kernel
theorem dX11_undo_34 : decode cX11_undo 34 = .ok (.aload_n 0, 1) := by decide +kernel
theorem dX11_undo_35 : decode cX11_undo 35 = .ok (.getfield 26, 3) := by decide +kernel
theorem dX11_undo_38 : decode cX11_undo 38 = .ok (.sipush 152, 3) := by decide +kernel
theorem dX11_undo_41 : decode cX11_undo 41 = .ok (.aload_n 0, 1) := by decide +kernel
theorem dX11_undo_42 : decode cX11_undo 42 = .ok (.getfield 226, 3) := by decide +kernel
theorem dX11_undo_45 : decode cX11_undo 45 = .ok (.imul, 1) := by decide +kernel
theorem dX11_undo_46 : decode cX11_undo 46 = .ok (.aload_n 0, 1) := by decide +kernel
theorem dX11_undo_47 : decode cX11_undo 47 = .ok (.getfield 17, 3) := by decide +kernel
theorem dX11_undo_50 : decode cX11_undo 50 = .ok (.iconst 0, 1) := by decide +kernel
theorem dX11_undo_51 : decode cX11_undo 51 = .ok (.invokestatic 219, 3) := by decide +kernel
theorem dX11_undo_54 : decode cX11_undo 54 = .ok (.iconst 1, 1) := by decide +kernel
theorem dX11_undo_55 : decode cX11_undo 55 = .ok (.ireturn, 1) := by decide +kernel
theorem dX11_loose_0 : decode cX11_loose 0 = .ok (.aload_n 0, 1) := by decide +kernel
theorem dX11_loose_1 : decode cX11_loose 1 = .ok (.iconst 0, 1) := by decide +kernel
theorem dX11_loose_2 : decode cX11_loose 2 = .ok (.putfield 99, 3) := by decide +kernel
theorem dX11_loose_5 : decode cX11_loose 5 = .ok (.iconst 0, 1) := by decide +kernel
theorem dX11_loose_6 : decode cX11_loose 6 = .ok (.istore_n 2, 1) := by decide +kernel
theorem dX11_loose_7 : decode cX11_loose 7 = .ok (.aload_n 0, 1) := by decide +kernel
theorem dX11_loose_8 : decode cX11_loose 8 = .ok (.getfield 223, 3) := by decide +kernel
theorem dX11_loose_11 : decode cX11_loose 11 = .ok (.ifCond .eq 7, 3) := by decide +kernel
theorem dX11_loose_14 : decode cX11_loose 14 = .ok (.aload_n 0, 1) := by decide +kernel
theorem dX11_loose_15 : decode cX11_loose 15 = .ok (.invokevirtual 311, 3) := by decide +kernel
theorem dX11_loose_18 : decode cX11_loose 18 = .ok (.iconst 0, 1) := by decide +kernel
theorem dX11_loose_19 : decode cX11_loose 19 = .ok (.istore_n 3, 1) := by decide +kernel
theorem dX11_loose_20 : decode cX11_loose 20 = .ok (.aload_n 0, 1) := by decide +kernel
theorem dX11_loose_21 : decode cX11_loose 21 = .ok (.getfield 223, 3) := by decide +kernel
theorem dX11_loose_24 : decode cX11_loose 24 = .ok (.ifCond .eq 37, 3) := by decide +kernel
theorem dX11_loose_27 : decode cX11_loose 27 = .ok (.iload_n 3, 1) := by decide +kernel
theorem dX11_loose_28 : decode cX11_loose 28 = .ok (.aload_n 0, 1) := by decide +kernel
theorem dX11_loose_29 : decode cX11_loose 29 = .ok (.getfield 249, 3) := by decide +kernel
theorem dX11_loose_32 : decode cX11_loose 32 = .ok (.if_icmp .ge 29, 3) := by decide +kernel
theorem dX11_loose_35 : decode cX11_loose 35 = .ok (.aload_n 0, 1) := by decide +kernel
theorem dX11_loose_36 : decode cX11_loose 36 = .ok (.getfield 35, 3) := by decide +kernel
theorem dX11_loose_39 : decode cX11_loose 39 = .ok (.iload_n 3, 1) := by decide +kernel
theorem dX11_loose_40 : decode cX11_loose 40 = .ok (.iaload, 1) := by decide +kernel
theorem dX11_loose_41 : decode cX11_loose 41 = .ok (.iconst 1, 1) := by decide +kernel
theorem dX11_loose_42 : decode cX11_loose 42 = .ok (.if_icmp .ne 13, 3) := by decide +kernel
theorem dX11_loose_45 : decode cX11_loose 45 = .ok (.iload_n 2, 1) := by decide +kernel
theorem dX11_loose_46 : decode cX11_loose 46 = .ok (.iload_n 1, 1) := by decide +kernel
theorem dX11_loose_47 : decode cX11_loose 47 = .ok (.if_icmp .ne 5, 3) := by decide +kernel
theorem dX11_loose_50 : decode cX11_loose 50 = .ok (.iload_n 3, 1) := by decide +kernel
theorem dX11_loose_51 : decode cX11_loose 51 = .ok (.ireturn, 1) := by decide +kernel
theorem dX11_loose_52 : decode cX11_loose 52 = .ok (.iinc 2 1, 3) := by decide +kernel
theorem dX11_loose_55 : decode cX11_loose 55 = .ok (.iinc 3 1, 3) := by decide +kernel
theorem dX11_loose_58 : decode cX11_loose 58 = .ok (.goto (-38), 3) := by decide +kernel
theorem dX11_loose_61 : decode cX11_loose 61 = .ok (.aload_n 0, 1) := by decide +kernel
theorem dX11_loose_62 : decode cX11_loose 62 = .ok (.iconst 1, 1) := by decide +kernel
theorem dX11_loose_63 : decode cX11_loose 63 = .ok (.putfield 99, 3) := by decide +kernel
theorem dX11_loose_66 : decode cX11_loose 66 = .ok (.iconst 0, 1) := by decide +kernel
theorem dX11_loose_67 : decode cX11_loose 67 = .ok (.ireturn, 1) := by decide +kernel
theorem dX11_size_0 : decode cX11_size 0 = .ok (.aload_n 0, 1) := by decide +kernel
theorem dX11_size_1 : decode cX11_size 1 = .ok (.iconst 0, 1) := by decide +kernel
theorem dX11_size_2 : decode cX11_size 2 = .ok (.putfield 99, 3) := by decide +kernel
theorem dX11_size_5 : decode cX11_size 5 = .ok (.iload_n 1, 1) := by decide +kernel
theorem dX11_size_6 : decode cX11_size 6 = .ok (.iconst 2, 1) := by decide +kernel
theorem dX11_size_7 : decode cX11_size 7 = .ok (.if_icmp .ne 14, 3) := by decide +kernel
theorem dX11_size_10 : decode cX11_size 10 = .ok (.aload_n 0, 1) := by decide +kernel
theorem dX11_size_11 : decode cX11_size 11 = .ok (.getfield 223, 3) := by decide +kernel
theorem dX11_size_14 : decode cX11_size 14 = .ok (.ifCond .eq 7, 3) := by decide +kernel
theorem dX11_size_17 : decode cX11_size 17 = .ok (.aload_n 0, 1) := by decide +kernel
theorem dX11_size_18 : decode cX11_size 18 = .ok (.invokevirtual 311, 3) := by decide +kernel
theorem dX11_size_21 : decode cX11_size 21 = .ok (.iload_n 1, 1) := by decide +kernel
theorem dX11_size_22 : decode cX11_size 22 = .ok (.tableswitch 52 0 2 #[26, 31, 36], 26) := by decide +kernel
theorem dX11_size_48 : decode cX11_size 48 = .ok (.aload_n 0, 1) := by decide +kernel
theorem dX11_size_49 : decode cX11_size 49 = .ok (.getfield 105, 3) := by decide +kernel
theorem dX11_size_52 : decode cX11_size 52 = .ok (.ireturn, 1) := by decide +kernel
theorem dX11_size_53 : decode cX11_size 53 = .ok (.aload_n 0, 1) := by decide +kernel
theorem dX11_size_54 : decode cX11_size 54 = .ok (.getfield 226, 3) := by decide +kernel
theorem dX11_size_57 : decode cX11_size 57 = .ok (.ireturn, 1) := by decide +kernel
theorem dX11_size_58 : decode cX11_size 58 = .ok (.aload_n 0, 1) := by decide +kernel
theorem dX11_size_59 : decode cX11_size 59 = .ok (.getfield 223, 3) := by decide +kernel
theorem dX11_size_62 : decode cX11_size 62 = .ok (.ifCond .eq 10, 3) := by decide +kernel
theorem dX11_size_65 : decode cX11_size 65 = .ok (.aload_n 0, 1) := by decide +kernel
theorem dX11_size_66 : decode cX11_size 66 = .ok (.getfield 258, 3) := by decide +kernel
theorem dX11_size_69 : decode cX11_size 69 = .ok (.goto 4, 3) := by decide +kernel
theorem dX11_size_72 : decode cX11_size 72 = .ok (.iconst 0, 1) := by decide +kernel
theorem dX11_size_73 : decode cX11_size 73 = .ok (.ireturn, 1) := by decide +kernel
theorem dX11_size_74 : decode cX11_size 74 = .ok (.iconst (-1), 1) := by decide +kernel
theorem dX11_size_75 : decode cX11_size 75 = .ok (.ireturn, 1) := by decide +kernel
theorem dX11_trouble_0 : decode cX11_trouble 0 = .ok (.aload_n 0, 1) := by decide +kernel
theorem dX11_trouble_1 : decode cX11_trouble 1 = .ok (.iconst 0, 1) := by decide +kernel
theorem dX11_trouble_2 : decode cX11_trouble 2 = .ok (.putfield 99, 3) := by decide +kernel
theorem dX11_trouble_5 : decode cX11_trouble 5 = .ok (.aload_n 0, 1) := by decide +kernel
theorem dX11_trouble_6 : decode cX11_trouble 6 = .ok (.getfield 102, 3) := by decide +kernel
theorem dX11_trouble_9 : decode cX11_trouble 9 = .ok (.ireturn, 1) := by decide +kernel
