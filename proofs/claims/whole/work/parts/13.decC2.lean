theorem dX6_readsPace_19 : decode cX6_readsPace 19 = .ok (.iconst 1, 1) := by decide +kernel
theorem dX6_readsPace_20 : decode cX6_readsPace 20 = .ok (.bipush 9, 2) := by decide +kernel
theorem dX6_readsPace_22 : decode cX6_readsPace 22 = .ok (.invokevirtual 96, 3) := by decide +kernel
theorem dX6_readsPace_25 : decode cX6_readsPace 25 = .ok (.ifCond .ne 5, 3) := by decide +kernel
theorem dX6_readsPace_28 : decode cX6_readsPace 28 = .ok (.iconst 0, 1) := by decide +kernel
theorem dX6_readsPace_29 : decode cX6_readsPace 29 = .ok (.ireturn, 1) := by decide +kernel
theorem dX6_readsPace_30 : decode cX6_readsPace 30 = .ok (.aload_n 0, 1) := by decide +kernel
theorem dX6_readsPace_31 : decode cX6_readsPace 31 = .ok (.getfield 32, 3) := by decide +kernel
theorem dX6_readsPace_34 : decode cX6_readsPace 34 = .ok (.aload_n 0, 1) := by decide +kernel
theorem dX6_readsPace_35 : decode cX6_readsPace 35 = .ok (.getfield 28, 3) := by decide +kernel
theorem dX6_readsPace_38 : decode cX6_readsPace 38 = .ok (.getfield 100, 3) := by decide +kernel
theorem dX6_readsPace_41 : decode cX6_readsPace 41 = .ok (.putfield 122, 3) := by decide +kernel
theorem dX6_readsPace_44 : decode cX6_readsPace 44 = .ok (.aload_n 0, 1) := by decide +kernel
theorem dX6_readsPace_45 : decode cX6_readsPace 45 = .ok (.iconst 1, 1) := by decide +kernel
theorem dX6_readsPace_46 : decode cX6_readsPace 46 = .ok (.bipush 9, 2) := by decide +kernel
theorem dX6_readsPace_48 : decode cX6_readsPace 48 = .ok (.invokevirtual 96, 3) := by decide +kernel
theorem dX6_readsPace_51 : decode cX6_readsPace 51 = .ok (.ifCond .ne 5, 3) := by decide +kernel
theorem dX6_readsPace_54 : decode cX6_readsPace 54 = .ok (.iconst 0, 1) := by decide +kernel
theorem dX6_readsPace_55 : decode cX6_readsPace 55 = .ok (.ireturn, 1) := by decide +kernel
theorem dX6_readsPace_56 : decode cX6_readsPace 56 = .ok (.aload_n 0, 1) := by decide +kernel
theorem dX6_readsPace_57 : decode cX6_readsPace 57 = .ok (.getfield 32, 3) := by decide +kernel
theorem dX6_readsPace_60 : decode cX6_readsPace 60 = .ok (.aload_n 0, 1) := by decide +kernel
theorem dX6_readsPace_61 : decode cX6_readsPace 61 = .ok (.getfield 28, 3) := by decide +kernel
theorem dX6_readsPace_64 : decode cX6_readsPace 64 = .ok (.getfield 100, 3) := by decide +kernel
theorem dX6_readsPace_67 : decode cX6_readsPace 67 = .ok (.putfield 125, 3) := by decide +kernel
theorem dX6_readsPace_70 : decode cX6_readsPace 70 = .ok (.iconst 1, 1) := by decide +kernel
theorem dX6_readsPace_71 : decode cX6_readsPace 71 = .ok (.ireturn, 1) := by decide +kernel
theorem dX6_readsWord_0 : decode cX6_readsWord 0 = .ok (.aload_n 0, 1) := by decide +kernel
theorem dX6_readsWord_1 : decode cX6_readsWord 1 = .ok (.getfield 28, 3) := by decide +kernel
theorem dX6_readsWord_4 : decode cX6_readsWord 4 = .ok (.invokevirtual 44, 3) := by decide +kernel
theorem dX6_readsWord_7 : decode cX6_readsWord 7 = .ok (.aload_n 0, 1) := by decide +kernel
theorem dX6_readsWord_8 : decode cX6_readsWord 8 = .ok (.getfield 28, 3) := by decide +kernel
theorem dX6_readsWord_11 : decode cX6_readsWord 11 = .ok (.aload_n 1, 1) := by decide +kernel
theorem dX6_readsWord_12 : decode cX6_readsWord 12 = .ok (.invokevirtual 69, 3) := by decide +kernel
theorem dX6_readsWord_15 : decode cX6_readsWord 15 = .ok (.ifCond .ne 11, 3) := by decide +kernel
theorem dX6_readsWord_18 : decode cX6_readsWord 18 = .ok (.aload_n 0, 1) := by decide +kernel
theorem dX6_readsWord_19 : decode cX6_readsWord 19 = .ok (.iconst 1, 1) := by decide +kernel
theorem dX6_readsWord_20 : decode cX6_readsWord 20 = .ok (.invokevirtual 52, 3) := by decide +kernel
theorem dX6_readsWord_23 : decode cX6_readsWord 23 = .ok (.ifCond .eq 7, 3) := by decide +kernel
theorem dX6_readsWord_26 : decode cX6_readsWord 26 = .ok (.iconst 1, 1) := by decide +kernel
theorem dX6_readsWord_27 : decode cX6_readsWord 27 = .ok (.goto 4, 3) := by decide +kernel
theorem dX6_readsWord_30 : decode cX6_readsWord 30 = .ok (.iconst 0, 1) := by decide +kernel
theorem dX6_readsWord_31 : decode cX6_readsWord 31 = .ok (.ireturn, 1) := by decide +kernel
theorem dX6_readsWhole_0 : decode cX6_readsWhole 0 = .ok (.aload_n 0, 1) := by decide +kernel
theorem dX6_readsWhole_1 : decode cX6_readsWhole 1 = .ok (.getfield 28, 3) := by decide +kernel
theorem dX6_readsWhole_4 : decode cX6_readsWhole 4 = .ok (.invokevirtual 44, 3) := by decide +kernel
theorem dX6_readsWhole_7 : decode cX6_readsWhole 7 = .ok (.aload_n 0, 1) := by decide +kernel
theorem dX6_readsWhole_8 : decode cX6_readsWhole 8 = .ok (.getfield 28, 3) := by decide +kernel
theorem dX6_readsWhole_11 : decode cX6_readsWhole 11 = .ok (.getfield 49, 3) := by decide +kernel
theorem dX6_readsWhole_14 : decode cX6_readsWhole 14 = .ok (.iconst 2, 1) := by decide +kernel
theorem dX6_readsWhole_15 : decode cX6_readsWhole 15 = .ok (.if_icmp .eq 9, 3) := by decide +kernel
theorem dX6_readsWhole_18 : decode cX6_readsWhole 18 = .ok (.aload_n 0, 1) := by decide +kernel
theorem dX6_readsWhole_19 : decode cX6_readsWhole 19 = .ok (.iconst 1, 1) := by decide +kernel
theorem dX6_readsWhole_20 : decode cX6_readsWhole 20 = .ok (.invokevirtual 52, 3) := by decide +kernel
theorem dX6_readsWhole_23 : decode cX6_readsWhole 23 = .ok (.ireturn, 1) := by decide +kernel
theorem dX6_readsWhole_24 : decode cX6_readsWhole 24 = .ok (.aload_n 0, 1) := by decide +kernel
theorem dX6_readsWhole_25 : decode cX6_readsWhole 25 = .ok (.getfield 28, 3) := by decide +kernel
theorem dX6_readsWhole_28 : decode cX6_readsWhole 28 = .ok (.getfield 100, 3) := by decide +kernel
theorem dX6_readsWhole_31 : decode cX6_readsWhole 31 = .ok (.iload_n 1, 1) := by decide +kernel
theorem dX6_readsWhole_32 : decode cX6_readsWhole 32 = .ok (.if_icmp .lt 14, 3) := by decide +kernel
theorem dX6_readsWhole_35 : decode cX6_readsWhole 35 = .ok (.aload_n 0, 1) := by decide +kernel
theorem dX6_readsWhole_36 : decode cX6_readsWhole 36 = .ok (.getfield 28, 3) := by decide +kernel
theorem dX6_readsWhole_39 : decode cX6_readsWhole 39 = .ok (.getfield 100, 3) := by decide +kernel
theorem dX6_readsWhole_42 : decode cX6_readsWhole 42 = .ok (.iload_n 2, 1) := by decide +kernel
theorem dX6_readsWhole_43 : decode cX6_readsWhole 43 = .ok (.if_icmp .le 11, 3) := by decide +kernel
theorem dX6_readsWhole_46 : decode cX6_readsWhole 46 = .ok (.aload_n 0, 1) := by decide +kernel
theorem dX6_readsWhole_47 : decode cX6_readsWhole 47 = .ok (.iconst 2, 1) := by decide +kernel
theorem dX6_readsWhole_48 : decode cX6_readsWhole 48 = .ok (.invokevirtual 52, 3) := by decide +kernel
theorem dX6_readsWhole_51 : decode cX6_readsWhole 51 = .ok (.ifCond .eq 7, 3) := by decide +kernel
theorem dX6_readsWhole_54 : decode cX6_readsWhole 54 = .ok (.iconst 1, 1) := by decide +kernel
theorem dX6_readsWhole_55 : decode cX6_readsWhole 55 = .ok (.goto 4, 3) := by decide +kernel
theorem dX6_readsWhole_58 : decode cX6_readsWhole 58 = .ok (.iconst 0, 1) := by decide +kernel
theorem dX6_readsWhole_59 : decode cX6_readsWhole 59 = .ok (.ireturn, 1) := by decide +kernel
theorem dX7_init_0 : decode cX7_init 0 = .ok (.aload_n 0, 1) := by decide +kernel
theorem dX7_init_1 : decode cX7_init 1 = .ok (.invokespecial 1, 3) := by decide +kernel
theorem dX7_init_4 : decode cX7_init 4 = .ok (.aload_n 0, 1) := by decide +kernel
theorem dX7_init_5 : decode cX7_init 5 = .ok (.sipush 700, 3) := by decide +kernel
theorem dX7_init_8 : decode cX7_init 8 = .ok (.newarray .int, 2) := by decide +kernel
theorem dX7_init_10 : decode cX7_init 10 = .ok (.putfield 9, 3) := by decide +kernel
theorem dX7_init_13 : decode cX7_init 13 = .ok (.aload_n 0, 1) := by decide +kernel
theorem dX7_init_14 : decode cX7_init 14 = .ok (.iconst 0, 1) := by decide +kernel
theorem dX7_init_15 : decode cX7_init 15 = .ok (.putfield 13, 3) := by decide +kernel
theorem dX7_init_18 : decode cX7_init 18 = .ok (.aload_n 0, 1) := by decide +kernel
theorem dX7_init_19 : decode cX7_init 19 = .ok (.iconst 0, 1) := by decide +kernel
theorem dX7_init_20 : decode cX7_init 20 = .ok (.putfield 17, 3) := by decide +kernel
theorem dX7_init_23 : decode cX7_init 23 = .ok (.aload_n 0, 1) := by decide +kernel
theorem dX7_init_24 : decode cX7_init 24 = .ok (.iconst 0, 1) := by decide +kernel
theorem dX7_init_25 : decode cX7_init 25 = .ok (.putfield 20, 3) := by decide +kernel
theorem dX7_init_28 : decode cX7_init 28 = .ok (.aload_n 0, 1) := by decide +kernel
theorem dX7_init_29 : decode cX7_init 29 = .ok (.iconst 0, 1) := by decide +kernel
theorem dX7_init_30 : decode cX7_init 30 = .ok (.putfield 23, 3) := by decide +kernel
theorem dX7_init_33 : decode cX7_init 33 = .ok (.aload_n 0, 1) := by decide +kernel
theorem dX7_init_34 : decode cX7_init 34 = .ok (.iconst 0, 1) := by decide +kernel
theorem dX7_init_35 : decode cX7_init 35 = .ok (.putfield 26, 3) := by decide +kernel
theorem dX7_init_38 : decode cX7_init 38 = .ok (.aload_n 0, 1) := by decide +kernel
theorem dX7_init_39 : decode cX7_init 39 = .ok (.iconst 0, 1) := by decide +kernel
theorem dX7_init_40 : decode cX7_init 40 = .ok (.putfield 29, 3) := by decide +kernel
theorem dX7_init_43 : decode cX7_init 43 = .ok (.return_, 1) := by decide +kernel
theorem dX7_hasRoom_0 : decode cX7_hasRoom 0 = .ok (.aload_n 0, 1) := by decide +kernel
theorem dX7_hasRoom_1 : decode cX7_hasRoom 1 = .ok (.getfield 13, 3) := by decide +kernel
theorem dX7_hasRoom_4 : decode cX7_hasRoom 4 = .ok (.sipush 680, 3) := by decide +kernel
theorem dX7_hasRoom_7 : decode cX7_hasRoom 7 = .ok (.if_icmp .gt 7, 3) := by decide +kernel
theorem dX7_hasRoom_10 : decode cX7_hasRoom 10 = .ok (.iconst 1, 1) := by decide +kernel
theorem dX7_hasRoom_11 : decode cX7_hasRoom 11 = .ok (.goto 4, 3) := by decide +kernel
theorem dX7_hasRoom_14 : decode cX7_hasRoom 14 = .ok (.iconst 0, 1) := by decide +kernel
theorem dX7_hasRoom_15 : decode cX7_hasRoom 15 = .ok (.ireturn, 1) := by decide +kernel
theorem dX7_put_0 : decode cX7_put 0 = .ok (.bipush 24, 2) := by decide +kernel
theorem dX7_put_2 : decode cX7_put 2 = .ok (.istore_n 2, 1) := by decide +kernel
theorem dX7_put_3 : decode cX7_put 3 = .ok (.iload_n 2, 1) := by decide +kernel
theorem dX7_put_4 : decode cX7_put 4 = .ok (.ifCond .lt 45, 3) := by decide +kernel
theorem dX7_put_7 : decode cX7_put 7 = .ok (.aload_n 0, 1) := by decide +kernel
theorem dX7_put_8 : decode cX7_put 8 = .ok (.getfield 13, 3) := by decide +kernel
theorem dX7_put_11 : decode cX7_put 11 = .ok (.sipush 700, 3) := by decide +kernel
theorem dX7_put_14 : decode cX7_put 14 = .ok (.if_icmp .ge 35, 3) := by decide +kernel
theorem dX7_put_17 : decode cX7_put 17 = .ok (.aload_n 0, 1) := by decide +kernel
theorem dX7_put_18 : decode cX7_put 18 = .ok (.getfield 9, 3) := by decide +kernel
theorem dX7_put_21 : decode cX7_put 21 = .ok (.aload_n 0, 1) := by decide +kernel
theorem dX7_put_22 : decode cX7_put 22 = .ok (.getfield 13, 3) := by decide +kernel
theorem dX7_put_25 : decode cX7_put 25 = .ok (.iload_n 1, 1) := by decide +kernel
theorem dX7_put_26 : decode cX7_put 26 = .ok (.iload_n 2, 1) := by decide +kernel
theorem dX7_put_27 : decode cX7_put 27 = .ok (.ishr, 1) := by decide +kernel
theorem dX7_put_28 : decode cX7_put 28 = .ok (.sipush 255, 3) := by decide +kernel
theorem dX7_put_31 : decode cX7_put 31 = .ok (.iand, 1) := by decide +kernel
theorem dX7_put_32 : decode cX7_put 32 = .ok (.iastore, 1) := by decide +kernel
theorem dX7_put_33 : decode cX7_put 33 = .ok (.aload_n 0, 1) := by decide +kernel
theorem dX7_put_34 : decode cX7_put 34 = .ok (.dup, 1) := by decide +kernel
theorem dX7_put_35 : decode cX7_put 35 = .ok (.getfield 13, 3) := by decide +kernel
theorem dX7_put_38 : decode cX7_put 38 = .ok (.iconst 1, 1) := by decide +kernel
theorem dX7_put_39 : decode cX7_put 39 = .ok (.iadd, 1) := by decide +kernel
theorem dX7_put_40 : decode cX7_put 40 = .ok (.putfield 13, 3) := by decide +kernel
theorem dX7_put_43 : decode cX7_put 43 = .ok (.iinc 2 (-8), 3) := by decide +kernel
theorem dX7_put_46 : decode cX7_put 46 = .ok (.goto (-43), 3) := by decide +kernel
theorem dX7_put_49 : decode cX7_put 49 = .ok (.return_, 1) := by decide +kernel
theorem dX7_rewind_0 : decode cX7_rewind 0 = .ok (.aload_n 0, 1) := by decide +kernel
theorem dX7_rewind_1 : decode cX7_rewind 1 = .ok (.iload_n 1, 1) := by decide +kernel
theorem dX7_rewind_2 : decode cX7_rewind 2 = .ok (.aload_n 0, 1) := by decide +kernel
theorem dX7_rewind_3 : decode cX7_rewind 3 = .ok (.getfield 13, 3) := by decide +kernel
theorem dX7_rewind_6 : decode cX7_rewind 6 = .ok (.invokestatic 32, 3) := by decide +kernel
theorem dX7_rewind_9 : decode cX7_rewind 9 = .ok (.putfield 17, 3) := by decide +kernel
theorem dX7_rewind_12 : decode cX7_rewind 12 = .ok (.aload_n 0, 1) := by decide +kernel
theorem dX7_rewind_13 : decode cX7_rewind 13 = .ok (.iconst 0, 1) := by decide +kernel
theorem dX7_rewind_14 : decode cX7_rewind 14 = .ok (.putfield 20, 3) := by decide +kernel
theorem dX7_rewind_17 : decode cX7_rewind 17 = .ok (.return_, 1) := by decide +kernel
theorem dX7_step_0 : decode cX7_step 0 = .ok (.aload_n 0, 1) := by decide +kernel
theorem dX7_step_1 : decode cX7_step 1 = .ok (.getfield 20, 3) := by decide +kernel
theorem dX7_step_4 : decode cX7_step 4 = .ok (.aload_n 0, 1) := by decide +kernel
theorem dX7_step_5 : decode cX7_step 5 = .ok (.getfield 17, 3) := by decide +kernel
theorem dX7_step_8 : decode cX7_step 8 = .ok (.if_icmp .ge 30, 3) := by decide +kernel
theorem dX7_step_11 : decode cX7_step 11 = .ok (.aload_n 0, 1) := by decide +kernel
theorem dX7_step_12 : decode cX7_step 12 = .ok (.getfield 9, 3) := by decide +kernel
theorem dX7_step_15 : decode cX7_step 15 = .ok (.aload_n 0, 1) := by decide +kernel
theorem dX7_step_16 : decode cX7_step 16 = .ok (.getfield 20, 3) := by decide +kernel
theorem dX7_step_19 : decode cX7_step 19 = .ok (.iaload, 1) := by decide +kernel
theorem dX7_step_20 : decode cX7_step 20 = .ok (.bipush 32, 2) := by decide +kernel
theorem dX7_step_22 : decode cX7_step 22 = .ok (.if_icmp .ne 16, 3) := by decide +kernel
theorem dX7_step_25 : decode cX7_step 25 = .ok (.aload_n 0, 1) := by decide +kernel
theorem dX7_step_26 : decode cX7_step 26 = .ok (.dup, 1) := by decide +kernel
theorem dX7_step_27 : decode cX7_step 27 = .ok (.getfield 20, 3) := by decide +kernel
theorem dX7_step_30 : decode cX7_step 30 = .ok (.iconst 1, 1) := by decide +kernel
theorem dX7_step_31 : decode cX7_step 31 = .ok (.iadd, 1) := by decide +kernel
theorem dX7_step_32 : decode cX7_step 32 = .ok (.putfield 20, 3) := by decide +kernel
theorem dX7_step_35 : decode cX7_step 35 = .ok (.goto (-35), 3) := by decide +kernel
theorem dX7_step_38 : decode cX7_step 38 = .ok (.aload_n 0, 1) := by decide +kernel
theorem dX7_step_39 : decode cX7_step 39 = .ok (.aload_n 0, 1) := by decide +kernel
theorem dX7_step_40 : decode cX7_step 40 = .ok (.getfield 20, 3) := by decide +kernel
theorem dX7_step_43 : decode cX7_step 43 = .ok (.putfield 26, 3) := by decide +kernel
theorem dX7_step_46 : decode cX7_step 46 = .ok (.aload_n 0, 1) := by decide +kernel
theorem dX7_step_47 : decode cX7_step 47 = .ok (.iconst 0, 1) := by decide +kernel
theorem dX7_step_48 : decode cX7_step 48 = .ok (.putfield 29, 3) := by decide +kernel
theorem dX7_step_51 : decode cX7_step 51 = .ok (.aload_n 0, 1) := by decide +kernel
theorem dX7_step_52 : decode cX7_step 52 = .ok (.aload_n 0, 1) := by decide +kernel
theorem dX7_step_53 : decode cX7_step 53 = .ok (.getfield 20, 3) := by decide +kernel
theorem dX7_step_56 : decode cX7_step 56 = .ok (.aload_n 0, 1) := by decide +kernel
theorem dX7_step_57 : decode cX7_step 57 = .ok (.getfield 17, 3) := by decide +kernel
theorem dX7_step_60 : decode cX7_step 60 = .ok (.if_icmp .ge 18, 3) := by decide +kernel
theorem dX7_step_63 : decode cX7_step 63 = .ok (.aload_n 0, 1) := by decide +kernel
theorem dX7_step_64 : decode cX7_step 64 = .ok (.getfield 9, 3) := by decide +kernel
theorem dX7_step_67 : decode cX7_step 67 = .ok (.aload_n 0, 1) := by decide +kernel
theorem dX7_step_68 : decode cX7_step 68 = .ok (.getfield 20, 3) := by decide +kernel
theorem dX7_step_71 : decode cX7_step 71 = .ok (.iaload, 1) := by decide +kernel
theorem dX7_step_72 : decode cX7_step 72 = .ok (.invokestatic 38, 3) := by decide +kernel
theorem dX7_step_75 : decode cX7_step 75 = .ok (.goto 4, 3) := by decide +kernel
theorem dX7_step_78 : decode cX7_step 78 = .ok (.iconst 0, 1) := by decide +kernel
theorem dX7_step_79 : decode cX7_step 79 = .ok (.putfield 23, 3) := by decide +kernel
theorem dX7_step_82 : decode cX7_step 82 = .ok (.aload_n 0, 1) := by decide +kernel
theorem dX7_step_83 : decode cX7_step 83 = .ok (.getfield 23, 3) := by decide +kernel
theorem dX7_step_86 : decode cX7_step 86 = .ok (.iconst 3, 1) := by decide +kernel
theorem dX7_step_87 : decode cX7_step 87 = .ok (.if_icmp .ne 13, 3) := by decide +kernel
theorem dX7_step_90 : decode cX7_step 90 = .ok (.aload_n 0, 1) := by decide +kernel
theorem dX7_step_91 : decode cX7_step 91 = .ok (.dup, 1) := by decide +kernel
theorem dX7_step_92 : decode cX7_step 92 = .ok (.getfield 20, 3) := by decide +kernel
theorem dX7_step_95 : decode cX7_step 95 = .ok (.iconst 1, 1) := by decide +kernel
theorem dX7_step_96 : decode cX7_step 96 = .ok (.iadd, 1) := by decide +kernel
theorem dX7_step_97 : decode cX7_step 97 = .ok (.putfield 20, 3) := by decide +kernel
theorem dX7_step_100 : decode cX7_step 100 = .ok (.aload_n 0, 1) := by decide +kernel
theorem dX7_step_101 : decode cX7_step 101 = .ok (.getfield 20, 3) := by decide +kernel
theorem dX7_step_104 : decode cX7_step 104 = .ok (.aload_n 0, 1) := by decide +kernel
theorem dX7_step_105 : decode cX7_step 105 = .ok (.getfield 17, 3) := by decide +kernel
theorem dX7_step_108 : decode cX7_step 108 = .ok (.if_icmp .ge 75, 3) := by decide +kernel
theorem dX7_step_111 : decode cX7_step 111 = .ok (.aload_n 0, 1) := by decide +kernel
theorem dX7_step_112 : decode cX7_step 112 = .ok (.getfield 23, 3) := by decide +kernel
theorem dX7_step_115 : decode cX7_step 115 = .ok (.iconst 1, 1) := by decide +kernel
theorem dX7_step_116 : decode cX7_step 116 = .ok (.if_icmp .eq 11, 3) := by decide +kernel
theorem dX7_step_119 : decode cX7_step 119 = .ok (.aload_n 0, 1) := by decide +kernel
theorem dX7_step_120 : decode cX7_step 120 = .ok (.getfield 23, 3) := by decide +kernel
theorem dX7_step_123 : decode cX7_step 123 = .ok (.iconst 2, 1) := by decide +kernel
theorem dX7_step_124 : decode cX7_step 124 = .ok (.if_icmp .ne 59, 3) := by decide +kernel
theorem dX7_step_127 : decode cX7_step 127 = .ok (.aload_n 0, 1) := by decide +kernel
theorem dX7_step_128 : decode cX7_step 128 = .ok (.getfield 9, 3) := by decide +kernel
theorem dX7_step_131 : decode cX7_step 131 = .ok (.aload_n 0, 1) := by decide +kernel
theorem dX7_step_132 : decode cX7_step 132 = .ok (.getfield 20, 3) := by decide +kernel
theorem dX7_step_135 : decode cX7_step 135 = .ok (.iaload, 1) := by decide +kernel
theorem dX7_step_136 : decode cX7_step 136 = .ok (.invokestatic 38, 3) := by decide +kernel
theorem dX7_step_139 : decode cX7_step 139 = .ok (.aload_n 0, 1) := by decide +kernel
theorem dX7_step_140 : decode cX7_step 140 = .ok (.getfield 23, 3) := by decide +kernel
theorem dX7_step_143 : decode cX7_step 143 = .ok (.if_icmp .ne 40, 3) := by decide +kernel
theorem dX7_step_146 : decode cX7_step 146 = .ok (.aload_n 0, 1) := by decide +kernel
theorem dX7_step_147 : decode cX7_step 147 = .ok (.aload_n 0, 1) := by decide +kernel
theorem dX7_step_148 : decode cX7_step 148 = .ok (.getfield 29, 3) := by decide +kernel
theorem dX7_step_151 : decode cX7_step 151 = .ok (.bipush 10, 2) := by decide +kernel
theorem dX7_step_153 : decode cX7_step 153 = .ok (.imul, 1) := by decide +kernel
theorem dX7_step_154 : decode cX7_step 154 = .ok (.aload_n 0, 1) := by decide +kernel
theorem dX7_step_155 : decode cX7_step 155 = .ok (.getfield 9, 3) := by decide +kernel
theorem dX7_step_158 : decode cX7_step 158 = .ok (.aload_n 0, 1) := by decide +kernel
theorem dX7_step_159 : decode cX7_step 159 = .ok (.getfield 20, 3) := by decide +kernel
theorem dX7_step_162 : decode cX7_step 162 = .ok (.iaload, 1) := by decide +kernel
theorem dX7_step_163 : decode cX7_step 163 = .ok (.iadd, 1) := by decide +kernel
theorem dX7_step_164 : decode cX7_step 164 = .ok (.bipush 48, 2) := by decide +kernel
theorem dX7_step_166 : decode cX7_step 166 = .ok (.isub, 1) := by decide +kernel
theorem dX7_step_167 : decode cX7_step 167 = .ok (.putfield 29, 3) := by decide +kernel
theorem dX7_step_170 : decode cX7_step 170 = .ok (.aload_n 0, 1) := by decide +kernel
theorem dX7_step_171 : decode cX7_step 171 = .ok (.dup, 1) := by decide +kernel
theorem dX7_step_172 : decode cX7_step 172 = .ok (.getfield 20, 3) := by decide +kernel
theorem dX7_step_175 : decode cX7_step 175 = .ok (.iconst 1, 1) := by decide +kernel
theorem dX7_step_176 : decode cX7_step 176 = .ok (.iadd, 1) := by decide +kernel
theorem dX7_step_177 : decode cX7_step 177 = .ok (.putfield 20, 3) := by decide +kernel
theorem dX7_step_180 : decode cX7_step 180 = .ok (.goto (-80), 3) := by decide +kernel
theorem dX7_step_183 : decode cX7_step 183 = .ok (.aload_n 0, 1) := by decide +kernel
theorem dX7_step_184 : decode cX7_step 184 = .ok (.getfield 23, 3) := by decide +kernel
theorem dX7_step_187 : decode cX7_step 187 = .ok (.iconst 1, 1) := by decide +kernel
theorem dX7_step_188 : decode cX7_step 188 = .ok (.if_icmp .ne 17, 3) := by decide +kernel
theorem dX7_step_191 : decode cX7_step 191 = .ok (.aload_n 0, 1) := by decide +kernel
theorem dX7_step_192 : decode cX7_step 192 = .ok (.getfield 20, 3) := by decide +kernel
theorem dX7_step_195 : decode cX7_step 195 = .ok (.aload_n 0, 1) := by decide +kernel
theorem dX7_step_196 : decode cX7_step 196 = .ok (.getfield 26, 3) := by decide +kernel
theorem dX7_step_199 : decode cX7_step 199 = .ok (.isub, 1) := by decide +kernel
theorem dX7_step_200 : decode cX7_step 200 = .ok (.bipush 6, 2) := by decide +kernel
theorem dX7_step_202 : decode cX7_step 202 = .ok (.if_icmp .gt 24, 3) := by decide +kernel
theorem dX7_step_205 : decode cX7_step 205 = .ok (.aload_n 0, 1) := by decide +kernel
theorem dX7_step_206 : decode cX7_step 206 = .ok (.getfield 23, 3) := by decide +kernel
theorem dX7_step_209 : decode cX7_step 209 = .ok (.iconst 2, 1) := by decide +kernel
theorem dX7_step_210 : decode cX7_step 210 = .ok (.if_icmp .ne 21, 3) := by decide +kernel
theorem dX7_step_213 : decode cX7_step 213 = .ok (.aload_n 0, 1) := by decide +kernel
theorem dX7_step_214 : decode cX7_step 214 = .ok (.getfield 20, 3) := by decide +kernel
theorem dX7_step_217 : decode cX7_step 217 = .ok (.aload_n 0, 1) := by decide +kernel
theorem dX7_step_218 : decode cX7_step 218 = .ok (.getfield 26, 3) := by decide +kernel
theorem dX7_step_221 : decode cX7_step 221 = .ok (.isub, 1) := by decide +kernel
theorem dX7_step_222 : decode cX7_step 222 = .ok (.iconst 3, 1) := by decide +kernel
theorem dX7_step_223 : decode cX7_step 223 = .ok (.if_icmp .le 8, 3) := by decide +kernel
theorem dX7_step_226 : decode cX7_step 226 = .ok (.aload_n 0, 1) := by decide +kernel
theorem dX7_step_227 : decode cX7_step 227 = .ok (.iconst 4, 1) := by decide +kernel
theorem dX7_step_228 : decode cX7_step 228 = .ok (.putfield 23, 3) := by decide +kernel
theorem dX7_step_231 : decode cX7_step 231 = .ok (.return_, 1) := by decide +kernel
theorem dX7_kindOf_0 : decode cX7_kindOf 0 = .ok (.iload_n 0, 1) := by decide +kernel
theorem dX7_kindOf_1 : decode cX7_kindOf 1 = .ok (.bipush 97, 2) := by decide +kernel
theorem dX7_kindOf_3 : decode cX7_kindOf 3 = .ok (.if_icmp .lt 11, 3) := by decide +kernel
theorem dX7_kindOf_6 : decode cX7_kindOf 6 = .ok (.iload_n 0, 1) := by decide +kernel
theorem dX7_kindOf_7 : decode cX7_kindOf 7 = .ok (.bipush 122, 2) := by decide +kernel
theorem dX7_kindOf_9 : decode cX7_kindOf 9 = .ok (.if_icmp .gt 5, 3) := by decide +kernel
theorem dX7_kindOf_12 : decode cX7_kindOf 12 = .ok (.iconst 1, 1) := by decide +kernel
theorem dX7_kindOf_13 : decode cX7_kindOf 13 = .ok (.ireturn, 1) := by decide +kernel
theorem dX7_kindOf_14 : decode cX7_kindOf 14 = .ok (.iload_n 0, 1) := by decide +kernel
theorem dX7_kindOf_15 : decode cX7_kindOf 15 = .ok (.bipush 48, 2) := by decide +kernel
theorem dX7_kindOf_17 : decode cX7_kindOf 17 = .ok (.if_icmp .lt 11, 3) := by decide +kernel
theorem dX7_kindOf_20 : decode cX7_kindOf 20 = .ok (.iload_n 0, 1) := by decide +kernel
theorem dX7_kindOf_21 : decode cX7_kindOf 21 = .ok (.bipush 57, 2) := by decide +kernel
theorem dX7_kindOf_23 : decode cX7_kindOf 23 = .ok (.if_icmp .gt 5, 3) := by decide +kernel
theorem dX7_kindOf_26 : decode cX7_kindOf 26 = .ok (.iconst 2, 1) := by decide +kernel
theorem dX7_kindOf_27 : decode cX7_kindOf 27 = .ok (.ireturn, 1) := by decide +kernel
theorem dX7_kindOf_28 : decode cX7_kindOf 28 = .ok (.iload_n 0, 1) := by decide +kernel
theorem dX7_kindOf_29 : decode cX7_kindOf 29 = .ok (.bipush 59, 2) := by decide +kernel
theorem dX7_kindOf_31 : decode cX7_kindOf 31 = .ok (.if_icmp .ne 7, 3) := by decide +kernel
theorem dX7_kindOf_34 : decode cX7_kindOf 34 = .ok (.iconst 3, 1) := by decide +kernel
theorem dX7_kindOf_35 : decode cX7_kindOf 35 = .ok (.goto 4, 3) := by decide +kernel
theorem dX7_kindOf_38 : decode cX7_kindOf 38 = .ok (.iconst 4, 1) := by decide +kernel
theorem dX7_kindOf_39 : decode cX7_kindOf 39 = .ok (.ireturn, 1) := by decide +kernel
theorem dX7_isWord_0 : decode cX7_isWord 0 = .ok (.aload_n 0, 1) := by decide +kernel
theorem dX7_isWord_1 : decode cX7_isWord 1 = .ok (.getfield 23, 3) := by decide +kernel
theorem dX7_isWord_4 : decode cX7_isWord 4 = .ok (.iconst 1, 1) := by decide +kernel
theorem dX7_isWord_5 : decode cX7_isWord 5 = .ok (.if_icmp .ne 19, 3) := by decide +kernel
theorem dX7_isWord_8 : decode cX7_isWord 8 = .ok (.aload_n 0, 1) := by decide +kernel
theorem dX7_isWord_9 : decode cX7_isWord 9 = .ok (.getfield 20, 3) := by decide +kernel
theorem dX7_isWord_12 : decode cX7_isWord 12 = .ok (.aload_n 0, 1) := by decide +kernel
theorem dX7_isWord_13 : decode cX7_isWord 13 = .ok (.getfield 26, 3) := by decide +kernel
theorem dX7_isWord_16 : decode cX7_isWord 16 = .ok (.isub, 1) := by decide +kernel
theorem dX7_isWord_17 : decode cX7_isWord 17 = .ok (.aload_n 1, 1) := by decide +kernel
theorem dX7_isWord_18 : decode cX7_isWord 18 = .ok (.invokevirtual 42, 3) := by decide +kernel
theorem dX7_isWord_21 : decode cX7_isWord 21 = .ok (.if_icmp .eq 5, 3) := by decide +kernel
theorem dX7_isWord_24 : decode cX7_isWord 24 = .ok (.iconst 0, 1) := by decide +kernel
theorem dX7_isWord_25 : decode cX7_isWord 25 = .ok (.ireturn, 1) := by decide +kernel
theorem dX7_isWord_26 : decode cX7_isWord 26 = .ok (.iconst 0, 1) := by decide +kernel
theorem dX7_isWord_27 : decode cX7_isWord 27 = .ok (.istore_n 2, 1) := by decide +kernel
theorem dX7_isWord_28 : decode cX7_isWord 28 = .ok (.iload_n 2, 1) := by decide +kernel
theorem dX7_isWord_29 : decode cX7_isWord 29 = .ok (.aload_n 1, 1) := by decide +kernel
theorem dX7_isWord_30 : decode cX7_isWord 30 = .ok (.invokevirtual 42, 3) := by decide +kernel
theorem dX7_isWord_33 : decode cX7_isWord 33 = .ok (.if_icmp .ge 30, 3) := by decide +kernel
theorem dX7_isWord_36 : decode cX7_isWord 36 = .ok (.aload_n 0, 1) := by decide +kernel
theorem dX7_isWord_37 : decode cX7_isWord 37 = .ok (.getfield 9, 3) := by decide +kernel
theorem dX7_isWord_40 : decode cX7_isWord 40 = .ok (.aload_n 0, 1) := by decide +kernel
theorem dX7_isWord_41 : decode cX7_isWord 41 = .ok (.getfield 26, 3) := by decide +kernel
theorem dX7_isWord_44 : decode cX7_isWord 44 = .ok (.iload_n 2, 1) := by decide +kernel
theorem dX7_isWord_45 : decode cX7_isWord 45 = .ok (.iadd, 1) := by decide +kernel
theorem dX7_isWord_46 : decode cX7_isWord 46 = .ok (.iaload, 1) := by decide +kernel
theorem dX7_isWord_47 : decode cX7_isWord 47 = .ok (.aload_n 1, 1) := by decide +kernel
theorem dX7_isWord_48 : decode cX7_isWord 48 = .ok (.iload_n 2, 1) := by decide +kernel
theorem dX7_isWord_49 : decode cX7_isWord 49 = .ok (.invokevirtual 47, 3) := by decide +kernel
theorem dX7_isWord_52 : decode cX7_isWord 52 = .ok (.if_icmp .eq 5, 3) := by decide +kernel
theorem dX7_isWord_55 : decode cX7_isWord 55 = .ok (.iconst 0, 1) := by decide +kernel
theorem dX7_isWord_56 : decode cX7_isWord 56 = .ok (.ireturn, 1) := by decide +kernel
theorem dX7_isWord_57 : decode cX7_isWord 57 = .ok (.iinc 2 1, 3) := by decide +kernel
theorem dX7_isWord_60 : decode cX7_isWord 60 = .ok (.goto (-32), 3) := by decide +kernel
theorem dX7_isWord_63 : decode cX7_isWord 63 = .ok (.iconst 1, 1) := by decide +kernel
theorem dX7_isWord_64 : decode cX7_isWord 64 = .ok (.ireturn, 1) := by decide +kernel
theorem dX8_init_0 : decode cX8_init 0 = .ok (.aload_n 0, 1) := by decide +kernel
theorem dX8_init_1 : decode cX8_init 1 = .ok (.invokespecial 3, 3) := by decide +kernel
theorem dX8_init_4 : decode cX8_init 4 = .ok (.aload_n 0, 1) := by decide +kernel
theorem dX8_init_5 : decode cX8_init 5 = .ok (.bipush 24, 2) := by decide +kernel
theorem dX8_init_7 : decode cX8_init 7 = .ok (.newarray .int, 2) := by decide +kernel
theorem dX8_init_9 : decode cX8_init 9 = .ok (.putfield 9, 3) := by decide +kernel
theorem dX8_init_12 : decode cX8_init 12 = .ok (.aload_n 0, 1) := by decide +kernel
theorem dX8_init_13 : decode cX8_init 13 = .ok (.bipush 24, 2) := by decide +kernel
theorem dX8_init_15 : decode cX8_init 15 = .ok (.newarray .int, 2) := by decide +kernel
theorem dX8_init_17 : decode cX8_init 17 = .ok (.putfield 15, 3) := by decide +kernel
theorem dX8_init_20 : decode cX8_init 20 = .ok (.aload_n 0, 1) := by decide +kernel
theorem dX8_init_21 : decode cX8_init 21 = .ok (.bipush 24, 2) := by decide +kernel
theorem dX8_init_23 : decode cX8_init 23 = .ok (.newarray .int, 2) := by decide +kernel
theorem dX8_init_25 : decode cX8_init 25 = .ok (.putfield 18, 3) := by decide +kernel
theorem dX8_init_28 : decode cX8_init 28 = .ok (.aload_n 0, 1) := by decide +kernel
theorem dX8_init_29 : decode cX8_init 29 = .ok (.bipush 24, 2) := by decide +kernel
theorem dX8_init_31 : decode cX8_init 31 = .ok (.newarray .int, 2) := by decide +kernel
theorem dX8_init_33 : decode cX8_init 33 = .ok (.putfield 21, 3) := by decide +kernel
theorem dX8_init_36 : decode cX8_init 36 = .ok (.aload_n 0, 1) := by decide +kernel
theorem dX8_init_37 : decode cX8_init 37 = .ok (.bipush 24, 2) := by decide +kernel
theorem dX8_init_39 : decode cX8_init 39 = .ok (.newarray .int, 2) := by decide +kernel
theorem dX8_init_41 : decode cX8_init 41 = .ok (.putfield 24, 3) := by decide +kernel
theorem dX8_init_44 : decode cX8_init 44 = .ok (.aload_n 0, 1) := by decide +kernel
theorem dX8_init_45 : decode cX8_init 45 = .ok (.bipush 24, 2) := by decide +kernel
theorem dX8_init_47 : decode cX8_init 47 = .ok (.newarray .int, 2) := by decide +kernel
theorem dX8_init_49 : decode cX8_init 49 = .ok (.putfield 27, 3) := by decide +kernel
theorem dX8_init_52 : decode cX8_init 52 = .ok (.aload_n 0, 1) := by decide +kernel
theorem dX8_init_53 : decode cX8_init 53 = .ok (.iconst 0, 1) := by decide +kernel
theorem dX8_init_54 : decode cX8_init 54 = .ok (.putfield 30, 3) := by decide +kernel
theorem dX8_init_57 : decode cX8_init 57 = .ok (.aload_n 0, 1) := by decide +kernel
theorem dX8_init_58 : decode cX8_init 58 = .ok (.bipush 24, 2) := by decide +kernel
theorem dX8_init_60 : decode cX8_init 60 = .ok (.newarray .int, 2) := by decide +kernel
theorem dX8_init_62 : decode cX8_init 62 = .ok (.putfield 34, 3) := by decide +kernel
theorem dX8_init_65 : decode cX8_init 65 = .ok (.aload_n 0, 1) := by decide +kernel
theorem dX8_init_66 : decode cX8_init 66 = .ok (.bipush 24, 2) := by decide +kernel
theorem dX8_init_68 : decode cX8_init 68 = .ok (.newarray .int, 2) := by decide +kernel
theorem dX8_init_70 : decode cX8_init 70 = .ok (.putfield 37, 3) := by decide +kernel
theorem dX8_init_73 : decode cX8_init 73 = .ok (.aload_n 0, 1) := by decide +kernel
theorem dX8_init_74 : decode cX8_init 74 = .ok (.iconst 0, 1) := by decide +kernel
theorem dX8_init_75 : decode cX8_init 75 = .ok (.putfield 40, 3) := by decide +kernel
theorem dX8_init_78 : decode cX8_init 78 = .ok (.aload_n 0, 1) := by decide +kernel
theorem dX8_init_79 : decode cX8_init 79 = .ok (.bipush 24, 2) := by decide +kernel
theorem dX8_init_81 : decode cX8_init 81 = .ok (.newarray .int, 2) := by decide +kernel
theorem dX8_init_83 : decode cX8_init 83 = .ok (.putfield 43, 3) := by decide +kernel
theorem dX8_init_86 : decode cX8_init 86 = .ok (.aload_n 0, 1) := by decide +kernel
theorem dX8_init_87 : decode cX8_init 87 = .ok (.bipush 24, 2) := by decide +kernel
theorem dX8_init_89 : decode cX8_init 89 = .ok (.newarray .boolean, 2) := by decide +kernel
theorem dX8_init_91 : decode cX8_init 91 = .ok (.putfield 46, 3) := by decide +kernel
theorem dX8_init_94 : decode cX8_init 94 = .ok (.aload_n 0, 1) := by decide +kernel
theorem dX8_init_95 : decode cX8_init 95 = .ok (.aload_n 1, 1) := by decide +kernel
theorem dX8_init_96 : decode cX8_init 96 = .ok (.putfield 50, 3) := by decide +kernel
theorem dX8_init_99 : decode cX8_init 99 = .ok (.aload_n 0, 1) := by decide +kernel
theorem dX8_init_100 : decode cX8_init 100 = .ok (.aload_n 2, 1) := by decide +kernel
theorem dX8_init_101 : decode cX8_init 101 = .ok (.putfield 54, 3) := by decide +kernel
theorem dX8_init_104 : decode cX8_init 104 = .ok (.aload_n 0, 1) := by decide +kernel
theorem dX8_init_105 : decode cX8_init 105 = .ok (.aload_n 3, 1) := by decide +kernel
theorem dX8_init_106 : decode cX8_init 106 = .ok (.putfield 58, 3) := by decide +kernel
theorem dX8_init_109 : decode cX8_init 109 = .ok (.return_, 1) := by decide +kernel
theorem dX8_strokeOf_0 : decode cX8_strokeOf 0 = .ok (.aload_n 0, 1) := by decide +kernel
theorem dX8_strokeOf_1 : decode cX8_strokeOf 1 = .ok (.getfield 34, 3) := by decide +kernel
theorem dX8_strokeOf_4 : decode cX8_strokeOf 4 = .ok (.aload_n 0, 1) := by decide +kernel
theorem dX8_strokeOf_5 : decode cX8_strokeOf 5 = .ok (.getfield 37, 3) := by decide +kernel
theorem dX8_strokeOf_8 : decode cX8_strokeOf 8 = .ok (.iload_n 1, 1) := by decide +kernel
theorem dX8_strokeOf_9 : decode cX8_strokeOf 9 = .ok (.iaload, 1) := by decide +kernel
theorem dX8_strokeOf_10 : decode cX8_strokeOf 10 = .ok (.iload_n 2, 1) := by decide +kernel
theorem dX8_strokeOf_11 : decode cX8_strokeOf 11 = .ok (.iadd, 1) := by decide +kernel
theorem dX8_strokeOf_12 : decode cX8_strokeOf 12 = .ok (.iaload, 1) := by decide +kernel
theorem dX8_strokeOf_13 : decode cX8_strokeOf 13 = .ok (.ireturn, 1) := by decide +kernel
theorem dX8_gather_0 : decode cX8_gather 0 = .ok (.aload_n 0, 1) := by decide +kernel
theorem dX8_gather_1 : decode cX8_gather 1 = .ok (.iconst 0, 1) := by decide +kernel
theorem dX8_gather_2 : decode cX8_gather 2 = .ok (.putfield 30, 3) := by decide +kernel
theorem dX8_gather_5 : decode cX8_gather 5 = .ok (.aload_n 0, 1) := by decide +kernel
theorem dX8_gather_6 : decode cX8_gather 6 = .ok (.iconst 0, 1) := by decide +kernel
theorem dX8_gather_7 : decode cX8_gather 7 = .ok (.putfield 40, 3) := by decide +kernel
theorem dX8_gather_10 : decode cX8_gather 10 = .ok (.iconst 0, 1) := by decide +kernel
theorem dX8_gather_11 : decode cX8_gather 11 = .ok (.istore_n 1, 1) := by decide +kernel
theorem dX8_gather_12 : decode cX8_gather 12 = .ok (.iload_n 1, 1) := by decide +kernel
theorem dX8_gather_13 : decode cX8_gather 13 = .ok (.aload_n 0, 1) := by decide +kernel
theorem dX8_gather_14 : decode cX8_gather 14 = .ok (.getfield 54, 3) := by decide +kernel
theorem dX8_gather_17 : decode cX8_gather 17 = .ok (.invokevirtual 62, 3) := by decide +kernel
theorem dX8_gather_20 : decode cX8_gather 20 = .ok (.if_icmp .ge 74, 3) := by decide +kernel
theorem dX8_gather_23 : decode cX8_gather 23 = .ok (.iconst 0, 1) := by decide +kernel
theorem dX8_gather_24 : decode cX8_gather 24 = .ok (.istore_n 2, 1) := by decide +kernel
theorem dX8_gather_25 : decode cX8_gather 25 = .ok (.iconst 0, 1) := by decide +kernel
theorem dX8_gather_26 : decode cX8_gather 26 = .ok (.istore_n 3, 1) := by decide +kernel
theorem dX8_gather_27 : decode cX8_gather 27 = .ok (.iload_n 3, 1) := by decide +kernel
theorem dX8_gather_28 : decode cX8_gather 28 = .ok (.aload_n 0, 1) := by decide +kernel
theorem dX8_gather_29 : decode cX8_gather 29 = .ok (.getfield 58, 3) := by decide +kernel
theorem dX8_gather_32 : decode cX8_gather 32 = .ok (.iload_n 1, 1) := by decide +kernel
theorem dX8_gather_33 : decode cX8_gather 33 = .ok (.invokevirtual 68, 3) := by decide +kernel
theorem dX8_gather_36 : decode cX8_gather 36 = .ok (.if_icmp .ge 52, 3) := by decide +kernel
theorem dX8_gather_39 : decode cX8_gather 39 = .ok (.aload_n 0, 1) := by decide +kernel
theorem dX8_gather_40 : decode cX8_gather 40 = .ok (.getfield 58, 3) := by decide +kernel
theorem dX8_gather_43 : decode cX8_gather 43 = .ok (.iload_n 1, 1) := by decide +kernel
theorem dX8_gather_44 : decode cX8_gather 44 = .ok (.iload_n 3, 1) := by decide +kernel
theorem dX8_gather_45 : decode cX8_gather 45 = .ok (.invokevirtual 74, 3) := by decide +kernel
theorem dX8_gather_48 : decode cX8_gather 48 = .ok (.istore 4, 2) := by decide +kernel
theorem dX8_gather_50 : decode cX8_gather 50 = .ok (.iload 4, 2) := by decide +kernel
theorem dX8_gather_52 : decode cX8_gather 52 = .ok (.invokestatic 78, 3) := by decide +kernel
theorem dX8_gather_55 : decode cX8_gather 55 = .ok (.ifCond .eq 8, 3) := by decide +kernel
theorem dX8_gather_58 : decode cX8_gather 58 = .ok (.iconst 0, 1) := by decide +kernel
theorem dX8_gather_59 : decode cX8_gather 59 = .ok (.istore_n 2, 1) := by decide +kernel
theorem dX8_gather_60 : decode cX8_gather 60 = .ok (.goto 22, 3) := by decide +kernel
theorem dX8_gather_63 : decode cX8_gather 63 = .ok (.iload_n 2, 1) := by decide +kernel
theorem dX8_gather_64 : decode cX8_gather 64 = .ok (.ifCond .ne 10, 3) := by decide +kernel
theorem dX8_gather_67 : decode cX8_gather 67 = .ok (.aload_n 0, 1) := by decide +kernel
theorem dX8_gather_68 : decode cX8_gather 68 = .ok (.iload_n 1, 1) := by decide +kernel
theorem dX8_gather_69 : decode cX8_gather 69 = .ok (.iload 4, 2) := by decide +kernel
theorem dX8_gather_71 : decode cX8_gather 71 = .ok (.invokevirtual 82, 3) := by decide +kernel
theorem dX8_gather_74 : decode cX8_gather 74 = .ok (.aload_n 0, 1) := by decide +kernel
theorem dX8_gather_75 : decode cX8_gather 75 = .ok (.iload 4, 2) := by decide +kernel
theorem dX8_gather_77 : decode cX8_gather 77 = .ok (.invokevirtual 86, 3) := by decide +kernel
theorem dX8_gather_80 : decode cX8_gather 80 = .ok (.iconst 1, 1) := by decide +kernel
theorem dX8_gather_81 : decode cX8_gather 81 = .ok (.istore_n 2, 1) := by decide +kernel
theorem dX8_gather_82 : decode cX8_gather 82 = .ok (.iinc 3 1, 3) := by decide +kernel
theorem dX8_gather_85 : decode cX8_gather 85 = .ok (.goto (-58), 3) := by decide +kernel
theorem dX8_gather_88 : decode cX8_gather 88 = .ok (.iinc 1 1, 3) := by decide +kernel
theorem dX8_gather_91 : decode cX8_gather 91 = .ok (.goto (-79), 3) := by decide +kernel
theorem dX8_gather_94 : decode cX8_gather 94 = .ok (.return_, 1) := by decide +kernel
theorem dX8_open_0 : decode cX8_open 0 = .ok (.aload_n 0, 1) := by decide +kernel
theorem dX8_open_1 : decode cX8_open 1 = .ok (.getfield 30, 3) := by decide +kernel
theorem dX8_open_4 : decode cX8_open 4 = .ok (.bipush 24, 2) := by decide +kernel
theorem dX8_open_6 : decode cX8_open 6 = .ok (.if_icmp .lt 4, 3) := by decide +kernel
theorem dX8_open_9 : decode cX8_open 9 = .ok (.return_, 1) := by decide +kernel
theorem dX8_open_10 : decode cX8_open 10 = .ok (.aload_n 0, 1) := by decide +kernel
theorem dX8_open_11 : decode cX8_open 11 = .ok (.getfield 9, 3) := by decide +kernel
theorem dX8_open_14 : decode cX8_open 14 = .ok (.aload_n 0, 1) := by decide +kernel
theorem dX8_open_15 : decode cX8_open 15 = .ok (.getfield 30, 3) := by decide +kernel
theorem dX8_open_18 : decode cX8_open 18 = .ok (.iload_n 1, 1) := by decide +kernel
theorem dX8_open_19 : decode cX8_open 19 = .ok (.iastore, 1) := by decide +kernel
theorem dX8_open_20 : decode cX8_open 20 = .ok (.aload_n 0, 1) := by decide +kernel
theorem dX8_open_21 : decode cX8_open 21 = .ok (.getfield 15, 3) := by decide +kernel
theorem dX8_open_24 : decode cX8_open 24 = .ok (.aload_n 0, 1) := by decide +kernel
theorem dX8_open_25 : decode cX8_open 25 = .ok (.getfield 30, 3) := by decide +kernel
theorem dX8_open_28 : decode cX8_open 28 = .ok (.iconst 0, 1) := by decide +kernel
theorem dX8_open_29 : decode cX8_open 29 = .ok (.iastore, 1) := by decide +kernel
theorem dX8_open_30 : decode cX8_open 30 = .ok (.aload_n 0, 1) := by decide +kernel
theorem dX8_open_31 : decode cX8_open 31 = .ok (.getfield 24, 3) := by decide +kernel
theorem dX8_open_34 : decode cX8_open 34 = .ok (.aload_n 0, 1) := by decide +kernel
theorem dX8_open_35 : decode cX8_open 35 = .ok (.getfield 30, 3) := by decide +kernel
theorem dX8_open_38 : decode cX8_open 38 = .ok (.iconst 0, 1) := by decide +kernel
theorem dX8_open_39 : decode cX8_open 39 = .ok (.iastore, 1) := by decide +kernel
theorem dX8_open_40 : decode cX8_open 40 = .ok (.aload_n 0, 1) := by decide +kernel
theorem dX8_open_41 : decode cX8_open 41 = .ok (.getfield 18, 3) := by decide +kernel
theorem dX8_open_44 : decode cX8_open 44 = .ok (.aload_n 0, 1) := by decide +kernel
theorem dX8_open_45 : decode cX8_open 45 = .ok (.getfield 30, 3) := by decide +kernel
theorem dX8_open_48 : decode cX8_open 48 = .ok (.aload_n 0, 1) := by decide +kernel
theorem dX8_open_49 : decode cX8_open 49 = .ok (.getfield 54, 3) := by decide +kernel
theorem dX8_open_52 : decode cX8_open 52 = .ok (.iload_n 2, 1) := by decide +kernel
theorem dX8_open_53 : decode cX8_open 53 = .ok (.invokevirtual 90, 3) := by decide +kernel
theorem dX8_open_56 : decode cX8_open 56 = .ok (.iastore, 1) := by decide +kernel
theorem dX8_open_57 : decode cX8_open 57 = .ok (.aload_n 0, 1) := by decide +kernel
theorem dX8_open_58 : decode cX8_open 58 = .ok (.getfield 37, 3) := by decide +kernel
theorem dX8_open_61 : decode cX8_open 61 = .ok (.aload_n 0, 1) := by decide +kernel
theorem dX8_open_62 : decode cX8_open 62 = .ok (.getfield 30, 3) := by decide +kernel
theorem dX8_open_65 : decode cX8_open 65 = .ok (.aload_n 0, 1) := by decide +kernel
theorem dX8_open_66 : decode cX8_open 66 = .ok (.getfield 40, 3) := by decide +kernel
theorem dX8_open_69 : decode cX8_open 69 = .ok (.iastore, 1) := by decide +kernel
theorem dX8_open_70 : decode cX8_open 70 = .ok (.aload_n 0, 1) := by decide +kernel
theorem dX8_open_71 : decode cX8_open 71 = .ok (.dup, 1) := by decide +kernel
theorem dX8_open_72 : decode cX8_open 72 = .ok (.getfield 30, 3) := by decide +kernel
theorem dX8_open_75 : decode cX8_open 75 = .ok (.iconst 1, 1) := by decide +kernel
theorem dX8_open_76 : decode cX8_open 76 = .ok (.iadd, 1) := by decide +kernel
theorem dX8_open_77 : decode cX8_open 77 = .ok (.putfield 30, 3) := by decide +kernel
theorem dX8_open_80 : decode cX8_open 80 = .ok (.return_, 1) := by decide +kernel
theorem dX8_putStroke_0 : decode cX8_putStroke 0 = .ok (.aload_n 0, 1) := by decide +kernel
theorem dX8_putStroke_1 : decode cX8_putStroke 1 = .ok (.getfield 30, 3) := by decide +kernel
theorem dX8_putStroke_4 : decode cX8_putStroke 4 = .ok (.iconst 1, 1) := by decide +kernel
theorem dX8_putStroke_5 : decode cX8_putStroke 5 = .ok (.if_icmp .lt 12, 3) := by decide +kernel
theorem dX8_putStroke_8 : decode cX8_putStroke 8 = .ok (.aload_n 0, 1) := by decide +kernel
theorem dX8_putStroke_9 : decode cX8_putStroke 9 = .ok (.getfield 40, 3) := by decide +kernel
theorem dX8_putStroke_12 : decode cX8_putStroke 12 = .ok (.bipush 24, 2) := by decide +kernel
theorem dX8_putStroke_14 : decode cX8_putStroke 14 = .ok (.if_icmp .lt 4, 3) := by decide +kernel
theorem dX8_putStroke_17 : decode cX8_putStroke 17 = .ok (.return_, 1) := by decide +kernel
theorem dX8_putStroke_18 : decode cX8_putStroke 18 = .ok (.aload_n 0, 1) := by decide +kernel
theorem dX8_putStroke_19 : decode cX8_putStroke 19 = .ok (.getfield 30, 3) := by decide +kernel
theorem dX8_putStroke_22 : decode cX8_putStroke 22 = .ok (.iconst 1, 1) := by decide +kernel
theorem dX8_putStroke_23 : decode cX8_putStroke 23 = .ok (.isub, 1) := by decide +kernel
theorem dX8_putStroke_24 : decode cX8_putStroke 24 = .ok (.istore_n 2, 1) := by decide +kernel
theorem dX8_putStroke_25 : decode cX8_putStroke 25 = .ok (.aload_n 0, 1) := by decide +kernel
theorem dX8_putStroke_26 : decode cX8_putStroke 26 = .ok (.getfield 15, 3) := by decide +kernel
theorem dX8_putStroke_29 : decode cX8_putStroke 29 = .ok (.iload_n 2, 1) := by decide +kernel
theorem dX8_putStroke_30 : decode cX8_putStroke 30 = .ok (.dup2, 1) := by decide +kernel
theorem dX8_putStroke_31 : decode cX8_putStroke 31 = .ok (.iaload, 1) := by decide +kernel
theorem dX8_putStroke_32 : decode cX8_putStroke 32 = .ok (.iconst 1, 1) := by decide +kernel
theorem dX8_putStroke_33 : decode cX8_putStroke 33 = .ok (.iadd, 1) := by decide +kernel
theorem dX8_putStroke_34 : decode cX8_putStroke 34 = .ok (.iastore, 1) := by decide +kernel
theorem dX8_putStroke_35 : decode cX8_putStroke 35 = .ok (.aload_n 0, 1) := by decide +kernel
theorem dX8_putStroke_36 : decode cX8_putStroke 36 = .ok (.getfield 24, 3) := by decide +kernel
theorem dX8_putStroke_39 : decode cX8_putStroke 39 = .ok (.iload_n 2, 1) := by decide +kernel
theorem dX8_putStroke_40 : decode cX8_putStroke 40 = .ok (.dup2, 1) := by decide +kernel
theorem dX8_putStroke_41 : decode cX8_putStroke 41 = .ok (.iaload, 1) := by decide +kernel
theorem dX8_putStroke_42 : decode cX8_putStroke 42 = .ok (.aload_n 0, 1) := by decide +kernel
theorem dX8_putStroke_43 : decode cX8_putStroke 43 = .ok (.getfield 50, 3) := by decide +kernel
theorem dX8_putStroke_46 : decode cX8_putStroke 46 = .ok (.iload_n 1, 1) := by decide +kernel
theorem dX8_putStroke_47 : decode cX8_putStroke 47 = .ok (.iconst 2, 1) := by decide +kernel
theorem dX8_putStroke_48 : decode cX8_putStroke 48 = .ok (.idiv, 1) := by decide +kernel
theorem dX8_putStroke_49 : decode cX8_putStroke 49 = .ok (.invokevirtual 93, 3) := by decide +kernel
theorem dX8_putStroke_52 : decode cX8_putStroke 52 = .ok (.iadd, 1) := by decide +kernel
theorem dX8_putStroke_53 : decode cX8_putStroke 53 = .ok (.iastore, 1) := by decide +kernel
theorem dX8_putStroke_54 : decode cX8_putStroke 54 = .ok (.aload_n 0, 1) := by decide +kernel
theorem dX8_putStroke_55 : decode cX8_putStroke 55 = .ok (.getfield 21, 3) := by decide +kernel
theorem dX8_putStroke_58 : decode cX8_putStroke 58 = .ok (.iload_n 2, 1) := by decide +kernel
theorem dX8_putStroke_59 : decode cX8_putStroke 59 = .ok (.aload_n 0, 1) := by decide +kernel
theorem dX8_putStroke_60 : decode cX8_putStroke 60 = .ok (.getfield 54, 3) := by decide +kernel
theorem dX8_putStroke_63 : decode cX8_putStroke 63 = .ok (.iload_n 1, 1) := by decide +kernel
theorem dX8_putStroke_64 : decode cX8_putStroke 64 = .ok (.iconst 1, 1) := by decide +kernel
theorem dX8_putStroke_65 : decode cX8_putStroke 65 = .ok (.ixor, 1) := by decide +kernel
theorem dX8_putStroke_66 : decode cX8_putStroke 66 = .ok (.invokevirtual 90, 3) := by decide +kernel
theorem dX8_putStroke_69 : decode cX8_putStroke 69 = .ok (.iastore, 1) := by decide +kernel
theorem dX8_putStroke_70 : decode cX8_putStroke 70 = .ok (.aload_n 0, 1) := by decide +kernel
theorem dX8_putStroke_71 : decode cX8_putStroke 71 = .ok (.getfield 27, 3) := by decide +kernel
theorem dX8_putStroke_74 : decode cX8_putStroke 74 = .ok (.iload_n 1, 1) := by decide +kernel
theorem dX8_putStroke_75 : decode cX8_putStroke 75 = .ok (.iconst 2, 1) := by decide +kernel
theorem dX8_putStroke_76 : decode cX8_putStroke 76 = .ok (.idiv, 1) := by decide +kernel
theorem dX8_putStroke_77 : decode cX8_putStroke 77 = .ok (.iload_n 2, 1) := by decide +kernel
theorem dX8_putStroke_78 : decode cX8_putStroke 78 = .ok (.iastore, 1) := by decide +kernel
theorem dX8_putStroke_79 : decode cX8_putStroke 79 = .ok (.aload_n 0, 1) := by decide +kernel
theorem dX8_putStroke_80 : decode cX8_putStroke 80 = .ok (.getfield 34, 3) := by decide +kernel
theorem dX8_putStroke_83 : decode cX8_putStroke 83 = .ok (.aload_n 0, 1) := by decide +kernel
theorem dX8_putStroke_84 : decode cX8_putStroke 84 = .ok (.getfield 40, 3) := by decide +kernel
theorem dX8_putStroke_87 : decode cX8_putStroke 87 = .ok (.iload_n 1, 1) := by decide +kernel
theorem dX8_putStroke_88 : decode cX8_putStroke 88 = .ok (.iastore, 1) := by decide +kernel
theorem dX8_putStroke_89 : decode cX8_putStroke 89 = .ok (.aload_n 0, 1) := by decide +kernel
theorem dX8_putStroke_90 : decode cX8_putStroke 90 = .ok (.dup, 1) := by decide +kernel
theorem dX8_putStroke_91 : decode cX8_putStroke 91 = .ok (.getfield 40, 3) := by decide +kernel
theorem dX8_putStroke_94 : decode cX8_putStroke 94 = .ok (.iconst 1, 1) := by decide +kernel
theorem dX8_putStroke_95 : decode cX8_putStroke 95 = .ok (.iadd, 1) := by decide +kernel
theorem dX8_putStroke_96 : decode cX8_putStroke 96 = .ok (.putfield 40, 3) := by decide +kernel
theorem dX8_putStroke_99 : decode cX8_putStroke 99 = .ok (.return_, 1) := by decide +kernel
theorem dX8_leastTree_0 : decode cX8_leastTree 0 = .ok (.iconst 0, 1) := by decide +kernel
theorem dX8_leastTree_1 : decode cX8_leastTree 1 = .ok (.istore_n 1, 1) := by decide +kernel
theorem dX8_leastTree_2 : decode cX8_leastTree 2 = .ok (.iload_n 1, 1) := by decide +kernel
theorem dX8_leastTree_3 : decode cX8_leastTree 3 = .ok (.aload_n 0, 1) := by decide +kernel
theorem dX8_leastTree_4 : decode cX8_leastTree 4 = .ok (.getfield 30, 3) := by decide +kernel
theorem dX8_leastTree_7 : decode cX8_leastTree 7 = .ok (.if_icmp .ge 53, 3) := by decide +kernel
theorem dX8_leastTree_10 : decode cX8_leastTree 10 = .ok (.aload_n 0, 1) := by decide +kernel
theorem dX8_leastTree_11 : decode cX8_leastTree 11 = .ok (.getfield 43, 3) := by decide +kernel
theorem dX8_leastTree_14 : decode cX8_leastTree 14 = .ok (.iload_n 1, 1) := by decide +kernel
theorem dX8_leastTree_15 : decode cX8_leastTree 15 = .ok (.aload_n 0, 1) := by decide +kernel
theorem dX8_leastTree_16 : decode cX8_leastTree 16 = .ok (.getfield 54, 3) := by decide +kernel
theorem dX8_leastTree_19 : decode cX8_leastTree 19 = .ok (.iconst (-1), 1) := by decide +kernel
theorem dX8_leastTree_20 : decode cX8_leastTree 20 = .ok (.aload_n 0, 1) := by decide +kernel
theorem dX8_leastTree_21 : decode cX8_leastTree 21 = .ok (.getfield 18, 3) := by decide +kernel
theorem dX8_leastTree_24 : decode cX8_leastTree 24 = .ok (.iload_n 1, 1) := by decide +kernel
theorem dX8_leastTree_25 : decode cX8_leastTree 25 = .ok (.iaload, 1) := by decide +kernel
theorem dX8_leastTree_26 : decode cX8_leastTree 26 = .ok (.invokevirtual 98, 3) := by decide +kernel
theorem dX8_leastTree_29 : decode cX8_leastTree 29 = .ok (.aload_n 0, 1) := by decide +kernel
theorem dX8_leastTree_30 : decode cX8_leastTree 30 = .ok (.getfield 54, 3) := by decide +kernel
theorem dX8_leastTree_33 : decode cX8_leastTree 33 = .ok (.iconst (-1), 1) := by decide +kernel
theorem dX8_leastTree_34 : decode cX8_leastTree 34 = .ok (.aload_n 0, 1) := by decide +kernel
theorem dX8_leastTree_35 : decode cX8_leastTree 35 = .ok (.getfield 21, 3) := by decide +kernel
theorem dX8_leastTree_38 : decode cX8_leastTree 38 = .ok (.iload_n 1, 1) := by decide +kernel
theorem dX8_leastTree_39 : decode cX8_leastTree 39 = .ok (.iaload, 1) := by decide +kernel
theorem dX8_leastTree_40 : decode cX8_leastTree 40 = .ok (.invokevirtual 98, 3) := by decide +kernel
theorem dX8_leastTree_43 : decode cX8_leastTree 43 = .ok (.invokestatic 101, 3) := by decide +kernel
theorem dX8_leastTree_46 : decode cX8_leastTree 46 = .ok (.iastore, 1) := by decide +kernel
theorem dX8_leastTree_47 : decode cX8_leastTree 47 = .ok (.aload_n 0, 1) := by decide +kernel
theorem dX8_leastTree_48 : decode cX8_leastTree 48 = .ok (.getfield 46, 3) := by decide +kernel
theorem dX8_leastTree_51 : decode cX8_leastTree 51 = .ok (.iload_n 1, 1) := by decide +kernel
theorem dX8_leastTree_52 : decode cX8_leastTree 52 = .ok (.iconst 0, 1) := by decide +kernel
theorem dX8_leastTree_53 : decode cX8_leastTree 53 = .ok (.bastore, 1) := by decide +kernel
theorem dX8_leastTree_54 : decode cX8_leastTree 54 = .ok (.iinc 1 1, 3) := by decide +kernel
theorem dX8_leastTree_57 : decode cX8_leastTree 57 = .ok (.goto (-55), 3) := by decide +kernel
theorem dX8_leastTree_60 : decode cX8_leastTree 60 = .ok (.iconst 0, 1) := by decide +kernel
theorem dX8_leastTree_61 : decode cX8_leastTree 61 = .ok (.istore_n 1, 1) := by decide +kernel
theorem dX8_leastTree_62 : decode cX8_leastTree 62 = .ok (.iconst 0, 1) := by decide +kernel
theorem dX8_leastTree_63 : decode cX8_leastTree 63 = .ok (.istore_n 2, 1) := by decide +kernel
theorem dX8_leastTree_64 : decode cX8_leastTree 64 = .ok (.iload_n 2, 1) := by decide +kernel
theorem dX8_leastTree_65 : decode cX8_leastTree 65 = .ok (.aload_n 0, 1) := by decide +kernel
theorem dX8_leastTree_66 : decode cX8_leastTree 66 = .ok (.getfield 30, 3) := by decide +kernel
theorem dX8_leastTree_69 : decode cX8_leastTree 69 = .ok (.if_icmp .ge 40, 3) := by decide +kernel
theorem dX8_leastTree_72 : decode cX8_leastTree 72 = .ok (.aload_n 0, 1) := by decide +kernel
theorem dX8_leastTree_73 : decode cX8_leastTree 73 = .ok (.invokevirtual 106, 3) := by decide +kernel
theorem dX8_leastTree_76 : decode cX8_leastTree 76 = .ok (.istore_n 3, 1) := by decide +kernel
theorem dX8_leastTree_77 : decode cX8_leastTree 77 = .ok (.iload_n 3, 1) := by decide +kernel
theorem dX8_leastTree_78 : decode cX8_leastTree 78 = .ok (.iconst (-1), 1) := by decide +kernel
theorem dX8_leastTree_79 : decode cX8_leastTree 79 = .ok (.if_icmp .eq 24, 3) := by decide +kernel
theorem dX8_leastTree_82 : decode cX8_leastTree 82 = .ok (.iload_n 1, 1) := by decide +kernel
theorem dX8_leastTree_83 : decode cX8_leastTree 83 = .ok (.aload_n 0, 1) := by decide +kernel
theorem dX8_leastTree_84 : decode cX8_leastTree 84 = .ok (.getfield 43, 3) := by decide +kernel
theorem dX8_leastTree_87 : decode cX8_leastTree 87 = .ok (.iload_n 3, 1) := by decide +kernel
theorem dX8_leastTree_88 : decode cX8_leastTree 88 = .ok (.iaload, 1) := by decide +kernel
theorem dX8_leastTree_89 : decode cX8_leastTree 89 = .ok (.iadd, 1) := by decide +kernel
theorem dX8_leastTree_90 : decode cX8_leastTree 90 = .ok (.istore_n 1, 1) := by decide +kernel
theorem dX8_leastTree_91 : decode cX8_leastTree 91 = .ok (.aload_n 0, 1) := by decide +kernel
theorem dX8_leastTree_92 : decode cX8_leastTree 92 = .ok (.getfield 46, 3) := by decide +kernel
theorem dX8_leastTree_95 : decode cX8_leastTree 95 = .ok (.iload_n 3, 1) := by decide +kernel
theorem dX8_leastTree_96 : decode cX8_leastTree 96 = .ok (.iconst 1, 1) := by decide +kernel
theorem dX8_leastTree_97 : decode cX8_leastTree 97 = .ok (.bastore, 1) := by decide +kernel
theorem dX8_leastTree_98 : decode cX8_leastTree 98 = .ok (.aload_n 0, 1) := by decide +kernel
theorem dX8_leastTree_99 : decode cX8_leastTree 99 = .ok (.iload_n 3, 1) := by decide +kernel
theorem dX8_leastTree_100 : decode cX8_leastTree 100 = .ok (.invokevirtual 109, 3) := by decide +kernel
theorem dX8_leastTree_103 : decode cX8_leastTree 103 = .ok (.iinc 2 1, 3) := by decide +kernel
theorem dX8_leastTree_106 : decode cX8_leastTree 106 = .ok (.goto (-42), 3) := by decide +kernel
theorem dX8_leastTree_109 : decode cX8_leastTree 109 = .ok (.iload_n 1, 1) := by decide +kernel
theorem dX8_leastTree_110 : decode cX8_leastTree 110 = .ok (.ireturn, 1) := by decide +kernel
theorem dX8_nearestTrail_0 : decode cX8_nearestTrail 0 = .ok (.iconst (-1), 1) := by decide +kernel
theorem dX8_nearestTrail_1 : decode cX8_nearestTrail 1 = .ok (.istore_n 1, 1) := by decide +kernel
theorem dX8_nearestTrail_2 : decode cX8_nearestTrail 2 = .ok (.iconst 0, 1) := by decide +kernel
theorem dX8_nearestTrail_3 : decode cX8_nearestTrail 3 = .ok (.istore_n 2, 1) := by decide +kernel
theorem dX8_nearestTrail_4 : decode cX8_nearestTrail 4 = .ok (.iload_n 2, 1) := by decide +kernel
theorem dX8_nearestTrail_5 : decode cX8_nearestTrail 5 = .ok (.aload_n 0, 1) := by decide +kernel
theorem dX8_nearestTrail_6 : decode cX8_nearestTrail 6 = .ok (.getfield 30, 3) := by decide +kernel
theorem dX8_nearestTrail_9 : decode cX8_nearestTrail 9 = .ok (.if_icmp .ge 40, 3) := by decide +kernel
theorem dX8_nearestTrail_12 : decode cX8_nearestTrail 12 = .ok (.aload_n 0, 1) := by decide +kernel
theorem dX8_nearestTrail_13 : decode cX8_nearestTrail 13 = .ok (.getfield 46, 3) := by decide +kernel
theorem dX8_nearestTrail_16 : decode cX8_nearestTrail 16 = .ok (.iload_n 2, 1) := by decide +kernel
theorem dX8_nearestTrail_17 : decode cX8_nearestTrail 17 = .ok (.baload, 1) := by decide +kernel
theorem dX8_nearestTrail_18 : decode cX8_nearestTrail 18 = .ok (.ifCond .ne 25, 3) := by decide +kernel
theorem dX8_nearestTrail_21 : decode cX8_nearestTrail 21 = .ok (.iload_n 1, 1) := by decide +kernel
theorem dX8_nearestTrail_22 : decode cX8_nearestTrail 22 = .ok (.iconst (-1), 1) := by decide +kernel
theorem dX8_nearestTrail_23 : decode cX8_nearestTrail 23 = .ok (.if_icmp .eq 18, 3) := by decide +kernel
theorem dX8_nearestTrail_26 : decode cX8_nearestTrail 26 = .ok (.aload_n 0, 1) := by decide +kernel
theorem dX8_nearestTrail_27 : decode cX8_nearestTrail 27 = .ok (.getfield 43, 3) := by decide +kernel
theorem dX8_nearestTrail_30 : decode cX8_nearestTrail 30 = .ok (.iload_n 2, 1) := by decide +kernel
theorem dX8_nearestTrail_31 : decode cX8_nearestTrail 31 = .ok (.iaload, 1) := by decide +kernel
theorem dX8_nearestTrail_32 : decode cX8_nearestTrail 32 = .ok (.aload_n 0, 1) := by decide +kernel
theorem dX8_nearestTrail_33 : decode cX8_nearestTrail 33 = .ok (.getfield 43, 3) := by decide +kernel
theorem dX8_nearestTrail_36 : decode cX8_nearestTrail 36 = .ok (.iload_n 1, 1) := by decide +kernel
theorem dX8_nearestTrail_37 : decode cX8_nearestTrail 37 = .ok (.iaload, 1) := by decide +kernel
theorem dX8_nearestTrail_38 : decode cX8_nearestTrail 38 = .ok (.if_icmp .ge 5, 3) := by decide +kernel
theorem dX8_nearestTrail_41 : decode cX8_nearestTrail 41 = .ok (.iload_n 2, 1) := by decide +kernel
theorem dX8_nearestTrail_42 : decode cX8_nearestTrail 42 = .ok (.istore_n 1, 1) := by decide +kernel
theorem dX8_nearestTrail_43 : decode cX8_nearestTrail 43 = .ok (.iinc 2 1, 3) := by decide +kernel
theorem dX8_nearestTrail_46 : decode cX8_nearestTrail 46 = .ok (.goto (-42), 3) := by decide +kernel
theorem dX8_nearestTrail_49 : decode cX8_nearestTrail 49 = .ok (.iload_n 1, 1) := by decide +kernel
theorem dX8_nearestTrail_50 : decode cX8_nearestTrail 50 = .ok (.ireturn, 1) := by decide +kernel
theorem dX8_comeNear_0 : decode cX8_comeNear 0 = .ok (.iconst 0, 1) := by decide +kernel
theorem dX8_comeNear_1 : decode cX8_comeNear 1 = .ok (.istore_n 2, 1) := by decide +kernel
theorem dX8_comeNear_2 : decode cX8_comeNear 2 = .ok (.iload_n 2, 1) := by decide +kernel
theorem dX8_comeNear_3 : decode cX8_comeNear 3 = .ok (.aload_n 0, 1) := by decide +kernel
theorem dX8_comeNear_4 : decode cX8_comeNear 4 = .ok (.getfield 30, 3) := by decide +kernel
theorem dX8_comeNear_7 : decode cX8_comeNear 7 = .ok (.if_icmp .ge 30, 3) := by decide +kernel
theorem dX8_comeNear_10 : decode cX8_comeNear 10 = .ok (.aload_n 0, 1) := by decide +kernel
theorem dX8_comeNear_11 : decode cX8_comeNear 11 = .ok (.getfield 43, 3) := by decide +kernel
theorem dX8_comeNear_14 : decode cX8_comeNear 14 = .ok (.iload_n 2, 1) := by decide +kernel
theorem dX8_comeNear_15 : decode cX8_comeNear 15 = .ok (.aload_n 0, 1) := by decide +kernel
theorem dX8_comeNear_16 : decode cX8_comeNear 16 = .ok (.getfield 43, 3) := by decide +kernel
theorem dX8_comeNear_19 : decode cX8_comeNear 19 = .ok (.iload_n 2, 1) := by decide +kernel
theorem dX8_comeNear_20 : decode cX8_comeNear 20 = .ok (.iaload, 1) := by decide +kernel
theorem dX8_comeNear_21 : decode cX8_comeNear 21 = .ok (.aload_n 0, 1) := by decide +kernel
theorem dX8_comeNear_22 : decode cX8_comeNear 22 = .ok (.iload_n 1, 1) := by decide +kernel
theorem dX8_comeNear_23 : decode cX8_comeNear 23 = .ok (.iload_n 2, 1) := by decide +kernel
theorem dX8_comeNear_24 : decode cX8_comeNear 24 = .ok (.invokevirtual 112, 3) := by decide +kernel
theorem dX8_comeNear_27 : decode cX8_comeNear 27 = .ok (.invokestatic 101, 3) := by decide +kernel
theorem dX8_comeNear_30 : decode cX8_comeNear 30 = .ok (.iastore, 1) := by decide +kernel
theorem dX8_comeNear_31 : decode cX8_comeNear 31 = .ok (.iinc 2 1, 3) := by decide +kernel
theorem dX8_comeNear_34 : decode cX8_comeNear 34 = .ok (.goto (-32), 3) := by decide +kernel
theorem dX8_comeNear_37 : decode cX8_comeNear 37 = .ok (.return_, 1) := by decide +kernel
theorem dX8_branch_0 : decode cX8_branch 0 = .ok (.aload_n 0, 1) := by decide +kernel
theorem dX8_branch_1 : decode cX8_branch 1 = .ok (.getfield 54, 3) := by decide +kernel
theorem dX8_branch_4 : decode cX8_branch 4 = .ok (.aload_n 0, 1) := by decide +kernel
theorem dX8_branch_5 : decode cX8_branch 5 = .ok (.getfield 18, 3) := by decide +kernel
theorem dX8_branch_8 : decode cX8_branch 8 = .ok (.iload_n 1, 1) := by decide +kernel
theorem dX8_branch_9 : decode cX8_branch 9 = .ok (.iaload, 1) := by decide +kernel
theorem dX8_branch_10 : decode cX8_branch 10 = .ok (.aload_n 0, 1) := by decide +kernel
theorem dX8_branch_11 : decode cX8_branch 11 = .ok (.getfield 18, 3) := by decide +kernel
theorem dX8_branch_14 : decode cX8_branch 14 = .ok (.iload_n 2, 1) := by decide +kernel
theorem dX8_branch_15 : decode cX8_branch 15 = .ok (.iaload, 1) := by decide +kernel
theorem dX8_branch_16 : decode cX8_branch 16 = .ok (.invokevirtual 98, 3) := by decide +kernel
theorem dX8_branch_19 : decode cX8_branch 19 = .ok (.aload_n 0, 1) := by decide +kernel
theorem dX8_branch_20 : decode cX8_branch 20 = .ok (.getfield 54, 3) := by decide +kernel
theorem dX8_branch_23 : decode cX8_branch 23 = .ok (.aload_n 0, 1) := by decide +kernel
theorem dX8_branch_24 : decode cX8_branch 24 = .ok (.getfield 18, 3) := by decide +kernel
theorem dX8_branch_27 : decode cX8_branch 27 = .ok (.iload_n 1, 1) := by decide +kernel
theorem dX8_branch_28 : decode cX8_branch 28 = .ok (.iaload, 1) := by decide +kernel
theorem dX8_branch_29 : decode cX8_branch 29 = .ok (.aload_n 0, 1) := by decide +kernel
theorem dX8_branch_30 : decode cX8_branch 30 = .ok (.getfield 21, 3) := by decide +kernel
theorem dX8_branch_33 : decode cX8_branch 33 = .ok (.iload_n 2, 1) := by decide +kernel
theorem dX8_branch_34 : decode cX8_branch 34 = .ok (.iaload, 1) := by decide +kernel
theorem dX8_branch_35 : decode cX8_branch 35 = .ok (.invokevirtual 98, 3) := by decide +kernel
theorem dX8_branch_38 : decode cX8_branch 38 = .ok (.invokestatic 101, 3) := by decide +kernel
theorem dX8_branch_41 : decode cX8_branch 41 = .ok (.istore_n 3, 1) := by decide +kernel
theorem dX8_branch_42 : decode cX8_branch 42 = .ok (.aload_n 0, 1) := by decide +kernel
theorem dX8_branch_43 : decode cX8_branch 43 = .ok (.getfield 54, 3) := by decide +kernel
theorem dX8_branch_46 : decode cX8_branch 46 = .ok (.aload_n 0, 1) := by decide +kernel
theorem dX8_branch_47 : decode cX8_branch 47 = .ok (.getfield 21, 3) := by decide +kernel
theorem dX8_branch_50 : decode cX8_branch 50 = .ok (.iload_n 1, 1) := by decide +kernel
theorem dX8_branch_51 : decode cX8_branch 51 = .ok (.iaload, 1) := by decide +kernel
theorem dX8_branch_52 : decode cX8_branch 52 = .ok (.aload_n 0, 1) := by decide +kernel
theorem dX8_branch_53 : decode cX8_branch 53 = .ok (.getfield 18, 3) := by decide +kernel
theorem dX8_branch_56 : decode cX8_branch 56 = .ok (.iload_n 2, 1) := by decide +kernel
theorem dX8_branch_57 : decode cX8_branch 57 = .ok (.iaload, 1) := by decide +kernel
theorem dX8_branch_58 : decode cX8_branch 58 = .ok (.invokevirtual 98, 3) := by decide +kernel
theorem dX8_branch_61 : decode cX8_branch 61 = .ok (.aload_n 0, 1) := by decide +kernel
theorem dX8_branch_62 : decode cX8_branch 62 = .ok (.getfield 54, 3) := by decide +kernel
theorem dX8_branch_65 : decode cX8_branch 65 = .ok (.aload_n 0, 1) := by decide +kernel
theorem dX8_branch_66 : decode cX8_branch 66 = .ok (.getfield 21, 3) := by decide +kernel
theorem dX8_branch_69 : decode cX8_branch 69 = .ok (.iload_n 1, 1) := by decide +kernel
theorem dX8_branch_70 : decode cX8_branch 70 = .ok (.iaload, 1) := by decide +kernel
theorem dX8_branch_71 : decode cX8_branch 71 = .ok (.aload_n 0, 1) := by decide +kernel
theorem dX8_branch_72 : decode cX8_branch 72 = .ok (.getfield 21, 3) := by decide +kernel
theorem dX8_branch_75 : decode cX8_branch 75 = .ok (.iload_n 2, 1) := by decide +kernel
theorem dX8_branch_76 : decode cX8_branch 76 = .ok (.iaload, 1) := by decide +kernel
theorem dX8_branch_77 : decode cX8_branch 77 = .ok (.invokevirtual 98, 3) := by decide +kernel
theorem dX8_branch_80 : decode cX8_branch 80 = .ok (.invokestatic 101, 3) := by decide +kernel
theorem dX8_branch_83 : decode cX8_branch 83 = .ok (.istore 4, 2) := by decide +kernel
theorem dX8_branch_85 : decode cX8_branch 85 = .ok (.iload_n 3, 1) := by decide +kernel
theorem dX8_branch_86 : decode cX8_branch 86 = .ok (.iload 4, 2) := by decide +kernel
theorem dX8_branch_88 : decode cX8_branch 88 = .ok (.invokestatic 101, 3) := by decide +kernel
theorem dX8_branch_91 : decode cX8_branch 91 = .ok (.ireturn, 1) := by decide +kernel
theorem dX9_init_0 : decode cX9_init 0 = .ok (.aload_n 0, 1) := by decide +kernel
theorem dX9_init_1 : decode cX9_init 1 = .ok (.invokespecial 3, 3) := by decide +kernel
theorem dX9_init_4 : decode cX9_init 4 = .ok (.aload_n 0, 1) := by decide +kernel
theorem dX9_init_5 : decode cX9_init 5 = .ok (.bipush 48, 2) := by decide +kernel
theorem dX9_init_7 : decode cX9_init 7 = .ok (.newarray .int, 2) := by decide +kernel
theorem dX9_init_9 : decode cX9_init 9 = .ok (.putfield 11, 3) := by decide +kernel
theorem dX9_init_12 : decode cX9_init 12 = .ok (.aload_n 0, 1) := by decide +kernel
theorem dX9_init_13 : decode cX9_init 13 = .ok (.bipush 25, 2) := by decide +kernel
theorem dX9_init_15 : decode cX9_init 15 = .ok (.newarray .int, 2) := by decide +kernel
theorem dX9_init_17 : decode cX9_init 17 = .ok (.putfield 15, 3) := by decide +kernel
theorem dX9_init_20 : decode cX9_init 20 = .ok (.aload_n 0, 1) := by decide +kernel
theorem dX9_init_21 : decode cX9_init 21 = .ok (.bipush 48, 2) := by decide +kernel
theorem dX9_init_23 : decode cX9_init 23 = .ok (.newarray .int, 2) := by decide +kernel
theorem dX9_init_25 : decode cX9_init 25 = .ok (.putfield 18, 3) := by decide +kernel
theorem dX9_init_28 : decode cX9_init 28 = .ok (.aload_n 0, 1) := by decide +kernel
theorem dX9_init_29 : decode cX9_init 29 = .ok (.bipush 49, 2) := by decide +kernel
theorem dX9_init_31 : decode cX9_init 31 = .ok (.newarray .int, 2) := by decide +kernel
theorem dX9_init_33 : decode cX9_init 33 = .ok (.putfield 21, 3) := by decide +kernel
theorem dX9_init_36 : decode cX9_init 36 = .ok (.aload_n 0, 1) := by decide +kernel
theorem dX9_init_37 : decode cX9_init 37 = .ok (.iconst 0, 1) := by decide +kernel
theorem dX9_init_38 : decode cX9_init 38 = .ok (.putfield 24, 3) := by decide +kernel
theorem dX9_init_41 : decode cX9_init 41 = .ok (.aload_n 0, 1) := by decide +kernel
theorem dX9_init_42 : decode cX9_init 42 = .ok (.bipush 48, 2) := by decide +kernel
theorem dX9_init_44 : decode cX9_init 44 = .ok (.newarray .int, 2) := by decide +kernel
theorem dX9_init_46 : decode cX9_init 46 = .ok (.putfield 28, 3) := by decide +kernel
theorem dX9_init_49 : decode cX9_init 49 = .ok (.aload_n 0, 1) := by decide +kernel
theorem dX9_init_50 : decode cX9_init 50 = .ok (.bipush 49, 2) := by decide +kernel
theorem dX9_init_52 : decode cX9_init 52 = .ok (.newarray .int, 2) := by decide +kernel
theorem dX9_init_54 : decode cX9_init 54 = .ok (.putfield 31, 3) := by decide +kernel
theorem dX9_init_57 : decode cX9_init 57 = .ok (.aload_n 0, 1) := by decide +kernel
theorem dX9_init_58 : decode cX9_init 58 = .ok (.iconst 0, 1) := by decide +kernel
theorem dX9_init_59 : decode cX9_init 59 = .ok (.putfield 34, 3) := by decide +kernel
theorem dX9_init_62 : decode cX9_init 62 = .ok (.aload_n 0, 1) := by decide +kernel
theorem dX9_init_63 : decode cX9_init 63 = .ok (.bipush 24, 2) := by decide +kernel
theorem dX9_init_65 : decode cX9_init 65 = .ok (.newarray .boolean, 2) := by decide +kernel
theorem dX9_init_67 : decode cX9_init 67 = .ok (.putfield 37, 3) := by decide +kernel
theorem dX9_init_70 : decode cX9_init 70 = .ok (.aload_n 0, 1) := by decide +kernel
theorem dX9_init_71 : decode cX9_init 71 = .ok (.bipush 24, 2) := by decide +kernel
theorem dX9_init_73 : decode cX9_init 73 = .ok (.newarray .boolean, 2) := by decide +kernel
theorem dX9_init_75 : decode cX9_init 75 = .ok (.putfield 41, 3) := by decide +kernel
theorem dX9_init_78 : decode cX9_init 78 = .ok (.aload_n 0, 1) := by decide +kernel
theorem dX9_init_79 : decode cX9_init 79 = .ok (.aload_n 1, 1) := by decide +kernel
theorem dX9_init_80 : decode cX9_init 80 = .ok (.putfield 44, 3) := by decide +kernel
theorem dX9_init_83 : decode cX9_init 83 = .ok (.aload_n 0, 1) := by decide +kernel
theorem dX9_init_84 : decode cX9_init 84 = .ok (.aload_n 2, 1) := by decide +kernel
theorem dX9_init_85 : decode cX9_init 85 = .ok (.putfield 48, 3) := by decide +kernel
theorem dX9_init_88 : decode cX9_init 88 = .ok (.aload_n 0, 1) := by decide +kernel
theorem dX9_init_89 : decode cX9_init 89 = .ok (.aload_n 3, 1) := by decide +kernel
theorem dX9_init_90 : decode cX9_init 90 = .ok (.putfield 52, 3) := by decide +kernel
theorem dX9_init_93 : decode cX9_init 93 = .ok (.return_, 1) := by decide +kernel
theorem dX9_isHop_0 : decode cX9_isHop 0 = .ok (.iload_n 0, 1) := by decide +kernel
theorem dX9_isHop_1 : decode cX9_isHop 1 = .ok (.bipush (-3), 2) := by decide +kernel
theorem dX9_isHop_3 : decode cX9_isHop 3 = .ok (.if_icmp .gt 7, 3) := by decide +kernel
theorem dX9_isHop_6 : decode cX9_isHop 6 = .ok (.iconst 1, 1) := by decide +kernel
theorem dX9_isHop_7 : decode cX9_isHop 7 = .ok (.goto 4, 3) := by decide +kernel
theorem dX9_isHop_10 : decode cX9_isHop 10 = .ok (.iconst 0, 1) := by decide +kernel
theorem dX9_isHop_11 : decode cX9_isHop 11 = .ok (.ireturn, 1) := by decide +kernel
theorem dX9_waysIn_0 : decode cX9_waysIn 0 = .ok (.aload_n 0, 1) := by decide +kernel
theorem dX9_waysIn_1 : decode cX9_waysIn 1 = .ok (.getfield 15, 3) := by decide +kernel
theorem dX9_waysIn_4 : decode cX9_waysIn 4 = .ok (.iload_n 1, 1) := by decide +kernel
theorem dX9_waysIn_5 : decode cX9_waysIn 5 = .ok (.iconst 1, 1) := by decide +kernel
theorem dX9_waysIn_6 : decode cX9_waysIn 6 = .ok (.iadd, 1) := by decide +kernel
theorem dX9_waysIn_7 : decode cX9_waysIn 7 = .ok (.iaload, 1) := by decide +kernel
theorem dX9_waysIn_8 : decode cX9_waysIn 8 = .ok (.aload_n 0, 1) := by decide +kernel
theorem dX9_waysIn_9 : decode cX9_waysIn 9 = .ok (.getfield 15, 3) := by decide +kernel
theorem dX9_waysIn_12 : decode cX9_waysIn 12 = .ok (.iload_n 1, 1) := by decide +kernel
theorem dX9_waysIn_13 : decode cX9_waysIn 13 = .ok (.iaload, 1) := by decide +kernel
theorem dX9_waysIn_14 : decode cX9_waysIn 14 = .ok (.isub, 1) := by decide +kernel
theorem dX9_waysIn_15 : decode cX9_waysIn 15 = .ok (.ireturn, 1) := by decide +kernel
theorem dX9_wayOf_0 : decode cX9_wayOf 0 = .ok (.aload_n 0, 1) := by decide +kernel
theorem dX9_wayOf_1 : decode cX9_wayOf 1 = .ok (.getfield 11, 3) := by decide +kernel
theorem dX9_wayOf_4 : decode cX9_wayOf 4 = .ok (.aload_n 0, 1) := by decide +kernel
theorem dX9_wayOf_5 : decode cX9_wayOf 5 = .ok (.getfield 15, 3) := by decide +kernel
theorem dX9_wayOf_8 : decode cX9_wayOf 8 = .ok (.iload_n 1, 1) := by decide +kernel
theorem dX9_wayOf_9 : decode cX9_wayOf 9 = .ok (.iaload, 1) := by decide +kernel
theorem dX9_wayOf_10 : decode cX9_wayOf 10 = .ok (.iload_n 2, 1) := by decide +kernel
theorem dX9_wayOf_11 : decode cX9_wayOf 11 = .ok (.iadd, 1) := by decide +kernel
theorem dX9_wayOf_12 : decode cX9_wayOf 12 = .ok (.iaload, 1) := by decide +kernel
theorem dX9_wayOf_13 : decode cX9_wayOf 13 = .ok (.ireturn, 1) := by decide +kernel
theorem dX9_gather_0 : decode cX9_gather 0 = .ok (.iconst 0, 1) := by decide +kernel
theorem dX9_gather_1 : decode cX9_gather 1 = .ok (.istore_n 1, 1) := by decide +kernel
theorem dX9_gather_2 : decode cX9_gather 2 = .ok (.iload_n 1, 1) := by decide +kernel
theorem dX9_gather_3 : decode cX9_gather 3 = .ok (.bipush 24, 2) := by decide +kernel
theorem dX9_gather_5 : decode cX9_gather 5 = .ok (.if_icmp .ge 50, 3) := by decide +kernel
theorem dX9_gather_8 : decode cX9_gather 8 = .ok (.aload_n 0, 1) := by decide +kernel
theorem dX9_gather_9 : decode cX9_gather 9 = .ok (.getfield 37, 3) := by decide +kernel
theorem dX9_gather_12 : decode cX9_gather 12 = .ok (.iload_n 1, 1) := by decide +kernel
theorem dX9_gather_13 : decode cX9_gather 13 = .ok (.iconst 0, 1) := by decide +kernel
theorem dX9_gather_14 : decode cX9_gather 14 = .ok (.bastore, 1) := by decide +kernel
theorem dX9_gather_15 : decode cX9_gather 15 = .ok (.aload_n 0, 1) := by decide +kernel
theorem dX9_gather_16 : decode cX9_gather 16 = .ok (.getfield 41, 3) := by decide +kernel
theorem dX9_gather_19 : decode cX9_gather 19 = .ok (.iload_n 1, 1) := by decide +kernel
theorem dX9_gather_20 : decode cX9_gather 20 = .ok (.iload_n 1, 1) := by decide +kernel
theorem dX9_gather_21 : decode cX9_gather 21 = .ok (.aload_n 0, 1) := by decide +kernel
theorem dX9_gather_22 : decode cX9_gather 22 = .ok (.getfield 52, 3) := by decide +kernel
theorem dX9_gather_25 : decode cX9_gather 25 = .ok (.getfield 56, 3) := by decide +kernel
theorem dX9_gather_28 : decode cX9_gather 28 = .ok (.if_icmp .ge 19, 3) := by decide +kernel
theorem dX9_gather_31 : decode cX9_gather 31 = .ok (.aload_n 0, 1) := by decide +kernel
theorem dX9_gather_32 : decode cX9_gather 32 = .ok (.getfield 52, 3) := by decide +kernel
theorem dX9_gather_35 : decode cX9_gather 35 = .ok (.getfield 61, 3) := by decide +kernel
theorem dX9_gather_38 : decode cX9_gather 38 = .ok (.iload_n 1, 1) := by decide +kernel
theorem dX9_gather_39 : decode cX9_gather 39 = .ok (.baload, 1) := by decide +kernel
theorem dX9_gather_40 : decode cX9_gather 40 = .ok (.ifCond .eq 7, 3) := by decide +kernel
theorem dX9_gather_43 : decode cX9_gather 43 = .ok (.iconst 1, 1) := by decide +kernel
theorem dX9_gather_44 : decode cX9_gather 44 = .ok (.goto 4, 3) := by decide +kernel
theorem dX9_gather_47 : decode cX9_gather 47 = .ok (.iconst 0, 1) := by decide +kernel
theorem dX9_gather_48 : decode cX9_gather 48 = .ok (.bastore, 1) := by decide +kernel
theorem dX9_gather_49 : decode cX9_gather 49 = .ok (.iinc 1 1, 3) := by decide +kernel
theorem dX9_gather_52 : decode cX9_gather 52 = .ok (.goto (-50), 3) := by decide +kernel
theorem dX9_gather_55 : decode cX9_gather 55 = .ok (.aload_n 0, 1) := by decide +kernel
theorem dX9_gather_56 : decode cX9_gather 56 = .ok (.getfield 15, 3) := by decide +kernel
theorem dX9_gather_59 : decode cX9_gather 59 = .ok (.iconst 0, 1) := by decide +kernel
theorem dX9_gather_60 : decode cX9_gather 60 = .ok (.iconst 0, 1) := by decide +kernel
theorem dX9_gather_61 : decode cX9_gather 61 = .ok (.iastore, 1) := by decide +kernel
theorem dX9_gather_62 : decode cX9_gather 62 = .ok (.iconst 0, 1) := by decide +kernel
theorem dX9_gather_63 : decode cX9_gather 63 = .ok (.istore_n 1, 1) := by decide +kernel
theorem dX9_gather_64 : decode cX9_gather 64 = .ok (.iload_n 1, 1) := by decide +kernel
theorem dX9_gather_65 : decode cX9_gather 65 = .ok (.aload_n 0, 1) := by decide +kernel
theorem dX9_gather_66 : decode cX9_gather 66 = .ok (.getfield 48, 3) := by decide +kernel
theorem dX9_gather_69 : decode cX9_gather 69 = .ok (.invokevirtual 64, 3) := by decide +kernel
theorem dX9_gather_72 : decode cX9_gather 72 = .ok (.if_icmp .ge 68, 3) := by decide +kernel
theorem dX9_gather_75 : decode cX9_gather 75 = .ok (.aload_n 0, 1) := by decide +kernel
theorem dX9_gather_76 : decode cX9_gather 76 = .ok (.iload_n 1, 1) := by decide +kernel
theorem dX9_gather_77 : decode cX9_gather 77 = .ok (.invokevirtual 70, 3) := by decide +kernel
theorem dX9_gather_80 : decode cX9_gather 80 = .ok (.aload_n 0, 1) := by decide +kernel
theorem dX9_gather_81 : decode cX9_gather 81 = .ok (.getfield 15, 3) := by decide +kernel
theorem dX9_gather_84 : decode cX9_gather 84 = .ok (.iload_n 1, 1) := by decide +kernel
theorem dX9_gather_85 : decode cX9_gather 85 = .ok (.iconst 1, 1) := by decide +kernel
theorem dX9_gather_86 : decode cX9_gather 86 = .ok (.iadd, 1) := by decide +kernel
theorem dX9_gather_87 : decode cX9_gather 87 = .ok (.aload_n 0, 1) := by decide +kernel
theorem dX9_gather_88 : decode cX9_gather 88 = .ok (.getfield 15, 3) := by decide +kernel
theorem dX9_gather_91 : decode cX9_gather 91 = .ok (.iload_n 1, 1) := by decide +kernel
theorem dX9_gather_92 : decode cX9_gather 92 = .ok (.iaload, 1) := by decide +kernel
theorem dX9_gather_93 : decode cX9_gather 93 = .ok (.aload_n 0, 1) := by decide +kernel
theorem dX9_gather_94 : decode cX9_gather 94 = .ok (.getfield 24, 3) := by decide +kernel
theorem dX9_gather_97 : decode cX9_gather 97 = .ok (.iadd, 1) := by decide +kernel
theorem dX9_gather_98 : decode cX9_gather 98 = .ok (.iastore, 1) := by decide +kernel
theorem dX9_gather_99 : decode cX9_gather 99 = .ok (.iconst 0, 1) := by decide +kernel
theorem dX9_gather_100 : decode cX9_gather 100 = .ok (.istore_n 2, 1) := by decide +kernel
theorem dX9_gather_101 : decode cX9_gather 101 = .ok (.iload_n 2, 1) := by decide +kernel
theorem dX9_gather_102 : decode cX9_gather 102 = .ok (.aload_n 0, 1) := by decide +kernel
theorem dX9_gather_103 : decode cX9_gather 103 = .ok (.getfield 24, 3) := by decide +kernel
theorem dX9_gather_106 : decode cX9_gather 106 = .ok (.if_icmp .ge 28, 3) := by decide +kernel
theorem dX9_gather_109 : decode cX9_gather 109 = .ok (.aload_n 0, 1) := by decide +kernel
theorem dX9_gather_110 : decode cX9_gather 110 = .ok (.getfield 11, 3) := by decide +kernel
theorem dX9_gather_113 : decode cX9_gather 113 = .ok (.aload_n 0, 1) := by decide +kernel
theorem dX9_gather_114 : decode cX9_gather 114 = .ok (.getfield 15, 3) := by decide +kernel
theorem dX9_gather_117 : decode cX9_gather 117 = .ok (.iload_n 1, 1) := by decide +kernel
theorem dX9_gather_118 : decode cX9_gather 118 = .ok (.iaload, 1) := by decide +kernel
theorem dX9_gather_119 : decode cX9_gather 119 = .ok (.iload_n 2, 1) := by decide +kernel
theorem dX9_gather_120 : decode cX9_gather 120 = .ok (.iadd, 1) := by decide +kernel
theorem dX9_gather_121 : decode cX9_gather 121 = .ok (.aload_n 0, 1) := by decide +kernel
theorem dX9_gather_122 : decode cX9_gather 122 = .ok (.getfield 18, 3) := by decide +kernel
theorem dX9_gather_125 : decode cX9_gather 125 = .ok (.iload_n 2, 1) := by decide +kernel
theorem dX9_gather_126 : decode cX9_gather 126 = .ok (.iaload, 1) := by decide +kernel
theorem dX9_gather_127 : decode cX9_gather 127 = .ok (.iastore, 1) := by decide +kernel
theorem dX9_gather_128 : decode cX9_gather 128 = .ok (.iinc 2 1, 3) := by decide +kernel
theorem dX9_gather_131 : decode cX9_gather 131 = .ok (.goto (-30), 3) := by decide +kernel
theorem dX9_gather_134 : decode cX9_gather 134 = .ok (.iinc 1 1, 3) := by decide +kernel
theorem dX9_gather_137 : decode cX9_gather 137 = .ok (.goto (-73), 3) := by decide +kernel
theorem dX9_gather_140 : decode cX9_gather 140 = .ok (.return_, 1) := by decide +kernel
theorem dX9_makeWalk_0 : decode cX9_makeWalk 0 = .ok (.aload_n 0, 1) := by decide +kernel
theorem dX9_makeWalk_1 : decode cX9_makeWalk 1 = .ok (.getfield 52, 3) := by decide +kernel
theorem dX9_makeWalk_4 : decode cX9_makeWalk 4 = .ok (.iload_n 1, 1) := by decide +kernel
theorem dX9_makeWalk_5 : decode cX9_makeWalk 5 = .ok (.invokevirtual 74, 3) := by decide +kernel
theorem dX9_makeWalk_8 : decode cX9_makeWalk 8 = .ok (.istore_n 2, 1) := by decide +kernel
theorem dX9_makeWalk_9 : decode cX9_makeWalk 9 = .ok (.aload_n 0, 1) := by decide +kernel
theorem dX9_makeWalk_10 : decode cX9_makeWalk 10 = .ok (.iconst 0, 1) := by decide +kernel
theorem dX9_makeWalk_11 : decode cX9_makeWalk 11 = .ok (.putfield 24, 3) := by decide +kernel
theorem dX9_makeWalk_14 : decode cX9_makeWalk 14 = .ok (.aload_n 0, 1) := by decide +kernel
theorem dX9_makeWalk_15 : decode cX9_makeWalk 15 = .ok (.getfield 21, 3) := by decide +kernel
theorem dX9_makeWalk_18 : decode cX9_makeWalk 18 = .ok (.iconst 0, 1) := by decide +kernel
theorem dX9_makeWalk_19 : decode cX9_makeWalk 19 = .ok (.iload_n 2, 1) := by decide +kernel
theorem dX9_makeWalk_20 : decode cX9_makeWalk 20 = .ok (.iconst (-1), 1) := by decide +kernel
theorem dX9_makeWalk_21 : decode cX9_makeWalk 21 = .ok (.if_icmp .ne 14, 3) := by decide +kernel
theorem dX9_makeWalk_24 : decode cX9_makeWalk 24 = .ok (.aload_n 0, 1) := by decide +kernel
theorem dX9_makeWalk_25 : decode cX9_makeWalk 25 = .ok (.getfield 48, 3) := by decide +kernel
theorem dX9_makeWalk_28 : decode cX9_makeWalk 28 = .ok (.iload_n 1, 1) := by decide +kernel
theorem dX9_makeWalk_29 : decode cX9_makeWalk 29 = .ok (.invokevirtual 78, 3) := by decide +kernel
theorem dX9_makeWalk_32 : decode cX9_makeWalk 32 = .ok (.goto 12, 3) := by decide +kernel
theorem dX9_makeWalk_35 : decode cX9_makeWalk 35 = .ok (.aload_n 0, 1) := by decide +kernel
theorem dX9_makeWalk_36 : decode cX9_makeWalk 36 = .ok (.getfield 52, 3) := by decide +kernel
theorem dX9_makeWalk_39 : decode cX9_makeWalk 39 = .ok (.getfield 81, 3) := by decide +kernel
theorem dX9_makeWalk_42 : decode cX9_makeWalk 42 = .ok (.iload_n 2, 1) := by decide +kernel
theorem dX9_makeWalk_43 : decode cX9_makeWalk 43 = .ok (.iaload, 1) := by decide +kernel
theorem dX9_makeWalk_44 : decode cX9_makeWalk 44 = .ok (.iastore, 1) := by decide +kernel
theorem dX9_makeWalk_45 : decode cX9_makeWalk 45 = .ok (.iconst 0, 1) := by decide +kernel
theorem dX9_makeWalk_46 : decode cX9_makeWalk 46 = .ok (.istore_n 3, 1) := by decide +kernel
theorem dX9_makeWalk_47 : decode cX9_makeWalk 47 = .ok (.iconst 0, 1) := by decide +kernel
theorem dX9_makeWalk_48 : decode cX9_makeWalk 48 = .ok (.istore 4, 2) := by decide +kernel
theorem dX9_makeWalk_50 : decode cX9_makeWalk 50 = .ok (.iload 4, 2) := by decide +kernel
theorem dX9_makeWalk_52 : decode cX9_makeWalk 52 = .ok (.bipush 48, 2) := by decide +kernel
theorem dX9_makeWalk_54 : decode cX9_makeWalk 54 = .ok (.if_icmp .gt 36, 3) := by decide +kernel
theorem dX9_makeWalk_57 : decode cX9_makeWalk 57 = .ok (.iload_n 3, 1) := by decide +kernel
theorem dX9_makeWalk_58 : decode cX9_makeWalk 58 = .ok (.iconst (-1), 1) := by decide +kernel
theorem dX9_makeWalk_59 : decode cX9_makeWalk 59 = .ok (.if_icmp .eq 31, 3) := by decide +kernel
theorem dX9_makeWalk_62 : decode cX9_makeWalk 62 = .ok (.aload_n 0, 1) := by decide +kernel
theorem dX9_makeWalk_63 : decode cX9_makeWalk 63 = .ok (.iload_n 1, 1) := by decide +kernel
theorem dX9_makeWalk_64 : decode cX9_makeWalk 64 = .ok (.aload_n 0, 1) := by decide +kernel
theorem dX9_makeWalk_65 : decode cX9_makeWalk 65 = .ok (.getfield 21, 3) := by decide +kernel
theorem dX9_makeWalk_68 : decode cX9_makeWalk 68 = .ok (.iload_n 3, 1) := by decide +kernel
theorem dX9_makeWalk_69 : decode cX9_makeWalk 69 = .ok (.iaload, 1) := by decide +kernel
theorem dX9_makeWalk_70 : decode cX9_makeWalk 70 = .ok (.invokevirtual 84, 3) := by decide +kernel
theorem dX9_makeWalk_73 : decode cX9_makeWalk 73 = .ok (.aload_n 0, 1) := by decide +kernel
theorem dX9_makeWalk_74 : decode cX9_makeWalk 74 = .ok (.iload_n 3, 1) := by decide +kernel
theorem dX9_makeWalk_75 : decode cX9_makeWalk 75 = .ok (.invokevirtual 88, 3) := by decide +kernel
theorem dX9_makeWalk_78 : decode cX9_makeWalk 78 = .ok (.aload_n 0, 1) := by decide +kernel
theorem dX9_makeWalk_79 : decode cX9_makeWalk 79 = .ok (.iload_n 1, 1) := by decide +kernel
theorem dX9_makeWalk_80 : decode cX9_makeWalk 80 = .ok (.invokevirtual 91, 3) := by decide +kernel
theorem dX9_makeWalk_83 : decode cX9_makeWalk 83 = .ok (.istore_n 3, 1) := by decide +kernel
theorem dX9_makeWalk_84 : decode cX9_makeWalk 84 = .ok (.iinc 4 1, 3) := by decide +kernel
theorem dX9_makeWalk_87 : decode cX9_makeWalk 87 = .ok (.goto (-37), 3) := by decide +kernel
theorem dX9_makeWalk_90 : decode cX9_makeWalk 90 = .ok (.return_, 1) := by decide +kernel
theorem dX9_firstOpenPlace_0 : decode cX9_firstOpenPlace 0 = .ok (.iconst 0, 1) := by decide +kernel
theorem dX9_firstOpenPlace_1 : decode cX9_firstOpenPlace 1 = .ok (.istore_n 2, 1) := by decide +kernel
theorem dX9_firstOpenPlace_2 : decode cX9_firstOpenPlace 2 = .ok (.iload_n 2, 1) := by decide +kernel
theorem dX9_firstOpenPlace_3 : decode cX9_firstOpenPlace 3 = .ok (.aload_n 0, 1) := by decide +kernel
theorem dX9_firstOpenPlace_4 : decode cX9_firstOpenPlace 4 = .ok (.getfield 24, 3) := by decide +kernel
theorem dX9_firstOpenPlace_7 : decode cX9_firstOpenPlace 7 = .ok (.if_icmp .gt 26, 3) := by decide +kernel
theorem dX9_firstOpenPlace_10 : decode cX9_firstOpenPlace 10 = .ok (.aload_n 0, 1) := by decide +kernel
theorem dX9_firstOpenPlace_11 : decode cX9_firstOpenPlace 11 = .ok (.iload_n 1, 1) := by decide +kernel
theorem dX9_firstOpenPlace_12 : decode cX9_firstOpenPlace 12 = .ok (.aload_n 0, 1) := by decide +kernel
theorem dX9_firstOpenPlace_13 : decode cX9_firstOpenPlace 13 = .ok (.getfield 21, 3) := by decide +kernel
theorem dX9_firstOpenPlace_16 : decode cX9_firstOpenPlace 16 = .ok (.iload_n 2, 1) := by decide +kernel
theorem dX9_firstOpenPlace_17 : decode cX9_firstOpenPlace 17 = .ok (.iaload, 1) := by decide +kernel
theorem dX9_firstOpenPlace_18 : decode cX9_firstOpenPlace 18 = .ok (.invokevirtual 94, 3) := by decide +kernel
theorem dX9_firstOpenPlace_21 : decode cX9_firstOpenPlace 21 = .ok (.iconst (-1), 1) := by decide +kernel
theorem dX9_firstOpenPlace_22 : decode cX9_firstOpenPlace 22 = .ok (.if_icmp .eq 5, 3) := by decide +kernel
theorem dX9_firstOpenPlace_25 : decode cX9_firstOpenPlace 25 = .ok (.iload_n 2, 1) := by decide +kernel
theorem dX9_firstOpenPlace_26 : decode cX9_firstOpenPlace 26 = .ok (.ireturn, 1) := by decide +kernel
theorem dX9_firstOpenPlace_27 : decode cX9_firstOpenPlace 27 = .ok (.iinc 2 1, 3) := by decide +kernel
theorem dX9_firstOpenPlace_30 : decode cX9_firstOpenPlace 30 = .ok (.goto (-28), 3) := by decide +kernel
theorem dX9_firstOpenPlace_33 : decode cX9_firstOpenPlace 33 = .ok (.iconst (-1), 1) := by decide +kernel
theorem dX9_firstOpenPlace_34 : decode cX9_firstOpenPlace 34 = .ok (.ireturn, 1) := by decide +kernel
theorem dX9_makeRing_0 : decode cX9_makeRing 0 = .ok (.aload_n 0, 1) := by decide +kernel
theorem dX9_makeRing_1 : decode cX9_makeRing 1 = .ok (.iconst 0, 1) := by decide +kernel
theorem dX9_makeRing_2 : decode cX9_makeRing 2 = .ok (.putfield 34, 3) := by decide +kernel
theorem dX9_makeRing_5 : decode cX9_makeRing 5 = .ok (.aload_n 0, 1) := by decide +kernel
theorem dX9_makeRing_6 : decode cX9_makeRing 6 = .ok (.getfield 31, 3) := by decide +kernel
theorem dX9_makeRing_9 : decode cX9_makeRing 9 = .ok (.iconst 0, 1) := by decide +kernel
theorem dX9_makeRing_10 : decode cX9_makeRing 10 = .ok (.iload_n 2, 1) := by decide +kernel
theorem dX9_makeRing_11 : decode cX9_makeRing 11 = .ok (.iastore, 1) := by decide +kernel
theorem dX9_makeRing_12 : decode cX9_makeRing 12 = .ok (.iconst 0, 1) := by decide +kernel
theorem dX9_makeRing_13 : decode cX9_makeRing 13 = .ok (.istore_n 3, 1) := by decide +kernel
theorem dX9_makeRing_14 : decode cX9_makeRing 14 = .ok (.iload_n 3, 1) := by decide +kernel
theorem dX9_makeRing_15 : decode cX9_makeRing 15 = .ok (.aload_n 0, 1) := by decide +kernel
theorem dX9_makeRing_16 : decode cX9_makeRing 16 = .ok (.getfield 24, 3) := by decide +kernel
theorem dX9_makeRing_19 : decode cX9_makeRing 19 = .ok (.iadd, 1) := by decide +kernel
theorem dX9_makeRing_20 : decode cX9_makeRing 20 = .ok (.bipush 48, 2) := by decide +kernel
theorem dX9_makeRing_22 : decode cX9_makeRing 22 = .ok (.if_icmp .ge 64, 3) := by decide +kernel
theorem dX9_makeRing_25 : decode cX9_makeRing 25 = .ok (.aload_n 0, 1) := by decide +kernel
theorem dX9_makeRing_26 : decode cX9_makeRing 26 = .ok (.iload_n 1, 1) := by decide +kernel
theorem dX9_makeRing_27 : decode cX9_makeRing 27 = .ok (.aload_n 0, 1) := by decide +kernel
theorem dX9_makeRing_28 : decode cX9_makeRing 28 = .ok (.getfield 31, 3) := by decide +kernel
theorem dX9_makeRing_31 : decode cX9_makeRing 31 = .ok (.iload_n 3, 1) := by decide +kernel
theorem dX9_makeRing_32 : decode cX9_makeRing 32 = .ok (.iaload, 1) := by decide +kernel
theorem dX9_makeRing_33 : decode cX9_makeRing 33 = .ok (.invokevirtual 94, 3) := by decide +kernel
theorem dX9_makeRing_36 : decode cX9_makeRing 36 = .ok (.istore 4, 2) := by decide +kernel
theorem dX9_makeRing_38 : decode cX9_makeRing 38 = .ok (.iload 4, 2) := by decide +kernel
theorem dX9_makeRing_40 : decode cX9_makeRing 40 = .ok (.iconst (-1), 1) := by decide +kernel
theorem dX9_makeRing_41 : decode cX9_makeRing 41 = .ok (.if_icmp .ne 4, 3) := by decide +kernel
theorem dX9_makeRing_44 : decode cX9_makeRing 44 = .ok (.return_, 1) := by decide +kernel
theorem dX9_makeRing_45 : decode cX9_makeRing 45 = .ok (.aload_n 0, 1) := by decide +kernel
theorem dX9_makeRing_46 : decode cX9_makeRing 46 = .ok (.getfield 28, 3) := by decide +kernel
theorem dX9_makeRing_49 : decode cX9_makeRing 49 = .ok (.iload_n 3, 1) := by decide +kernel
theorem dX9_makeRing_50 : decode cX9_makeRing 50 = .ok (.iload 4, 2) := by decide +kernel
theorem dX9_makeRing_52 : decode cX9_makeRing 52 = .ok (.iastore, 1) := by decide +kernel
theorem dX9_makeRing_53 : decode cX9_makeRing 53 = .ok (.aload_n 0, 1) := by decide +kernel
theorem dX9_makeRing_54 : decode cX9_makeRing 54 = .ok (.getfield 31, 3) := by decide +kernel
theorem dX9_makeRing_57 : decode cX9_makeRing 57 = .ok (.iload_n 3, 1) := by decide +kernel
theorem dX9_makeRing_58 : decode cX9_makeRing 58 = .ok (.iconst 1, 1) := by decide +kernel
theorem dX9_makeRing_59 : decode cX9_makeRing 59 = .ok (.iadd, 1) := by decide +kernel
theorem dX9_makeRing_60 : decode cX9_makeRing 60 = .ok (.aload_n 0, 1) := by decide +kernel
theorem dX9_makeRing_61 : decode cX9_makeRing 61 = .ok (.iload 4, 2) := by decide +kernel
theorem dX9_makeRing_63 : decode cX9_makeRing 63 = .ok (.aload_n 0, 1) := by decide +kernel
theorem dX9_makeRing_64 : decode cX9_makeRing 64 = .ok (.getfield 31, 3) := by decide +kernel
theorem dX9_makeRing_67 : decode cX9_makeRing 67 = .ok (.iload_n 3, 1) := by decide +kernel
theorem dX9_makeRing_68 : decode cX9_makeRing 68 = .ok (.iaload, 1) := by decide +kernel
theorem dX9_makeRing_69 : decode cX9_makeRing 69 = .ok (.invokevirtual 98, 3) := by decide +kernel
theorem dX9_makeRing_72 : decode cX9_makeRing 72 = .ok (.iastore, 1) := by decide +kernel
theorem dX9_makeRing_73 : decode cX9_makeRing 73 = .ok (.aload_n 0, 1) := by decide +kernel
theorem dX9_makeRing_74 : decode cX9_makeRing 74 = .ok (.iload_n 3, 1) := by decide +kernel
theorem dX9_makeRing_75 : decode cX9_makeRing 75 = .ok (.iconst 1, 1) := by decide +kernel
theorem dX9_makeRing_76 : decode cX9_makeRing 76 = .ok (.iadd, 1) := by decide +kernel
theorem dX9_makeRing_77 : decode cX9_makeRing 77 = .ok (.putfield 34, 3) := by decide +kernel
theorem dX9_makeRing_80 : decode cX9_makeRing 80 = .ok (.iinc 3 1, 3) := by decide +kernel
theorem dX9_makeRing_83 : decode cX9_makeRing 83 = .ok (.goto (-69), 3) := by decide +kernel
theorem dX9_makeRing_86 : decode cX9_makeRing 86 = .ok (.return_, 1) := by decide +kernel
theorem dX9_firstWayFrom_0 : decode cX9_firstWayFrom 0 = .ok (.iconst 0, 1) := by decide +kernel
theorem dX9_firstWayFrom_1 : decode cX9_firstWayFrom 1 = .ok (.istore_n 3, 1) := by decide +kernel
theorem dX9_firstWayFrom_2 : decode cX9_firstWayFrom 2 = .ok (.iload_n 3, 1) := by decide +kernel
theorem dX9_firstWayFrom_3 : decode cX9_firstWayFrom 3 = .ok (.aload_n 0, 1) := by decide +kernel
theorem dX9_firstWayFrom_4 : decode cX9_firstWayFrom 4 = .ok (.getfield 44, 3) := by decide +kernel
theorem dX9_firstWayFrom_7 : decode cX9_firstWayFrom 7 = .ok (.getfield 101, 3) := by decide +kernel
theorem dX9_firstWayFrom_10 : decode cX9_firstWayFrom 10 = .ok (.if_icmp .ge 67, 3) := by decide +kernel
theorem dX9_firstWayFrom_13 : decode cX9_firstWayFrom 13 = .ok (.aload_n 0, 1) := by decide +kernel
theorem dX9_firstWayFrom_14 : decode cX9_firstWayFrom 14 = .ok (.getfield 37, 3) := by decide +kernel
theorem dX9_firstWayFrom_17 : decode cX9_firstWayFrom 17 = .ok (.iload_n 3, 1) := by decide +kernel
theorem dX9_firstWayFrom_18 : decode cX9_firstWayFrom 18 = .ok (.baload, 1) := by decide +kernel
theorem dX9_firstWayFrom_19 : decode cX9_firstWayFrom 19 = .ok (.ifCond .ne 21, 3) := by decide +kernel
theorem dX9_firstWayFrom_22 : decode cX9_firstWayFrom 22 = .ok (.aload_n 0, 1) := by decide +kernel
theorem dX9_firstWayFrom_23 : decode cX9_firstWayFrom 23 = .ok (.getfield 48, 3) := by decide +kernel
theorem dX9_firstWayFrom_26 : decode cX9_firstWayFrom 26 = .ok (.iconst 2, 1) := by decide +kernel
theorem dX9_firstWayFrom_27 : decode cX9_firstWayFrom 27 = .ok (.iload_n 3, 1) := by decide +kernel
theorem dX9_firstWayFrom_28 : decode cX9_firstWayFrom 28 = .ok (.imul, 1) := by decide +kernel
theorem dX9_firstWayFrom_29 : decode cX9_firstWayFrom 29 = .ok (.invokevirtual 106, 3) := by decide +kernel
theorem dX9_firstWayFrom_32 : decode cX9_firstWayFrom 32 = .ok (.iload_n 2, 1) := by decide +kernel
theorem dX9_firstWayFrom_33 : decode cX9_firstWayFrom 33 = .ok (.if_icmp .ne 7, 3) := by decide +kernel
theorem dX9_firstWayFrom_36 : decode cX9_firstWayFrom 36 = .ok (.iconst 2, 1) := by decide +kernel
theorem dX9_firstWayFrom_37 : decode cX9_firstWayFrom 37 = .ok (.iload_n 3, 1) := by decide +kernel
theorem dX9_firstWayFrom_38 : decode cX9_firstWayFrom 38 = .ok (.imul, 1) := by decide +kernel
theorem dX9_firstWayFrom_39 : decode cX9_firstWayFrom 39 = .ok (.ireturn, 1) := by decide +kernel
theorem dX9_firstWayFrom_40 : decode cX9_firstWayFrom 40 = .ok (.aload_n 0, 1) := by decide +kernel
theorem dX9_firstWayFrom_41 : decode cX9_firstWayFrom 41 = .ok (.getfield 37, 3) := by decide +kernel
theorem dX9_firstWayFrom_44 : decode cX9_firstWayFrom 44 = .ok (.iload_n 3, 1) := by decide +kernel
theorem dX9_firstWayFrom_45 : decode cX9_firstWayFrom 45 = .ok (.baload, 1) := by decide +kernel
theorem dX9_firstWayFrom_46 : decode cX9_firstWayFrom 46 = .ok (.ifCond .ne 25, 3) := by decide +kernel
theorem dX9_firstWayFrom_49 : decode cX9_firstWayFrom 49 = .ok (.aload_n 0, 1) := by decide +kernel
theorem dX9_firstWayFrom_50 : decode cX9_firstWayFrom 50 = .ok (.getfield 48, 3) := by decide +kernel
theorem dX9_firstWayFrom_53 : decode cX9_firstWayFrom 53 = .ok (.iconst 2, 1) := by decide +kernel
theorem dX9_firstWayFrom_54 : decode cX9_firstWayFrom 54 = .ok (.iload_n 3, 1) := by decide +kernel
theorem dX9_firstWayFrom_55 : decode cX9_firstWayFrom 55 = .ok (.imul, 1) := by decide +kernel
theorem dX9_firstWayFrom_56 : decode cX9_firstWayFrom 56 = .ok (.iconst 1, 1) := by decide +kernel
theorem dX9_firstWayFrom_57 : decode cX9_firstWayFrom 57 = .ok (.iadd, 1) := by decide +kernel
theorem dX9_firstWayFrom_58 : decode cX9_firstWayFrom 58 = .ok (.invokevirtual 106, 3) := by decide +kernel
theorem dX9_firstWayFrom_61 : decode cX9_firstWayFrom 61 = .ok (.iload_n 2, 1) := by decide +kernel
theorem dX9_firstWayFrom_62 : decode cX9_firstWayFrom 62 = .ok (.if_icmp .ne 9, 3) := by decide +kernel
theorem dX9_firstWayFrom_65 : decode cX9_firstWayFrom 65 = .ok (.iconst 2, 1) := by decide +kernel
theorem dX9_firstWayFrom_66 : decode cX9_firstWayFrom 66 = .ok (.iload_n 3, 1) := by decide +kernel
theorem dX9_firstWayFrom_67 : decode cX9_firstWayFrom 67 = .ok (.imul, 1) := by decide +kernel
theorem dX9_firstWayFrom_68 : decode cX9_firstWayFrom 68 = .ok (.iconst 1, 1) := by decide +kernel
theorem dX9_firstWayFrom_69 : decode cX9_firstWayFrom 69 = .ok (.iadd, 1) := by decide +kernel
theorem dX9_firstWayFrom_70 : decode cX9_firstWayFrom 70 = .ok (.ireturn, 1) := by decide +kernel
theorem dX9_firstWayFrom_71 : decode cX9_firstWayFrom 71 = .ok (.iinc 3 1, 3) := by decide +kernel
theorem dX9_firstWayFrom_74 : decode cX9_firstWayFrom 74 = .ok (.goto (-72), 3) := by decide +kernel
theorem dX9_firstWayFrom_77 : decode cX9_firstWayFrom 77 = .ok (.aload_n 0, 1) := by decide +kernel
theorem dX9_firstWayFrom_78 : decode cX9_firstWayFrom 78 = .ok (.getfield 52, 3) := by decide +kernel
theorem dX9_firstWayFrom_81 : decode cX9_firstWayFrom 81 = .ok (.iload_n 1, 1) := by decide +kernel
theorem dX9_firstWayFrom_82 : decode cX9_firstWayFrom 82 = .ok (.invokevirtual 109, 3) := by decide +kernel
theorem dX9_firstWayFrom_85 : decode cX9_firstWayFrom 85 = .ok (.istore_n 3, 1) := by decide +kernel
theorem dX9_firstWayFrom_86 : decode cX9_firstWayFrom 86 = .ok (.iload_n 3, 1) := by decide +kernel
theorem dX9_firstWayFrom_87 : decode cX9_firstWayFrom 87 = .ok (.aload_n 0, 1) := by decide +kernel
theorem dX9_firstWayFrom_88 : decode cX9_firstWayFrom 88 = .ok (.getfield 52, 3) := by decide +kernel
theorem dX9_firstWayFrom_91 : decode cX9_firstWayFrom 91 = .ok (.iload_n 1, 1) := by decide +kernel
theorem dX9_firstWayFrom_92 : decode cX9_firstWayFrom 92 = .ok (.invokevirtual 112, 3) := by decide +kernel
theorem dX9_firstWayFrom_95 : decode cX9_firstWayFrom 95 = .ok (.if_icmp .ge 49, 3) := by decide +kernel
theorem dX9_firstWayFrom_98 : decode cX9_firstWayFrom 98 = .ok (.aload_n 0, 1) := by decide +kernel
theorem dX9_firstWayFrom_99 : decode cX9_firstWayFrom 99 = .ok (.getfield 41, 3) := by decide +kernel
theorem dX9_firstWayFrom_102 : decode cX9_firstWayFrom 102 = .ok (.iload_n 3, 1) := by decide +kernel
theorem dX9_firstWayFrom_103 : decode cX9_firstWayFrom 103 = .ok (.baload, 1) := by decide +kernel
theorem dX9_firstWayFrom_104 : decode cX9_firstWayFrom 104 = .ok (.ifCond .ne 34, 3) := by decide +kernel
theorem dX9_firstWayFrom_107 : decode cX9_firstWayFrom 107 = .ok (.aload_n 0, 1) := by decide +kernel
theorem dX9_firstWayFrom_108 : decode cX9_firstWayFrom 108 = .ok (.getfield 52, 3) := by decide +kernel
theorem dX9_firstWayFrom_111 : decode cX9_firstWayFrom 111 = .ok (.getfield 81, 3) := by decide +kernel
theorem dX9_firstWayFrom_114 : decode cX9_firstWayFrom 114 = .ok (.iload_n 3, 1) := by decide +kernel
theorem dX9_firstWayFrom_115 : decode cX9_firstWayFrom 115 = .ok (.iaload, 1) := by decide +kernel
theorem dX9_firstWayFrom_116 : decode cX9_firstWayFrom 116 = .ok (.iload_n 2, 1) := by decide +kernel
theorem dX9_firstWayFrom_117 : decode cX9_firstWayFrom 117 = .ok (.if_icmp .eq 16, 3) := by decide +kernel
theorem dX9_firstWayFrom_120 : decode cX9_firstWayFrom 120 = .ok (.aload_n 0, 1) := by decide +kernel
theorem dX9_firstWayFrom_121 : decode cX9_firstWayFrom 121 = .ok (.getfield 52, 3) := by decide +kernel
theorem dX9_firstWayFrom_124 : decode cX9_firstWayFrom 124 = .ok (.getfield 115, 3) := by decide +kernel
theorem dX9_firstWayFrom_127 : decode cX9_firstWayFrom 127 = .ok (.iload_n 3, 1) := by decide +kernel
theorem dX9_firstWayFrom_128 : decode cX9_firstWayFrom 128 = .ok (.iaload, 1) := by decide +kernel
theorem dX9_firstWayFrom_129 : decode cX9_firstWayFrom 129 = .ok (.iload_n 2, 1) := by decide +kernel
theorem dX9_firstWayFrom_130 : decode cX9_firstWayFrom 130 = .ok (.if_icmp .ne 8, 3) := by decide +kernel
theorem dX9_firstWayFrom_133 : decode cX9_firstWayFrom 133 = .ok (.bipush (-3), 2) := by decide +kernel
theorem dX9_firstWayFrom_135 : decode cX9_firstWayFrom 135 = .ok (.iload_n 3, 1) := by decide +kernel
theorem dX9_firstWayFrom_136 : decode cX9_firstWayFrom 136 = .ok (.isub, 1) := by decide +kernel
theorem dX9_firstWayFrom_137 : decode cX9_firstWayFrom 137 = .ok (.ireturn, 1) := by decide +kernel
theorem dX9_firstWayFrom_138 : decode cX9_firstWayFrom 138 = .ok (.iinc 3 1, 3) := by decide +kernel
theorem dX9_firstWayFrom_141 : decode cX9_firstWayFrom 141 = .ok (.goto (-55), 3) := by decide +kernel
theorem dX9_firstWayFrom_144 : decode cX9_firstWayFrom 144 = .ok (.iconst (-1), 1) := by decide +kernel
theorem dX9_firstWayFrom_145 : decode cX9_firstWayFrom 145 = .ok (.ireturn, 1) := by decide +kernel
theorem dX9_goneBy_0 : decode cX9_goneBy 0 = .ok (.iload_n 1, 1) := by decide +kernel
theorem dX9_goneBy_1 : decode cX9_goneBy 1 = .ok (.invokestatic 118, 3) := by decide +kernel
theorem dX9_goneBy_4 : decode cX9_goneBy 4 = .ok (.ifCond .eq 50, 3) := by decide +kernel
theorem dX9_goneBy_7 : decode cX9_goneBy 7 = .ok (.bipush (-3), 2) := by decide +kernel
theorem dX9_goneBy_9 : decode cX9_goneBy 9 = .ok (.iload_n 1, 1) := by decide +kernel
theorem dX9_goneBy_10 : decode cX9_goneBy 10 = .ok (.isub, 1) := by decide +kernel
theorem dX9_goneBy_11 : decode cX9_goneBy 11 = .ok (.istore_n 3, 1) := by decide +kernel
theorem dX9_goneBy_12 : decode cX9_goneBy 12 = .ok (.aload_n 0, 1) := by decide +kernel
theorem dX9_goneBy_13 : decode cX9_goneBy 13 = .ok (.getfield 41, 3) := by decide +kernel
theorem dX9_goneBy_16 : decode cX9_goneBy 16 = .ok (.iload_n 3, 1) := by decide +kernel
theorem dX9_goneBy_17 : decode cX9_goneBy 17 = .ok (.iconst 1, 1) := by decide +kernel
theorem dX9_goneBy_18 : decode cX9_goneBy 18 = .ok (.bastore, 1) := by decide +kernel
theorem dX9_goneBy_19 : decode cX9_goneBy 19 = .ok (.aload_n 0, 1) := by decide +kernel
theorem dX9_goneBy_20 : decode cX9_goneBy 20 = .ok (.getfield 52, 3) := by decide +kernel
theorem dX9_goneBy_23 : decode cX9_goneBy 23 = .ok (.getfield 81, 3) := by decide +kernel
theorem dX9_goneBy_26 : decode cX9_goneBy 26 = .ok (.iload_n 3, 1) := by decide +kernel
theorem dX9_goneBy_27 : decode cX9_goneBy 27 = .ok (.iaload, 1) := by decide +kernel
theorem dX9_goneBy_28 : decode cX9_goneBy 28 = .ok (.iload_n 2, 1) := by decide +kernel
theorem dX9_goneBy_29 : decode cX9_goneBy 29 = .ok (.if_icmp .ne 15, 3) := by decide +kernel
theorem dX9_goneBy_32 : decode cX9_goneBy 32 = .ok (.aload_n 0, 1) := by decide +kernel
theorem dX9_goneBy_33 : decode cX9_goneBy 33 = .ok (.getfield 52, 3) := by decide +kernel
theorem dX9_goneBy_36 : decode cX9_goneBy 36 = .ok (.getfield 115, 3) := by decide +kernel
theorem dX9_goneBy_39 : decode cX9_goneBy 39 = .ok (.iload_n 3, 1) := by decide +kernel
theorem dX9_goneBy_40 : decode cX9_goneBy 40 = .ok (.iaload, 1) := by decide +kernel
theorem dX9_goneBy_41 : decode cX9_goneBy 41 = .ok (.goto 12, 3) := by decide +kernel
theorem dX9_goneBy_44 : decode cX9_goneBy 44 = .ok (.aload_n 0, 1) := by decide +kernel
theorem dX9_goneBy_45 : decode cX9_goneBy 45 = .ok (.getfield 52, 3) := by decide +kernel
theorem dX9_goneBy_48 : decode cX9_goneBy 48 = .ok (.getfield 81, 3) := by decide +kernel
theorem dX9_goneBy_51 : decode cX9_goneBy 51 = .ok (.iload_n 3, 1) := by decide +kernel
theorem dX9_goneBy_52 : decode cX9_goneBy 52 = .ok (.iaload, 1) := by decide +kernel
theorem dX9_goneBy_53 : decode cX9_goneBy 53 = .ok (.ireturn, 1) := by decide +kernel
theorem dX9_goneBy_54 : decode cX9_goneBy 54 = .ok (.aload_n 0, 1) := by decide +kernel
theorem dX9_goneBy_55 : decode cX9_goneBy 55 = .ok (.getfield 37, 3) := by decide +kernel
theorem dX9_goneBy_58 : decode cX9_goneBy 58 = .ok (.iload_n 1, 1) := by decide +kernel
theorem dX9_goneBy_59 : decode cX9_goneBy 59 = .ok (.iconst 2, 1) := by decide +kernel
theorem dX9_goneBy_60 : decode cX9_goneBy 60 = .ok (.idiv, 1) := by decide +kernel
theorem dX9_goneBy_61 : decode cX9_goneBy 61 = .ok (.iconst 1, 1) := by decide +kernel
theorem dX9_goneBy_62 : decode cX9_goneBy 62 = .ok (.bastore, 1) := by decide +kernel
theorem dX9_goneBy_63 : decode cX9_goneBy 63 = .ok (.aload_n 0, 1) := by decide +kernel
theorem dX9_goneBy_64 : decode cX9_goneBy 64 = .ok (.getfield 48, 3) := by decide +kernel
theorem dX9_goneBy_67 : decode cX9_goneBy 67 = .ok (.iload_n 1, 1) := by decide +kernel
theorem dX9_goneBy_68 : decode cX9_goneBy 68 = .ok (.iconst 1, 1) := by decide +kernel
theorem dX9_goneBy_69 : decode cX9_goneBy 69 = .ok (.ixor, 1) := by decide +kernel
theorem dX9_goneBy_70 : decode cX9_goneBy 70 = .ok (.invokevirtual 106, 3) := by decide +kernel
theorem dX9_goneBy_73 : decode cX9_goneBy 73 = .ok (.ireturn, 1) := by decide +kernel
theorem dX9_putRing_0 : decode cX9_putRing 0 = .ok (.aload_n 0, 1) := by decide +kernel
theorem dX9_putRing_1 : decode cX9_putRing 1 = .ok (.getfield 24, 3) := by decide +kernel
theorem dX9_putRing_4 : decode cX9_putRing 4 = .ok (.iconst 1, 1) := by decide +kernel
theorem dX9_putRing_5 : decode cX9_putRing 5 = .ok (.isub, 1) := by decide +kernel
theorem dX9_putRing_6 : decode cX9_putRing 6 = .ok (.istore_n 2, 1) := by decide +kernel
theorem dX9_putRing_7 : decode cX9_putRing 7 = .ok (.iload_n 2, 1) := by decide +kernel
theorem dX9_putRing_8 : decode cX9_putRing 8 = .ok (.iload_n 1, 1) := by decide +kernel
theorem dX9_putRing_9 : decode cX9_putRing 9 = .ok (.if_icmp .lt 47, 3) := by decide +kernel
theorem dX9_putRing_12 : decode cX9_putRing 12 = .ok (.aload_n 0, 1) := by decide +kernel
theorem dX9_putRing_13 : decode cX9_putRing 13 = .ok (.getfield 18, 3) := by decide +kernel
theorem dX9_putRing_16 : decode cX9_putRing 16 = .ok (.iload_n 2, 1) := by decide +kernel
theorem dX9_putRing_17 : decode cX9_putRing 17 = .ok (.aload_n 0, 1) := by decide +kernel
theorem dX9_putRing_18 : decode cX9_putRing 18 = .ok (.getfield 34, 3) := by decide +kernel
theorem dX9_putRing_21 : decode cX9_putRing 21 = .ok (.iadd, 1) := by decide +kernel
theorem dX9_putRing_22 : decode cX9_putRing 22 = .ok (.aload_n 0, 1) := by decide +kernel
theorem dX9_putRing_23 : decode cX9_putRing 23 = .ok (.getfield 18, 3) := by decide +kernel
theorem dX9_putRing_26 : decode cX9_putRing 26 = .ok (.iload_n 2, 1) := by decide +kernel
theorem dX9_putRing_27 : decode cX9_putRing 27 = .ok (.iaload, 1) := by decide +kernel
theorem dX9_putRing_28 : decode cX9_putRing 28 = .ok (.iastore, 1) := by decide +kernel
theorem dX9_putRing_29 : decode cX9_putRing 29 = .ok (.aload_n 0, 1) := by decide +kernel
theorem dX9_putRing_30 : decode cX9_putRing 30 = .ok (.getfield 21, 3) := by decide +kernel
theorem dX9_putRing_33 : decode cX9_putRing 33 = .ok (.iload_n 2, 1) := by decide +kernel
theorem dX9_putRing_34 : decode cX9_putRing 34 = .ok (.iconst 1, 1) := by decide +kernel
theorem dX9_putRing_35 : decode cX9_putRing 35 = .ok (.iadd, 1) := by decide +kernel
theorem dX9_putRing_36 : decode cX9_putRing 36 = .ok (.aload_n 0, 1) := by decide +kernel
theorem dX9_putRing_37 : decode cX9_putRing 37 = .ok (.getfield 34, 3) := by decide +kernel
theorem dX9_putRing_40 : decode cX9_putRing 40 = .ok (.iadd, 1) := by decide +kernel
theorem dX9_putRing_41 : decode cX9_putRing 41 = .ok (.aload_n 0, 1) := by decide +kernel
theorem dX9_putRing_42 : decode cX9_putRing 42 = .ok (.getfield 21, 3) := by decide +kernel
theorem dX9_putRing_45 : decode cX9_putRing 45 = .ok (.iload_n 2, 1) := by decide +kernel
theorem dX9_putRing_46 : decode cX9_putRing 46 = .ok (.iconst 1, 1) := by decide +kernel
theorem dX9_putRing_47 : decode cX9_putRing 47 = .ok (.iadd, 1) := by decide +kernel
theorem dX9_putRing_48 : decode cX9_putRing 48 = .ok (.iaload, 1) := by decide +kernel
theorem dX9_putRing_49 : decode cX9_putRing 49 = .ok (.iastore, 1) := by decide +kernel
theorem dX9_putRing_50 : decode cX9_putRing 50 = .ok (.iinc 2 (-1), 3) := by decide +kernel
theorem dX9_putRing_53 : decode cX9_putRing 53 = .ok (.goto (-46), 3) := by decide +kernel
theorem dX9_putRing_56 : decode cX9_putRing 56 = .ok (.iconst 0, 1) := by decide +kernel
theorem dX9_putRing_57 : decode cX9_putRing 57 = .ok (.istore_n 2, 1) := by decide +kernel
theorem dX9_putRing_58 : decode cX9_putRing 58 = .ok (.iload_n 2, 1) := by decide +kernel
theorem dX9_putRing_59 : decode cX9_putRing 59 = .ok (.aload_n 0, 1) := by decide +kernel
theorem dX9_putRing_60 : decode cX9_putRing 60 = .ok (.getfield 34, 3) := by decide +kernel
theorem dX9_putRing_63 : decode cX9_putRing 63 = .ok (.if_icmp .ge 41, 3) := by decide +kernel
theorem dX9_putRing_66 : decode cX9_putRing 66 = .ok (.aload_n 0, 1) := by decide +kernel
theorem dX9_putRing_67 : decode cX9_putRing 67 = .ok (.getfield 18, 3) := by decide +kernel
theorem dX9_putRing_70 : decode cX9_putRing 70 = .ok (.iload_n 1, 1) := by decide +kernel
theorem dX9_putRing_71 : decode cX9_putRing 71 = .ok (.iload_n 2, 1) := by decide +kernel
theorem dX9_putRing_72 : decode cX9_putRing 72 = .ok (.iadd, 1) := by decide +kernel
theorem dX9_putRing_73 : decode cX9_putRing 73 = .ok (.aload_n 0, 1) := by decide +kernel
theorem dX9_putRing_74 : decode cX9_putRing 74 = .ok (.getfield 28, 3) := by decide +kernel
theorem dX9_putRing_77 : decode cX9_putRing 77 = .ok (.iload_n 2, 1) := by decide +kernel
theorem dX9_putRing_78 : decode cX9_putRing 78 = .ok (.iaload, 1) := by decide +kernel
theorem dX9_putRing_79 : decode cX9_putRing 79 = .ok (.iastore, 1) := by decide +kernel
theorem dX9_putRing_80 : decode cX9_putRing 80 = .ok (.aload_n 0, 1) := by decide +kernel
theorem dX9_putRing_81 : decode cX9_putRing 81 = .ok (.getfield 21, 3) := by decide +kernel
theorem dX9_putRing_84 : decode cX9_putRing 84 = .ok (.iload_n 1, 1) := by decide +kernel
theorem dX9_putRing_85 : decode cX9_putRing 85 = .ok (.iload_n 2, 1) := by decide +kernel
theorem dX9_putRing_86 : decode cX9_putRing 86 = .ok (.iadd, 1) := by decide +kernel
theorem dX9_putRing_87 : decode cX9_putRing 87 = .ok (.iconst 1, 1) := by decide +kernel
theorem dX9_putRing_88 : decode cX9_putRing 88 = .ok (.iadd, 1) := by decide +kernel
theorem dX9_putRing_89 : decode cX9_putRing 89 = .ok (.aload_n 0, 1) := by decide +kernel
theorem dX9_putRing_90 : decode cX9_putRing 90 = .ok (.getfield 31, 3) := by decide +kernel
theorem dX9_putRing_93 : decode cX9_putRing 93 = .ok (.iload_n 2, 1) := by decide +kernel
theorem dX9_putRing_94 : decode cX9_putRing 94 = .ok (.iconst 1, 1) := by decide +kernel
theorem dX9_putRing_95 : decode cX9_putRing 95 = .ok (.iadd, 1) := by decide +kernel
theorem dX9_putRing_96 : decode cX9_putRing 96 = .ok (.iaload, 1) := by decide +kernel
theorem dX9_putRing_97 : decode cX9_putRing 97 = .ok (.iastore, 1) := by decide +kernel
theorem dX9_putRing_98 : decode cX9_putRing 98 = .ok (.iinc 2 1, 3) := by decide +kernel
theorem dX9_putRing_101 : decode cX9_putRing 101 = .ok (.goto (-43), 3) := by decide +kernel
theorem dX9_putRing_104 : decode cX9_putRing 104 = .ok (.aload_n 0, 1) := by decide +kernel
theorem dX9_putRing_105 : decode cX9_putRing 105 = .ok (.dup, 1) := by decide +kernel
theorem dX9_putRing_106 : decode cX9_putRing 106 = .ok (.getfield 24, 3) := by decide +kernel
theorem dX9_putRing_109 : decode cX9_putRing 109 = .ok (.aload_n 0, 1) := by decide +kernel
theorem dX9_putRing_110 : decode cX9_putRing 110 = .ok (.getfield 34, 3) := by decide +kernel
theorem dX9_putRing_113 : decode cX9_putRing 113 = .ok (.iadd, 1) := by decide +kernel
theorem dX9_putRing_114 : decode cX9_putRing 114 = .ok (.putfield 24, 3) := by decide +kernel
theorem dX9_putRing_117 : decode cX9_putRing 117 = .ok (.return_, 1) := by decide +kernel
