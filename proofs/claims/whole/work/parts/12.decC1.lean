theorem dX4_putPair_11 : decode cX4_putPair 11 = .ok (.getfield 11, 3) := by decide +kernel
theorem dX4_putPair_14 : decode cX4_putPair 14 = .ok (.aload_n 0, 1) := by decide +kernel
theorem dX4_putPair_15 : decode cX4_putPair 15 = .ok (.getfield 28, 3) := by decide +kernel
theorem dX4_putPair_18 : decode cX4_putPair 18 = .ok (.aload_n 0, 1) := by decide +kernel
theorem dX4_putPair_19 : decode cX4_putPair 19 = .ok (.getfield 32, 3) := by decide +kernel
theorem dX4_putPair_22 : decode cX4_putPair 22 = .ok (.iload_n 1, 1) := by decide +kernel
theorem dX4_putPair_23 : decode cX4_putPair 23 = .ok (.iaload, 1) := by decide +kernel
theorem dX4_putPair_24 : decode cX4_putPair 24 = .ok (.iastore, 1) := by decide +kernel
theorem dX4_putPair_25 : decode cX4_putPair 25 = .ok (.aload_n 0, 1) := by decide +kernel
theorem dX4_putPair_26 : decode cX4_putPair 26 = .ok (.getfield 15, 3) := by decide +kernel
theorem dX4_putPair_29 : decode cX4_putPair 29 = .ok (.aload_n 0, 1) := by decide +kernel
theorem dX4_putPair_30 : decode cX4_putPair 30 = .ok (.getfield 28, 3) := by decide +kernel
theorem dX4_putPair_33 : decode cX4_putPair 33 = .ok (.aload_n 0, 1) := by decide +kernel
theorem dX4_putPair_34 : decode cX4_putPair 34 = .ok (.getfield 32, 3) := by decide +kernel
theorem dX4_putPair_37 : decode cX4_putPair 37 = .ok (.iload_n 2, 1) := by decide +kernel
theorem dX4_putPair_38 : decode cX4_putPair 38 = .ok (.iaload, 1) := by decide +kernel
theorem dX4_putPair_39 : decode cX4_putPair 39 = .ok (.iastore, 1) := by decide +kernel
theorem dX4_putPair_40 : decode cX4_putPair 40 = .ok (.aload_n 0, 1) := by decide +kernel
theorem dX4_putPair_41 : decode cX4_putPair 41 = .ok (.getfield 18, 3) := by decide +kernel
theorem dX4_putPair_44 : decode cX4_putPair 44 = .ok (.aload_n 0, 1) := by decide +kernel
theorem dX4_putPair_45 : decode cX4_putPair 45 = .ok (.getfield 28, 3) := by decide +kernel
theorem dX4_putPair_48 : decode cX4_putPair 48 = .ok (.aload_n 0, 1) := by decide +kernel
theorem dX4_putPair_49 : decode cX4_putPair 49 = .ok (.getfield 56, 3) := by decide +kernel
theorem dX4_putPair_52 : decode cX4_putPair 52 = .ok (.aload_n 0, 1) := by decide +kernel
theorem dX4_putPair_53 : decode cX4_putPair 53 = .ok (.getfield 32, 3) := by decide +kernel
theorem dX4_putPair_56 : decode cX4_putPair 56 = .ok (.iload_n 1, 1) := by decide +kernel
theorem dX4_putPair_57 : decode cX4_putPair 57 = .ok (.iaload, 1) := by decide +kernel
theorem dX4_putPair_58 : decode cX4_putPair 58 = .ok (.aload_n 0, 1) := by decide +kernel
theorem dX4_putPair_59 : decode cX4_putPair 59 = .ok (.getfield 32, 3) := by decide +kernel
theorem dX4_putPair_62 : decode cX4_putPair 62 = .ok (.iload_n 2, 1) := by decide +kernel
theorem dX4_putPair_63 : decode cX4_putPair 63 = .ok (.iaload, 1) := by decide +kernel
theorem dX4_putPair_64 : decode cX4_putPair 64 = .ok (.invokevirtual 89, 3) := by decide +kernel
theorem dX4_putPair_67 : decode cX4_putPair 67 = .ok (.iastore, 1) := by decide +kernel
theorem dX4_putPair_68 : decode cX4_putPair 68 = .ok (.aload_n 0, 1) := by decide +kernel
theorem dX4_putPair_69 : decode cX4_putPair 69 = .ok (.dup, 1) := by decide +kernel
theorem dX4_putPair_70 : decode cX4_putPair 70 = .ok (.getfield 28, 3) := by decide +kernel
theorem dX4_putPair_73 : decode cX4_putPair 73 = .ok (.iconst 1, 1) := by decide +kernel
theorem dX4_putPair_74 : decode cX4_putPair 74 = .ok (.iadd, 1) := by decide +kernel
theorem dX4_putPair_75 : decode cX4_putPair 75 = .ok (.putfield 28, 3) := by decide +kernel
theorem dX4_putPair_78 : decode cX4_putPair 78 = .ok (.return_, 1) := by decide +kernel
theorem dX4_pairNeighbours_0 : decode cX4_pairNeighbours 0 = .ok (.iconst 0, 1) := by decide +kernel
theorem dX4_pairNeighbours_1 : decode cX4_pairNeighbours 1 = .ok (.istore_n 1, 1) := by decide +kernel
theorem dX4_pairNeighbours_2 : decode cX4_pairNeighbours 2 = .ok (.iload_n 1, 1) := by decide +kernel
theorem dX4_pairNeighbours_3 : decode cX4_pairNeighbours 3 = .ok (.iconst 1, 1) := by decide +kernel
theorem dX4_pairNeighbours_4 : decode cX4_pairNeighbours 4 = .ok (.iadd, 1) := by decide +kernel
theorem dX4_pairNeighbours_5 : decode cX4_pairNeighbours 5 = .ok (.aload_n 0, 1) := by decide +kernel
theorem dX4_pairNeighbours_6 : decode cX4_pairNeighbours 6 = .ok (.getfield 35, 3) := by decide +kernel
theorem dX4_pairNeighbours_9 : decode cX4_pairNeighbours 9 = .ok (.if_icmp .ge 17, 3) := by decide +kernel
theorem dX4_pairNeighbours_12 : decode cX4_pairNeighbours 12 = .ok (.aload_n 0, 1) := by decide +kernel
theorem dX4_pairNeighbours_13 : decode cX4_pairNeighbours 13 = .ok (.iload_n 1, 1) := by decide +kernel
theorem dX4_pairNeighbours_14 : decode cX4_pairNeighbours 14 = .ok (.iload_n 1, 1) := by decide +kernel
theorem dX4_pairNeighbours_15 : decode cX4_pairNeighbours 15 = .ok (.iconst 1, 1) := by decide +kernel
theorem dX4_pairNeighbours_16 : decode cX4_pairNeighbours 16 = .ok (.iadd, 1) := by decide +kernel
theorem dX4_pairNeighbours_17 : decode cX4_pairNeighbours 17 = .ok (.invokevirtual 93, 3) := by decide +kernel
theorem dX4_pairNeighbours_20 : decode cX4_pairNeighbours 20 = .ok (.iinc 1 2, 3) := by decide +kernel
theorem dX4_pairNeighbours_23 : decode cX4_pairNeighbours 23 = .ok (.goto (-21), 3) := by decide +kernel
theorem dX4_pairNeighbours_26 : decode cX4_pairNeighbours 26 = .ok (.return_, 1) := by decide +kernel
theorem dX4_pairByLeast_0 : decode cX4_pairByLeast 0 = .ok (.aload_n 0, 1) := by decide +kernel
theorem dX4_pairByLeast_1 : decode cX4_pairByLeast 1 = .ok (.invokevirtual 97, 3) := by decide +kernel
theorem dX4_pairByLeast_4 : decode cX4_pairByLeast 4 = .ok (.aload_n 0, 1) := by decide +kernel
theorem dX4_pairByLeast_5 : decode cX4_pairByLeast 5 = .ok (.invokevirtual 100, 3) := by decide +kernel
theorem dX4_pairByLeast_8 : decode cX4_pairByLeast 8 = .ok (.aload_n 0, 1) := by decide +kernel
theorem dX4_pairByLeast_9 : decode cX4_pairByLeast 9 = .ok (.invokevirtual 103, 3) := by decide +kernel
theorem dX4_pairByLeast_12 : decode cX4_pairByLeast 12 = .ok (.iconst 0, 1) := by decide +kernel
theorem dX4_pairByLeast_13 : decode cX4_pairByLeast 13 = .ok (.istore_n 1, 1) := by decide +kernel
theorem dX4_pairByLeast_14 : decode cX4_pairByLeast 14 = .ok (.iconst 0, 1) := by decide +kernel
theorem dX4_pairByLeast_15 : decode cX4_pairByLeast 15 = .ok (.istore_n 2, 1) := by decide +kernel
theorem dX4_pairByLeast_16 : decode cX4_pairByLeast 16 = .ok (.iload_n 2, 1) := by decide +kernel
theorem dX4_pairByLeast_17 : decode cX4_pairByLeast 17 = .ok (.iconst 1, 1) := by decide +kernel
theorem dX4_pairByLeast_18 : decode cX4_pairByLeast 18 = .ok (.iadd, 1) := by decide +kernel
theorem dX4_pairByLeast_19 : decode cX4_pairByLeast 19 = .ok (.aload_n 0, 1) := by decide +kernel
theorem dX4_pairByLeast_20 : decode cX4_pairByLeast 20 = .ok (.getfield 35, 3) := by decide +kernel
theorem dX4_pairByLeast_23 : decode cX4_pairByLeast 23 = .ok (.if_icmp .ge 41, 3) := by decide +kernel
theorem dX4_pairByLeast_26 : decode cX4_pairByLeast 26 = .ok (.aload_n 0, 1) := by decide +kernel
theorem dX4_pairByLeast_27 : decode cX4_pairByLeast 27 = .ok (.iload_n 1, 1) := by decide +kernel
theorem dX4_pairByLeast_28 : decode cX4_pairByLeast 28 = .ok (.invokevirtual 106, 3) := by decide +kernel
theorem dX4_pairByLeast_31 : decode cX4_pairByLeast 31 = .ok (.istore_n 3, 1) := by decide +kernel
theorem dX4_pairByLeast_32 : decode cX4_pairByLeast 32 = .ok (.aload_n 0, 1) := by decide +kernel
theorem dX4_pairByLeast_33 : decode cX4_pairByLeast 33 = .ok (.iload_n 1, 1) := by decide +kernel
theorem dX4_pairByLeast_34 : decode cX4_pairByLeast 34 = .ok (.iload_n 3, 1) := by decide +kernel
theorem dX4_pairByLeast_35 : decode cX4_pairByLeast 35 = .ok (.invokevirtual 109, 3) := by decide +kernel
theorem dX4_pairByLeast_38 : decode cX4_pairByLeast 38 = .ok (.istore 4, 2) := by decide +kernel
theorem dX4_pairByLeast_40 : decode cX4_pairByLeast 40 = .ok (.aload_n 0, 1) := by decide +kernel
theorem dX4_pairByLeast_41 : decode cX4_pairByLeast 41 = .ok (.iload_n 3, 1) := by decide +kernel
theorem dX4_pairByLeast_42 : decode cX4_pairByLeast 42 = .ok (.iload 4, 2) := by decide +kernel
theorem dX4_pairByLeast_44 : decode cX4_pairByLeast 44 = .ok (.invokevirtual 93, 3) := by decide +kernel
theorem dX4_pairByLeast_47 : decode cX4_pairByLeast 47 = .ok (.iload_n 1, 1) := by decide +kernel
theorem dX4_pairByLeast_48 : decode cX4_pairByLeast 48 = .ok (.iconst 1, 1) := by decide +kernel
theorem dX4_pairByLeast_49 : decode cX4_pairByLeast 49 = .ok (.iload_n 3, 1) := by decide +kernel
theorem dX4_pairByLeast_50 : decode cX4_pairByLeast 50 = .ok (.ishl, 1) := by decide +kernel
theorem dX4_pairByLeast_51 : decode cX4_pairByLeast 51 = .ok (.iconst 1, 1) := by decide +kernel
theorem dX4_pairByLeast_52 : decode cX4_pairByLeast 52 = .ok (.iload 4, 2) := by decide +kernel
theorem dX4_pairByLeast_54 : decode cX4_pairByLeast 54 = .ok (.ishl, 1) := by decide +kernel
theorem dX4_pairByLeast_55 : decode cX4_pairByLeast 55 = .ok (.ior, 1) := by decide +kernel
theorem dX4_pairByLeast_56 : decode cX4_pairByLeast 56 = .ok (.ior, 1) := by decide +kernel
theorem dX4_pairByLeast_57 : decode cX4_pairByLeast 57 = .ok (.istore_n 1, 1) := by decide +kernel
theorem dX4_pairByLeast_58 : decode cX4_pairByLeast 58 = .ok (.iinc 2 2, 3) := by decide +kernel
theorem dX4_pairByLeast_61 : decode cX4_pairByLeast 61 = .ok (.goto (-45), 3) := by decide +kernel
theorem dX4_pairByLeast_64 : decode cX4_pairByLeast 64 = .ok (.aload_n 0, 1) := by decide +kernel
theorem dX4_pairByLeast_65 : decode cX4_pairByLeast 65 = .ok (.invokevirtual 112, 3) := by decide +kernel
theorem dX4_pairByLeast_68 : decode cX4_pairByLeast 68 = .ok (.return_, 1) := by decide +kernel
theorem dX4_measureOdds_0 : decode cX4_measureOdds 0 = .ok (.iconst 0, 1) := by decide +kernel
theorem dX4_measureOdds_1 : decode cX4_measureOdds 1 = .ok (.istore_n 1, 1) := by decide +kernel
theorem dX4_measureOdds_2 : decode cX4_measureOdds 2 = .ok (.iload_n 1, 1) := by decide +kernel
theorem dX4_measureOdds_3 : decode cX4_measureOdds 3 = .ok (.aload_n 0, 1) := by decide +kernel
theorem dX4_measureOdds_4 : decode cX4_measureOdds 4 = .ok (.getfield 35, 3) := by decide +kernel
theorem dX4_measureOdds_7 : decode cX4_measureOdds 7 = .ok (.if_icmp .ge 55, 3) := by decide +kernel
theorem dX4_measureOdds_10 : decode cX4_measureOdds 10 = .ok (.iconst 0, 1) := by decide +kernel
theorem dX4_measureOdds_11 : decode cX4_measureOdds 11 = .ok (.istore_n 2, 1) := by decide +kernel
theorem dX4_measureOdds_12 : decode cX4_measureOdds 12 = .ok (.iload_n 2, 1) := by decide +kernel
theorem dX4_measureOdds_13 : decode cX4_measureOdds 13 = .ok (.aload_n 0, 1) := by decide +kernel
theorem dX4_measureOdds_14 : decode cX4_measureOdds 14 = .ok (.getfield 35, 3) := by decide +kernel
theorem dX4_measureOdds_17 : decode cX4_measureOdds 17 = .ok (.if_icmp .ge 39, 3) := by decide +kernel
theorem dX4_measureOdds_20 : decode cX4_measureOdds 20 = .ok (.aload_n 0, 1) := by decide +kernel
theorem dX4_measureOdds_21 : decode cX4_measureOdds 21 = .ok (.getfield 38, 3) := by decide +kernel
theorem dX4_measureOdds_24 : decode cX4_measureOdds 24 = .ok (.iload_n 1, 1) := by decide +kernel
theorem dX4_measureOdds_25 : decode cX4_measureOdds 25 = .ok (.bipush 14, 2) := by decide +kernel
theorem dX4_measureOdds_27 : decode cX4_measureOdds 27 = .ok (.imul, 1) := by decide +kernel
theorem dX4_measureOdds_28 : decode cX4_measureOdds 28 = .ok (.iload_n 2, 1) := by decide +kernel
theorem dX4_measureOdds_29 : decode cX4_measureOdds 29 = .ok (.iadd, 1) := by decide +kernel
theorem dX4_measureOdds_30 : decode cX4_measureOdds 30 = .ok (.aload_n 0, 1) := by decide +kernel
theorem dX4_measureOdds_31 : decode cX4_measureOdds 31 = .ok (.getfield 56, 3) := by decide +kernel
theorem dX4_measureOdds_34 : decode cX4_measureOdds 34 = .ok (.aload_n 0, 1) := by decide +kernel
theorem dX4_measureOdds_35 : decode cX4_measureOdds 35 = .ok (.getfield 32, 3) := by decide +kernel
theorem dX4_measureOdds_38 : decode cX4_measureOdds 38 = .ok (.iload_n 1, 1) := by decide +kernel
theorem dX4_measureOdds_39 : decode cX4_measureOdds 39 = .ok (.iaload, 1) := by decide +kernel
theorem dX4_measureOdds_40 : decode cX4_measureOdds 40 = .ok (.aload_n 0, 1) := by decide +kernel
theorem dX4_measureOdds_41 : decode cX4_measureOdds 41 = .ok (.getfield 32, 3) := by decide +kernel
theorem dX4_measureOdds_44 : decode cX4_measureOdds 44 = .ok (.iload_n 2, 1) := by decide +kernel
theorem dX4_measureOdds_45 : decode cX4_measureOdds 45 = .ok (.iaload, 1) := by decide +kernel
theorem dX4_measureOdds_46 : decode cX4_measureOdds 46 = .ok (.invokevirtual 89, 3) := by decide +kernel
theorem dX4_measureOdds_49 : decode cX4_measureOdds 49 = .ok (.iastore, 1) := by decide +kernel
theorem dX4_measureOdds_50 : decode cX4_measureOdds 50 = .ok (.iinc 2 1, 3) := by decide +kernel
theorem dX4_measureOdds_53 : decode cX4_measureOdds 53 = .ok (.goto (-41), 3) := by decide +kernel
theorem dX4_measureOdds_56 : decode cX4_measureOdds 56 = .ok (.iinc 1 1, 3) := by decide +kernel
theorem dX4_measureOdds_59 : decode cX4_measureOdds 59 = .ok (.goto (-57), 3) := by decide +kernel
theorem dX4_measureOdds_62 : decode cX4_measureOdds 62 = .ok (.return_, 1) := by decide +kernel
theorem dX4_firstFree_0 : decode cX4_firstFree 0 = .ok (.iconst 0, 1) := by decide +kernel
theorem dX4_firstFree_1 : decode cX4_firstFree 1 = .ok (.istore_n 2, 1) := by decide +kernel
theorem dX4_firstFree_2 : decode cX4_firstFree 2 = .ok (.iload_n 2, 1) := by decide +kernel
theorem dX4_firstFree_3 : decode cX4_firstFree 3 = .ok (.aload_n 0, 1) := by decide +kernel
theorem dX4_firstFree_4 : decode cX4_firstFree 4 = .ok (.getfield 35, 3) := by decide +kernel
theorem dX4_firstFree_7 : decode cX4_firstFree 7 = .ok (.iconst 1, 1) := by decide +kernel
theorem dX4_firstFree_8 : decode cX4_firstFree 8 = .ok (.isub, 1) := by decide +kernel
theorem dX4_firstFree_9 : decode cX4_firstFree 9 = .ok (.if_icmp .ge 18, 3) := by decide +kernel
theorem dX4_firstFree_12 : decode cX4_firstFree 12 = .ok (.iload_n 1, 1) := by decide +kernel
theorem dX4_firstFree_13 : decode cX4_firstFree 13 = .ok (.iload_n 2, 1) := by decide +kernel
theorem dX4_firstFree_14 : decode cX4_firstFree 14 = .ok (.ishr, 1) := by decide +kernel
theorem dX4_firstFree_15 : decode cX4_firstFree 15 = .ok (.iconst 1, 1) := by decide +kernel
theorem dX4_firstFree_16 : decode cX4_firstFree 16 = .ok (.iand, 1) := by decide +kernel
theorem dX4_firstFree_17 : decode cX4_firstFree 17 = .ok (.iconst 1, 1) := by decide +kernel
theorem dX4_firstFree_18 : decode cX4_firstFree 18 = .ok (.if_icmp .ne 9, 3) := by decide +kernel
theorem dX4_firstFree_21 : decode cX4_firstFree 21 = .ok (.iinc 2 1, 3) := by decide +kernel
theorem dX4_firstFree_24 : decode cX4_firstFree 24 = .ok (.goto (-22), 3) := by decide +kernel
theorem dX4_firstFree_27 : decode cX4_firstFree 27 = .ok (.iload_n 2, 1) := by decide +kernel
theorem dX4_firstFree_28 : decode cX4_firstFree 28 = .ok (.ireturn, 1) := by decide +kernel
theorem dX4_listSets_0 : decode cX4_listSets 0 = .ok (.aload_n 0, 1) := by decide +kernel
theorem dX4_listSets_1 : decode cX4_listSets 1 = .ok (.getfield 41, 3) := by decide +kernel
theorem dX4_listSets_4 : decode cX4_listSets 4 = .ok (.iconst 1, 1) := by decide +kernel
theorem dX4_listSets_5 : decode cX4_listSets 5 = .ok (.iconst 0, 1) := by decide +kernel
theorem dX4_listSets_6 : decode cX4_listSets 6 = .ok (.iastore, 1) := by decide +kernel
theorem dX4_listSets_7 : decode cX4_listSets 7 = .ok (.aload_n 0, 1) := by decide +kernel
theorem dX4_listSets_8 : decode cX4_listSets 8 = .ok (.iconst 1, 1) := by decide +kernel
theorem dX4_listSets_9 : decode cX4_listSets 9 = .ok (.putfield 44, 3) := by decide +kernel
theorem dX4_listSets_12 : decode cX4_listSets 12 = .ok (.iconst 1, 1) := by decide +kernel
theorem dX4_listSets_13 : decode cX4_listSets 13 = .ok (.istore_n 1, 1) := by decide +kernel
theorem dX4_listSets_14 : decode cX4_listSets 14 = .ok (.iload_n 1, 1) := by decide +kernel
theorem dX4_listSets_15 : decode cX4_listSets 15 = .ok (.aload_n 0, 1) := by decide +kernel
theorem dX4_listSets_16 : decode cX4_listSets 16 = .ok (.getfield 44, 3) := by decide +kernel
theorem dX4_listSets_19 : decode cX4_listSets 19 = .ok (.if_icmp .gt 72, 3) := by decide +kernel
theorem dX4_listSets_22 : decode cX4_listSets 22 = .ok (.iload_n 1, 1) := by decide +kernel
theorem dX4_listSets_23 : decode cX4_listSets 23 = .ok (.sipush 610, 3) := by decide +kernel
theorem dX4_listSets_26 : decode cX4_listSets 26 = .ok (.if_icmp .gt 65, 3) := by decide +kernel
theorem dX4_listSets_29 : decode cX4_listSets 29 = .ok (.aload_n 0, 1) := by decide +kernel
theorem dX4_listSets_30 : decode cX4_listSets 30 = .ok (.getfield 41, 3) := by decide +kernel
theorem dX4_listSets_33 : decode cX4_listSets 33 = .ok (.iload_n 1, 1) := by decide +kernel
theorem dX4_listSets_34 : decode cX4_listSets 34 = .ok (.iaload, 1) := by decide +kernel
theorem dX4_listSets_35 : decode cX4_listSets 35 = .ok (.istore_n 2, 1) := by decide +kernel
theorem dX4_listSets_36 : decode cX4_listSets 36 = .ok (.aload_n 0, 1) := by decide +kernel
theorem dX4_listSets_37 : decode cX4_listSets 37 = .ok (.iload_n 2, 1) := by decide +kernel
theorem dX4_listSets_38 : decode cX4_listSets 38 = .ok (.invokevirtual 106, 3) := by decide +kernel
theorem dX4_listSets_41 : decode cX4_listSets 41 = .ok (.istore_n 3, 1) := by decide +kernel
theorem dX4_listSets_42 : decode cX4_listSets 42 = .ok (.iload_n 3, 1) := by decide +kernel
theorem dX4_listSets_43 : decode cX4_listSets 43 = .ok (.iconst 1, 1) := by decide +kernel
theorem dX4_listSets_44 : decode cX4_listSets 44 = .ok (.iadd, 1) := by decide +kernel
theorem dX4_listSets_45 : decode cX4_listSets 45 = .ok (.istore 4, 2) := by decide +kernel
theorem dX4_listSets_47 : decode cX4_listSets 47 = .ok (.iload 4, 2) := by decide +kernel
theorem dX4_listSets_49 : decode cX4_listSets 49 = .ok (.aload_n 0, 1) := by decide +kernel
theorem dX4_listSets_50 : decode cX4_listSets 50 = .ok (.getfield 35, 3) := by decide +kernel
theorem dX4_listSets_53 : decode cX4_listSets 53 = .ok (.if_icmp .ge 32, 3) := by decide +kernel
theorem dX4_listSets_56 : decode cX4_listSets 56 = .ok (.iload_n 2, 1) := by decide +kernel
theorem dX4_listSets_57 : decode cX4_listSets 57 = .ok (.iload 4, 2) := by decide +kernel
theorem dX4_listSets_59 : decode cX4_listSets 59 = .ok (.ishr, 1) := by decide +kernel
theorem dX4_listSets_60 : decode cX4_listSets 60 = .ok (.iconst 1, 1) := by decide +kernel
theorem dX4_listSets_61 : decode cX4_listSets 61 = .ok (.iand, 1) := by decide +kernel
theorem dX4_listSets_62 : decode cX4_listSets 62 = .ok (.ifCond .ne 17, 3) := by decide +kernel
theorem dX4_listSets_65 : decode cX4_listSets 65 = .ok (.aload_n 0, 1) := by decide +kernel
theorem dX4_listSets_66 : decode cX4_listSets 66 = .ok (.iload_n 2, 1) := by decide +kernel
theorem dX4_listSets_67 : decode cX4_listSets 67 = .ok (.iconst 1, 1) := by decide +kernel
theorem dX4_listSets_68 : decode cX4_listSets 68 = .ok (.iload_n 3, 1) := by decide +kernel
theorem dX4_listSets_69 : decode cX4_listSets 69 = .ok (.ishl, 1) := by decide +kernel
theorem dX4_listSets_70 : decode cX4_listSets 70 = .ok (.ior, 1) := by decide +kernel
theorem dX4_listSets_71 : decode cX4_listSets 71 = .ok (.iconst 1, 1) := by decide +kernel
theorem dX4_listSets_72 : decode cX4_listSets 72 = .ok (.iload 4, 2) := by decide +kernel
theorem dX4_listSets_74 : decode cX4_listSets 74 = .ok (.ishl, 1) := by decide +kernel
theorem dX4_listSets_75 : decode cX4_listSets 75 = .ok (.ior, 1) := by decide +kernel
theorem dX4_listSets_76 : decode cX4_listSets 76 = .ok (.invokevirtual 115, 3) := by decide +kernel
theorem dX4_listSets_79 : decode cX4_listSets 79 = .ok (.iinc 4 1, 3) := by decide +kernel
theorem dX4_listSets_82 : decode cX4_listSets 82 = .ok (.goto (-35), 3) := by decide +kernel
theorem dX4_listSets_85 : decode cX4_listSets 85 = .ok (.iinc 1 1, 3) := by decide +kernel
theorem dX4_listSets_88 : decode cX4_listSets 88 = .ok (.goto (-74), 3) := by decide +kernel
theorem dX4_listSets_91 : decode cX4_listSets 91 = .ok (.return_, 1) := by decide +kernel
theorem dX4_putSet_0 : decode cX4_putSet 0 = .ok (.iload_n 1, 1) := by decide +kernel
theorem dX4_putSet_1 : decode cX4_putSet 1 = .ok (.invokestatic 118, 3) := by decide +kernel
theorem dX4_putSet_4 : decode cX4_putSet 4 = .ok (.istore_n 2, 1) := by decide +kernel
theorem dX4_putSet_5 : decode cX4_putSet 5 = .ok (.aload_n 0, 1) := by decide +kernel
theorem dX4_putSet_6 : decode cX4_putSet 6 = .ok (.getfield 50, 3) := by decide +kernel
theorem dX4_putSet_9 : decode cX4_putSet 9 = .ok (.iload_n 2, 1) := by decide +kernel
theorem dX4_putSet_10 : decode cX4_putSet 10 = .ok (.iaload, 1) := by decide +kernel
theorem dX4_putSet_11 : decode cX4_putSet 11 = .ok (.ifCond .ne 13, 3) := by decide +kernel
theorem dX4_putSet_14 : decode cX4_putSet 14 = .ok (.aload_n 0, 1) := by decide +kernel
theorem dX4_putSet_15 : decode cX4_putSet 15 = .ok (.getfield 44, 3) := by decide +kernel
theorem dX4_putSet_18 : decode cX4_putSet 18 = .ok (.sipush 610, 3) := by decide +kernel
theorem dX4_putSet_21 : decode cX4_putSet 21 = .ok (.if_icmp .lt 4, 3) := by decide +kernel
theorem dX4_putSet_24 : decode cX4_putSet 24 = .ok (.return_, 1) := by decide +kernel
theorem dX4_putSet_25 : decode cX4_putSet 25 = .ok (.aload_n 0, 1) := by decide +kernel
theorem dX4_putSet_26 : decode cX4_putSet 26 = .ok (.dup, 1) := by decide +kernel
theorem dX4_putSet_27 : decode cX4_putSet 27 = .ok (.getfield 44, 3) := by decide +kernel
theorem dX4_putSet_30 : decode cX4_putSet 30 = .ok (.iconst 1, 1) := by decide +kernel
theorem dX4_putSet_31 : decode cX4_putSet 31 = .ok (.iadd, 1) := by decide +kernel
theorem dX4_putSet_32 : decode cX4_putSet 32 = .ok (.putfield 44, 3) := by decide +kernel
theorem dX4_putSet_35 : decode cX4_putSet 35 = .ok (.aload_n 0, 1) := by decide +kernel
theorem dX4_putSet_36 : decode cX4_putSet 36 = .ok (.getfield 41, 3) := by decide +kernel
theorem dX4_putSet_39 : decode cX4_putSet 39 = .ok (.aload_n 0, 1) := by decide +kernel
theorem dX4_putSet_40 : decode cX4_putSet 40 = .ok (.getfield 44, 3) := by decide +kernel
theorem dX4_putSet_43 : decode cX4_putSet 43 = .ok (.iload_n 1, 1) := by decide +kernel
theorem dX4_putSet_44 : decode cX4_putSet 44 = .ok (.iastore, 1) := by decide +kernel
theorem dX4_putSet_45 : decode cX4_putSet 45 = .ok (.aload_n 0, 1) := by decide +kernel
theorem dX4_putSet_46 : decode cX4_putSet 46 = .ok (.getfield 50, 3) := by decide +kernel
theorem dX4_putSet_49 : decode cX4_putSet 49 = .ok (.iload_n 2, 1) := by decide +kernel
theorem dX4_putSet_50 : decode cX4_putSet 50 = .ok (.aload_n 0, 1) := by decide +kernel
theorem dX4_putSet_51 : decode cX4_putSet 51 = .ok (.getfield 44, 3) := by decide +kernel
theorem dX4_putSet_54 : decode cX4_putSet 54 = .ok (.iastore, 1) := by decide +kernel
theorem dX4_putSet_55 : decode cX4_putSet 55 = .ok (.return_, 1) := by decide +kernel
theorem dX4_slotOf_0 : decode cX4_slotOf 0 = .ok (.iload_n 0, 1) := by decide +kernel
theorem dX4_slotOf_1 : decode cX4_slotOf 1 = .ok (.iconst 1, 1) := by decide +kernel
theorem dX4_slotOf_2 : decode cX4_slotOf 2 = .ok (.ishr, 1) := by decide +kernel
theorem dX4_slotOf_3 : decode cX4_slotOf 3 = .ok (.sipush 4095, 3) := by decide +kernel
theorem dX4_slotOf_6 : decode cX4_slotOf 6 = .ok (.iand, 1) := by decide +kernel
theorem dX4_slotOf_7 : decode cX4_slotOf 7 = .ok (.ireturn, 1) := by decide +kernel
theorem dX4_clearSets_0 : decode cX4_clearSets 0 = .ok (.iconst 1, 1) := by decide +kernel
theorem dX4_clearSets_1 : decode cX4_clearSets 1 = .ok (.istore_n 1, 1) := by decide +kernel
theorem dX4_clearSets_2 : decode cX4_clearSets 2 = .ok (.iload_n 1, 1) := by decide +kernel
theorem dX4_clearSets_3 : decode cX4_clearSets 3 = .ok (.aload_n 0, 1) := by decide +kernel
theorem dX4_clearSets_4 : decode cX4_clearSets 4 = .ok (.getfield 44, 3) := by decide +kernel
theorem dX4_clearSets_7 : decode cX4_clearSets 7 = .ok (.if_icmp .gt 24, 3) := by decide +kernel
theorem dX4_clearSets_10 : decode cX4_clearSets 10 = .ok (.aload_n 0, 1) := by decide +kernel
theorem dX4_clearSets_11 : decode cX4_clearSets 11 = .ok (.getfield 50, 3) := by decide +kernel
theorem dX4_clearSets_14 : decode cX4_clearSets 14 = .ok (.aload_n 0, 1) := by decide +kernel
theorem dX4_clearSets_15 : decode cX4_clearSets 15 = .ok (.getfield 41, 3) := by decide +kernel
theorem dX4_clearSets_18 : decode cX4_clearSets 18 = .ok (.iload_n 1, 1) := by decide +kernel
theorem dX4_clearSets_19 : decode cX4_clearSets 19 = .ok (.iaload, 1) := by decide +kernel
theorem dX4_clearSets_20 : decode cX4_clearSets 20 = .ok (.invokestatic 118, 3) := by decide +kernel
theorem dX4_clearSets_23 : decode cX4_clearSets 23 = .ok (.iconst 0, 1) := by decide +kernel
theorem dX4_clearSets_24 : decode cX4_clearSets 24 = .ok (.iastore, 1) := by decide +kernel
theorem dX4_clearSets_25 : decode cX4_clearSets 25 = .ok (.iinc 1 1, 3) := by decide +kernel
theorem dX4_clearSets_28 : decode cX4_clearSets 28 = .ok (.goto (-26), 3) := by decide +kernel
theorem dX4_clearSets_31 : decode cX4_clearSets 31 = .ok (.return_, 1) := by decide +kernel
theorem dX4_fillLeast_0 : decode cX4_fillLeast 0 = .ok (.aload_n 0, 1) := by decide +kernel
theorem dX4_fillLeast_1 : decode cX4_fillLeast 1 = .ok (.getfield 47, 3) := by decide +kernel
theorem dX4_fillLeast_4 : decode cX4_fillLeast 4 = .ok (.aload_n 0, 1) := by decide +kernel
theorem dX4_fillLeast_5 : decode cX4_fillLeast 5 = .ok (.getfield 44, 3) := by decide +kernel
theorem dX4_fillLeast_8 : decode cX4_fillLeast 8 = .ok (.iconst 0, 1) := by decide +kernel
theorem dX4_fillLeast_9 : decode cX4_fillLeast 9 = .ok (.iastore, 1) := by decide +kernel
theorem dX4_fillLeast_10 : decode cX4_fillLeast 10 = .ok (.aload_n 0, 1) := by decide +kernel
theorem dX4_fillLeast_11 : decode cX4_fillLeast 11 = .ok (.getfield 44, 3) := by decide +kernel
theorem dX4_fillLeast_14 : decode cX4_fillLeast 14 = .ok (.iconst 1, 1) := by decide +kernel
theorem dX4_fillLeast_15 : decode cX4_fillLeast 15 = .ok (.isub, 1) := by decide +kernel
theorem dX4_fillLeast_16 : decode cX4_fillLeast 16 = .ok (.istore_n 1, 1) := by decide +kernel
theorem dX4_fillLeast_17 : decode cX4_fillLeast 17 = .ok (.iload_n 1, 1) := by decide +kernel
theorem dX4_fillLeast_18 : decode cX4_fillLeast 18 = .ok (.iconst 1, 1) := by decide +kernel
theorem dX4_fillLeast_19 : decode cX4_fillLeast 19 = .ok (.if_icmp .lt 40, 3) := by decide +kernel
theorem dX4_fillLeast_22 : decode cX4_fillLeast 22 = .ok (.aload_n 0, 1) := by decide +kernel
theorem dX4_fillLeast_23 : decode cX4_fillLeast 23 = .ok (.aload_n 0, 1) := by decide +kernel
theorem dX4_fillLeast_24 : decode cX4_fillLeast 24 = .ok (.getfield 41, 3) := by decide +kernel
theorem dX4_fillLeast_27 : decode cX4_fillLeast 27 = .ok (.iload_n 1, 1) := by decide +kernel
theorem dX4_fillLeast_28 : decode cX4_fillLeast 28 = .ok (.iaload, 1) := by decide +kernel
theorem dX4_fillLeast_29 : decode cX4_fillLeast 29 = .ok (.aload_n 0, 1) := by decide +kernel
theorem dX4_fillLeast_30 : decode cX4_fillLeast 30 = .ok (.aload_n 0, 1) := by decide +kernel
theorem dX4_fillLeast_31 : decode cX4_fillLeast 31 = .ok (.getfield 41, 3) := by decide +kernel
theorem dX4_fillLeast_34 : decode cX4_fillLeast 34 = .ok (.iload_n 1, 1) := by decide +kernel
theorem dX4_fillLeast_35 : decode cX4_fillLeast 35 = .ok (.iaload, 1) := by decide +kernel
theorem dX4_fillLeast_36 : decode cX4_fillLeast 36 = .ok (.invokevirtual 106, 3) := by decide +kernel
theorem dX4_fillLeast_39 : decode cX4_fillLeast 39 = .ok (.invokevirtual 109, 3) := by decide +kernel
theorem dX4_fillLeast_42 : decode cX4_fillLeast 42 = .ok (.pop, 1) := by decide +kernel
theorem dX4_fillLeast_43 : decode cX4_fillLeast 43 = .ok (.aload_n 0, 1) := by decide +kernel
theorem dX4_fillLeast_44 : decode cX4_fillLeast 44 = .ok (.getfield 47, 3) := by decide +kernel
theorem dX4_fillLeast_47 : decode cX4_fillLeast 47 = .ok (.iload_n 1, 1) := by decide +kernel
theorem dX4_fillLeast_48 : decode cX4_fillLeast 48 = .ok (.aload_n 0, 1) := by decide +kernel
theorem dX4_fillLeast_49 : decode cX4_fillLeast 49 = .ok (.getfield 53, 3) := by decide +kernel
theorem dX4_fillLeast_52 : decode cX4_fillLeast 52 = .ok (.iastore, 1) := by decide +kernel
theorem dX4_fillLeast_53 : decode cX4_fillLeast 53 = .ok (.iinc 1 (-1), 3) := by decide +kernel
theorem dX4_fillLeast_56 : decode cX4_fillLeast 56 = .ok (.goto (-39), 3) := by decide +kernel
theorem dX4_fillLeast_59 : decode cX4_fillLeast 59 = .ok (.return_, 1) := by decide +kernel
theorem dX4_bestPartner_0 : decode cX4_bestPartner 0 = .ok (.iload_n 2, 1) := by decide +kernel
theorem dX4_bestPartner_1 : decode cX4_bestPartner 1 = .ok (.istore_n 3, 1) := by decide +kernel
theorem dX4_bestPartner_2 : decode cX4_bestPartner 2 = .ok (.aload_n 0, 1) := by decide +kernel
theorem dX4_bestPartner_3 : decode cX4_bestPartner 3 = .ok (.iconst 0, 1) := by decide +kernel
theorem dX4_bestPartner_4 : decode cX4_bestPartner 4 = .ok (.putfield 53, 3) := by decide +kernel
theorem dX4_bestPartner_7 : decode cX4_bestPartner 7 = .ok (.iload_n 2, 1) := by decide +kernel
theorem dX4_bestPartner_8 : decode cX4_bestPartner 8 = .ok (.iconst 1, 1) := by decide +kernel
theorem dX4_bestPartner_9 : decode cX4_bestPartner 9 = .ok (.iadd, 1) := by decide +kernel
theorem dX4_bestPartner_10 : decode cX4_bestPartner 10 = .ok (.istore 4, 2) := by decide +kernel
theorem dX4_bestPartner_12 : decode cX4_bestPartner 12 = .ok (.iload 4, 2) := by decide +kernel
theorem dX4_bestPartner_14 : decode cX4_bestPartner 14 = .ok (.aload_n 0, 1) := by decide +kernel
theorem dX4_bestPartner_15 : decode cX4_bestPartner 15 = .ok (.getfield 35, 3) := by decide +kernel
theorem dX4_bestPartner_18 : decode cX4_bestPartner 18 = .ok (.if_icmp .ge 83, 3) := by decide +kernel
theorem dX4_bestPartner_21 : decode cX4_bestPartner 21 = .ok (.iload_n 1, 1) := by decide +kernel
theorem dX4_bestPartner_22 : decode cX4_bestPartner 22 = .ok (.iload 4, 2) := by decide +kernel
theorem dX4_bestPartner_24 : decode cX4_bestPartner 24 = .ok (.ishr, 1) := by decide +kernel
theorem dX4_bestPartner_25 : decode cX4_bestPartner 25 = .ok (.iconst 1, 1) := by decide +kernel
theorem dX4_bestPartner_26 : decode cX4_bestPartner 26 = .ok (.iand, 1) := by decide +kernel
theorem dX4_bestPartner_27 : decode cX4_bestPartner 27 = .ok (.ifCond .ne 68, 3) := by decide +kernel
theorem dX4_bestPartner_30 : decode cX4_bestPartner 30 = .ok (.aload_n 0, 1) := by decide +kernel
theorem dX4_bestPartner_31 : decode cX4_bestPartner 31 = .ok (.getfield 50, 3) := by decide +kernel
theorem dX4_bestPartner_34 : decode cX4_bestPartner 34 = .ok (.iload_n 1, 1) := by decide +kernel
theorem dX4_bestPartner_35 : decode cX4_bestPartner 35 = .ok (.iconst 1, 1) := by decide +kernel
theorem dX4_bestPartner_36 : decode cX4_bestPartner 36 = .ok (.iload_n 2, 1) := by decide +kernel
theorem dX4_bestPartner_37 : decode cX4_bestPartner 37 = .ok (.ishl, 1) := by decide +kernel
theorem dX4_bestPartner_38 : decode cX4_bestPartner 38 = .ok (.ior, 1) := by decide +kernel
theorem dX4_bestPartner_39 : decode cX4_bestPartner 39 = .ok (.iconst 1, 1) := by decide +kernel
theorem dX4_bestPartner_40 : decode cX4_bestPartner 40 = .ok (.iload 4, 2) := by decide +kernel
theorem dX4_bestPartner_42 : decode cX4_bestPartner 42 = .ok (.ishl, 1) := by decide +kernel
theorem dX4_bestPartner_43 : decode cX4_bestPartner 43 = .ok (.ior, 1) := by decide +kernel
theorem dX4_bestPartner_44 : decode cX4_bestPartner 44 = .ok (.invokestatic 118, 3) := by decide +kernel
theorem dX4_bestPartner_47 : decode cX4_bestPartner 47 = .ok (.iaload, 1) := by decide +kernel
theorem dX4_bestPartner_48 : decode cX4_bestPartner 48 = .ok (.istore 5, 2) := by decide +kernel
theorem dX4_bestPartner_50 : decode cX4_bestPartner 50 = .ok (.aload_n 0, 1) := by decide +kernel
theorem dX4_bestPartner_51 : decode cX4_bestPartner 51 = .ok (.getfield 38, 3) := by decide +kernel
theorem dX4_bestPartner_54 : decode cX4_bestPartner 54 = .ok (.iload_n 2, 1) := by decide +kernel
theorem dX4_bestPartner_55 : decode cX4_bestPartner 55 = .ok (.bipush 14, 2) := by decide +kernel
theorem dX4_bestPartner_57 : decode cX4_bestPartner 57 = .ok (.imul, 1) := by decide +kernel
theorem dX4_bestPartner_58 : decode cX4_bestPartner 58 = .ok (.iload 4, 2) := by decide +kernel
theorem dX4_bestPartner_60 : decode cX4_bestPartner 60 = .ok (.iadd, 1) := by decide +kernel
theorem dX4_bestPartner_61 : decode cX4_bestPartner 61 = .ok (.iaload, 1) := by decide +kernel
theorem dX4_bestPartner_62 : decode cX4_bestPartner 62 = .ok (.aload_n 0, 1) := by decide +kernel
theorem dX4_bestPartner_63 : decode cX4_bestPartner 63 = .ok (.getfield 47, 3) := by decide +kernel
theorem dX4_bestPartner_66 : decode cX4_bestPartner 66 = .ok (.iload 5, 2) := by decide +kernel
theorem dX4_bestPartner_68 : decode cX4_bestPartner 68 = .ok (.iaload, 1) := by decide +kernel
theorem dX4_bestPartner_69 : decode cX4_bestPartner 69 = .ok (.iadd, 1) := by decide +kernel
theorem dX4_bestPartner_70 : decode cX4_bestPartner 70 = .ok (.istore 6, 2) := by decide +kernel
theorem dX4_bestPartner_72 : decode cX4_bestPartner 72 = .ok (.iload_n 3, 1) := by decide +kernel
theorem dX4_bestPartner_73 : decode cX4_bestPartner 73 = .ok (.iload_n 2, 1) := by decide +kernel
theorem dX4_bestPartner_74 : decode cX4_bestPartner 74 = .ok (.if_icmp .eq 12, 3) := by decide +kernel
theorem dX4_bestPartner_77 : decode cX4_bestPartner 77 = .ok (.iload 6, 2) := by decide +kernel
theorem dX4_bestPartner_79 : decode cX4_bestPartner 79 = .ok (.aload_n 0, 1) := by decide +kernel
theorem dX4_bestPartner_80 : decode cX4_bestPartner 80 = .ok (.getfield 53, 3) := by decide +kernel
theorem dX4_bestPartner_83 : decode cX4_bestPartner 83 = .ok (.if_icmp .ge 12, 3) := by decide +kernel
theorem dX4_bestPartner_86 : decode cX4_bestPartner 86 = .ok (.iload 4, 2) := by decide +kernel
theorem dX4_bestPartner_88 : decode cX4_bestPartner 88 = .ok (.istore_n 3, 1) := by decide +kernel
theorem dX4_bestPartner_89 : decode cX4_bestPartner 89 = .ok (.aload_n 0, 1) := by decide +kernel
theorem dX4_bestPartner_90 : decode cX4_bestPartner 90 = .ok (.iload 6, 2) := by decide +kernel
theorem dX4_bestPartner_92 : decode cX4_bestPartner 92 = .ok (.putfield 53, 3) := by decide +kernel
theorem dX4_bestPartner_95 : decode cX4_bestPartner 95 = .ok (.iinc 4 1, 3) := by decide +kernel
theorem dX4_bestPartner_98 : decode cX4_bestPartner 98 = .ok (.goto (-86), 3) := by decide +kernel
theorem dX4_bestPartner_101 : decode cX4_bestPartner 101 = .ok (.iload_n 3, 1) := by decide +kernel
theorem dX4_bestPartner_102 : decode cX4_bestPartner 102 = .ok (.ireturn, 1) := by decide +kernel
theorem dX5_init_0 : decode cX5_init 0 = .ok (.aload_n 0, 1) := by decide +kernel
theorem dX5_init_1 : decode cX5_init 1 = .ok (.invokespecial 3, 3) := by decide +kernel
theorem dX5_init_4 : decode cX5_init 4 = .ok (.aload_n 0, 1) := by decide +kernel
theorem dX5_init_5 : decode cX5_init 5 = .ok (.bipush 24, 2) := by decide +kernel
theorem dX5_init_7 : decode cX5_init 7 = .ok (.newarray .int, 2) := by decide +kernel
theorem dX5_init_9 : decode cX5_init 9 = .ok (.putfield 9, 3) := by decide +kernel
theorem dX5_init_12 : decode cX5_init 12 = .ok (.aload_n 0, 1) := by decide +kernel
theorem dX5_init_13 : decode cX5_init 13 = .ok (.iconst 0, 1) := by decide +kernel
theorem dX5_init_14 : decode cX5_init 14 = .ok (.putfield 15, 3) := by decide +kernel
theorem dX5_init_17 : decode cX5_init 17 = .ok (.aload_n 0, 1) := by decide +kernel
theorem dX5_init_18 : decode cX5_init 18 = .ok (.aload_n 1, 1) := by decide +kernel
theorem dX5_init_19 : decode cX5_init 19 = .ok (.putfield 19, 3) := by decide +kernel
theorem dX5_init_22 : decode cX5_init 22 = .ok (.aload_n 0, 1) := by decide +kernel
theorem dX5_init_23 : decode cX5_init 23 = .ok (.aload_n 2, 1) := by decide +kernel
theorem dX5_init_24 : decode cX5_init 24 = .ok (.putfield 23, 3) := by decide +kernel
theorem dX5_init_27 : decode cX5_init 27 = .ok (.aload_n 0, 1) := by decide +kernel
theorem dX5_init_28 : decode cX5_init 28 = .ok (.aload_n 3, 1) := by decide +kernel
theorem dX5_init_29 : decode cX5_init 29 = .ok (.putfield 27, 3) := by decide +kernel
theorem dX5_init_32 : decode cX5_init 32 = .ok (.return_, 1) := by decide +kernel
theorem dX5_start_0 : decode cX5_start 0 = .ok (.aload_n 0, 1) := by decide +kernel
theorem dX5_start_1 : decode cX5_start 1 = .ok (.aload_n 0, 1) := by decide +kernel
theorem dX5_start_2 : decode cX5_start 2 = .ok (.getfield 27, 3) := by decide +kernel
theorem dX5_start_5 : decode cX5_start 5 = .ok (.getfield 31, 3) := by decide +kernel
theorem dX5_start_8 : decode cX5_start 8 = .ok (.putfield 15, 3) := by decide +kernel
theorem dX5_start_11 : decode cX5_start 11 = .ok (.iconst 0, 1) := by decide +kernel
theorem dX5_start_12 : decode cX5_start 12 = .ok (.istore_n 1, 1) := by decide +kernel
theorem dX5_start_13 : decode cX5_start 13 = .ok (.iload_n 1, 1) := by decide +kernel
theorem dX5_start_14 : decode cX5_start 14 = .ok (.aload_n 0, 1) := by decide +kernel
theorem dX5_start_15 : decode cX5_start 15 = .ok (.getfield 15, 3) := by decide +kernel
theorem dX5_start_18 : decode cX5_start 18 = .ok (.if_icmp .ge 18, 3) := by decide +kernel
theorem dX5_start_21 : decode cX5_start 21 = .ok (.aload_n 0, 1) := by decide +kernel
theorem dX5_start_22 : decode cX5_start 22 = .ok (.getfield 9, 3) := by decide +kernel
theorem dX5_start_25 : decode cX5_start 25 = .ok (.iload_n 1, 1) := by decide +kernel
theorem dX5_start_26 : decode cX5_start 26 = .ok (.iconst 2, 1) := by decide +kernel
theorem dX5_start_27 : decode cX5_start 27 = .ok (.iload_n 1, 1) := by decide +kernel
theorem dX5_start_28 : decode cX5_start 28 = .ok (.imul, 1) := by decide +kernel
theorem dX5_start_29 : decode cX5_start 29 = .ok (.iastore, 1) := by decide +kernel
theorem dX5_start_30 : decode cX5_start 30 = .ok (.iinc 1 1, 3) := by decide +kernel
theorem dX5_start_33 : decode cX5_start 33 = .ok (.goto (-20), 3) := by decide +kernel
theorem dX5_start_36 : decode cX5_start 36 = .ok (.return_, 1) := by decide +kernel
theorem dX5_copy_0 : decode cX5_copy 0 = .ok (.aload_n 0, 1) := by decide +kernel
theorem dX5_copy_1 : decode cX5_copy 1 = .ok (.aload_n 1, 1) := by decide +kernel
theorem dX5_copy_2 : decode cX5_copy 2 = .ok (.getfield 15, 3) := by decide +kernel
theorem dX5_copy_5 : decode cX5_copy 5 = .ok (.putfield 15, 3) := by decide +kernel
theorem dX5_copy_8 : decode cX5_copy 8 = .ok (.iconst 0, 1) := by decide +kernel
theorem dX5_copy_9 : decode cX5_copy 9 = .ok (.istore_n 2, 1) := by decide +kernel
theorem dX5_copy_10 : decode cX5_copy 10 = .ok (.iload_n 2, 1) := by decide +kernel
theorem dX5_copy_11 : decode cX5_copy 11 = .ok (.aload_n 0, 1) := by decide +kernel
theorem dX5_copy_12 : decode cX5_copy 12 = .ok (.getfield 15, 3) := by decide +kernel
theorem dX5_copy_15 : decode cX5_copy 15 = .ok (.if_icmp .ge 21, 3) := by decide +kernel
theorem dX5_copy_18 : decode cX5_copy 18 = .ok (.aload_n 0, 1) := by decide +kernel
theorem dX5_copy_19 : decode cX5_copy 19 = .ok (.getfield 9, 3) := by decide +kernel
theorem dX5_copy_22 : decode cX5_copy 22 = .ok (.iload_n 2, 1) := by decide +kernel
theorem dX5_copy_23 : decode cX5_copy 23 = .ok (.aload_n 1, 1) := by decide +kernel
theorem dX5_copy_24 : decode cX5_copy 24 = .ok (.getfield 9, 3) := by decide +kernel
theorem dX5_copy_27 : decode cX5_copy 27 = .ok (.iload_n 2, 1) := by decide +kernel
theorem dX5_copy_28 : decode cX5_copy 28 = .ok (.iaload, 1) := by decide +kernel
theorem dX5_copy_29 : decode cX5_copy 29 = .ok (.iastore, 1) := by decide +kernel
theorem dX5_copy_30 : decode cX5_copy 30 = .ok (.iinc 2 1, 3) := by decide +kernel
theorem dX5_copy_33 : decode cX5_copy 33 = .ok (.goto (-23), 3) := by decide +kernel
theorem dX5_copy_36 : decode cX5_copy 36 = .ok (.return_, 1) := by decide +kernel
theorem dX5_trailAt_0 : decode cX5_trailAt 0 = .ok (.aload_n 0, 1) := by decide +kernel
theorem dX5_trailAt_1 : decode cX5_trailAt 1 = .ok (.getfield 9, 3) := by decide +kernel
theorem dX5_trailAt_4 : decode cX5_trailAt 4 = .ok (.iload_n 1, 1) := by decide +kernel
theorem dX5_trailAt_5 : decode cX5_trailAt 5 = .ok (.iaload, 1) := by decide +kernel
theorem dX5_trailAt_6 : decode cX5_trailAt 6 = .ok (.iconst 2, 1) := by decide +kernel
theorem dX5_trailAt_7 : decode cX5_trailAt 7 = .ok (.idiv, 1) := by decide +kernel
theorem dX5_trailAt_8 : decode cX5_trailAt 8 = .ok (.ireturn, 1) := by decide +kernel
theorem dX5_isBackwards_0 : decode cX5_isBackwards 0 = .ok (.aload_n 0, 1) := by decide +kernel
theorem dX5_isBackwards_1 : decode cX5_isBackwards 1 = .ok (.getfield 9, 3) := by decide +kernel
theorem dX5_isBackwards_4 : decode cX5_isBackwards 4 = .ok (.iload_n 1, 1) := by decide +kernel
theorem dX5_isBackwards_5 : decode cX5_isBackwards 5 = .ok (.iaload, 1) := by decide +kernel
theorem dX5_isBackwards_6 : decode cX5_isBackwards 6 = .ok (.iconst 2, 1) := by decide +kernel
theorem dX5_isBackwards_7 : decode cX5_isBackwards 7 = .ok (.irem, 1) := by decide +kernel
theorem dX5_isBackwards_8 : decode cX5_isBackwards 8 = .ok (.iconst 1, 1) := by decide +kernel
theorem dX5_isBackwards_9 : decode cX5_isBackwards 9 = .ok (.if_icmp .ne 7, 3) := by decide +kernel
theorem dX5_isBackwards_12 : decode cX5_isBackwards 12 = .ok (.iconst 1, 1) := by decide +kernel
theorem dX5_isBackwards_13 : decode cX5_isBackwards 13 = .ok (.goto 4, 3) := by decide +kernel
theorem dX5_isBackwards_16 : decode cX5_isBackwards 16 = .ok (.iconst 0, 1) := by decide +kernel
theorem dX5_isBackwards_17 : decode cX5_isBackwards 17 = .ok (.ireturn, 1) := by decide +kernel
theorem dX5_beginOf_0 : decode cX5_beginOf 0 = .ok (.aload_n 0, 1) := by decide +kernel
theorem dX5_beginOf_1 : decode cX5_beginOf 1 = .ok (.iload_n 1, 1) := by decide +kernel
theorem dX5_beginOf_2 : decode cX5_beginOf 2 = .ok (.invokevirtual 34, 3) := by decide +kernel
theorem dX5_beginOf_5 : decode cX5_beginOf 5 = .ok (.ifCond .eq 19, 3) := by decide +kernel
theorem dX5_beginOf_8 : decode cX5_beginOf 8 = .ok (.aload_n 0, 1) := by decide +kernel
theorem dX5_beginOf_9 : decode cX5_beginOf 9 = .ok (.getfield 27, 3) := by decide +kernel
theorem dX5_beginOf_12 : decode cX5_beginOf 12 = .ok (.getfield 38, 3) := by decide +kernel
theorem dX5_beginOf_15 : decode cX5_beginOf 15 = .ok (.aload_n 0, 1) := by decide +kernel
theorem dX5_beginOf_16 : decode cX5_beginOf 16 = .ok (.iload_n 1, 1) := by decide +kernel
theorem dX5_beginOf_17 : decode cX5_beginOf 17 = .ok (.invokevirtual 41, 3) := by decide +kernel
theorem dX5_beginOf_20 : decode cX5_beginOf 20 = .ok (.iaload, 1) := by decide +kernel
theorem dX5_beginOf_21 : decode cX5_beginOf 21 = .ok (.goto 16, 3) := by decide +kernel
theorem dX5_beginOf_24 : decode cX5_beginOf 24 = .ok (.aload_n 0, 1) := by decide +kernel
theorem dX5_beginOf_25 : decode cX5_beginOf 25 = .ok (.getfield 27, 3) := by decide +kernel
theorem dX5_beginOf_28 : decode cX5_beginOf 28 = .ok (.getfield 45, 3) := by decide +kernel
theorem dX5_beginOf_31 : decode cX5_beginOf 31 = .ok (.aload_n 0, 1) := by decide +kernel
theorem dX5_beginOf_32 : decode cX5_beginOf 32 = .ok (.iload_n 1, 1) := by decide +kernel
theorem dX5_beginOf_33 : decode cX5_beginOf 33 = .ok (.invokevirtual 41, 3) := by decide +kernel
theorem dX5_beginOf_36 : decode cX5_beginOf 36 = .ok (.iaload, 1) := by decide +kernel
theorem dX5_beginOf_37 : decode cX5_beginOf 37 = .ok (.ireturn, 1) := by decide +kernel
theorem dX5_endOf_0 : decode cX5_endOf 0 = .ok (.aload_n 0, 1) := by decide +kernel
theorem dX5_endOf_1 : decode cX5_endOf 1 = .ok (.iload_n 1, 1) := by decide +kernel
theorem dX5_endOf_2 : decode cX5_endOf 2 = .ok (.invokevirtual 34, 3) := by decide +kernel
theorem dX5_endOf_5 : decode cX5_endOf 5 = .ok (.ifCond .eq 19, 3) := by decide +kernel
theorem dX5_endOf_8 : decode cX5_endOf 8 = .ok (.aload_n 0, 1) := by decide +kernel
theorem dX5_endOf_9 : decode cX5_endOf 9 = .ok (.getfield 27, 3) := by decide +kernel
theorem dX5_endOf_12 : decode cX5_endOf 12 = .ok (.getfield 45, 3) := by decide +kernel
theorem dX5_endOf_15 : decode cX5_endOf 15 = .ok (.aload_n 0, 1) := by decide +kernel
theorem dX5_endOf_16 : decode cX5_endOf 16 = .ok (.iload_n 1, 1) := by decide +kernel
theorem dX5_endOf_17 : decode cX5_endOf 17 = .ok (.invokevirtual 41, 3) := by decide +kernel
theorem dX5_endOf_20 : decode cX5_endOf 20 = .ok (.iaload, 1) := by decide +kernel
theorem dX5_endOf_21 : decode cX5_endOf 21 = .ok (.goto 16, 3) := by decide +kernel
theorem dX5_endOf_24 : decode cX5_endOf 24 = .ok (.aload_n 0, 1) := by decide +kernel
theorem dX5_endOf_25 : decode cX5_endOf 25 = .ok (.getfield 27, 3) := by decide +kernel
theorem dX5_endOf_28 : decode cX5_endOf 28 = .ok (.getfield 38, 3) := by decide +kernel
theorem dX5_endOf_31 : decode cX5_endOf 31 = .ok (.aload_n 0, 1) := by decide +kernel
theorem dX5_endOf_32 : decode cX5_endOf 32 = .ok (.iload_n 1, 1) := by decide +kernel
theorem dX5_endOf_33 : decode cX5_endOf 33 = .ok (.invokevirtual 41, 3) := by decide +kernel
theorem dX5_endOf_36 : decode cX5_endOf 36 = .ok (.iaload, 1) := by decide +kernel
theorem dX5_endOf_37 : decode cX5_endOf 37 = .ok (.ireturn, 1) := by decide +kernel
theorem dX5_strokeAt_0 : decode cX5_strokeAt 0 = .ok (.aload_n 0, 1) := by decide +kernel
theorem dX5_strokeAt_1 : decode cX5_strokeAt 1 = .ok (.iload_n 1, 1) := by decide +kernel
theorem dX5_strokeAt_2 : decode cX5_strokeAt 2 = .ok (.invokevirtual 41, 3) := by decide +kernel
theorem dX5_strokeAt_5 : decode cX5_strokeAt 5 = .ok (.istore_n 3, 1) := by decide +kernel
theorem dX5_strokeAt_6 : decode cX5_strokeAt 6 = .ok (.aload_n 0, 1) := by decide +kernel
theorem dX5_strokeAt_7 : decode cX5_strokeAt 7 = .ok (.iload_n 1, 1) := by decide +kernel
theorem dX5_strokeAt_8 : decode cX5_strokeAt 8 = .ok (.invokevirtual 34, 3) := by decide +kernel
theorem dX5_strokeAt_11 : decode cX5_strokeAt 11 = .ok (.ifCond .eq 27, 3) := by decide +kernel
theorem dX5_strokeAt_14 : decode cX5_strokeAt 14 = .ok (.aload_n 0, 1) := by decide +kernel
theorem dX5_strokeAt_15 : decode cX5_strokeAt 15 = .ok (.getfield 27, 3) := by decide +kernel
theorem dX5_strokeAt_18 : decode cX5_strokeAt 18 = .ok (.iload_n 3, 1) := by decide +kernel
theorem dX5_strokeAt_19 : decode cX5_strokeAt 19 = .ok (.aload_n 0, 1) := by decide +kernel
theorem dX5_strokeAt_20 : decode cX5_strokeAt 20 = .ok (.getfield 27, 3) := by decide +kernel
theorem dX5_strokeAt_23 : decode cX5_strokeAt 23 = .ok (.getfield 48, 3) := by decide +kernel
theorem dX5_strokeAt_26 : decode cX5_strokeAt 26 = .ok (.iload_n 3, 1) := by decide +kernel
theorem dX5_strokeAt_27 : decode cX5_strokeAt 27 = .ok (.iaload, 1) := by decide +kernel
theorem dX5_strokeAt_28 : decode cX5_strokeAt 28 = .ok (.iconst 1, 1) := by decide +kernel
theorem dX5_strokeAt_29 : decode cX5_strokeAt 29 = .ok (.isub, 1) := by decide +kernel
theorem dX5_strokeAt_30 : decode cX5_strokeAt 30 = .ok (.iload_n 2, 1) := by decide +kernel
theorem dX5_strokeAt_31 : decode cX5_strokeAt 31 = .ok (.isub, 1) := by decide +kernel
theorem dX5_strokeAt_32 : decode cX5_strokeAt 32 = .ok (.invokevirtual 51, 3) := by decide +kernel
theorem dX5_strokeAt_35 : decode cX5_strokeAt 35 = .ok (.iconst 1, 1) := by decide +kernel
theorem dX5_strokeAt_36 : decode cX5_strokeAt 36 = .ok (.ixor, 1) := by decide +kernel
theorem dX5_strokeAt_37 : decode cX5_strokeAt 37 = .ok (.ireturn, 1) := by decide +kernel
theorem dX5_strokeAt_38 : decode cX5_strokeAt 38 = .ok (.aload_n 0, 1) := by decide +kernel
theorem dX5_strokeAt_39 : decode cX5_strokeAt 39 = .ok (.getfield 27, 3) := by decide +kernel
theorem dX5_strokeAt_42 : decode cX5_strokeAt 42 = .ok (.iload_n 3, 1) := by decide +kernel
theorem dX5_strokeAt_43 : decode cX5_strokeAt 43 = .ok (.iload_n 2, 1) := by decide +kernel
theorem dX5_strokeAt_44 : decode cX5_strokeAt 44 = .ok (.invokevirtual 51, 3) := by decide +kernel
theorem dX5_strokeAt_47 : decode cX5_strokeAt 47 = .ok (.ireturn, 1) := by decide +kernel
theorem dX5_placeOf_0 : decode cX5_placeOf 0 = .ok (.iconst 0, 1) := by decide +kernel
theorem dX5_placeOf_1 : decode cX5_placeOf 1 = .ok (.istore_n 2, 1) := by decide +kernel
theorem dX5_placeOf_2 : decode cX5_placeOf 2 = .ok (.iload_n 2, 1) := by decide +kernel
theorem dX5_placeOf_3 : decode cX5_placeOf 3 = .ok (.aload_n 0, 1) := by decide +kernel
theorem dX5_placeOf_4 : decode cX5_placeOf 4 = .ok (.getfield 15, 3) := by decide +kernel
theorem dX5_placeOf_7 : decode cX5_placeOf 7 = .ok (.if_icmp .ge 20, 3) := by decide +kernel
theorem dX5_placeOf_10 : decode cX5_placeOf 10 = .ok (.aload_n 0, 1) := by decide +kernel
theorem dX5_placeOf_11 : decode cX5_placeOf 11 = .ok (.iload_n 2, 1) := by decide +kernel
theorem dX5_placeOf_12 : decode cX5_placeOf 12 = .ok (.invokevirtual 41, 3) := by decide +kernel
theorem dX5_placeOf_15 : decode cX5_placeOf 15 = .ok (.iload_n 1, 1) := by decide +kernel
theorem dX5_placeOf_16 : decode cX5_placeOf 16 = .ok (.if_icmp .ne 5, 3) := by decide +kernel
theorem dX5_placeOf_19 : decode cX5_placeOf 19 = .ok (.iload_n 2, 1) := by decide +kernel
theorem dX5_placeOf_20 : decode cX5_placeOf 20 = .ok (.ireturn, 1) := by decide +kernel
theorem dX5_placeOf_21 : decode cX5_placeOf 21 = .ok (.iinc 2 1, 3) := by decide +kernel
theorem dX5_placeOf_24 : decode cX5_placeOf 24 = .ok (.goto (-22), 3) := by decide +kernel
theorem dX5_placeOf_27 : decode cX5_placeOf 27 = .ok (.iconst (-1), 1) := by decide +kernel
theorem dX5_placeOf_28 : decode cX5_placeOf 28 = .ok (.ireturn, 1) := by decide +kernel
theorem dX5_spotAhead_0 : decode cX5_spotAhead 0 = .ok (.iload_n 1, 1) := by decide +kernel
theorem dX5_spotAhead_1 : decode cX5_spotAhead 1 = .ok (.ifCond .le 13, 3) := by decide +kernel
theorem dX5_spotAhead_4 : decode cX5_spotAhead 4 = .ok (.aload_n 0, 1) := by decide +kernel
theorem dX5_spotAhead_5 : decode cX5_spotAhead 5 = .ok (.iload_n 1, 1) := by decide +kernel
theorem dX5_spotAhead_6 : decode cX5_spotAhead 6 = .ok (.iconst 1, 1) := by decide +kernel
theorem dX5_spotAhead_7 : decode cX5_spotAhead 7 = .ok (.isub, 1) := by decide +kernel
theorem dX5_spotAhead_8 : decode cX5_spotAhead 8 = .ok (.invokevirtual 55, 3) := by decide +kernel
theorem dX5_spotAhead_11 : decode cX5_spotAhead 11 = .ok (.goto 4, 3) := by decide +kernel
theorem dX5_spotAhead_14 : decode cX5_spotAhead 14 = .ok (.iconst (-1), 1) := by decide +kernel
theorem dX5_spotAhead_15 : decode cX5_spotAhead 15 = .ok (.ireturn, 1) := by decide +kernel
theorem dX5_spotBehind_0 : decode cX5_spotBehind 0 = .ok (.iload_n 1, 1) := by decide +kernel
theorem dX5_spotBehind_1 : decode cX5_spotBehind 1 = .ok (.aload_n 0, 1) := by decide +kernel
theorem dX5_spotBehind_2 : decode cX5_spotBehind 2 = .ok (.getfield 15, 3) := by decide +kernel
theorem dX5_spotBehind_5 : decode cX5_spotBehind 5 = .ok (.iconst 1, 1) := by decide +kernel
theorem dX5_spotBehind_6 : decode cX5_spotBehind 6 = .ok (.isub, 1) := by decide +kernel
theorem dX5_spotBehind_7 : decode cX5_spotBehind 7 = .ok (.if_icmp .ge 13, 3) := by decide +kernel
theorem dX5_spotBehind_10 : decode cX5_spotBehind 10 = .ok (.aload_n 0, 1) := by decide +kernel
theorem dX5_spotBehind_11 : decode cX5_spotBehind 11 = .ok (.iload_n 1, 1) := by decide +kernel
theorem dX5_spotBehind_12 : decode cX5_spotBehind 12 = .ok (.iconst 1, 1) := by decide +kernel
theorem dX5_spotBehind_13 : decode cX5_spotBehind 13 = .ok (.iadd, 1) := by decide +kernel
theorem dX5_spotBehind_14 : decode cX5_spotBehind 14 = .ok (.invokevirtual 60, 3) := by decide +kernel
theorem dX5_spotBehind_17 : decode cX5_spotBehind 17 = .ok (.goto 4, 3) := by decide +kernel
theorem dX5_spotBehind_20 : decode cX5_spotBehind 20 = .ok (.iconst (-1), 1) := by decide +kernel
theorem dX5_spotBehind_21 : decode cX5_spotBehind 21 = .ok (.ireturn, 1) := by decide +kernel
theorem dX5_leg_0 : decode cX5_leg 0 = .ok (.aload_n 0, 1) := by decide +kernel
theorem dX5_leg_1 : decode cX5_leg 1 = .ok (.getfield 23, 3) := by decide +kernel
theorem dX5_leg_4 : decode cX5_leg 4 = .ok (.aload_n 0, 1) := by decide +kernel
theorem dX5_leg_5 : decode cX5_leg 5 = .ok (.iload_n 1, 1) := by decide +kernel
theorem dX5_leg_6 : decode cX5_leg 6 = .ok (.invokevirtual 63, 3) := by decide +kernel
theorem dX5_leg_9 : decode cX5_leg 9 = .ok (.aload_n 0, 1) := by decide +kernel
theorem dX5_leg_10 : decode cX5_leg 10 = .ok (.iload_n 1, 1) := by decide +kernel
theorem dX5_leg_11 : decode cX5_leg 11 = .ok (.iconst 1, 1) := by decide +kernel
theorem dX5_leg_12 : decode cX5_leg 12 = .ok (.isub, 1) := by decide +kernel
theorem dX5_leg_13 : decode cX5_leg 13 = .ok (.invokevirtual 66, 3) := by decide +kernel
theorem dX5_leg_16 : decode cX5_leg 16 = .ok (.invokevirtual 69, 3) := by decide +kernel
theorem dX5_leg_19 : decode cX5_leg 19 = .ok (.ireturn, 1) := by decide +kernel
theorem dX5_wholeTravel_0 : decode cX5_wholeTravel 0 = .ok (.aload_n 0, 1) := by decide +kernel
theorem dX5_wholeTravel_1 : decode cX5_wholeTravel 1 = .ok (.getfield 15, 3) := by decide +kernel
theorem dX5_wholeTravel_4 : decode cX5_wholeTravel 4 = .ok (.ifCond .ne 5, 3) := by decide +kernel
theorem dX5_wholeTravel_7 : decode cX5_wholeTravel 7 = .ok (.iconst 0, 1) := by decide +kernel
theorem dX5_wholeTravel_8 : decode cX5_wholeTravel 8 = .ok (.ireturn, 1) := by decide +kernel
theorem dX5_wholeTravel_9 : decode cX5_wholeTravel 9 = .ok (.iconst 0, 1) := by decide +kernel
theorem dX5_wholeTravel_10 : decode cX5_wholeTravel 10 = .ok (.istore_n 1, 1) := by decide +kernel
theorem dX5_wholeTravel_11 : decode cX5_wholeTravel 11 = .ok (.iconst 0, 1) := by decide +kernel
theorem dX5_wholeTravel_12 : decode cX5_wholeTravel 12 = .ok (.istore_n 2, 1) := by decide +kernel
theorem dX5_wholeTravel_13 : decode cX5_wholeTravel 13 = .ok (.iload_n 2, 1) := by decide +kernel
theorem dX5_wholeTravel_14 : decode cX5_wholeTravel 14 = .ok (.aload_n 0, 1) := by decide +kernel
theorem dX5_wholeTravel_15 : decode cX5_wholeTravel 15 = .ok (.getfield 15, 3) := by decide +kernel
theorem dX5_wholeTravel_18 : decode cX5_wholeTravel 18 = .ok (.if_icmp .gt 17, 3) := by decide +kernel
theorem dX5_wholeTravel_21 : decode cX5_wholeTravel 21 = .ok (.iload_n 1, 1) := by decide +kernel
theorem dX5_wholeTravel_22 : decode cX5_wholeTravel 22 = .ok (.aload_n 0, 1) := by decide +kernel
theorem dX5_wholeTravel_23 : decode cX5_wholeTravel 23 = .ok (.iload_n 2, 1) := by decide +kernel
theorem dX5_wholeTravel_24 : decode cX5_wholeTravel 24 = .ok (.invokevirtual 72, 3) := by decide +kernel
theorem dX5_wholeTravel_27 : decode cX5_wholeTravel 27 = .ok (.iadd, 1) := by decide +kernel
theorem dX5_wholeTravel_28 : decode cX5_wholeTravel 28 = .ok (.istore_n 1, 1) := by decide +kernel
theorem dX5_wholeTravel_29 : decode cX5_wholeTravel 29 = .ok (.iinc 2 1, 3) := by decide +kernel
theorem dX5_wholeTravel_32 : decode cX5_wholeTravel 32 = .ok (.goto (-19), 3) := by decide +kernel
theorem dX5_wholeTravel_35 : decode cX5_wholeTravel 35 = .ok (.iload_n 1, 1) := by decide +kernel
theorem dX5_wholeTravel_36 : decode cX5_wholeTravel 36 = .ok (.ireturn, 1) := by decide +kernel
theorem dX5_wholeTime_0 : decode cX5_wholeTime 0 = .ok (.aload_n 0, 1) := by decide +kernel
theorem dX5_wholeTime_1 : decode cX5_wholeTime 1 = .ok (.getfield 19, 3) := by decide +kernel
theorem dX5_wholeTime_4 : decode cX5_wholeTime 4 = .ok (.getfield 75, 3) := by decide +kernel
theorem dX5_wholeTime_7 : decode cX5_wholeTime 7 = .ok (.aload_n 0, 1) := by decide +kernel
theorem dX5_wholeTime_8 : decode cX5_wholeTime 8 = .ok (.getfield 19, 3) := by decide +kernel
theorem dX5_wholeTime_11 : decode cX5_wholeTime 11 = .ok (.invokevirtual 80, 3) := by decide +kernel
theorem dX5_wholeTime_14 : decode cX5_wholeTime 14 = .ok (.imul, 1) := by decide +kernel
theorem dX5_wholeTime_15 : decode cX5_wholeTime 15 = .ok (.aload_n 0, 1) := by decide +kernel
theorem dX5_wholeTime_16 : decode cX5_wholeTime 16 = .ok (.getfield 19, 3) := by decide +kernel
theorem dX5_wholeTime_19 : decode cX5_wholeTime 19 = .ok (.getfield 84, 3) := by decide +kernel
theorem dX5_wholeTime_22 : decode cX5_wholeTime 22 = .ok (.aload_n 0, 1) := by decide +kernel
theorem dX5_wholeTime_23 : decode cX5_wholeTime 23 = .ok (.invokevirtual 87, 3) := by decide +kernel
theorem dX5_wholeTime_26 : decode cX5_wholeTime 26 = .ok (.imul, 1) := by decide +kernel
theorem dX5_wholeTime_27 : decode cX5_wholeTime 27 = .ok (.iadd, 1) := by decide +kernel
theorem dX5_wholeTime_28 : decode cX5_wholeTime 28 = .ok (.ireturn, 1) := by decide +kernel
theorem dX5_changeBy_0 : decode cX5_changeBy 0 = .ok (.aload_n 0, 1) := by decide +kernel
theorem dX5_changeBy_1 : decode cX5_changeBy 1 = .ok (.iload_n 1, 1) := by decide +kernel
theorem dX5_changeBy_2 : decode cX5_changeBy 2 = .ok (.invokevirtual 63, 3) := by decide +kernel
theorem dX5_changeBy_5 : decode cX5_changeBy 5 = .ok (.istore_n 3, 1) := by decide +kernel
theorem dX5_changeBy_6 : decode cX5_changeBy 6 = .ok (.aload_n 0, 1) := by decide +kernel
theorem dX5_changeBy_7 : decode cX5_changeBy 7 = .ok (.iload_n 2, 1) := by decide +kernel
theorem dX5_changeBy_8 : decode cX5_changeBy 8 = .ok (.invokevirtual 66, 3) := by decide +kernel
theorem dX5_changeBy_11 : decode cX5_changeBy 11 = .ok (.istore 4, 2) := by decide +kernel
theorem dX5_changeBy_13 : decode cX5_changeBy 13 = .ok (.aload_n 0, 1) := by decide +kernel
theorem dX5_changeBy_14 : decode cX5_changeBy 14 = .ok (.getfield 23, 3) := by decide +kernel
theorem dX5_changeBy_17 : decode cX5_changeBy 17 = .ok (.iload_n 3, 1) := by decide +kernel
theorem dX5_changeBy_18 : decode cX5_changeBy 18 = .ok (.aload_n 0, 1) := by decide +kernel
theorem dX5_changeBy_19 : decode cX5_changeBy 19 = .ok (.iload_n 1, 1) := by decide +kernel
theorem dX5_changeBy_20 : decode cX5_changeBy 20 = .ok (.invokevirtual 60, 3) := by decide +kernel
theorem dX5_changeBy_23 : decode cX5_changeBy 23 = .ok (.invokevirtual 69, 3) := by decide +kernel
theorem dX5_changeBy_26 : decode cX5_changeBy 26 = .ok (.aload_n 0, 1) := by decide +kernel
theorem dX5_changeBy_27 : decode cX5_changeBy 27 = .ok (.getfield 23, 3) := by decide +kernel
theorem dX5_changeBy_30 : decode cX5_changeBy 30 = .ok (.aload_n 0, 1) := by decide +kernel
theorem dX5_changeBy_31 : decode cX5_changeBy 31 = .ok (.iload_n 2, 1) := by decide +kernel
theorem dX5_changeBy_32 : decode cX5_changeBy 32 = .ok (.invokevirtual 55, 3) := by decide +kernel
theorem dX5_changeBy_35 : decode cX5_changeBy 35 = .ok (.iload 4, 2) := by decide +kernel
theorem dX5_changeBy_37 : decode cX5_changeBy 37 = .ok (.invokevirtual 69, 3) := by decide +kernel
theorem dX5_changeBy_40 : decode cX5_changeBy 40 = .ok (.iadd, 1) := by decide +kernel
theorem dX5_changeBy_41 : decode cX5_changeBy 41 = .ok (.istore 5, 2) := by decide +kernel
theorem dX5_changeBy_43 : decode cX5_changeBy 43 = .ok (.aload_n 0, 1) := by decide +kernel
theorem dX5_changeBy_44 : decode cX5_changeBy 44 = .ok (.getfield 23, 3) := by decide +kernel
theorem dX5_changeBy_47 : decode cX5_changeBy 47 = .ok (.iload_n 3, 1) := by decide +kernel
theorem dX5_changeBy_48 : decode cX5_changeBy 48 = .ok (.aload_n 0, 1) := by decide +kernel
theorem dX5_changeBy_49 : decode cX5_changeBy 49 = .ok (.iload_n 2, 1) := by decide +kernel
theorem dX5_changeBy_50 : decode cX5_changeBy 50 = .ok (.invokevirtual 55, 3) := by decide +kernel
theorem dX5_changeBy_53 : decode cX5_changeBy 53 = .ok (.invokevirtual 69, 3) := by decide +kernel
theorem dX5_changeBy_56 : decode cX5_changeBy 56 = .ok (.aload_n 0, 1) := by decide +kernel
theorem dX5_changeBy_57 : decode cX5_changeBy 57 = .ok (.getfield 23, 3) := by decide +kernel
theorem dX5_changeBy_60 : decode cX5_changeBy 60 = .ok (.aload_n 0, 1) := by decide +kernel
theorem dX5_changeBy_61 : decode cX5_changeBy 61 = .ok (.iload_n 1, 1) := by decide +kernel
theorem dX5_changeBy_62 : decode cX5_changeBy 62 = .ok (.invokevirtual 60, 3) := by decide +kernel
theorem dX5_changeBy_65 : decode cX5_changeBy 65 = .ok (.iload 4, 2) := by decide +kernel
theorem dX5_changeBy_67 : decode cX5_changeBy 67 = .ok (.invokevirtual 69, 3) := by decide +kernel
theorem dX5_changeBy_70 : decode cX5_changeBy 70 = .ok (.iadd, 1) := by decide +kernel
theorem dX5_changeBy_71 : decode cX5_changeBy 71 = .ok (.istore 6, 2) := by decide +kernel
theorem dX5_changeBy_73 : decode cX5_changeBy 73 = .ok (.iload 6, 2) := by decide +kernel
theorem dX5_changeBy_75 : decode cX5_changeBy 75 = .ok (.iload 5, 2) := by decide +kernel
theorem dX5_changeBy_77 : decode cX5_changeBy 77 = .ok (.isub, 1) := by decide +kernel
theorem dX5_changeBy_78 : decode cX5_changeBy 78 = .ok (.ireturn, 1) := by decide +kernel
theorem dX5_turnRun_0 : decode cX5_turnRun 0 = .ok (.iload_n 1, 1) := by decide +kernel
theorem dX5_turnRun_1 : decode cX5_turnRun 1 = .ok (.istore_n 3, 1) := by decide +kernel
theorem dX5_turnRun_2 : decode cX5_turnRun 2 = .ok (.iload_n 2, 1) := by decide +kernel
theorem dX5_turnRun_3 : decode cX5_turnRun 3 = .ok (.istore 4, 2) := by decide +kernel
theorem dX5_turnRun_5 : decode cX5_turnRun 5 = .ok (.iload_n 3, 1) := by decide +kernel
theorem dX5_turnRun_6 : decode cX5_turnRun 6 = .ok (.iload 4, 2) := by decide +kernel
theorem dX5_turnRun_8 : decode cX5_turnRun 8 = .ok (.if_icmp .gt 46, 3) := by decide +kernel
theorem dX5_turnRun_11 : decode cX5_turnRun 11 = .ok (.aload_n 0, 1) := by decide +kernel
theorem dX5_turnRun_12 : decode cX5_turnRun 12 = .ok (.getfield 9, 3) := by decide +kernel
theorem dX5_turnRun_15 : decode cX5_turnRun 15 = .ok (.iload_n 3, 1) := by decide +kernel
theorem dX5_turnRun_16 : decode cX5_turnRun 16 = .ok (.iaload, 1) := by decide +kernel
theorem dX5_turnRun_17 : decode cX5_turnRun 17 = .ok (.iconst 1, 1) := by decide +kernel
theorem dX5_turnRun_18 : decode cX5_turnRun 18 = .ok (.ixor, 1) := by decide +kernel
theorem dX5_turnRun_19 : decode cX5_turnRun 19 = .ok (.istore 5, 2) := by decide +kernel
theorem dX5_turnRun_21 : decode cX5_turnRun 21 = .ok (.aload_n 0, 1) := by decide +kernel
theorem dX5_turnRun_22 : decode cX5_turnRun 22 = .ok (.getfield 9, 3) := by decide +kernel
theorem dX5_turnRun_25 : decode cX5_turnRun 25 = .ok (.iload_n 3, 1) := by decide +kernel
theorem dX5_turnRun_26 : decode cX5_turnRun 26 = .ok (.aload_n 0, 1) := by decide +kernel
theorem dX5_turnRun_27 : decode cX5_turnRun 27 = .ok (.getfield 9, 3) := by decide +kernel
theorem dX5_turnRun_30 : decode cX5_turnRun 30 = .ok (.iload 4, 2) := by decide +kernel
theorem dX5_turnRun_32 : decode cX5_turnRun 32 = .ok (.iaload, 1) := by decide +kernel
theorem dX5_turnRun_33 : decode cX5_turnRun 33 = .ok (.iconst 1, 1) := by decide +kernel
theorem dX5_turnRun_34 : decode cX5_turnRun 34 = .ok (.ixor, 1) := by decide +kernel
theorem dX5_turnRun_35 : decode cX5_turnRun 35 = .ok (.iastore, 1) := by decide +kernel
theorem dX5_turnRun_36 : decode cX5_turnRun 36 = .ok (.aload_n 0, 1) := by decide +kernel
theorem dX5_turnRun_37 : decode cX5_turnRun 37 = .ok (.getfield 9, 3) := by decide +kernel
theorem dX5_turnRun_40 : decode cX5_turnRun 40 = .ok (.iload 4, 2) := by decide +kernel
theorem dX5_turnRun_42 : decode cX5_turnRun 42 = .ok (.iload 5, 2) := by decide +kernel
theorem dX5_turnRun_44 : decode cX5_turnRun 44 = .ok (.iastore, 1) := by decide +kernel
theorem dX5_turnRun_45 : decode cX5_turnRun 45 = .ok (.iinc 3 1, 3) := by decide +kernel
theorem dX5_turnRun_48 : decode cX5_turnRun 48 = .ok (.iinc 4 (-1), 3) := by decide +kernel
theorem dX5_turnRun_51 : decode cX5_turnRun 51 = .ok (.goto (-46), 3) := by decide +kernel
theorem dX5_turnRun_54 : decode cX5_turnRun 54 = .ok (.return_, 1) := by decide +kernel
theorem dX5_makeBetter_0 : decode cX5_makeBetter 0 = .ok (.iconst 0, 1) := by decide +kernel
theorem dX5_makeBetter_1 : decode cX5_makeBetter 1 = .ok (.istore_n 1, 1) := by decide +kernel
theorem dX5_makeBetter_2 : decode cX5_makeBetter 2 = .ok (.iload_n 1, 1) := by decide +kernel
theorem dX5_makeBetter_3 : decode cX5_makeBetter 3 = .ok (.sipush 200, 3) := by decide +kernel
theorem dX5_makeBetter_6 : decode cX5_makeBetter 6 = .ok (.if_icmp .ge 18, 3) := by decide +kernel
theorem dX5_makeBetter_9 : decode cX5_makeBetter 9 = .ok (.aload_n 0, 1) := by decide +kernel
theorem dX5_makeBetter_10 : decode cX5_makeBetter 10 = .ok (.invokevirtual 90, 3) := by decide +kernel
theorem dX5_makeBetter_13 : decode cX5_makeBetter 13 = .ok (.ifCond .ne 5, 3) := by decide +kernel
theorem dX5_makeBetter_16 : decode cX5_makeBetter 16 = .ok (.iload_n 1, 1) := by decide +kernel
theorem dX5_makeBetter_17 : decode cX5_makeBetter 17 = .ok (.ireturn, 1) := by decide +kernel
theorem dX5_makeBetter_18 : decode cX5_makeBetter 18 = .ok (.iinc 1 1, 3) := by decide +kernel
theorem dX5_makeBetter_21 : decode cX5_makeBetter 21 = .ok (.goto (-19), 3) := by decide +kernel
theorem dX5_makeBetter_24 : decode cX5_makeBetter 24 = .ok (.sipush 200, 3) := by decide +kernel
theorem dX5_makeBetter_27 : decode cX5_makeBetter 27 = .ok (.ireturn, 1) := by decide +kernel
theorem dX5_turnsFirstThatWins_0 : decode cX5_turnsFirstThatWins 0 = .ok (.iconst 0, 1) := by decide +kernel
theorem dX5_turnsFirstThatWins_1 : decode cX5_turnsFirstThatWins 1 = .ok (.istore_n 1, 1) := by decide +kernel
theorem dX5_turnsFirstThatWins_2 : decode cX5_turnsFirstThatWins 2 = .ok (.iload_n 1, 1) := by decide +kernel
theorem dX5_turnsFirstThatWins_3 : decode cX5_turnsFirstThatWins 3 = .ok (.aload_n 0, 1) := by decide +kernel
theorem dX5_turnsFirstThatWins_4 : decode cX5_turnsFirstThatWins 4 = .ok (.getfield 15, 3) := by decide +kernel
theorem dX5_turnsFirstThatWins_7 : decode cX5_turnsFirstThatWins 7 = .ok (.if_icmp .ge 42, 3) := by decide +kernel
theorem dX5_turnsFirstThatWins_10 : decode cX5_turnsFirstThatWins 10 = .ok (.iload_n 1, 1) := by decide +kernel
theorem dX5_turnsFirstThatWins_11 : decode cX5_turnsFirstThatWins 11 = .ok (.istore_n 2, 1) := by decide +kernel
theorem dX5_turnsFirstThatWins_12 : decode cX5_turnsFirstThatWins 12 = .ok (.iload_n 2, 1) := by decide +kernel
theorem dX5_turnsFirstThatWins_13 : decode cX5_turnsFirstThatWins 13 = .ok (.aload_n 0, 1) := by decide +kernel
theorem dX5_turnsFirstThatWins_14 : decode cX5_turnsFirstThatWins 14 = .ok (.getfield 15, 3) := by decide +kernel
theorem dX5_turnsFirstThatWins_17 : decode cX5_turnsFirstThatWins 17 = .ok (.if_icmp .ge 26, 3) := by decide +kernel
theorem dX5_turnsFirstThatWins_20 : decode cX5_turnsFirstThatWins 20 = .ok (.aload_n 0, 1) := by decide +kernel
theorem dX5_turnsFirstThatWins_21 : decode cX5_turnsFirstThatWins 21 = .ok (.iload_n 1, 1) := by decide +kernel
theorem dX5_turnsFirstThatWins_22 : decode cX5_turnsFirstThatWins 22 = .ok (.iload_n 2, 1) := by decide +kernel
theorem dX5_turnsFirstThatWins_23 : decode cX5_turnsFirstThatWins 23 = .ok (.invokevirtual 94, 3) := by decide +kernel
theorem dX5_turnsFirstThatWins_26 : decode cX5_turnsFirstThatWins 26 = .ok (.ifCond .ge 11, 3) := by decide +kernel
theorem dX5_turnsFirstThatWins_29 : decode cX5_turnsFirstThatWins 29 = .ok (.aload_n 0, 1) := by decide +kernel
theorem dX5_turnsFirstThatWins_30 : decode cX5_turnsFirstThatWins 30 = .ok (.iload_n 1, 1) := by decide +kernel
theorem dX5_turnsFirstThatWins_31 : decode cX5_turnsFirstThatWins 31 = .ok (.iload_n 2, 1) := by decide +kernel
theorem dX5_turnsFirstThatWins_32 : decode cX5_turnsFirstThatWins 32 = .ok (.invokevirtual 97, 3) := by decide +kernel
theorem dX5_turnsFirstThatWins_35 : decode cX5_turnsFirstThatWins 35 = .ok (.iconst 1, 1) := by decide +kernel
theorem dX5_turnsFirstThatWins_36 : decode cX5_turnsFirstThatWins 36 = .ok (.ireturn, 1) := by decide +kernel
theorem dX5_turnsFirstThatWins_37 : decode cX5_turnsFirstThatWins 37 = .ok (.iinc 2 1, 3) := by decide +kernel
theorem dX5_turnsFirstThatWins_40 : decode cX5_turnsFirstThatWins 40 = .ok (.goto (-28), 3) := by decide +kernel
theorem dX5_turnsFirstThatWins_43 : decode cX5_turnsFirstThatWins 43 = .ok (.iinc 1 1, 3) := by decide +kernel
theorem dX5_turnsFirstThatWins_46 : decode cX5_turnsFirstThatWins 46 = .ok (.goto (-44), 3) := by decide +kernel
theorem dX5_turnsFirstThatWins_49 : decode cX5_turnsFirstThatWins 49 = .ok (.iconst 0, 1) := by decide +kernel
theorem dX5_turnsFirstThatWins_50 : decode cX5_turnsFirstThatWins 50 = .ok (.ireturn, 1) := by decide +kernel
theorem dX5_penAt_0 : decode cX5_penAt 0 = .ok (.iconst 0, 1) := by decide +kernel
theorem dX5_penAt_1 : decode cX5_penAt 1 = .ok (.istore_n 3, 1) := by decide +kernel
theorem dX5_penAt_2 : decode cX5_penAt 2 = .ok (.iconst 0, 1) := by decide +kernel
theorem dX5_penAt_3 : decode cX5_penAt 3 = .ok (.istore 4, 2) := by decide +kernel
theorem dX5_penAt_5 : decode cX5_penAt 5 = .ok (.iconst 0, 1) := by decide +kernel
theorem dX5_penAt_6 : decode cX5_penAt 6 = .ok (.istore 5, 2) := by decide +kernel
theorem dX5_penAt_8 : decode cX5_penAt 8 = .ok (.iload 5, 2) := by decide +kernel
theorem dX5_penAt_10 : decode cX5_penAt 10 = .ok (.aload_n 0, 1) := by decide +kernel
theorem dX5_penAt_11 : decode cX5_penAt 11 = .ok (.getfield 15, 3) := by decide +kernel
theorem dX5_penAt_14 : decode cX5_penAt 14 = .ok (.if_icmp .ge 115, 3) := by decide +kernel
theorem dX5_penAt_17 : decode cX5_penAt 17 = .ok (.iload_n 3, 1) := by decide +kernel
theorem dX5_penAt_18 : decode cX5_penAt 18 = .ok (.aload_n 0, 1) := by decide +kernel
theorem dX5_penAt_19 : decode cX5_penAt 19 = .ok (.getfield 19, 3) := by decide +kernel
theorem dX5_penAt_22 : decode cX5_penAt 22 = .ok (.getfield 84, 3) := by decide +kernel
theorem dX5_penAt_25 : decode cX5_penAt 25 = .ok (.aload_n 0, 1) := by decide +kernel
theorem dX5_penAt_26 : decode cX5_penAt 26 = .ok (.iload 5, 2) := by decide +kernel
theorem dX5_penAt_28 : decode cX5_penAt 28 = .ok (.invokevirtual 72, 3) := by decide +kernel
theorem dX5_penAt_31 : decode cX5_penAt 31 = .ok (.imul, 1) := by decide +kernel
theorem dX5_penAt_32 : decode cX5_penAt 32 = .ok (.iadd, 1) := by decide +kernel
theorem dX5_penAt_33 : decode cX5_penAt 33 = .ok (.istore_n 3, 1) := by decide +kernel
theorem dX5_penAt_34 : decode cX5_penAt 34 = .ok (.iload_n 1, 1) := by decide +kernel
theorem dX5_penAt_35 : decode cX5_penAt 35 = .ok (.iload_n 3, 1) := by decide +kernel
theorem dX5_penAt_36 : decode cX5_penAt 36 = .ok (.if_icmp .ge 13, 3) := by decide +kernel
theorem dX5_penAt_39 : decode cX5_penAt 39 = .ok (.iload_n 2, 1) := by decide +kernel
theorem dX5_penAt_40 : decode cX5_penAt 40 = .ok (.iload 4, 2) := by decide +kernel
theorem dX5_penAt_42 : decode cX5_penAt 42 = .ok (.iconst 0, 1) := by decide +kernel
theorem dX5_penAt_43 : decode cX5_penAt 43 = .ok (.iload 5, 2) := by decide +kernel
theorem dX5_penAt_45 : decode cX5_penAt 45 = .ok (.invokestatic 101, 3) := by decide +kernel
theorem dX5_penAt_48 : decode cX5_penAt 48 = .ok (.ireturn, 1) := by decide +kernel
theorem dX5_penAt_49 : decode cX5_penAt 49 = .ok (.iconst 0, 1) := by decide +kernel
theorem dX5_penAt_50 : decode cX5_penAt 50 = .ok (.istore 6, 2) := by decide +kernel
theorem dX5_penAt_52 : decode cX5_penAt 52 = .ok (.iload 6, 2) := by decide +kernel
theorem dX5_penAt_54 : decode cX5_penAt 54 = .ok (.aload_n 0, 1) := by decide +kernel
theorem dX5_penAt_55 : decode cX5_penAt 55 = .ok (.getfield 27, 3) := by decide +kernel
theorem dX5_penAt_58 : decode cX5_penAt 58 = .ok (.getfield 48, 3) := by decide +kernel
theorem dX5_penAt_61 : decode cX5_penAt 61 = .ok (.aload_n 0, 1) := by decide +kernel
theorem dX5_penAt_62 : decode cX5_penAt 62 = .ok (.iload 5, 2) := by decide +kernel
theorem dX5_penAt_64 : decode cX5_penAt 64 = .ok (.invokevirtual 41, 3) := by decide +kernel
theorem dX5_penAt_67 : decode cX5_penAt 67 = .ok (.iaload, 1) := by decide +kernel
theorem dX5_penAt_68 : decode cX5_penAt 68 = .ok (.if_icmp .ge 55, 3) := by decide +kernel
theorem dX5_penAt_71 : decode cX5_penAt 71 = .ok (.iload_n 3, 1) := by decide +kernel
theorem dX5_penAt_72 : decode cX5_penAt 72 = .ok (.aload_n 0, 1) := by decide +kernel
theorem dX5_penAt_73 : decode cX5_penAt 73 = .ok (.getfield 19, 3) := by decide +kernel
theorem dX5_penAt_76 : decode cX5_penAt 76 = .ok (.getfield 75, 3) := by decide +kernel
theorem dX5_penAt_79 : decode cX5_penAt 79 = .ok (.aload_n 0, 1) := by decide +kernel
theorem dX5_penAt_80 : decode cX5_penAt 80 = .ok (.getfield 19, 3) := by decide +kernel
theorem dX5_penAt_83 : decode cX5_penAt 83 = .ok (.aload_n 0, 1) := by decide +kernel
theorem dX5_penAt_84 : decode cX5_penAt 84 = .ok (.iload 5, 2) := by decide +kernel
theorem dX5_penAt_86 : decode cX5_penAt 86 = .ok (.iload 6, 2) := by decide +kernel
theorem dX5_penAt_88 : decode cX5_penAt 88 = .ok (.invokevirtual 105, 3) := by decide +kernel
theorem dX5_penAt_91 : decode cX5_penAt 91 = .ok (.iconst 2, 1) := by decide +kernel
theorem dX5_penAt_92 : decode cX5_penAt 92 = .ok (.idiv, 1) := by decide +kernel
theorem dX5_penAt_93 : decode cX5_penAt 93 = .ok (.invokevirtual 108, 3) := by decide +kernel
theorem dX5_penAt_96 : decode cX5_penAt 96 = .ok (.imul, 1) := by decide +kernel
theorem dX5_penAt_97 : decode cX5_penAt 97 = .ok (.iadd, 1) := by decide +kernel
theorem dX5_penAt_98 : decode cX5_penAt 98 = .ok (.istore_n 3, 1) := by decide +kernel
theorem dX5_penAt_99 : decode cX5_penAt 99 = .ok (.iload_n 1, 1) := by decide +kernel
theorem dX5_penAt_100 : decode cX5_penAt 100 = .ok (.iload_n 3, 1) := by decide +kernel
theorem dX5_penAt_101 : decode cX5_penAt 101 = .ok (.if_icmp .ge 13, 3) := by decide +kernel
theorem dX5_penAt_104 : decode cX5_penAt 104 = .ok (.iload_n 2, 1) := by decide +kernel
theorem dX5_penAt_105 : decode cX5_penAt 105 = .ok (.iload 4, 2) := by decide +kernel
theorem dX5_penAt_107 : decode cX5_penAt 107 = .ok (.iconst 1, 1) := by decide +kernel
theorem dX5_penAt_108 : decode cX5_penAt 108 = .ok (.iload 5, 2) := by decide +kernel
theorem dX5_penAt_110 : decode cX5_penAt 110 = .ok (.invokestatic 101, 3) := by decide +kernel
theorem dX5_penAt_113 : decode cX5_penAt 113 = .ok (.ireturn, 1) := by decide +kernel
theorem dX5_penAt_114 : decode cX5_penAt 114 = .ok (.iinc 4 1, 3) := by decide +kernel
theorem dX5_penAt_117 : decode cX5_penAt 117 = .ok (.iinc 6 1, 3) := by decide +kernel
theorem dX5_penAt_120 : decode cX5_penAt 120 = .ok (.goto (-68), 3) := by decide +kernel
theorem dX5_penAt_123 : decode cX5_penAt 123 = .ok (.iinc 5 1, 3) := by decide +kernel
theorem dX5_penAt_126 : decode cX5_penAt 126 = .ok (.goto (-118), 3) := by decide +kernel
theorem dX5_penAt_129 : decode cX5_penAt 129 = .ok (.iload_n 2, 1) := by decide +kernel
theorem dX5_penAt_130 : decode cX5_penAt 130 = .ok (.iload 4, 2) := by decide +kernel
theorem dX5_penAt_132 : decode cX5_penAt 132 = .ok (.iconst 0, 1) := by decide +kernel
theorem dX5_penAt_133 : decode cX5_penAt 133 = .ok (.aload_n 0, 1) := by decide +kernel
theorem dX5_penAt_134 : decode cX5_penAt 134 = .ok (.getfield 15, 3) := by decide +kernel
theorem dX5_penAt_137 : decode cX5_penAt 137 = .ok (.invokestatic 101, 3) := by decide +kernel
theorem dX5_penAt_140 : decode cX5_penAt 140 = .ok (.ireturn, 1) := by decide +kernel
theorem dX5_ofPen_0 : decode cX5_ofPen 0 = .ok (.iload_n 0, 1) := by decide +kernel
theorem dX5_ofPen_1 : decode cX5_ofPen 1 = .ok (.ifCond .ne 5, 3) := by decide +kernel
theorem dX5_ofPen_4 : decode cX5_ofPen 4 = .ok (.iload_n 1, 1) := by decide +kernel
theorem dX5_ofPen_5 : decode cX5_ofPen 5 = .ok (.ireturn, 1) := by decide +kernel
theorem dX5_ofPen_6 : decode cX5_ofPen 6 = .ok (.iload_n 0, 1) := by decide +kernel
theorem dX5_ofPen_7 : decode cX5_ofPen 7 = .ok (.iconst 1, 1) := by decide +kernel
theorem dX5_ofPen_8 : decode cX5_ofPen 8 = .ok (.if_icmp .ne 7, 3) := by decide +kernel
theorem dX5_ofPen_11 : decode cX5_ofPen 11 = .ok (.iload_n 2, 1) := by decide +kernel
theorem dX5_ofPen_12 : decode cX5_ofPen 12 = .ok (.goto 4, 3) := by decide +kernel
theorem dX5_ofPen_15 : decode cX5_ofPen 15 = .ok (.iload_n 3, 1) := by decide +kernel
theorem dX5_ofPen_16 : decode cX5_ofPen 16 = .ok (.ireturn, 1) := by decide +kernel
theorem dX5_longestPlace_0 : decode cX5_longestPlace 0 = .ok (.bipush (-2), 2) := by decide +kernel
theorem dX5_longestPlace_2 : decode cX5_longestPlace 2 = .ok (.istore_n 1, 1) := by decide +kernel
theorem dX5_longestPlace_3 : decode cX5_longestPlace 3 = .ok (.iconst 0, 1) := by decide +kernel
theorem dX5_longestPlace_4 : decode cX5_longestPlace 4 = .ok (.istore_n 2, 1) := by decide +kernel
theorem dX5_longestPlace_5 : decode cX5_longestPlace 5 = .ok (.iconst 0, 1) := by decide +kernel
theorem dX5_longestPlace_6 : decode cX5_longestPlace 6 = .ok (.istore_n 3, 1) := by decide +kernel
theorem dX5_longestPlace_7 : decode cX5_longestPlace 7 = .ok (.iload_n 3, 1) := by decide +kernel
theorem dX5_longestPlace_8 : decode cX5_longestPlace 8 = .ok (.aload_n 0, 1) := by decide +kernel
theorem dX5_longestPlace_9 : decode cX5_longestPlace 9 = .ok (.getfield 15, 3) := by decide +kernel
theorem dX5_longestPlace_12 : decode cX5_longestPlace 12 = .ok (.if_icmp .ge 41, 3) := by decide +kernel
theorem dX5_longestPlace_15 : decode cX5_longestPlace 15 = .ok (.aload_n 0, 1) := by decide +kernel
theorem dX5_longestPlace_16 : decode cX5_longestPlace 16 = .ok (.getfield 27, 3) := by decide +kernel
theorem dX5_longestPlace_19 : decode cX5_longestPlace 19 = .ok (.getfield 111, 3) := by decide +kernel
theorem dX5_longestPlace_22 : decode cX5_longestPlace 22 = .ok (.aload_n 0, 1) := by decide +kernel
theorem dX5_longestPlace_23 : decode cX5_longestPlace 23 = .ok (.iload_n 3, 1) := by decide +kernel
theorem dX5_longestPlace_24 : decode cX5_longestPlace 24 = .ok (.invokevirtual 41, 3) := by decide +kernel
theorem dX5_longestPlace_27 : decode cX5_longestPlace 27 = .ok (.iaload, 1) := by decide +kernel
theorem dX5_longestPlace_28 : decode cX5_longestPlace 28 = .ok (.istore 4, 2) := by decide +kernel
theorem dX5_longestPlace_30 : decode cX5_longestPlace 30 = .ok (.iload_n 1, 1) := by decide +kernel
theorem dX5_longestPlace_31 : decode cX5_longestPlace 31 = .ok (.bipush (-2), 2) := by decide +kernel
theorem dX5_longestPlace_33 : decode cX5_longestPlace 33 = .ok (.if_icmp .eq 9, 3) := by decide +kernel
theorem dX5_longestPlace_36 : decode cX5_longestPlace 36 = .ok (.iload 4, 2) := by decide +kernel
theorem dX5_longestPlace_38 : decode cX5_longestPlace 38 = .ok (.iload_n 2, 1) := by decide +kernel
theorem dX5_longestPlace_39 : decode cX5_longestPlace 39 = .ok (.if_icmp .le 8, 3) := by decide +kernel
theorem dX5_longestPlace_42 : decode cX5_longestPlace 42 = .ok (.iload_n 3, 1) := by decide +kernel
theorem dX5_longestPlace_43 : decode cX5_longestPlace 43 = .ok (.istore_n 1, 1) := by decide +kernel
theorem dX5_longestPlace_44 : decode cX5_longestPlace 44 = .ok (.iload 4, 2) := by decide +kernel
theorem dX5_longestPlace_46 : decode cX5_longestPlace 46 = .ok (.istore_n 2, 1) := by decide +kernel
theorem dX5_longestPlace_47 : decode cX5_longestPlace 47 = .ok (.iinc 3 1, 3) := by decide +kernel
theorem dX5_longestPlace_50 : decode cX5_longestPlace 50 = .ok (.goto (-43), 3) := by decide +kernel
theorem dX5_longestPlace_53 : decode cX5_longestPlace 53 = .ok (.iload_n 1, 1) := by decide +kernel
theorem dX5_longestPlace_54 : decode cX5_longestPlace 54 = .ok (.ireturn, 1) := by decide +kernel
theorem dX5_farthestLeg_0 : decode cX5_farthestLeg 0 = .ok (.aload_n 0, 1) := by decide +kernel
theorem dX5_farthestLeg_1 : decode cX5_farthestLeg 1 = .ok (.getfield 15, 3) := by decide +kernel
theorem dX5_farthestLeg_4 : decode cX5_farthestLeg 4 = .ok (.ifCond .ne 6, 3) := by decide +kernel
theorem dX5_farthestLeg_7 : decode cX5_farthestLeg 7 = .ok (.bipush (-2), 2) := by decide +kernel
theorem dX5_farthestLeg_9 : decode cX5_farthestLeg 9 = .ok (.ireturn, 1) := by decide +kernel
theorem dX5_farthestLeg_10 : decode cX5_farthestLeg 10 = .ok (.iconst 0, 1) := by decide +kernel
theorem dX5_farthestLeg_11 : decode cX5_farthestLeg 11 = .ok (.istore_n 1, 1) := by decide +kernel
theorem dX5_farthestLeg_12 : decode cX5_farthestLeg 12 = .ok (.iconst 1, 1) := by decide +kernel
theorem dX5_farthestLeg_13 : decode cX5_farthestLeg 13 = .ok (.istore_n 2, 1) := by decide +kernel
theorem dX5_farthestLeg_14 : decode cX5_farthestLeg 14 = .ok (.iload_n 2, 1) := by decide +kernel
theorem dX5_farthestLeg_15 : decode cX5_farthestLeg 15 = .ok (.aload_n 0, 1) := by decide +kernel
theorem dX5_farthestLeg_16 : decode cX5_farthestLeg 16 = .ok (.getfield 15, 3) := by decide +kernel
theorem dX5_farthestLeg_19 : decode cX5_farthestLeg 19 = .ok (.if_icmp .gt 24, 3) := by decide +kernel
theorem dX5_farthestLeg_22 : decode cX5_farthestLeg 22 = .ok (.aload_n 0, 1) := by decide +kernel
theorem dX5_farthestLeg_23 : decode cX5_farthestLeg 23 = .ok (.iload_n 2, 1) := by decide +kernel
theorem dX5_farthestLeg_24 : decode cX5_farthestLeg 24 = .ok (.invokevirtual 72, 3) := by decide +kernel
theorem dX5_farthestLeg_27 : decode cX5_farthestLeg 27 = .ok (.aload_n 0, 1) := by decide +kernel
theorem dX5_farthestLeg_28 : decode cX5_farthestLeg 28 = .ok (.iload_n 1, 1) := by decide +kernel
theorem dX5_farthestLeg_29 : decode cX5_farthestLeg 29 = .ok (.invokevirtual 72, 3) := by decide +kernel
theorem dX5_farthestLeg_32 : decode cX5_farthestLeg 32 = .ok (.if_icmp .le 5, 3) := by decide +kernel
theorem dX5_farthestLeg_35 : decode cX5_farthestLeg 35 = .ok (.iload_n 2, 1) := by decide +kernel
theorem dX5_farthestLeg_36 : decode cX5_farthestLeg 36 = .ok (.istore_n 1, 1) := by decide +kernel
theorem dX5_farthestLeg_37 : decode cX5_farthestLeg 37 = .ok (.iinc 2 1, 3) := by decide +kernel
theorem dX5_farthestLeg_40 : decode cX5_farthestLeg 40 = .ok (.goto (-26), 3) := by decide +kernel
theorem dX5_farthestLeg_43 : decode cX5_farthestLeg 43 = .ok (.iload_n 1, 1) := by decide +kernel
theorem dX5_farthestLeg_44 : decode cX5_farthestLeg 44 = .ok (.ireturn, 1) := by decide +kernel
theorem dX5_liftsBetween_0 : decode cX5_liftsBetween 0 = .ok (.iconst 0, 1) := by decide +kernel
theorem dX5_liftsBetween_1 : decode cX5_liftsBetween 1 = .ok (.istore_n 1, 1) := by decide +kernel
theorem dX5_liftsBetween_2 : decode cX5_liftsBetween 2 = .ok (.iconst 1, 1) := by decide +kernel
theorem dX5_liftsBetween_3 : decode cX5_liftsBetween 3 = .ok (.istore_n 2, 1) := by decide +kernel
theorem dX5_liftsBetween_4 : decode cX5_liftsBetween 4 = .ok (.iload_n 2, 1) := by decide +kernel
theorem dX5_liftsBetween_5 : decode cX5_liftsBetween 5 = .ok (.aload_n 0, 1) := by decide +kernel
theorem dX5_liftsBetween_6 : decode cX5_liftsBetween 6 = .ok (.getfield 15, 3) := by decide +kernel
theorem dX5_liftsBetween_9 : decode cX5_liftsBetween 9 = .ok (.if_icmp .ge 20, 3) := by decide +kernel
theorem dX5_liftsBetween_12 : decode cX5_liftsBetween 12 = .ok (.aload_n 0, 1) := by decide +kernel
theorem dX5_liftsBetween_13 : decode cX5_liftsBetween 13 = .ok (.iload_n 2, 1) := by decide +kernel
theorem dX5_liftsBetween_14 : decode cX5_liftsBetween 14 = .ok (.invokevirtual 72, 3) := by decide +kernel
theorem dX5_liftsBetween_17 : decode cX5_liftsBetween 17 = .ok (.ifCond .le 6, 3) := by decide +kernel
theorem dX5_liftsBetween_20 : decode cX5_liftsBetween 20 = .ok (.iinc 1 1, 3) := by decide +kernel
theorem dX5_liftsBetween_23 : decode cX5_liftsBetween 23 = .ok (.iinc 2 1, 3) := by decide +kernel
theorem dX5_liftsBetween_26 : decode cX5_liftsBetween 26 = .ok (.goto (-22), 3) := by decide +kernel
theorem dX5_liftsBetween_29 : decode cX5_liftsBetween 29 = .ok (.iload_n 1, 1) := by decide +kernel
theorem dX5_liftsBetween_30 : decode cX5_liftsBetween 30 = .ok (.ireturn, 1) := by decide +kernel
theorem dX6_init_0 : decode cX6_init 0 = .ok (.aload_n 0, 1) := by decide +kernel
theorem dX6_init_1 : decode cX6_init 1 = .ok (.invokespecial 3, 3) := by decide +kernel
theorem dX6_init_4 : decode cX6_init 4 = .ok (.aload_n 0, 1) := by decide +kernel
theorem dX6_init_5 : decode cX6_init 5 = .ok (.iconst 0, 1) := by decide +kernel
theorem dX6_init_6 : decode cX6_init 6 = .ok (.putfield 9, 3) := by decide +kernel
theorem dX6_init_9 : decode cX6_init 9 = .ok (.aload_n 0, 1) := by decide +kernel
theorem dX6_init_10 : decode cX6_init 10 = .ok (.iconst 0, 1) := by decide +kernel
theorem dX6_init_11 : decode cX6_init 11 = .ok (.putfield 15, 3) := by decide +kernel
theorem dX6_init_14 : decode cX6_init 14 = .ok (.aload_n 0, 1) := by decide +kernel
theorem dX6_init_15 : decode cX6_init 15 = .ok (.iconst 0, 1) := by decide +kernel
theorem dX6_init_16 : decode cX6_init 16 = .ok (.putfield 18, 3) := by decide +kernel
theorem dX6_init_19 : decode cX6_init 19 = .ok (.aload_n 0, 1) := by decide +kernel
theorem dX6_init_20 : decode cX6_init 20 = .ok (.iconst 0, 1) := by decide +kernel
theorem dX6_init_21 : decode cX6_init 21 = .ok (.putfield 21, 3) := by decide +kernel
theorem dX6_init_24 : decode cX6_init 24 = .ok (.aload_n 0, 1) := by decide +kernel
theorem dX6_init_25 : decode cX6_init 25 = .ok (.iconst (-1), 1) := by decide +kernel
theorem dX6_init_26 : decode cX6_init 26 = .ok (.putfield 25, 3) := by decide +kernel
theorem dX6_init_29 : decode cX6_init 29 = .ok (.aload_n 0, 1) := by decide +kernel
theorem dX6_init_30 : decode cX6_init 30 = .ok (.aload_n 1, 1) := by decide +kernel
theorem dX6_init_31 : decode cX6_init 31 = .ok (.putfield 28, 3) := by decide +kernel
theorem dX6_init_34 : decode cX6_init 34 = .ok (.aload_n 0, 1) := by decide +kernel
theorem dX6_init_35 : decode cX6_init 35 = .ok (.aload_n 2, 1) := by decide +kernel
theorem dX6_init_36 : decode cX6_init 36 = .ok (.putfield 32, 3) := by decide +kernel
theorem dX6_init_39 : decode cX6_init 39 = .ok (.return_, 1) := by decide +kernel
theorem dX6_reads_0 : decode cX6_reads 0 = .ok (.aload_n 0, 1) := by decide +kernel
theorem dX6_reads_1 : decode cX6_reads 1 = .ok (.iload_n 1, 1) := by decide +kernel
theorem dX6_reads_2 : decode cX6_reads 2 = .ok (.invokevirtual 36, 3) := by decide +kernel
theorem dX6_reads_5 : decode cX6_reads 5 = .ok (.iconst 0, 1) := by decide +kernel
theorem dX6_reads_6 : decode cX6_reads 6 = .ok (.istore_n 2, 1) := by decide +kernel
theorem dX6_reads_7 : decode cX6_reads 7 = .ok (.iload_n 2, 1) := by decide +kernel
theorem dX6_reads_8 : decode cX6_reads 8 = .ok (.iload_n 1, 1) := by decide +kernel
theorem dX6_reads_9 : decode cX6_reads 9 = .ok (.if_icmp .gt 54, 3) := by decide +kernel
theorem dX6_reads_12 : decode cX6_reads 12 = .ok (.aload_n 0, 1) := by decide +kernel
theorem dX6_reads_13 : decode cX6_reads 13 = .ok (.invokevirtual 40, 3) := by decide +kernel
theorem dX6_reads_16 : decode cX6_reads 16 = .ok (.ifCond .ne 5, 3) := by decide +kernel
theorem dX6_reads_19 : decode cX6_reads 19 = .ok (.iconst 0, 1) := by decide +kernel
theorem dX6_reads_20 : decode cX6_reads 20 = .ok (.ireturn, 1) := by decide +kernel
theorem dX6_reads_21 : decode cX6_reads 21 = .ok (.aload_n 0, 1) := by decide +kernel
theorem dX6_reads_22 : decode cX6_reads 22 = .ok (.getfield 28, 3) := by decide +kernel
theorem dX6_reads_25 : decode cX6_reads 25 = .ok (.invokevirtual 44, 3) := by decide +kernel
theorem dX6_reads_28 : decode cX6_reads 28 = .ok (.aload_n 0, 1) := by decide +kernel
theorem dX6_reads_29 : decode cX6_reads 29 = .ok (.getfield 28, 3) := by decide +kernel
theorem dX6_reads_32 : decode cX6_reads 32 = .ok (.getfield 49, 3) := by decide +kernel
theorem dX6_reads_35 : decode cX6_reads 35 = .ok (.ifCond .ne 5, 3) := by decide +kernel
theorem dX6_reads_38 : decode cX6_reads 38 = .ok (.iconst 1, 1) := by decide +kernel
theorem dX6_reads_39 : decode cX6_reads 39 = .ok (.ireturn, 1) := by decide +kernel
theorem dX6_reads_40 : decode cX6_reads 40 = .ok (.aload_n 0, 1) := by decide +kernel
theorem dX6_reads_41 : decode cX6_reads 41 = .ok (.getfield 28, 3) := by decide +kernel
theorem dX6_reads_44 : decode cX6_reads 44 = .ok (.getfield 49, 3) := by decide +kernel
theorem dX6_reads_47 : decode cX6_reads 47 = .ok (.iconst 3, 1) := by decide +kernel
theorem dX6_reads_48 : decode cX6_reads 48 = .ok (.if_icmp .eq 9, 3) := by decide +kernel
theorem dX6_reads_51 : decode cX6_reads 51 = .ok (.aload_n 0, 1) := by decide +kernel
theorem dX6_reads_52 : decode cX6_reads 52 = .ok (.iconst 1, 1) := by decide +kernel
theorem dX6_reads_53 : decode cX6_reads 53 = .ok (.invokevirtual 52, 3) := by decide +kernel
theorem dX6_reads_56 : decode cX6_reads 56 = .ok (.ireturn, 1) := by decide +kernel
theorem dX6_reads_57 : decode cX6_reads 57 = .ok (.iinc 2 1, 3) := by decide +kernel
theorem dX6_reads_60 : decode cX6_reads 60 = .ok (.goto (-53), 3) := by decide +kernel
theorem dX6_reads_63 : decode cX6_reads 63 = .ok (.aload_n 0, 1) := by decide +kernel
theorem dX6_reads_64 : decode cX6_reads 64 = .ok (.iconst 1, 1) := by decide +kernel
theorem dX6_reads_65 : decode cX6_reads 65 = .ok (.invokevirtual 52, 3) := by decide +kernel
theorem dX6_reads_68 : decode cX6_reads 68 = .ok (.ireturn, 1) := by decide +kernel
theorem dX6_begin_0 : decode cX6_begin 0 = .ok (.aload_n 0, 1) := by decide +kernel
theorem dX6_begin_1 : decode cX6_begin 1 = .ok (.getfield 28, 3) := by decide +kernel
theorem dX6_begin_4 : decode cX6_begin 4 = .ok (.iload_n 1, 1) := by decide +kernel
theorem dX6_begin_5 : decode cX6_begin 5 = .ok (.invokevirtual 56, 3) := by decide +kernel
theorem dX6_begin_8 : decode cX6_begin 8 = .ok (.aload_n 0, 1) := by decide +kernel
theorem dX6_begin_9 : decode cX6_begin 9 = .ok (.getfield 32, 3) := by decide +kernel
theorem dX6_begin_12 : decode cX6_begin 12 = .ok (.invokevirtual 59, 3) := by decide +kernel
theorem dX6_begin_15 : decode cX6_begin 15 = .ok (.aload_n 0, 1) := by decide +kernel
theorem dX6_begin_16 : decode cX6_begin 16 = .ok (.iconst 0, 1) := by decide +kernel
theorem dX6_begin_17 : decode cX6_begin 17 = .ok (.putfield 9, 3) := by decide +kernel
theorem dX6_begin_20 : decode cX6_begin 20 = .ok (.aload_n 0, 1) := by decide +kernel
theorem dX6_begin_21 : decode cX6_begin 21 = .ok (.iconst 0, 1) := by decide +kernel
theorem dX6_begin_22 : decode cX6_begin 22 = .ok (.putfield 15, 3) := by decide +kernel
theorem dX6_begin_25 : decode cX6_begin 25 = .ok (.aload_n 0, 1) := by decide +kernel
theorem dX6_begin_26 : decode cX6_begin 26 = .ok (.iconst 0, 1) := by decide +kernel
theorem dX6_begin_27 : decode cX6_begin 27 = .ok (.putfield 18, 3) := by decide +kernel
theorem dX6_begin_30 : decode cX6_begin 30 = .ok (.aload_n 0, 1) := by decide +kernel
theorem dX6_begin_31 : decode cX6_begin 31 = .ok (.iconst 0, 1) := by decide +kernel
theorem dX6_begin_32 : decode cX6_begin 32 = .ok (.putfield 21, 3) := by decide +kernel
theorem dX6_begin_35 : decode cX6_begin 35 = .ok (.aload_n 0, 1) := by decide +kernel
theorem dX6_begin_36 : decode cX6_begin 36 = .ok (.iconst (-1), 1) := by decide +kernel
theorem dX6_begin_37 : decode cX6_begin 37 = .ok (.putfield 25, 3) := by decide +kernel
theorem dX6_begin_40 : decode cX6_begin 40 = .ok (.return_, 1) := by decide +kernel
theorem dX6_fails_0 : decode cX6_fails 0 = .ok (.aload_n 0, 1) := by decide +kernel
theorem dX6_fails_1 : decode cX6_fails 1 = .ok (.iload_n 1, 1) := by decide +kernel
theorem dX6_fails_2 : decode cX6_fails 2 = .ok (.putfield 21, 3) := by decide +kernel
theorem dX6_fails_5 : decode cX6_fails 5 = .ok (.aload_n 0, 1) := by decide +kernel
theorem dX6_fails_6 : decode cX6_fails 6 = .ok (.aload_n 0, 1) := by decide +kernel
theorem dX6_fails_7 : decode cX6_fails 7 = .ok (.getfield 28, 3) := by decide +kernel
theorem dX6_fails_10 : decode cX6_fails 10 = .ok (.getfield 64, 3) := by decide +kernel
theorem dX6_fails_13 : decode cX6_fails 13 = .ok (.putfield 25, 3) := by decide +kernel
theorem dX6_fails_16 : decode cX6_fails 16 = .ok (.iconst 0, 1) := by decide +kernel
theorem dX6_fails_17 : decode cX6_fails 17 = .ok (.ireturn, 1) := by decide +kernel
theorem dX6_readsLine_0 : decode cX6_readsLine 0 = .ok (.aload_n 0, 1) := by decide +kernel
theorem dX6_readsLine_1 : decode cX6_readsLine 1 = .ok (.getfield 28, 3) := by decide +kernel
theorem dX6_readsLine_4 : decode cX6_readsLine 4 = .ok (.invokevirtual 44, 3) := by decide +kernel
theorem dX6_readsLine_7 : decode cX6_readsLine 7 = .ok (.aload_n 0, 1) := by decide +kernel
theorem dX6_readsLine_8 : decode cX6_readsLine 8 = .ok (.getfield 28, 3) := by decide +kernel
theorem dX6_readsLine_11 : decode cX6_readsLine 11 = .ok (.ldc 67, 2) := by decide +kernel
theorem dX6_readsLine_13 : decode cX6_readsLine 13 = .ok (.invokevirtual 69, 3) := by decide +kernel
theorem dX6_readsLine_16 : decode cX6_readsLine 16 = .ok (.ifCond .eq 8, 3) := by decide +kernel
theorem dX6_readsLine_19 : decode cX6_readsLine 19 = .ok (.aload_n 0, 1) := by decide +kernel
theorem dX6_readsLine_20 : decode cX6_readsLine 20 = .ok (.invokevirtual 73, 3) := by decide +kernel
theorem dX6_readsLine_23 : decode cX6_readsLine 23 = .ok (.ireturn, 1) := by decide +kernel
theorem dX6_readsLine_24 : decode cX6_readsLine 24 = .ok (.aload_n 0, 1) := by decide +kernel
theorem dX6_readsLine_25 : decode cX6_readsLine 25 = .ok (.getfield 28, 3) := by decide +kernel
theorem dX6_readsLine_28 : decode cX6_readsLine 28 = .ok (.ldc 76, 2) := by decide +kernel
theorem dX6_readsLine_30 : decode cX6_readsLine 30 = .ok (.invokevirtual 69, 3) := by decide +kernel
theorem dX6_readsLine_33 : decode cX6_readsLine 33 = .ok (.ifCond .ne 33, 3) := by decide +kernel
theorem dX6_readsLine_36 : decode cX6_readsLine 36 = .ok (.aload_n 0, 1) := by decide +kernel
theorem dX6_readsLine_37 : decode cX6_readsLine 37 = .ok (.getfield 28, 3) := by decide +kernel
theorem dX6_readsLine_40 : decode cX6_readsLine 40 = .ok (.ldc 78, 2) := by decide +kernel
theorem dX6_readsLine_42 : decode cX6_readsLine 42 = .ok (.invokevirtual 69, 3) := by decide +kernel
theorem dX6_readsLine_45 : decode cX6_readsLine 45 = .ok (.ifCond .ne 21, 3) := by decide +kernel
theorem dX6_readsLine_48 : decode cX6_readsLine 48 = .ok (.aload_n 0, 1) := by decide +kernel
theorem dX6_readsLine_49 : decode cX6_readsLine 49 = .ok (.getfield 28, 3) := by decide +kernel
theorem dX6_readsLine_52 : decode cX6_readsLine 52 = .ok (.ldc 80, 2) := by decide +kernel
theorem dX6_readsLine_54 : decode cX6_readsLine 54 = .ok (.invokevirtual 69, 3) := by decide +kernel
theorem dX6_readsLine_57 : decode cX6_readsLine 57 = .ok (.ifCond .ne 9, 3) := by decide +kernel
theorem dX6_readsLine_60 : decode cX6_readsLine 60 = .ok (.aload_n 0, 1) := by decide +kernel
theorem dX6_readsLine_61 : decode cX6_readsLine 61 = .ok (.iconst 1, 1) := by decide +kernel
theorem dX6_readsLine_62 : decode cX6_readsLine 62 = .ok (.invokevirtual 52, 3) := by decide +kernel
theorem dX6_readsLine_65 : decode cX6_readsLine 65 = .ok (.ireturn, 1) := by decide +kernel
theorem dX6_readsLine_66 : decode cX6_readsLine 66 = .ok (.aload_n 0, 1) := by decide +kernel
theorem dX6_readsLine_67 : decode cX6_readsLine 67 = .ok (.getfield 9, 3) := by decide +kernel
theorem dX6_readsLine_70 : decode cX6_readsLine 70 = .ok (.ifCond .ne 10, 3) := by decide +kernel
theorem dX6_readsLine_73 : decode cX6_readsLine 73 = .ok (.aload_n 0, 1) := by decide +kernel
theorem dX6_readsLine_74 : decode cX6_readsLine 74 = .ok (.bipush 6, 2) := by decide +kernel
theorem dX6_readsLine_76 : decode cX6_readsLine 76 = .ok (.invokevirtual 52, 3) := by decide +kernel
theorem dX6_readsLine_79 : decode cX6_readsLine 79 = .ok (.ireturn, 1) := by decide +kernel
theorem dX6_readsLine_80 : decode cX6_readsLine 80 = .ok (.aload_n 0, 1) := by decide +kernel
theorem dX6_readsLine_81 : decode cX6_readsLine 81 = .ok (.getfield 28, 3) := by decide +kernel
theorem dX6_readsLine_84 : decode cX6_readsLine 84 = .ok (.ldc 76, 2) := by decide +kernel
theorem dX6_readsLine_86 : decode cX6_readsLine 86 = .ok (.invokevirtual 69, 3) := by decide +kernel
theorem dX6_readsLine_89 : decode cX6_readsLine 89 = .ok (.ifCond .eq 8, 3) := by decide +kernel
theorem dX6_readsLine_92 : decode cX6_readsLine 92 = .ok (.aload_n 0, 1) := by decide +kernel
theorem dX6_readsLine_93 : decode cX6_readsLine 93 = .ok (.invokevirtual 82, 3) := by decide +kernel
theorem dX6_readsLine_96 : decode cX6_readsLine 96 = .ok (.ireturn, 1) := by decide +kernel
theorem dX6_readsLine_97 : decode cX6_readsLine 97 = .ok (.aload_n 0, 1) := by decide +kernel
theorem dX6_readsLine_98 : decode cX6_readsLine 98 = .ok (.getfield 28, 3) := by decide +kernel
theorem dX6_readsLine_101 : decode cX6_readsLine 101 = .ok (.ldc 78, 2) := by decide +kernel
theorem dX6_readsLine_103 : decode cX6_readsLine 103 = .ok (.invokevirtual 69, 3) := by decide +kernel
theorem dX6_readsLine_106 : decode cX6_readsLine 106 = .ok (.ifCond .eq 10, 3) := by decide +kernel
theorem dX6_readsLine_109 : decode cX6_readsLine 109 = .ok (.aload_n 0, 1) := by decide +kernel
theorem dX6_readsLine_110 : decode cX6_readsLine 110 = .ok (.invokevirtual 85, 3) := by decide +kernel
theorem dX6_readsLine_113 : decode cX6_readsLine 113 = .ok (.goto 7, 3) := by decide +kernel
theorem dX6_readsLine_116 : decode cX6_readsLine 116 = .ok (.aload_n 0, 1) := by decide +kernel
theorem dX6_readsLine_117 : decode cX6_readsLine 117 = .ok (.invokevirtual 88, 3) := by decide +kernel
theorem dX6_readsLine_120 : decode cX6_readsLine 120 = .ok (.ireturn, 1) := by decide +kernel
theorem dX6_readsSheet_0 : decode cX6_readsSheet 0 = .ok (.aload_n 0, 1) := by decide +kernel
theorem dX6_readsSheet_1 : decode cX6_readsSheet 1 = .ok (.getfield 9, 3) := by decide +kernel
theorem dX6_readsSheet_4 : decode cX6_readsSheet 4 = .ok (.ifCond .eq 9, 3) := by decide +kernel
theorem dX6_readsSheet_7 : decode cX6_readsSheet 7 = .ok (.aload_n 0, 1) := by decide +kernel
theorem dX6_readsSheet_8 : decode cX6_readsSheet 8 = .ok (.iconst 4, 1) := by decide +kernel
theorem dX6_readsSheet_9 : decode cX6_readsSheet 9 = .ok (.invokevirtual 52, 3) := by decide +kernel
theorem dX6_readsSheet_12 : decode cX6_readsSheet 12 = .ok (.ireturn, 1) := by decide +kernel
theorem dX6_readsSheet_13 : decode cX6_readsSheet 13 = .ok (.aload_n 0, 1) := by decide +kernel
theorem dX6_readsSheet_14 : decode cX6_readsSheet 14 = .ok (.iconst 1, 1) := by decide +kernel
theorem dX6_readsSheet_15 : decode cX6_readsSheet 15 = .ok (.putfield 9, 3) := by decide +kernel
theorem dX6_readsSheet_18 : decode cX6_readsSheet 18 = .ok (.aload_n 0, 1) := by decide +kernel
theorem dX6_readsSheet_19 : decode cX6_readsSheet 19 = .ok (.ldc 91, 2) := by decide +kernel
theorem dX6_readsSheet_21 : decode cX6_readsSheet 21 = .ok (.invokevirtual 93, 3) := by decide +kernel
theorem dX6_readsSheet_24 : decode cX6_readsSheet 24 = .ok (.ifCond .eq 14, 3) := by decide +kernel
theorem dX6_readsSheet_27 : decode cX6_readsSheet 27 = .ok (.aload_n 0, 1) := by decide +kernel
theorem dX6_readsSheet_28 : decode cX6_readsSheet 28 = .ok (.iconst 1, 1) := by decide +kernel
theorem dX6_readsSheet_29 : decode cX6_readsSheet 29 = .ok (.sipush 200, 3) := by decide +kernel
theorem dX6_readsSheet_32 : decode cX6_readsSheet 32 = .ok (.invokevirtual 96, 3) := by decide +kernel
theorem dX6_readsSheet_35 : decode cX6_readsSheet 35 = .ok (.ifCond .ne 5, 3) := by decide +kernel
theorem dX6_readsSheet_38 : decode cX6_readsSheet 38 = .ok (.iconst 0, 1) := by decide +kernel
theorem dX6_readsSheet_39 : decode cX6_readsSheet 39 = .ok (.ireturn, 1) := by decide +kernel
theorem dX6_readsSheet_40 : decode cX6_readsSheet 40 = .ok (.aload_n 0, 1) := by decide +kernel
theorem dX6_readsSheet_41 : decode cX6_readsSheet 41 = .ok (.getfield 32, 3) := by decide +kernel
theorem dX6_readsSheet_44 : decode cX6_readsSheet 44 = .ok (.aload_n 0, 1) := by decide +kernel
theorem dX6_readsSheet_45 : decode cX6_readsSheet 45 = .ok (.getfield 28, 3) := by decide +kernel
theorem dX6_readsSheet_48 : decode cX6_readsSheet 48 = .ok (.getfield 100, 3) := by decide +kernel
theorem dX6_readsSheet_51 : decode cX6_readsSheet 51 = .ok (.putfield 103, 3) := by decide +kernel
theorem dX6_readsSheet_54 : decode cX6_readsSheet 54 = .ok (.aload_n 0, 1) := by decide +kernel
theorem dX6_readsSheet_55 : decode cX6_readsSheet 55 = .ok (.ldc 105, 2) := by decide +kernel
theorem dX6_readsSheet_57 : decode cX6_readsSheet 57 = .ok (.invokevirtual 93, 3) := by decide +kernel
theorem dX6_readsSheet_60 : decode cX6_readsSheet 60 = .ok (.ifCond .eq 13, 3) := by decide +kernel
theorem dX6_readsSheet_63 : decode cX6_readsSheet 63 = .ok (.aload_n 0, 1) := by decide +kernel
theorem dX6_readsSheet_64 : decode cX6_readsSheet 64 = .ok (.iconst 0, 1) := by decide +kernel
theorem dX6_readsSheet_65 : decode cX6_readsSheet 65 = .ok (.bipush 50, 2) := by decide +kernel
theorem dX6_readsSheet_67 : decode cX6_readsSheet 67 = .ok (.invokevirtual 96, 3) := by decide +kernel
theorem dX6_readsSheet_70 : decode cX6_readsSheet 70 = .ok (.ifCond .ne 5, 3) := by decide +kernel
theorem dX6_readsSheet_73 : decode cX6_readsSheet 73 = .ok (.iconst 0, 1) := by decide +kernel
theorem dX6_readsSheet_74 : decode cX6_readsSheet 74 = .ok (.ireturn, 1) := by decide +kernel
theorem dX6_readsSheet_75 : decode cX6_readsSheet 75 = .ok (.aload_n 0, 1) := by decide +kernel
theorem dX6_readsSheet_76 : decode cX6_readsSheet 76 = .ok (.getfield 32, 3) := by decide +kernel
theorem dX6_readsSheet_79 : decode cX6_readsSheet 79 = .ok (.aload_n 0, 1) := by decide +kernel
theorem dX6_readsSheet_80 : decode cX6_readsSheet 80 = .ok (.getfield 28, 3) := by decide +kernel
theorem dX6_readsSheet_83 : decode cX6_readsSheet 83 = .ok (.getfield 100, 3) := by decide +kernel
theorem dX6_readsSheet_86 : decode cX6_readsSheet 86 = .ok (.putfield 107, 3) := by decide +kernel
theorem dX6_readsSheet_89 : decode cX6_readsSheet 89 = .ok (.iconst 1, 1) := by decide +kernel
theorem dX6_readsSheet_90 : decode cX6_readsSheet 90 = .ok (.ireturn, 1) := by decide +kernel
theorem dX6_readsStroke_0 : decode cX6_readsStroke 0 = .ok (.aload_n 0, 1) := by decide +kernel
theorem dX6_readsStroke_1 : decode cX6_readsStroke 1 = .ok (.getfield 32, 3) := by decide +kernel
theorem dX6_readsStroke_4 : decode cX6_readsStroke 4 = .ok (.getfield 109, 3) := by decide +kernel
theorem dX6_readsStroke_7 : decode cX6_readsStroke 7 = .ok (.bipush 24, 2) := by decide +kernel
theorem dX6_readsStroke_9 : decode cX6_readsStroke 9 = .ok (.if_icmp .lt 9, 3) := by decide +kernel
theorem dX6_readsStroke_12 : decode cX6_readsStroke 12 = .ok (.aload_n 0, 1) := by decide +kernel
theorem dX6_readsStroke_13 : decode cX6_readsStroke 13 = .ok (.iconst 5, 1) := by decide +kernel
theorem dX6_readsStroke_14 : decode cX6_readsStroke 14 = .ok (.invokevirtual 52, 3) := by decide +kernel
theorem dX6_readsStroke_17 : decode cX6_readsStroke 17 = .ok (.ireturn, 1) := by decide +kernel
theorem dX6_readsStroke_18 : decode cX6_readsStroke 18 = .ok (.aload_n 0, 1) := by decide +kernel
theorem dX6_readsStroke_19 : decode cX6_readsStroke 19 = .ok (.iconst 0, 1) := by decide +kernel
theorem dX6_readsStroke_20 : decode cX6_readsStroke 20 = .ok (.aload_n 0, 1) := by decide +kernel
theorem dX6_readsStroke_21 : decode cX6_readsStroke 21 = .ok (.getfield 32, 3) := by decide +kernel
theorem dX6_readsStroke_24 : decode cX6_readsStroke 24 = .ok (.getfield 103, 3) := by decide +kernel
theorem dX6_readsStroke_27 : decode cX6_readsStroke 27 = .ok (.invokevirtual 96, 3) := by decide +kernel
theorem dX6_readsStroke_30 : decode cX6_readsStroke 30 = .ok (.ifCond .ne 5, 3) := by decide +kernel
theorem dX6_readsStroke_33 : decode cX6_readsStroke 33 = .ok (.iconst 0, 1) := by decide +kernel
theorem dX6_readsStroke_34 : decode cX6_readsStroke 34 = .ok (.ireturn, 1) := by decide +kernel
theorem dX6_readsStroke_35 : decode cX6_readsStroke 35 = .ok (.aload_n 0, 1) := by decide +kernel
theorem dX6_readsStroke_36 : decode cX6_readsStroke 36 = .ok (.getfield 28, 3) := by decide +kernel
theorem dX6_readsStroke_39 : decode cX6_readsStroke 39 = .ok (.getfield 100, 3) := by decide +kernel
theorem dX6_readsStroke_42 : decode cX6_readsStroke 42 = .ok (.istore_n 1, 1) := by decide +kernel
theorem dX6_readsStroke_43 : decode cX6_readsStroke 43 = .ok (.aload_n 0, 1) := by decide +kernel
theorem dX6_readsStroke_44 : decode cX6_readsStroke 44 = .ok (.iconst 0, 1) := by decide +kernel
theorem dX6_readsStroke_45 : decode cX6_readsStroke 45 = .ok (.aload_n 0, 1) := by decide +kernel
theorem dX6_readsStroke_46 : decode cX6_readsStroke 46 = .ok (.getfield 32, 3) := by decide +kernel
theorem dX6_readsStroke_49 : decode cX6_readsStroke 49 = .ok (.getfield 103, 3) := by decide +kernel
theorem dX6_readsStroke_52 : decode cX6_readsStroke 52 = .ok (.invokevirtual 96, 3) := by decide +kernel
theorem dX6_readsStroke_55 : decode cX6_readsStroke 55 = .ok (.ifCond .ne 5, 3) := by decide +kernel
theorem dX6_readsStroke_58 : decode cX6_readsStroke 58 = .ok (.iconst 0, 1) := by decide +kernel
theorem dX6_readsStroke_59 : decode cX6_readsStroke 59 = .ok (.ireturn, 1) := by decide +kernel
theorem dX6_readsStroke_60 : decode cX6_readsStroke 60 = .ok (.aload_n 0, 1) := by decide +kernel
theorem dX6_readsStroke_61 : decode cX6_readsStroke 61 = .ok (.getfield 28, 3) := by decide +kernel
theorem dX6_readsStroke_64 : decode cX6_readsStroke 64 = .ok (.getfield 100, 3) := by decide +kernel
theorem dX6_readsStroke_67 : decode cX6_readsStroke 67 = .ok (.istore_n 2, 1) := by decide +kernel
theorem dX6_readsStroke_68 : decode cX6_readsStroke 68 = .ok (.aload_n 0, 1) := by decide +kernel
theorem dX6_readsStroke_69 : decode cX6_readsStroke 69 = .ok (.iconst 0, 1) := by decide +kernel
theorem dX6_readsStroke_70 : decode cX6_readsStroke 70 = .ok (.aload_n 0, 1) := by decide +kernel
theorem dX6_readsStroke_71 : decode cX6_readsStroke 71 = .ok (.getfield 32, 3) := by decide +kernel
theorem dX6_readsStroke_74 : decode cX6_readsStroke 74 = .ok (.getfield 103, 3) := by decide +kernel
theorem dX6_readsStroke_77 : decode cX6_readsStroke 77 = .ok (.invokevirtual 96, 3) := by decide +kernel
theorem dX6_readsStroke_80 : decode cX6_readsStroke 80 = .ok (.ifCond .ne 5, 3) := by decide +kernel
theorem dX6_readsStroke_83 : decode cX6_readsStroke 83 = .ok (.iconst 0, 1) := by decide +kernel
theorem dX6_readsStroke_84 : decode cX6_readsStroke 84 = .ok (.ireturn, 1) := by decide +kernel
theorem dX6_readsStroke_85 : decode cX6_readsStroke 85 = .ok (.aload_n 0, 1) := by decide +kernel
theorem dX6_readsStroke_86 : decode cX6_readsStroke 86 = .ok (.getfield 28, 3) := by decide +kernel
theorem dX6_readsStroke_89 : decode cX6_readsStroke 89 = .ok (.getfield 100, 3) := by decide +kernel
theorem dX6_readsStroke_92 : decode cX6_readsStroke 92 = .ok (.istore_n 3, 1) := by decide +kernel
theorem dX6_readsStroke_93 : decode cX6_readsStroke 93 = .ok (.aload_n 0, 1) := by decide +kernel
theorem dX6_readsStroke_94 : decode cX6_readsStroke 94 = .ok (.iconst 0, 1) := by decide +kernel
theorem dX6_readsStroke_95 : decode cX6_readsStroke 95 = .ok (.aload_n 0, 1) := by decide +kernel
theorem dX6_readsStroke_96 : decode cX6_readsStroke 96 = .ok (.getfield 32, 3) := by decide +kernel
theorem dX6_readsStroke_99 : decode cX6_readsStroke 99 = .ok (.getfield 103, 3) := by decide +kernel
theorem dX6_readsStroke_102 : decode cX6_readsStroke 102 = .ok (.invokevirtual 96, 3) := by decide +kernel
theorem dX6_readsStroke_105 : decode cX6_readsStroke 105 = .ok (.ifCond .ne 5, 3) := by decide +kernel
theorem dX6_readsStroke_108 : decode cX6_readsStroke 108 = .ok (.iconst 0, 1) := by decide +kernel
theorem dX6_readsStroke_109 : decode cX6_readsStroke 109 = .ok (.ireturn, 1) := by decide +kernel
theorem dX6_readsStroke_110 : decode cX6_readsStroke 110 = .ok (.aload_n 0, 1) := by decide +kernel
theorem dX6_readsStroke_111 : decode cX6_readsStroke 111 = .ok (.getfield 28, 3) := by decide +kernel
theorem dX6_readsStroke_114 : decode cX6_readsStroke 114 = .ok (.getfield 100, 3) := by decide +kernel
theorem dX6_readsStroke_117 : decode cX6_readsStroke 117 = .ok (.istore 4, 2) := by decide +kernel
theorem dX6_readsStroke_119 : decode cX6_readsStroke 119 = .ok (.iload_n 1, 1) := by decide +kernel
theorem dX6_readsStroke_120 : decode cX6_readsStroke 120 = .ok (.iload_n 3, 1) := by decide +kernel
theorem dX6_readsStroke_121 : decode cX6_readsStroke 121 = .ok (.if_icmp .ne 15, 3) := by decide +kernel
theorem dX6_readsStroke_124 : decode cX6_readsStroke 124 = .ok (.iload_n 2, 1) := by decide +kernel
theorem dX6_readsStroke_125 : decode cX6_readsStroke 125 = .ok (.iload 4, 2) := by decide +kernel
theorem dX6_readsStroke_127 : decode cX6_readsStroke 127 = .ok (.if_icmp .ne 9, 3) := by decide +kernel
theorem dX6_readsStroke_130 : decode cX6_readsStroke 130 = .ok (.aload_n 0, 1) := by decide +kernel
theorem dX6_readsStroke_131 : decode cX6_readsStroke 131 = .ok (.iconst 3, 1) := by decide +kernel
theorem dX6_readsStroke_132 : decode cX6_readsStroke 132 = .ok (.invokevirtual 52, 3) := by decide +kernel
theorem dX6_readsStroke_135 : decode cX6_readsStroke 135 = .ok (.ireturn, 1) := by decide +kernel
theorem dX6_readsStroke_136 : decode cX6_readsStroke 136 = .ok (.aload_n 0, 1) := by decide +kernel
theorem dX6_readsStroke_137 : decode cX6_readsStroke 137 = .ok (.getfield 32, 3) := by decide +kernel
theorem dX6_readsStroke_140 : decode cX6_readsStroke 140 = .ok (.iload_n 1, 1) := by decide +kernel
theorem dX6_readsStroke_141 : decode cX6_readsStroke 141 = .ok (.iload_n 2, 1) := by decide +kernel
theorem dX6_readsStroke_142 : decode cX6_readsStroke 142 = .ok (.iload_n 3, 1) := by decide +kernel
theorem dX6_readsStroke_143 : decode cX6_readsStroke 143 = .ok (.iload 4, 2) := by decide +kernel
theorem dX6_readsStroke_145 : decode cX6_readsStroke 145 = .ok (.invokevirtual 112, 3) := by decide +kernel
theorem dX6_readsStroke_148 : decode cX6_readsStroke 148 = .ok (.iconst 1, 1) := by decide +kernel
theorem dX6_readsStroke_149 : decode cX6_readsStroke 149 = .ok (.ireturn, 1) := by decide +kernel
theorem dX6_readsHome_0 : decode cX6_readsHome 0 = .ok (.aload_n 0, 1) := by decide +kernel
theorem dX6_readsHome_1 : decode cX6_readsHome 1 = .ok (.getfield 15, 3) := by decide +kernel
theorem dX6_readsHome_4 : decode cX6_readsHome 4 = .ok (.ifCond .eq 9, 3) := by decide +kernel
theorem dX6_readsHome_7 : decode cX6_readsHome 7 = .ok (.aload_n 0, 1) := by decide +kernel
theorem dX6_readsHome_8 : decode cX6_readsHome 8 = .ok (.iconst 4, 1) := by decide +kernel
theorem dX6_readsHome_9 : decode cX6_readsHome 9 = .ok (.invokevirtual 52, 3) := by decide +kernel
theorem dX6_readsHome_12 : decode cX6_readsHome 12 = .ok (.ireturn, 1) := by decide +kernel
theorem dX6_readsHome_13 : decode cX6_readsHome 13 = .ok (.aload_n 0, 1) := by decide +kernel
theorem dX6_readsHome_14 : decode cX6_readsHome 14 = .ok (.iconst 1, 1) := by decide +kernel
theorem dX6_readsHome_15 : decode cX6_readsHome 15 = .ok (.putfield 15, 3) := by decide +kernel
theorem dX6_readsHome_18 : decode cX6_readsHome 18 = .ok (.aload_n 0, 1) := by decide +kernel
theorem dX6_readsHome_19 : decode cX6_readsHome 19 = .ok (.iconst 0, 1) := by decide +kernel
theorem dX6_readsHome_20 : decode cX6_readsHome 20 = .ok (.aload_n 0, 1) := by decide +kernel
theorem dX6_readsHome_21 : decode cX6_readsHome 21 = .ok (.getfield 32, 3) := by decide +kernel
theorem dX6_readsHome_24 : decode cX6_readsHome 24 = .ok (.getfield 103, 3) := by decide +kernel
theorem dX6_readsHome_27 : decode cX6_readsHome 27 = .ok (.invokevirtual 96, 3) := by decide +kernel
theorem dX6_readsHome_30 : decode cX6_readsHome 30 = .ok (.ifCond .ne 5, 3) := by decide +kernel
theorem dX6_readsHome_33 : decode cX6_readsHome 33 = .ok (.iconst 0, 1) := by decide +kernel
theorem dX6_readsHome_34 : decode cX6_readsHome 34 = .ok (.ireturn, 1) := by decide +kernel
theorem dX6_readsHome_35 : decode cX6_readsHome 35 = .ok (.aload_n 0, 1) := by decide +kernel
theorem dX6_readsHome_36 : decode cX6_readsHome 36 = .ok (.getfield 32, 3) := by decide +kernel
theorem dX6_readsHome_39 : decode cX6_readsHome 39 = .ok (.aload_n 0, 1) := by decide +kernel
theorem dX6_readsHome_40 : decode cX6_readsHome 40 = .ok (.getfield 28, 3) := by decide +kernel
theorem dX6_readsHome_43 : decode cX6_readsHome 43 = .ok (.getfield 100, 3) := by decide +kernel
theorem dX6_readsHome_46 : decode cX6_readsHome 46 = .ok (.putfield 116, 3) := by decide +kernel
theorem dX6_readsHome_49 : decode cX6_readsHome 49 = .ok (.aload_n 0, 1) := by decide +kernel
theorem dX6_readsHome_50 : decode cX6_readsHome 50 = .ok (.iconst 0, 1) := by decide +kernel
theorem dX6_readsHome_51 : decode cX6_readsHome 51 = .ok (.aload_n 0, 1) := by decide +kernel
theorem dX6_readsHome_52 : decode cX6_readsHome 52 = .ok (.getfield 32, 3) := by decide +kernel
theorem dX6_readsHome_55 : decode cX6_readsHome 55 = .ok (.getfield 103, 3) := by decide +kernel
theorem dX6_readsHome_58 : decode cX6_readsHome 58 = .ok (.invokevirtual 96, 3) := by decide +kernel
theorem dX6_readsHome_61 : decode cX6_readsHome 61 = .ok (.ifCond .ne 5, 3) := by decide +kernel
theorem dX6_readsHome_64 : decode cX6_readsHome 64 = .ok (.iconst 0, 1) := by decide +kernel
theorem dX6_readsHome_65 : decode cX6_readsHome 65 = .ok (.ireturn, 1) := by decide +kernel
theorem dX6_readsHome_66 : decode cX6_readsHome 66 = .ok (.aload_n 0, 1) := by decide +kernel
theorem dX6_readsHome_67 : decode cX6_readsHome 67 = .ok (.getfield 32, 3) := by decide +kernel
theorem dX6_readsHome_70 : decode cX6_readsHome 70 = .ok (.aload_n 0, 1) := by decide +kernel
theorem dX6_readsHome_71 : decode cX6_readsHome 71 = .ok (.getfield 28, 3) := by decide +kernel
theorem dX6_readsHome_74 : decode cX6_readsHome 74 = .ok (.getfield 100, 3) := by decide +kernel
theorem dX6_readsHome_77 : decode cX6_readsHome 77 = .ok (.putfield 119, 3) := by decide +kernel
theorem dX6_readsHome_80 : decode cX6_readsHome 80 = .ok (.iconst 1, 1) := by decide +kernel
theorem dX6_readsHome_81 : decode cX6_readsHome 81 = .ok (.ireturn, 1) := by decide +kernel
theorem dX6_readsPace_0 : decode cX6_readsPace 0 = .ok (.aload_n 0, 1) := by decide +kernel
theorem dX6_readsPace_1 : decode cX6_readsPace 1 = .ok (.getfield 18, 3) := by decide +kernel
theorem dX6_readsPace_4 : decode cX6_readsPace 4 = .ok (.ifCond .eq 9, 3) := by decide +kernel
theorem dX6_readsPace_7 : decode cX6_readsPace 7 = .ok (.aload_n 0, 1) := by decide +kernel
theorem dX6_readsPace_8 : decode cX6_readsPace 8 = .ok (.iconst 4, 1) := by decide +kernel
theorem dX6_readsPace_9 : decode cX6_readsPace 9 = .ok (.invokevirtual 52, 3) := by decide +kernel
theorem dX6_readsPace_12 : decode cX6_readsPace 12 = .ok (.ireturn, 1) := by decide +kernel
theorem dX6_readsPace_13 : decode cX6_readsPace 13 = .ok (.aload_n 0, 1) := by decide +kernel
theorem dX6_readsPace_14 : decode cX6_readsPace 14 = .ok (.iconst 1, 1) := by decide +kernel
theorem dX6_readsPace_15 : decode cX6_readsPace 15 = .ok (.putfield 18, 3) := by decide +kernel
theorem dX6_readsPace_18 : decode cX6_readsPace 18 = .ok (.aload_n 0, 1) := by decide +kernel
