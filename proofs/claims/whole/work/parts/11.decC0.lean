theorem dX0_init_0 : decode cX0_init 0 = .ok (.aload_n 0, 1) := by decide +kernel
theorem dX0_init_1 : decode cX0_init 1 = .ok (.invokespecial 3, 3) := by decide +kernel
theorem dX0_init_4 : decode cX0_init 4 = .ok (.aload_n 0, 1) := by decide +kernel
theorem dX0_init_5 : decode cX0_init 5 = .ok (.bipush 48, 2) := by decide +kernel
theorem dX0_init_7 : decode cX0_init 7 = .ok (.newarray .int, 2) := by decide +kernel
theorem dX0_init_9 : decode cX0_init 9 = .ok (.putfield 9, 3) := by decide +kernel
theorem dX0_init_12 : decode cX0_init 12 = .ok (.aload_n 0, 1) := by decide +kernel
theorem dX0_init_13 : decode cX0_init 13 = .ok (.bipush 48, 2) := by decide +kernel
theorem dX0_init_15 : decode cX0_init 15 = .ok (.newarray .int, 2) := by decide +kernel
theorem dX0_init_17 : decode cX0_init 17 = .ok (.putfield 15, 3) := by decide +kernel
theorem dX0_init_20 : decode cX0_init 20 = .ok (.aload_n 0, 1) := by decide +kernel
theorem dX0_init_21 : decode cX0_init 21 = .ok (.iconst 0, 1) := by decide +kernel
theorem dX0_init_22 : decode cX0_init 22 = .ok (.putfield 18, 3) := by decide +kernel
theorem dX0_init_25 : decode cX0_init 25 = .ok (.aload_n 0, 1) := by decide +kernel
theorem dX0_init_26 : decode cX0_init 26 = .ok (.iconst 0, 1) := by decide +kernel
theorem dX0_init_27 : decode cX0_init 27 = .ok (.putfield 22, 3) := by decide +kernel
theorem dX0_init_30 : decode cX0_init 30 = .ok (.aload_n 0, 1) := by decide +kernel
theorem dX0_init_31 : decode cX0_init 31 = .ok (.iconst 0, 1) := by decide +kernel
theorem dX0_init_32 : decode cX0_init 32 = .ok (.putfield 25, 3) := by decide +kernel
theorem dX0_init_35 : decode cX0_init 35 = .ok (.aload_n 0, 1) := by decide +kernel
theorem dX0_init_36 : decode cX0_init 36 = .ok (.iconst 0, 1) := by decide +kernel
theorem dX0_init_37 : decode cX0_init 37 = .ok (.putfield 28, 3) := by decide +kernel
theorem dX0_init_40 : decode cX0_init 40 = .ok (.aload_n 0, 1) := by decide +kernel
theorem dX0_init_41 : decode cX0_init 41 = .ok (.iconst 0, 1) := by decide +kernel
theorem dX0_init_42 : decode cX0_init 42 = .ok (.putfield 31, 3) := by decide +kernel
theorem dX0_init_45 : decode cX0_init 45 = .ok (.aload_n 0, 1) := by decide +kernel
theorem dX0_init_46 : decode cX0_init 46 = .ok (.iconst 1, 1) := by decide +kernel
theorem dX0_init_47 : decode cX0_init 47 = .ok (.putfield 34, 3) := by decide +kernel
theorem dX0_init_50 : decode cX0_init 50 = .ok (.aload_n 0, 1) := by decide +kernel
theorem dX0_init_51 : decode cX0_init 51 = .ok (.iconst 1, 1) := by decide +kernel
theorem dX0_init_52 : decode cX0_init 52 = .ok (.putfield 37, 3) := by decide +kernel
theorem dX0_init_55 : decode cX0_init 55 = .ok (.return_, 1) := by decide +kernel
theorem dX0_clear_0 : decode cX0_clear 0 = .ok (.aload_n 0, 1) := by decide +kernel
theorem dX0_clear_1 : decode cX0_clear 1 = .ok (.iconst 0, 1) := by decide +kernel
theorem dX0_clear_2 : decode cX0_clear 2 = .ok (.putfield 18, 3) := by decide +kernel
theorem dX0_clear_5 : decode cX0_clear 5 = .ok (.aload_n 0, 1) := by decide +kernel
theorem dX0_clear_6 : decode cX0_clear 6 = .ok (.iconst 0, 1) := by decide +kernel
theorem dX0_clear_7 : decode cX0_clear 7 = .ok (.putfield 22, 3) := by decide +kernel
theorem dX0_clear_10 : decode cX0_clear 10 = .ok (.aload_n 0, 1) := by decide +kernel
theorem dX0_clear_11 : decode cX0_clear 11 = .ok (.iconst 0, 1) := by decide +kernel
theorem dX0_clear_12 : decode cX0_clear 12 = .ok (.putfield 25, 3) := by decide +kernel
theorem dX0_clear_15 : decode cX0_clear 15 = .ok (.aload_n 0, 1) := by decide +kernel
theorem dX0_clear_16 : decode cX0_clear 16 = .ok (.iconst 0, 1) := by decide +kernel
theorem dX0_clear_17 : decode cX0_clear 17 = .ok (.putfield 28, 3) := by decide +kernel
theorem dX0_clear_20 : decode cX0_clear 20 = .ok (.aload_n 0, 1) := by decide +kernel
theorem dX0_clear_21 : decode cX0_clear 21 = .ok (.iconst 0, 1) := by decide +kernel
theorem dX0_clear_22 : decode cX0_clear 22 = .ok (.putfield 31, 3) := by decide +kernel
theorem dX0_clear_25 : decode cX0_clear 25 = .ok (.aload_n 0, 1) := by decide +kernel
theorem dX0_clear_26 : decode cX0_clear 26 = .ok (.iconst 1, 1) := by decide +kernel
theorem dX0_clear_27 : decode cX0_clear 27 = .ok (.putfield 34, 3) := by decide +kernel
theorem dX0_clear_30 : decode cX0_clear 30 = .ok (.aload_n 0, 1) := by decide +kernel
theorem dX0_clear_31 : decode cX0_clear 31 = .ok (.iconst 1, 1) := by decide +kernel
theorem dX0_clear_32 : decode cX0_clear 32 = .ok (.putfield 37, 3) := by decide +kernel
theorem dX0_clear_35 : decode cX0_clear 35 = .ok (.return_, 1) := by decide +kernel
theorem dX0_copy_0 : decode cX0_copy 0 = .ok (.aload_n 0, 1) := by decide +kernel
theorem dX0_copy_1 : decode cX0_copy 1 = .ok (.aload_n 1, 1) := by decide +kernel
theorem dX0_copy_2 : decode cX0_copy 2 = .ok (.getfield 18, 3) := by decide +kernel
theorem dX0_copy_5 : decode cX0_copy 5 = .ok (.putfield 18, 3) := by decide +kernel
theorem dX0_copy_8 : decode cX0_copy 8 = .ok (.aload_n 0, 1) := by decide +kernel
theorem dX0_copy_9 : decode cX0_copy 9 = .ok (.aload_n 1, 1) := by decide +kernel
theorem dX0_copy_10 : decode cX0_copy 10 = .ok (.getfield 22, 3) := by decide +kernel
theorem dX0_copy_13 : decode cX0_copy 13 = .ok (.putfield 22, 3) := by decide +kernel
theorem dX0_copy_16 : decode cX0_copy 16 = .ok (.aload_n 0, 1) := by decide +kernel
theorem dX0_copy_17 : decode cX0_copy 17 = .ok (.aload_n 1, 1) := by decide +kernel
theorem dX0_copy_18 : decode cX0_copy 18 = .ok (.getfield 25, 3) := by decide +kernel
theorem dX0_copy_21 : decode cX0_copy 21 = .ok (.putfield 25, 3) := by decide +kernel
theorem dX0_copy_24 : decode cX0_copy 24 = .ok (.aload_n 0, 1) := by decide +kernel
theorem dX0_copy_25 : decode cX0_copy 25 = .ok (.aload_n 1, 1) := by decide +kernel
theorem dX0_copy_26 : decode cX0_copy 26 = .ok (.getfield 28, 3) := by decide +kernel
theorem dX0_copy_29 : decode cX0_copy 29 = .ok (.putfield 28, 3) := by decide +kernel
theorem dX0_copy_32 : decode cX0_copy 32 = .ok (.aload_n 0, 1) := by decide +kernel
theorem dX0_copy_33 : decode cX0_copy 33 = .ok (.aload_n 1, 1) := by decide +kernel
theorem dX0_copy_34 : decode cX0_copy 34 = .ok (.getfield 31, 3) := by decide +kernel
theorem dX0_copy_37 : decode cX0_copy 37 = .ok (.putfield 31, 3) := by decide +kernel
theorem dX0_copy_40 : decode cX0_copy 40 = .ok (.aload_n 0, 1) := by decide +kernel
theorem dX0_copy_41 : decode cX0_copy 41 = .ok (.aload_n 1, 1) := by decide +kernel
theorem dX0_copy_42 : decode cX0_copy 42 = .ok (.getfield 34, 3) := by decide +kernel
theorem dX0_copy_45 : decode cX0_copy 45 = .ok (.putfield 34, 3) := by decide +kernel
theorem dX0_copy_48 : decode cX0_copy 48 = .ok (.aload_n 0, 1) := by decide +kernel
theorem dX0_copy_49 : decode cX0_copy 49 = .ok (.aload_n 1, 1) := by decide +kernel
theorem dX0_copy_50 : decode cX0_copy 50 = .ok (.getfield 37, 3) := by decide +kernel
theorem dX0_copy_53 : decode cX0_copy 53 = .ok (.putfield 37, 3) := by decide +kernel
theorem dX0_copy_56 : decode cX0_copy 56 = .ok (.iconst 0, 1) := by decide +kernel
theorem dX0_copy_57 : decode cX0_copy 57 = .ok (.istore_n 2, 1) := by decide +kernel
theorem dX0_copy_58 : decode cX0_copy 58 = .ok (.iload_n 2, 1) := by decide +kernel
theorem dX0_copy_59 : decode cX0_copy 59 = .ok (.iconst 2, 1) := by decide +kernel
theorem dX0_copy_60 : decode cX0_copy 60 = .ok (.aload_n 0, 1) := by decide +kernel
theorem dX0_copy_61 : decode cX0_copy 61 = .ok (.getfield 18, 3) := by decide +kernel
theorem dX0_copy_64 : decode cX0_copy 64 = .ok (.imul, 1) := by decide +kernel
theorem dX0_copy_65 : decode cX0_copy 65 = .ok (.if_icmp .ge 33, 3) := by decide +kernel
theorem dX0_copy_68 : decode cX0_copy 68 = .ok (.aload_n 0, 1) := by decide +kernel
theorem dX0_copy_69 : decode cX0_copy 69 = .ok (.getfield 9, 3) := by decide +kernel
theorem dX0_copy_72 : decode cX0_copy 72 = .ok (.iload_n 2, 1) := by decide +kernel
theorem dX0_copy_73 : decode cX0_copy 73 = .ok (.aload_n 1, 1) := by decide +kernel
theorem dX0_copy_74 : decode cX0_copy 74 = .ok (.getfield 9, 3) := by decide +kernel
theorem dX0_copy_77 : decode cX0_copy 77 = .ok (.iload_n 2, 1) := by decide +kernel
theorem dX0_copy_78 : decode cX0_copy 78 = .ok (.iaload, 1) := by decide +kernel
theorem dX0_copy_79 : decode cX0_copy 79 = .ok (.iastore, 1) := by decide +kernel
theorem dX0_copy_80 : decode cX0_copy 80 = .ok (.aload_n 0, 1) := by decide +kernel
theorem dX0_copy_81 : decode cX0_copy 81 = .ok (.getfield 15, 3) := by decide +kernel
theorem dX0_copy_84 : decode cX0_copy 84 = .ok (.iload_n 2, 1) := by decide +kernel
theorem dX0_copy_85 : decode cX0_copy 85 = .ok (.aload_n 1, 1) := by decide +kernel
theorem dX0_copy_86 : decode cX0_copy 86 = .ok (.getfield 15, 3) := by decide +kernel
theorem dX0_copy_89 : decode cX0_copy 89 = .ok (.iload_n 2, 1) := by decide +kernel
theorem dX0_copy_90 : decode cX0_copy 90 = .ok (.iaload, 1) := by decide +kernel
theorem dX0_copy_91 : decode cX0_copy 91 = .ok (.iastore, 1) := by decide +kernel
theorem dX0_copy_92 : decode cX0_copy 92 = .ok (.iinc 2 1, 3) := by decide +kernel
theorem dX0_copy_95 : decode cX0_copy 95 = .ok (.goto (-37), 3) := by decide +kernel
theorem dX0_copy_98 : decode cX0_copy 98 = .ok (.return_, 1) := by decide +kernel
theorem dX0_hasPoint_0 : decode cX0_hasPoint 0 = .ok (.iload_n 1, 1) := by decide +kernel
theorem dX0_hasPoint_1 : decode cX0_hasPoint 1 = .ok (.ifCond .lt 27, 3) := by decide +kernel
theorem dX0_hasPoint_4 : decode cX0_hasPoint 4 = .ok (.iload_n 1, 1) := by decide +kernel
theorem dX0_hasPoint_5 : decode cX0_hasPoint 5 = .ok (.aload_n 0, 1) := by decide +kernel
theorem dX0_hasPoint_6 : decode cX0_hasPoint 6 = .ok (.getfield 22, 3) := by decide +kernel
theorem dX0_hasPoint_9 : decode cX0_hasPoint 9 = .ok (.if_icmp .gt 19, 3) := by decide +kernel
theorem dX0_hasPoint_12 : decode cX0_hasPoint 12 = .ok (.iload_n 2, 1) := by decide +kernel
theorem dX0_hasPoint_13 : decode cX0_hasPoint 13 = .ok (.ifCond .lt 15, 3) := by decide +kernel
theorem dX0_hasPoint_16 : decode cX0_hasPoint 16 = .ok (.iload_n 2, 1) := by decide +kernel
theorem dX0_hasPoint_17 : decode cX0_hasPoint 17 = .ok (.aload_n 0, 1) := by decide +kernel
theorem dX0_hasPoint_18 : decode cX0_hasPoint 18 = .ok (.getfield 22, 3) := by decide +kernel
theorem dX0_hasPoint_21 : decode cX0_hasPoint 21 = .ok (.if_icmp .gt 7, 3) := by decide +kernel
theorem dX0_hasPoint_24 : decode cX0_hasPoint 24 = .ok (.iconst 1, 1) := by decide +kernel
theorem dX0_hasPoint_25 : decode cX0_hasPoint 25 = .ok (.goto 4, 3) := by decide +kernel
theorem dX0_hasPoint_28 : decode cX0_hasPoint 28 = .ok (.iconst 0, 1) := by decide +kernel
theorem dX0_hasPoint_29 : decode cX0_hasPoint 29 = .ok (.ireturn, 1) := by decide +kernel
theorem dX0_putStroke_0 : decode cX0_putStroke 0 = .ok (.aload_n 0, 1) := by decide +kernel
theorem dX0_putStroke_1 : decode cX0_putStroke 1 = .ok (.getfield 18, 3) := by decide +kernel
theorem dX0_putStroke_4 : decode cX0_putStroke 4 = .ok (.bipush 24, 2) := by decide +kernel
theorem dX0_putStroke_6 : decode cX0_putStroke 6 = .ok (.if_icmp .lt 4, 3) := by decide +kernel
theorem dX0_putStroke_9 : decode cX0_putStroke 9 = .ok (.return_, 1) := by decide +kernel
theorem dX0_putStroke_10 : decode cX0_putStroke 10 = .ok (.aload_n 0, 1) := by decide +kernel
theorem dX0_putStroke_11 : decode cX0_putStroke 11 = .ok (.getfield 9, 3) := by decide +kernel
theorem dX0_putStroke_14 : decode cX0_putStroke 14 = .ok (.iconst 2, 1) := by decide +kernel
theorem dX0_putStroke_15 : decode cX0_putStroke 15 = .ok (.aload_n 0, 1) := by decide +kernel
theorem dX0_putStroke_16 : decode cX0_putStroke 16 = .ok (.getfield 18, 3) := by decide +kernel
theorem dX0_putStroke_19 : decode cX0_putStroke 19 = .ok (.imul, 1) := by decide +kernel
theorem dX0_putStroke_20 : decode cX0_putStroke 20 = .ok (.iload_n 1, 1) := by decide +kernel
theorem dX0_putStroke_21 : decode cX0_putStroke 21 = .ok (.iastore, 1) := by decide +kernel
theorem dX0_putStroke_22 : decode cX0_putStroke 22 = .ok (.aload_n 0, 1) := by decide +kernel
theorem dX0_putStroke_23 : decode cX0_putStroke 23 = .ok (.getfield 15, 3) := by decide +kernel
theorem dX0_putStroke_26 : decode cX0_putStroke 26 = .ok (.iconst 2, 1) := by decide +kernel
theorem dX0_putStroke_27 : decode cX0_putStroke 27 = .ok (.aload_n 0, 1) := by decide +kernel
theorem dX0_putStroke_28 : decode cX0_putStroke 28 = .ok (.getfield 18, 3) := by decide +kernel
theorem dX0_putStroke_31 : decode cX0_putStroke 31 = .ok (.imul, 1) := by decide +kernel
theorem dX0_putStroke_32 : decode cX0_putStroke 32 = .ok (.iload_n 2, 1) := by decide +kernel
theorem dX0_putStroke_33 : decode cX0_putStroke 33 = .ok (.iastore, 1) := by decide +kernel
theorem dX0_putStroke_34 : decode cX0_putStroke 34 = .ok (.aload_n 0, 1) := by decide +kernel
theorem dX0_putStroke_35 : decode cX0_putStroke 35 = .ok (.getfield 9, 3) := by decide +kernel
theorem dX0_putStroke_38 : decode cX0_putStroke 38 = .ok (.iconst 2, 1) := by decide +kernel
theorem dX0_putStroke_39 : decode cX0_putStroke 39 = .ok (.aload_n 0, 1) := by decide +kernel
theorem dX0_putStroke_40 : decode cX0_putStroke 40 = .ok (.getfield 18, 3) := by decide +kernel
theorem dX0_putStroke_43 : decode cX0_putStroke 43 = .ok (.imul, 1) := by decide +kernel
theorem dX0_putStroke_44 : decode cX0_putStroke 44 = .ok (.iconst 1, 1) := by decide +kernel
theorem dX0_putStroke_45 : decode cX0_putStroke 45 = .ok (.iadd, 1) := by decide +kernel
theorem dX0_putStroke_46 : decode cX0_putStroke 46 = .ok (.iload_n 3, 1) := by decide +kernel
theorem dX0_putStroke_47 : decode cX0_putStroke 47 = .ok (.iastore, 1) := by decide +kernel
theorem dX0_putStroke_48 : decode cX0_putStroke 48 = .ok (.aload_n 0, 1) := by decide +kernel
theorem dX0_putStroke_49 : decode cX0_putStroke 49 = .ok (.getfield 15, 3) := by decide +kernel
theorem dX0_putStroke_52 : decode cX0_putStroke 52 = .ok (.iconst 2, 1) := by decide +kernel
theorem dX0_putStroke_53 : decode cX0_putStroke 53 = .ok (.aload_n 0, 1) := by decide +kernel
theorem dX0_putStroke_54 : decode cX0_putStroke 54 = .ok (.getfield 18, 3) := by decide +kernel
theorem dX0_putStroke_57 : decode cX0_putStroke 57 = .ok (.imul, 1) := by decide +kernel
theorem dX0_putStroke_58 : decode cX0_putStroke 58 = .ok (.iconst 1, 1) := by decide +kernel
theorem dX0_putStroke_59 : decode cX0_putStroke 59 = .ok (.iadd, 1) := by decide +kernel
theorem dX0_putStroke_60 : decode cX0_putStroke 60 = .ok (.iload 4, 2) := by decide +kernel
theorem dX0_putStroke_62 : decode cX0_putStroke 62 = .ok (.iastore, 1) := by decide +kernel
theorem dX0_putStroke_63 : decode cX0_putStroke 63 = .ok (.aload_n 0, 1) := by decide +kernel
theorem dX0_putStroke_64 : decode cX0_putStroke 64 = .ok (.dup, 1) := by decide +kernel
theorem dX0_putStroke_65 : decode cX0_putStroke 65 = .ok (.getfield 18, 3) := by decide +kernel
theorem dX0_putStroke_68 : decode cX0_putStroke 68 = .ok (.iconst 1, 1) := by decide +kernel
theorem dX0_putStroke_69 : decode cX0_putStroke 69 = .ok (.iadd, 1) := by decide +kernel
theorem dX0_putStroke_70 : decode cX0_putStroke 70 = .ok (.putfield 18, 3) := by decide +kernel
theorem dX0_putStroke_73 : decode cX0_putStroke 73 = .ok (.return_, 1) := by decide +kernel
theorem dX0_removeStroke_0 : decode cX0_removeStroke 0 = .ok (.iload_n 1, 1) := by decide +kernel
theorem dX0_removeStroke_1 : decode cX0_removeStroke 1 = .ok (.ifCond .lt 11, 3) := by decide +kernel
theorem dX0_removeStroke_4 : decode cX0_removeStroke 4 = .ok (.iload_n 1, 1) := by decide +kernel
theorem dX0_removeStroke_5 : decode cX0_removeStroke 5 = .ok (.aload_n 0, 1) := by decide +kernel
theorem dX0_removeStroke_6 : decode cX0_removeStroke 6 = .ok (.getfield 18, 3) := by decide +kernel
theorem dX0_removeStroke_9 : decode cX0_removeStroke 9 = .ok (.if_icmp .lt 4, 3) := by decide +kernel
theorem dX0_removeStroke_12 : decode cX0_removeStroke 12 = .ok (.return_, 1) := by decide +kernel
theorem dX0_removeStroke_13 : decode cX0_removeStroke 13 = .ok (.aload_n 0, 1) := by decide +kernel
theorem dX0_removeStroke_14 : decode cX0_removeStroke 14 = .ok (.dup, 1) := by decide +kernel
theorem dX0_removeStroke_15 : decode cX0_removeStroke 15 = .ok (.getfield 18, 3) := by decide +kernel
theorem dX0_removeStroke_18 : decode cX0_removeStroke 18 = .ok (.iconst 1, 1) := by decide +kernel
theorem dX0_removeStroke_19 : decode cX0_removeStroke 19 = .ok (.isub, 1) := by decide +kernel
theorem dX0_removeStroke_20 : decode cX0_removeStroke 20 = .ok (.putfield 18, 3) := by decide +kernel
theorem dX0_removeStroke_23 : decode cX0_removeStroke 23 = .ok (.iconst 2, 1) := by decide +kernel
theorem dX0_removeStroke_24 : decode cX0_removeStroke 24 = .ok (.iload_n 1, 1) := by decide +kernel
theorem dX0_removeStroke_25 : decode cX0_removeStroke 25 = .ok (.imul, 1) := by decide +kernel
theorem dX0_removeStroke_26 : decode cX0_removeStroke 26 = .ok (.istore_n 2, 1) := by decide +kernel
theorem dX0_removeStroke_27 : decode cX0_removeStroke 27 = .ok (.iload_n 2, 1) := by decide +kernel
theorem dX0_removeStroke_28 : decode cX0_removeStroke 28 = .ok (.iconst 2, 1) := by decide +kernel
theorem dX0_removeStroke_29 : decode cX0_removeStroke 29 = .ok (.aload_n 0, 1) := by decide +kernel
theorem dX0_removeStroke_30 : decode cX0_removeStroke 30 = .ok (.getfield 18, 3) := by decide +kernel
theorem dX0_removeStroke_33 : decode cX0_removeStroke 33 = .ok (.imul, 1) := by decide +kernel
theorem dX0_removeStroke_34 : decode cX0_removeStroke 34 = .ok (.if_icmp .ge 37, 3) := by decide +kernel
theorem dX0_removeStroke_37 : decode cX0_removeStroke 37 = .ok (.aload_n 0, 1) := by decide +kernel
theorem dX0_removeStroke_38 : decode cX0_removeStroke 38 = .ok (.getfield 9, 3) := by decide +kernel
theorem dX0_removeStroke_41 : decode cX0_removeStroke 41 = .ok (.iload_n 2, 1) := by decide +kernel
theorem dX0_removeStroke_42 : decode cX0_removeStroke 42 = .ok (.aload_n 0, 1) := by decide +kernel
theorem dX0_removeStroke_43 : decode cX0_removeStroke 43 = .ok (.getfield 9, 3) := by decide +kernel
theorem dX0_removeStroke_46 : decode cX0_removeStroke 46 = .ok (.iload_n 2, 1) := by decide +kernel
theorem dX0_removeStroke_47 : decode cX0_removeStroke 47 = .ok (.iconst 2, 1) := by decide +kernel
theorem dX0_removeStroke_48 : decode cX0_removeStroke 48 = .ok (.iadd, 1) := by decide +kernel
theorem dX0_removeStroke_49 : decode cX0_removeStroke 49 = .ok (.iaload, 1) := by decide +kernel
theorem dX0_removeStroke_50 : decode cX0_removeStroke 50 = .ok (.iastore, 1) := by decide +kernel
theorem dX0_removeStroke_51 : decode cX0_removeStroke 51 = .ok (.aload_n 0, 1) := by decide +kernel
theorem dX0_removeStroke_52 : decode cX0_removeStroke 52 = .ok (.getfield 15, 3) := by decide +kernel
theorem dX0_removeStroke_55 : decode cX0_removeStroke 55 = .ok (.iload_n 2, 1) := by decide +kernel
theorem dX0_removeStroke_56 : decode cX0_removeStroke 56 = .ok (.aload_n 0, 1) := by decide +kernel
theorem dX0_removeStroke_57 : decode cX0_removeStroke 57 = .ok (.getfield 15, 3) := by decide +kernel
theorem dX0_removeStroke_60 : decode cX0_removeStroke 60 = .ok (.iload_n 2, 1) := by decide +kernel
theorem dX0_removeStroke_61 : decode cX0_removeStroke 61 = .ok (.iconst 2, 1) := by decide +kernel
theorem dX0_removeStroke_62 : decode cX0_removeStroke 62 = .ok (.iadd, 1) := by decide +kernel
theorem dX0_removeStroke_63 : decode cX0_removeStroke 63 = .ok (.iaload, 1) := by decide +kernel
theorem dX0_removeStroke_64 : decode cX0_removeStroke 64 = .ok (.iastore, 1) := by decide +kernel
theorem dX0_removeStroke_65 : decode cX0_removeStroke 65 = .ok (.iinc 2 1, 3) := by decide +kernel
theorem dX0_removeStroke_68 : decode cX0_removeStroke 68 = .ok (.goto (-41), 3) := by decide +kernel
theorem dX0_removeStroke_71 : decode cX0_removeStroke 71 = .ok (.return_, 1) := by decide +kernel
theorem dX0_endsApart_0 : decode cX0_endsApart 0 = .ok (.aload_n 0, 1) := by decide +kernel
theorem dX0_endsApart_1 : decode cX0_endsApart 1 = .ok (.getfield 9, 3) := by decide +kernel
theorem dX0_endsApart_4 : decode cX0_endsApart 4 = .ok (.iload_n 1, 1) := by decide +kernel
theorem dX0_endsApart_5 : decode cX0_endsApart 5 = .ok (.iaload, 1) := by decide +kernel
theorem dX0_endsApart_6 : decode cX0_endsApart 6 = .ok (.aload_n 0, 1) := by decide +kernel
theorem dX0_endsApart_7 : decode cX0_endsApart 7 = .ok (.getfield 9, 3) := by decide +kernel
theorem dX0_endsApart_10 : decode cX0_endsApart 10 = .ok (.iload_n 2, 1) := by decide +kernel
theorem dX0_endsApart_11 : decode cX0_endsApart 11 = .ok (.iaload, 1) := by decide +kernel
theorem dX0_endsApart_12 : decode cX0_endsApart 12 = .ok (.isub, 1) := by decide +kernel
theorem dX0_endsApart_13 : decode cX0_endsApart 13 = .ok (.invokestatic 40, 3) := by decide +kernel
theorem dX0_endsApart_16 : decode cX0_endsApart 16 = .ok (.aload_n 0, 1) := by decide +kernel
theorem dX0_endsApart_17 : decode cX0_endsApart 17 = .ok (.getfield 15, 3) := by decide +kernel
theorem dX0_endsApart_20 : decode cX0_endsApart 20 = .ok (.iload_n 1, 1) := by decide +kernel
theorem dX0_endsApart_21 : decode cX0_endsApart 21 = .ok (.iaload, 1) := by decide +kernel
theorem dX0_endsApart_22 : decode cX0_endsApart 22 = .ok (.aload_n 0, 1) := by decide +kernel
theorem dX0_endsApart_23 : decode cX0_endsApart 23 = .ok (.getfield 15, 3) := by decide +kernel
theorem dX0_endsApart_26 : decode cX0_endsApart 26 = .ok (.iload_n 2, 1) := by decide +kernel
theorem dX0_endsApart_27 : decode cX0_endsApart 27 = .ok (.iaload, 1) := by decide +kernel
theorem dX0_endsApart_28 : decode cX0_endsApart 28 = .ok (.isub, 1) := by decide +kernel
theorem dX0_endsApart_29 : decode cX0_endsApart 29 = .ok (.invokestatic 40, 3) := by decide +kernel
theorem dX0_endsApart_32 : decode cX0_endsApart 32 = .ok (.iadd, 1) := by decide +kernel
theorem dX0_endsApart_33 : decode cX0_endsApart 33 = .ok (.ireturn, 1) := by decide +kernel
theorem dX0_strokeLength_0 : decode cX0_strokeLength 0 = .ok (.aload_n 0, 1) := by decide +kernel
theorem dX0_strokeLength_1 : decode cX0_strokeLength 1 = .ok (.iconst 2, 1) := by decide +kernel
theorem dX0_strokeLength_2 : decode cX0_strokeLength 2 = .ok (.iload_n 1, 1) := by decide +kernel
theorem dX0_strokeLength_3 : decode cX0_strokeLength 3 = .ok (.imul, 1) := by decide +kernel
theorem dX0_strokeLength_4 : decode cX0_strokeLength 4 = .ok (.iconst 2, 1) := by decide +kernel
theorem dX0_strokeLength_5 : decode cX0_strokeLength 5 = .ok (.iload_n 1, 1) := by decide +kernel
theorem dX0_strokeLength_6 : decode cX0_strokeLength 6 = .ok (.imul, 1) := by decide +kernel
theorem dX0_strokeLength_7 : decode cX0_strokeLength 7 = .ok (.iconst 1, 1) := by decide +kernel
theorem dX0_strokeLength_8 : decode cX0_strokeLength 8 = .ok (.iadd, 1) := by decide +kernel
theorem dX0_strokeLength_9 : decode cX0_strokeLength 9 = .ok (.invokevirtual 46, 3) := by decide +kernel
theorem dX0_strokeLength_12 : decode cX0_strokeLength 12 = .ok (.ireturn, 1) := by decide +kernel
theorem dX0_allLengths_0 : decode cX0_allLengths 0 = .ok (.iconst 0, 1) := by decide +kernel
theorem dX0_allLengths_1 : decode cX0_allLengths 1 = .ok (.istore_n 1, 1) := by decide +kernel
theorem dX0_allLengths_2 : decode cX0_allLengths 2 = .ok (.iconst 0, 1) := by decide +kernel
theorem dX0_allLengths_3 : decode cX0_allLengths 3 = .ok (.istore_n 2, 1) := by decide +kernel
theorem dX0_allLengths_4 : decode cX0_allLengths 4 = .ok (.iload_n 2, 1) := by decide +kernel
theorem dX0_allLengths_5 : decode cX0_allLengths 5 = .ok (.aload_n 0, 1) := by decide +kernel
theorem dX0_allLengths_6 : decode cX0_allLengths 6 = .ok (.getfield 18, 3) := by decide +kernel
theorem dX0_allLengths_9 : decode cX0_allLengths 9 = .ok (.if_icmp .ge 17, 3) := by decide +kernel
theorem dX0_allLengths_12 : decode cX0_allLengths 12 = .ok (.iload_n 1, 1) := by decide +kernel
theorem dX0_allLengths_13 : decode cX0_allLengths 13 = .ok (.aload_n 0, 1) := by decide +kernel
theorem dX0_allLengths_14 : decode cX0_allLengths 14 = .ok (.iload_n 2, 1) := by decide +kernel
theorem dX0_allLengths_15 : decode cX0_allLengths 15 = .ok (.invokevirtual 50, 3) := by decide +kernel
theorem dX0_allLengths_18 : decode cX0_allLengths 18 = .ok (.iadd, 1) := by decide +kernel
theorem dX0_allLengths_19 : decode cX0_allLengths 19 = .ok (.istore_n 1, 1) := by decide +kernel
theorem dX0_allLengths_20 : decode cX0_allLengths 20 = .ok (.iinc 2 1, 3) := by decide +kernel
theorem dX0_allLengths_23 : decode cX0_allLengths 23 = .ok (.goto (-19), 3) := by decide +kernel
theorem dX0_allLengths_26 : decode cX0_allLengths 26 = .ok (.iload_n 1, 1) := by decide +kernel
theorem dX0_allLengths_27 : decode cX0_allLengths 27 = .ok (.ireturn, 1) := by decide +kernel
theorem dX1_init_0 : decode cX1_init 0 = .ok (.aload_n 0, 1) := by decide +kernel
theorem dX1_init_1 : decode cX1_init 1 = .ok (.invokespecial 3, 3) := by decide +kernel
theorem dX1_init_4 : decode cX1_init 4 = .ok (.aload_n 0, 1) := by decide +kernel
theorem dX1_init_5 : decode cX1_init 5 = .ok (.bipush 48, 2) := by decide +kernel
theorem dX1_init_7 : decode cX1_init 7 = .ok (.newarray .int, 2) := by decide +kernel
theorem dX1_init_9 : decode cX1_init 9 = .ok (.putfield 9, 3) := by decide +kernel
theorem dX1_init_12 : decode cX1_init 12 = .ok (.aload_n 0, 1) := by decide +kernel
theorem dX1_init_13 : decode cX1_init 13 = .ok (.bipush 48, 2) := by decide +kernel
theorem dX1_init_15 : decode cX1_init 15 = .ok (.newarray .int, 2) := by decide +kernel
theorem dX1_init_17 : decode cX1_init 17 = .ok (.putfield 15, 3) := by decide +kernel
theorem dX1_init_20 : decode cX1_init 20 = .ok (.aload_n 0, 1) := by decide +kernel
theorem dX1_init_21 : decode cX1_init 21 = .ok (.iconst 0, 1) := by decide +kernel
theorem dX1_init_22 : decode cX1_init 22 = .ok (.putfield 18, 3) := by decide +kernel
theorem dX1_init_25 : decode cX1_init 25 = .ok (.aload_n 0, 1) := by decide +kernel
theorem dX1_init_26 : decode cX1_init 26 = .ok (.bipush 48, 2) := by decide +kernel
theorem dX1_init_28 : decode cX1_init 28 = .ok (.newarray .int, 2) := by decide +kernel
theorem dX1_init_30 : decode cX1_init 30 = .ok (.putfield 22, 3) := by decide +kernel
theorem dX1_init_33 : decode cX1_init 33 = .ok (.aload_n 0, 1) := by decide +kernel
theorem dX1_init_34 : decode cX1_init 34 = .ok (.iconst 0, 1) := by decide +kernel
theorem dX1_init_35 : decode cX1_init 35 = .ok (.putfield 25, 3) := by decide +kernel
theorem dX1_init_38 : decode cX1_init 38 = .ok (.return_, 1) := by decide +kernel
theorem dX1_begin_0 : decode cX1_begin 0 = .ok (.aload_n 0, 1) := by decide +kernel
theorem dX1_begin_1 : decode cX1_begin 1 = .ok (.iload_n 1, 1) := by decide +kernel
theorem dX1_begin_2 : decode cX1_begin 2 = .ok (.bipush 48, 2) := by decide +kernel
theorem dX1_begin_4 : decode cX1_begin 4 = .ok (.invokestatic 28, 3) := by decide +kernel
theorem dX1_begin_7 : decode cX1_begin 7 = .ok (.putfield 25, 3) := by decide +kernel
theorem dX1_begin_10 : decode cX1_begin 10 = .ok (.iconst 0, 1) := by decide +kernel
theorem dX1_begin_11 : decode cX1_begin 11 = .ok (.istore_n 2, 1) := by decide +kernel
theorem dX1_begin_12 : decode cX1_begin 12 = .ok (.iload_n 2, 1) := by decide +kernel
theorem dX1_begin_13 : decode cX1_begin 13 = .ok (.aload_n 0, 1) := by decide +kernel
theorem dX1_begin_14 : decode cX1_begin 14 = .ok (.getfield 25, 3) := by decide +kernel
theorem dX1_begin_17 : decode cX1_begin 17 = .ok (.if_icmp .ge 16, 3) := by decide +kernel
theorem dX1_begin_20 : decode cX1_begin 20 = .ok (.aload_n 0, 1) := by decide +kernel
theorem dX1_begin_21 : decode cX1_begin 21 = .ok (.getfield 22, 3) := by decide +kernel
theorem dX1_begin_24 : decode cX1_begin 24 = .ok (.iload_n 2, 1) := by decide +kernel
theorem dX1_begin_25 : decode cX1_begin 25 = .ok (.iload_n 2, 1) := by decide +kernel
theorem dX1_begin_26 : decode cX1_begin 26 = .ok (.iastore, 1) := by decide +kernel
theorem dX1_begin_27 : decode cX1_begin 27 = .ok (.iinc 2 1, 3) := by decide +kernel
theorem dX1_begin_30 : decode cX1_begin 30 = .ok (.goto (-18), 3) := by decide +kernel
theorem dX1_begin_33 : decode cX1_begin 33 = .ok (.return_, 1) := by decide +kernel
theorem dX1_tie_0 : decode cX1_tie 0 = .ok (.aload_n 0, 1) := by decide +kernel
theorem dX1_tie_1 : decode cX1_tie 1 = .ok (.getfield 22, 3) := by decide +kernel
theorem dX1_tie_4 : decode cX1_tie 4 = .ok (.iload_n 1, 1) := by decide +kernel
theorem dX1_tie_5 : decode cX1_tie 5 = .ok (.iaload, 1) := by decide +kernel
theorem dX1_tie_6 : decode cX1_tie 6 = .ok (.aload_n 0, 1) := by decide +kernel
theorem dX1_tie_7 : decode cX1_tie 7 = .ok (.getfield 22, 3) := by decide +kernel
theorem dX1_tie_10 : decode cX1_tie 10 = .ok (.iload_n 2, 1) := by decide +kernel
theorem dX1_tie_11 : decode cX1_tie 11 = .ok (.iaload, 1) := by decide +kernel
theorem dX1_tie_12 : decode cX1_tie 12 = .ok (.invokestatic 28, 3) := by decide +kernel
theorem dX1_tie_15 : decode cX1_tie 15 = .ok (.istore_n 3, 1) := by decide +kernel
theorem dX1_tie_16 : decode cX1_tie 16 = .ok (.aload_n 0, 1) := by decide +kernel
theorem dX1_tie_17 : decode cX1_tie 17 = .ok (.getfield 22, 3) := by decide +kernel
theorem dX1_tie_20 : decode cX1_tie 20 = .ok (.iload_n 1, 1) := by decide +kernel
theorem dX1_tie_21 : decode cX1_tie 21 = .ok (.iaload, 1) := by decide +kernel
theorem dX1_tie_22 : decode cX1_tie 22 = .ok (.aload_n 0, 1) := by decide +kernel
theorem dX1_tie_23 : decode cX1_tie 23 = .ok (.getfield 22, 3) := by decide +kernel
theorem dX1_tie_26 : decode cX1_tie 26 = .ok (.iload_n 2, 1) := by decide +kernel
theorem dX1_tie_27 : decode cX1_tie 27 = .ok (.iaload, 1) := by decide +kernel
theorem dX1_tie_28 : decode cX1_tie 28 = .ok (.invokestatic 34, 3) := by decide +kernel
theorem dX1_tie_31 : decode cX1_tie 31 = .ok (.istore 4, 2) := by decide +kernel
theorem dX1_tie_33 : decode cX1_tie 33 = .ok (.iload_n 3, 1) := by decide +kernel
theorem dX1_tie_34 : decode cX1_tie 34 = .ok (.iload 4, 2) := by decide +kernel
theorem dX1_tie_36 : decode cX1_tie 36 = .ok (.if_icmp .ne 4, 3) := by decide +kernel
theorem dX1_tie_39 : decode cX1_tie 39 = .ok (.return_, 1) := by decide +kernel
theorem dX1_tie_40 : decode cX1_tie 40 = .ok (.iload 4, 2) := by decide +kernel
theorem dX1_tie_42 : decode cX1_tie 42 = .ok (.istore 5, 2) := by decide +kernel
theorem dX1_tie_44 : decode cX1_tie 44 = .ok (.iload 5, 2) := by decide +kernel
theorem dX1_tie_46 : decode cX1_tie 46 = .ok (.aload_n 0, 1) := by decide +kernel
theorem dX1_tie_47 : decode cX1_tie 47 = .ok (.getfield 25, 3) := by decide +kernel
theorem dX1_tie_50 : decode cX1_tie 50 = .ok (.if_icmp .ge 29, 3) := by decide +kernel
theorem dX1_tie_53 : decode cX1_tie 53 = .ok (.aload_n 0, 1) := by decide +kernel
theorem dX1_tie_54 : decode cX1_tie 54 = .ok (.getfield 22, 3) := by decide +kernel
theorem dX1_tie_57 : decode cX1_tie 57 = .ok (.iload 5, 2) := by decide +kernel
theorem dX1_tie_59 : decode cX1_tie 59 = .ok (.iaload, 1) := by decide +kernel
theorem dX1_tie_60 : decode cX1_tie 60 = .ok (.iload 4, 2) := by decide +kernel
theorem dX1_tie_62 : decode cX1_tie 62 = .ok (.if_icmp .ne 11, 3) := by decide +kernel
theorem dX1_tie_65 : decode cX1_tie 65 = .ok (.aload_n 0, 1) := by decide +kernel
theorem dX1_tie_66 : decode cX1_tie 66 = .ok (.getfield 22, 3) := by decide +kernel
theorem dX1_tie_69 : decode cX1_tie 69 = .ok (.iload 5, 2) := by decide +kernel
theorem dX1_tie_71 : decode cX1_tie 71 = .ok (.iload_n 3, 1) := by decide +kernel
theorem dX1_tie_72 : decode cX1_tie 72 = .ok (.iastore, 1) := by decide +kernel
theorem dX1_tie_73 : decode cX1_tie 73 = .ok (.iinc 5 1, 3) := by decide +kernel
theorem dX1_tie_76 : decode cX1_tie 76 = .ok (.goto (-32), 3) := by decide +kernel
theorem dX1_tie_79 : decode cX1_tie 79 = .ok (.return_, 1) := by decide +kernel
theorem dX1_numberAll_0 : decode cX1_numberAll 0 = .ok (.aload_n 0, 1) := by decide +kernel
theorem dX1_numberAll_1 : decode cX1_numberAll 1 = .ok (.iconst 0, 1) := by decide +kernel
theorem dX1_numberAll_2 : decode cX1_numberAll 2 = .ok (.putfield 18, 3) := by decide +kernel
theorem dX1_numberAll_5 : decode cX1_numberAll 5 = .ok (.iconst 0, 1) := by decide +kernel
theorem dX1_numberAll_6 : decode cX1_numberAll 6 = .ok (.istore_n 1, 1) := by decide +kernel
theorem dX1_numberAll_7 : decode cX1_numberAll 7 = .ok (.iload_n 1, 1) := by decide +kernel
theorem dX1_numberAll_8 : decode cX1_numberAll 8 = .ok (.aload_n 0, 1) := by decide +kernel
theorem dX1_numberAll_9 : decode cX1_numberAll 9 = .ok (.getfield 25, 3) := by decide +kernel
theorem dX1_numberAll_12 : decode cX1_numberAll 12 = .ok (.if_icmp .ge 69, 3) := by decide +kernel
theorem dX1_numberAll_15 : decode cX1_numberAll 15 = .ok (.aload_n 0, 1) := by decide +kernel
theorem dX1_numberAll_16 : decode cX1_numberAll 16 = .ok (.getfield 22, 3) := by decide +kernel
theorem dX1_numberAll_19 : decode cX1_numberAll 19 = .ok (.iload_n 1, 1) := by decide +kernel
theorem dX1_numberAll_20 : decode cX1_numberAll 20 = .ok (.iaload, 1) := by decide +kernel
theorem dX1_numberAll_21 : decode cX1_numberAll 21 = .ok (.iload_n 1, 1) := by decide +kernel
theorem dX1_numberAll_22 : decode cX1_numberAll 22 = .ok (.if_icmp .ne 36, 3) := by decide +kernel
theorem dX1_numberAll_25 : decode cX1_numberAll 25 = .ok (.aload_n 0, 1) := by decide +kernel
theorem dX1_numberAll_26 : decode cX1_numberAll 26 = .ok (.getfield 15, 3) := by decide +kernel
theorem dX1_numberAll_29 : decode cX1_numberAll 29 = .ok (.aload_n 0, 1) := by decide +kernel
theorem dX1_numberAll_30 : decode cX1_numberAll 30 = .ok (.getfield 18, 3) := by decide +kernel
theorem dX1_numberAll_33 : decode cX1_numberAll 33 = .ok (.iload_n 1, 1) := by decide +kernel
theorem dX1_numberAll_34 : decode cX1_numberAll 34 = .ok (.iastore, 1) := by decide +kernel
theorem dX1_numberAll_35 : decode cX1_numberAll 35 = .ok (.aload_n 0, 1) := by decide +kernel
theorem dX1_numberAll_36 : decode cX1_numberAll 36 = .ok (.getfield 9, 3) := by decide +kernel
theorem dX1_numberAll_39 : decode cX1_numberAll 39 = .ok (.iload_n 1, 1) := by decide +kernel
theorem dX1_numberAll_40 : decode cX1_numberAll 40 = .ok (.aload_n 0, 1) := by decide +kernel
theorem dX1_numberAll_41 : decode cX1_numberAll 41 = .ok (.getfield 18, 3) := by decide +kernel
theorem dX1_numberAll_44 : decode cX1_numberAll 44 = .ok (.iastore, 1) := by decide +kernel
theorem dX1_numberAll_45 : decode cX1_numberAll 45 = .ok (.aload_n 0, 1) := by decide +kernel
theorem dX1_numberAll_46 : decode cX1_numberAll 46 = .ok (.dup, 1) := by decide +kernel
theorem dX1_numberAll_47 : decode cX1_numberAll 47 = .ok (.getfield 18, 3) := by decide +kernel
theorem dX1_numberAll_50 : decode cX1_numberAll 50 = .ok (.iconst 1, 1) := by decide +kernel
theorem dX1_numberAll_51 : decode cX1_numberAll 51 = .ok (.iadd, 1) := by decide +kernel
theorem dX1_numberAll_52 : decode cX1_numberAll 52 = .ok (.putfield 18, 3) := by decide +kernel
theorem dX1_numberAll_55 : decode cX1_numberAll 55 = .ok (.goto 20, 3) := by decide +kernel
theorem dX1_numberAll_58 : decode cX1_numberAll 58 = .ok (.aload_n 0, 1) := by decide +kernel
theorem dX1_numberAll_59 : decode cX1_numberAll 59 = .ok (.getfield 9, 3) := by decide +kernel
theorem dX1_numberAll_62 : decode cX1_numberAll 62 = .ok (.iload_n 1, 1) := by decide +kernel
theorem dX1_numberAll_63 : decode cX1_numberAll 63 = .ok (.aload_n 0, 1) := by decide +kernel
theorem dX1_numberAll_64 : decode cX1_numberAll 64 = .ok (.getfield 9, 3) := by decide +kernel
theorem dX1_numberAll_67 : decode cX1_numberAll 67 = .ok (.aload_n 0, 1) := by decide +kernel
theorem dX1_numberAll_68 : decode cX1_numberAll 68 = .ok (.getfield 22, 3) := by decide +kernel
theorem dX1_numberAll_71 : decode cX1_numberAll 71 = .ok (.iload_n 1, 1) := by decide +kernel
theorem dX1_numberAll_72 : decode cX1_numberAll 72 = .ok (.iaload, 1) := by decide +kernel
theorem dX1_numberAll_73 : decode cX1_numberAll 73 = .ok (.iaload, 1) := by decide +kernel
theorem dX1_numberAll_74 : decode cX1_numberAll 74 = .ok (.iastore, 1) := by decide +kernel
theorem dX1_numberAll_75 : decode cX1_numberAll 75 = .ok (.iinc 1 1, 3) := by decide +kernel
theorem dX1_numberAll_78 : decode cX1_numberAll 78 = .ok (.goto (-71), 3) := by decide +kernel
theorem dX1_numberAll_81 : decode cX1_numberAll 81 = .ok (.return_, 1) := by decide +kernel
theorem dX2_init_0 : decode cX2_init 0 = .ok (.aload_n 0, 1) := by decide +kernel
theorem dX2_init_1 : decode cX2_init 1 = .ok (.invokespecial 1, 3) := by decide +kernel
theorem dX2_init_4 : decode cX2_init 4 = .ok (.aload_n 0, 1) := by decide +kernel
theorem dX2_init_5 : decode cX2_init 5 = .ok (.bipush 10, 2) := by decide +kernel
theorem dX2_init_7 : decode cX2_init 7 = .ok (.anewarray 9, 3) := by decide +kernel
theorem dX2_init_10 : decode cX2_init 10 = .ok (.putfield 11, 3) := by decide +kernel
theorem dX2_init_13 : decode cX2_init 13 = .ok (.aload_n 0, 1) := by decide +kernel
theorem dX2_init_14 : decode cX2_init 14 = .ok (.bipush 10, 2) := by decide +kernel
theorem dX2_init_16 : decode cX2_init 16 = .ok (.anewarray 15, 3) := by decide +kernel
theorem dX2_init_19 : decode cX2_init 19 = .ok (.putfield 17, 3) := by decide +kernel
theorem dX2_init_22 : decode cX2_init 22 = .ok (.aload_n 0, 1) := by decide +kernel
theorem dX2_init_23 : decode cX2_init 23 = .ok (.iconst 0, 1) := by decide +kernel
theorem dX2_init_24 : decode cX2_init 24 = .ok (.putfield 21, 3) := by decide +kernel
theorem dX2_init_27 : decode cX2_init 27 = .ok (.aload_n 0, 1) := by decide +kernel
theorem dX2_init_28 : decode cX2_init 28 = .ok (.iconst 0, 1) := by decide +kernel
theorem dX2_init_29 : decode cX2_init 29 = .ok (.putfield 25, 3) := by decide +kernel
theorem dX2_init_32 : decode cX2_init 32 = .ok (.iconst 0, 1) := by decide +kernel
theorem dX2_init_33 : decode cX2_init 33 = .ok (.istore 4, 2) := by decide +kernel
theorem dX2_init_35 : decode cX2_init 35 = .ok (.iload 4, 2) := by decide +kernel
theorem dX2_init_37 : decode cX2_init 37 = .ok (.bipush 10, 2) := by decide +kernel
theorem dX2_init_39 : decode cX2_init 39 = .ok (.if_icmp .ge 40, 3) := by decide +kernel
theorem dX2_init_42 : decode cX2_init 42 = .ok (.aload_n 0, 1) := by decide +kernel
theorem dX2_init_43 : decode cX2_init 43 = .ok (.getfield 11, 3) := by decide +kernel
theorem dX2_init_46 : decode cX2_init 46 = .ok (.iload 4, 2) := by decide +kernel
theorem dX2_init_48 : decode cX2_init 48 = .ok (.new 9, 3) := by decide +kernel
theorem dX2_init_51 : decode cX2_init 51 = .ok (.dup, 1) := by decide +kernel
theorem dX2_init_52 : decode cX2_init 52 = .ok (.invokespecial 28, 3) := by decide +kernel
theorem dX2_init_55 : decode cX2_init 55 = .ok (.aastore, 1) := by decide +kernel
theorem dX2_init_56 : decode cX2_init 56 = .ok (.aload_n 0, 1) := by decide +kernel
theorem dX2_init_57 : decode cX2_init 57 = .ok (.getfield 17, 3) := by decide +kernel
theorem dX2_init_60 : decode cX2_init 60 = .ok (.iload 4, 2) := by decide +kernel
theorem dX2_init_62 : decode cX2_init 62 = .ok (.new 15, 3) := by decide +kernel
theorem dX2_init_65 : decode cX2_init 65 = .ok (.dup, 1) := by decide +kernel
theorem dX2_init_66 : decode cX2_init 66 = .ok (.aload_n 1, 1) := by decide +kernel
theorem dX2_init_67 : decode cX2_init 67 = .ok (.aload_n 2, 1) := by decide +kernel
theorem dX2_init_68 : decode cX2_init 68 = .ok (.aload_n 3, 1) := by decide +kernel
theorem dX2_init_69 : decode cX2_init 69 = .ok (.invokespecial 29, 3) := by decide +kernel
theorem dX2_init_72 : decode cX2_init 72 = .ok (.aastore, 1) := by decide +kernel
theorem dX2_init_73 : decode cX2_init 73 = .ok (.iinc 4 1, 3) := by decide +kernel
theorem dX2_init_76 : decode cX2_init 76 = .ok (.goto (-41), 3) := by decide +kernel
theorem dX2_init_79 : decode cX2_init 79 = .ok (.return_, 1) := by decide +kernel
theorem dX2_clear_0 : decode cX2_clear 0 = .ok (.aload_n 0, 1) := by decide +kernel
theorem dX2_clear_1 : decode cX2_clear 1 = .ok (.iconst 0, 1) := by decide +kernel
theorem dX2_clear_2 : decode cX2_clear 2 = .ok (.putfield 25, 3) := by decide +kernel
theorem dX2_clear_5 : decode cX2_clear 5 = .ok (.return_, 1) := by decide +kernel
theorem dX2_keep_0 : decode cX2_keep 0 = .ok (.aload_n 0, 1) := by decide +kernel
theorem dX2_keep_1 : decode cX2_keep 1 = .ok (.aload_n 0, 1) := by decide +kernel
theorem dX2_keep_2 : decode cX2_keep 2 = .ok (.getfield 21, 3) := by decide +kernel
theorem dX2_keep_5 : decode cX2_keep 5 = .ok (.iconst 1, 1) := by decide +kernel
theorem dX2_keep_6 : decode cX2_keep 6 = .ok (.iadd, 1) := by decide +kernel
theorem dX2_keep_7 : decode cX2_keep 7 = .ok (.bipush 10, 2) := by decide +kernel
theorem dX2_keep_9 : decode cX2_keep 9 = .ok (.irem, 1) := by decide +kernel
theorem dX2_keep_10 : decode cX2_keep 10 = .ok (.putfield 21, 3) := by decide +kernel
theorem dX2_keep_13 : decode cX2_keep 13 = .ok (.aload_n 0, 1) := by decide +kernel
theorem dX2_keep_14 : decode cX2_keep 14 = .ok (.getfield 11, 3) := by decide +kernel
theorem dX2_keep_17 : decode cX2_keep 17 = .ok (.aload_n 0, 1) := by decide +kernel
theorem dX2_keep_18 : decode cX2_keep 18 = .ok (.getfield 21, 3) := by decide +kernel
theorem dX2_keep_21 : decode cX2_keep 21 = .ok (.aaload, 1) := by decide +kernel
theorem dX2_keep_22 : decode cX2_keep 22 = .ok (.aload_n 1, 1) := by decide +kernel
theorem dX2_keep_23 : decode cX2_keep 23 = .ok (.invokevirtual 32, 3) := by decide +kernel
theorem dX2_keep_26 : decode cX2_keep 26 = .ok (.aload_n 0, 1) := by decide +kernel
theorem dX2_keep_27 : decode cX2_keep 27 = .ok (.getfield 17, 3) := by decide +kernel
theorem dX2_keep_30 : decode cX2_keep 30 = .ok (.aload_n 0, 1) := by decide +kernel
theorem dX2_keep_31 : decode cX2_keep 31 = .ok (.getfield 21, 3) := by decide +kernel
theorem dX2_keep_34 : decode cX2_keep 34 = .ok (.aaload, 1) := by decide +kernel
theorem dX2_keep_35 : decode cX2_keep 35 = .ok (.aload_n 2, 1) := by decide +kernel
theorem dX2_keep_36 : decode cX2_keep 36 = .ok (.invokevirtual 36, 3) := by decide +kernel
theorem dX2_keep_39 : decode cX2_keep 39 = .ok (.aload_n 0, 1) := by decide +kernel
theorem dX2_keep_40 : decode cX2_keep 40 = .ok (.aload_n 0, 1) := by decide +kernel
theorem dX2_keep_41 : decode cX2_keep 41 = .ok (.getfield 25, 3) := by decide +kernel
theorem dX2_keep_44 : decode cX2_keep 44 = .ok (.iconst 1, 1) := by decide +kernel
theorem dX2_keep_45 : decode cX2_keep 45 = .ok (.iadd, 1) := by decide +kernel
theorem dX2_keep_46 : decode cX2_keep 46 = .ok (.bipush 10, 2) := by decide +kernel
theorem dX2_keep_48 : decode cX2_keep 48 = .ok (.invokestatic 39, 3) := by decide +kernel
theorem dX2_keep_51 : decode cX2_keep 51 = .ok (.putfield 25, 3) := by decide +kernel
theorem dX2_keep_54 : decode cX2_keep 54 = .ok (.return_, 1) := by decide +kernel
theorem dX2_takeBack_0 : decode cX2_takeBack 0 = .ok (.aload_n 0, 1) := by decide +kernel
theorem dX2_takeBack_1 : decode cX2_takeBack 1 = .ok (.getfield 25, 3) := by decide +kernel
theorem dX2_takeBack_4 : decode cX2_takeBack 4 = .ok (.ifCond .ne 4, 3) := by decide +kernel
theorem dX2_takeBack_7 : decode cX2_takeBack 7 = .ok (.return_, 1) := by decide +kernel
theorem dX2_takeBack_8 : decode cX2_takeBack 8 = .ok (.aload_n 1, 1) := by decide +kernel
theorem dX2_takeBack_9 : decode cX2_takeBack 9 = .ok (.aload_n 0, 1) := by decide +kernel
theorem dX2_takeBack_10 : decode cX2_takeBack 10 = .ok (.getfield 11, 3) := by decide +kernel
theorem dX2_takeBack_13 : decode cX2_takeBack 13 = .ok (.aload_n 0, 1) := by decide +kernel
theorem dX2_takeBack_14 : decode cX2_takeBack 14 = .ok (.getfield 21, 3) := by decide +kernel
theorem dX2_takeBack_17 : decode cX2_takeBack 17 = .ok (.aaload, 1) := by decide +kernel
theorem dX2_takeBack_18 : decode cX2_takeBack 18 = .ok (.invokevirtual 32, 3) := by decide +kernel
theorem dX2_takeBack_21 : decode cX2_takeBack 21 = .ok (.aload_n 2, 1) := by decide +kernel
theorem dX2_takeBack_22 : decode cX2_takeBack 22 = .ok (.aload_n 0, 1) := by decide +kernel
theorem dX2_takeBack_23 : decode cX2_takeBack 23 = .ok (.getfield 17, 3) := by decide +kernel
theorem dX2_takeBack_26 : decode cX2_takeBack 26 = .ok (.aload_n 0, 1) := by decide +kernel
theorem dX2_takeBack_27 : decode cX2_takeBack 27 = .ok (.getfield 21, 3) := by decide +kernel
theorem dX2_takeBack_30 : decode cX2_takeBack 30 = .ok (.aaload, 1) := by decide +kernel
theorem dX2_takeBack_31 : decode cX2_takeBack 31 = .ok (.invokevirtual 36, 3) := by decide +kernel
theorem dX2_takeBack_34 : decode cX2_takeBack 34 = .ok (.aload_n 0, 1) := by decide +kernel
theorem dX2_takeBack_35 : decode cX2_takeBack 35 = .ok (.aload_n 0, 1) := by decide +kernel
theorem dX2_takeBack_36 : decode cX2_takeBack 36 = .ok (.getfield 21, 3) := by decide +kernel
theorem dX2_takeBack_39 : decode cX2_takeBack 39 = .ok (.bipush 10, 2) := by decide +kernel
theorem dX2_takeBack_41 : decode cX2_takeBack 41 = .ok (.iadd, 1) := by decide +kernel
theorem dX2_takeBack_42 : decode cX2_takeBack 42 = .ok (.iconst 1, 1) := by decide +kernel
theorem dX2_takeBack_43 : decode cX2_takeBack 43 = .ok (.isub, 1) := by decide +kernel
theorem dX2_takeBack_44 : decode cX2_takeBack 44 = .ok (.bipush 10, 2) := by decide +kernel
theorem dX2_takeBack_46 : decode cX2_takeBack 46 = .ok (.irem, 1) := by decide +kernel
theorem dX2_takeBack_47 : decode cX2_takeBack 47 = .ok (.putfield 21, 3) := by decide +kernel
theorem dX2_takeBack_50 : decode cX2_takeBack 50 = .ok (.aload_n 0, 1) := by decide +kernel
theorem dX2_takeBack_51 : decode cX2_takeBack 51 = .ok (.dup, 1) := by decide +kernel
theorem dX2_takeBack_52 : decode cX2_takeBack 52 = .ok (.getfield 25, 3) := by decide +kernel
theorem dX2_takeBack_55 : decode cX2_takeBack 55 = .ok (.iconst 1, 1) := by decide +kernel
theorem dX2_takeBack_56 : decode cX2_takeBack 56 = .ok (.isub, 1) := by decide +kernel
theorem dX2_takeBack_57 : decode cX2_takeBack 57 = .ok (.putfield 25, 3) := by decide +kernel
theorem dX2_takeBack_60 : decode cX2_takeBack 60 = .ok (.return_, 1) := by decide +kernel
theorem dX3_init_0 : decode cX3_init 0 = .ok (.aload_n 0, 1) := by decide +kernel
theorem dX3_init_1 : decode cX3_init 1 = .ok (.invokespecial 3, 3) := by decide +kernel
theorem dX3_init_4 : decode cX3_init 4 = .ok (.aload_n 0, 1) := by decide +kernel
theorem dX3_init_5 : decode cX3_init 5 = .ok (.new 9, 3) := by decide +kernel
theorem dX3_init_8 : decode cX3_init 8 = .ok (.dup, 1) := by decide +kernel
theorem dX3_init_9 : decode cX3_init 9 = .ok (.invokespecial 11, 3) := by decide +kernel
theorem dX3_init_12 : decode cX3_init 12 = .ok (.putfield 12, 3) := by decide +kernel
theorem dX3_init_15 : decode cX3_init 15 = .ok (.aload_n 0, 1) := by decide +kernel
theorem dX3_init_16 : decode cX3_init 16 = .ok (.new 9, 3) := by decide +kernel
theorem dX3_init_19 : decode cX3_init 19 = .ok (.dup, 1) := by decide +kernel
theorem dX3_init_20 : decode cX3_init 20 = .ok (.invokespecial 11, 3) := by decide +kernel
theorem dX3_init_23 : decode cX3_init 23 = .ok (.putfield 18, 3) := by decide +kernel
theorem dX3_init_26 : decode cX3_init 26 = .ok (.aload_n 0, 1) := by decide +kernel
theorem dX3_init_27 : decode cX3_init 27 = .ok (.bipush 48, 2) := by decide +kernel
theorem dX3_init_29 : decode cX3_init 29 = .ok (.newarray .int, 2) := by decide +kernel
theorem dX3_init_31 : decode cX3_init 31 = .ok (.putfield 21, 3) := by decide +kernel
theorem dX3_init_34 : decode cX3_init 34 = .ok (.aload_n 0, 1) := by decide +kernel
theorem dX3_init_35 : decode cX3_init 35 = .ok (.bipush 48, 2) := by decide +kernel
theorem dX3_init_37 : decode cX3_init 37 = .ok (.newarray .int, 2) := by decide +kernel
theorem dX3_init_39 : decode cX3_init 39 = .ok (.putfield 25, 3) := by decide +kernel
theorem dX3_init_42 : decode cX3_init 42 = .ok (.aload_n 0, 1) := by decide +kernel
theorem dX3_init_43 : decode cX3_init 43 = .ok (.bipush 48, 2) := by decide +kernel
theorem dX3_init_45 : decode cX3_init 45 = .ok (.newarray .int, 2) := by decide +kernel
theorem dX3_init_47 : decode cX3_init 47 = .ok (.putfield 28, 3) := by decide +kernel
theorem dX3_init_50 : decode cX3_init 50 = .ok (.aload_n 0, 1) := by decide +kernel
theorem dX3_init_51 : decode cX3_init 51 = .ok (.bipush 48, 2) := by decide +kernel
theorem dX3_init_53 : decode cX3_init 53 = .ok (.newarray .int, 2) := by decide +kernel
theorem dX3_init_55 : decode cX3_init 55 = .ok (.putfield 31, 3) := by decide +kernel
theorem dX3_init_58 : decode cX3_init 58 = .ok (.aload_n 0, 1) := by decide +kernel
theorem dX3_init_59 : decode cX3_init 59 = .ok (.aload_n 1, 1) := by decide +kernel
theorem dX3_init_60 : decode cX3_init 60 = .ok (.putfield 34, 3) := by decide +kernel
theorem dX3_init_63 : decode cX3_init 63 = .ok (.return_, 1) := by decide +kernel
theorem dX3_gather_0 : decode cX3_gather 0 = .ok (.aload_n 0, 1) := by decide +kernel
theorem dX3_gather_1 : decode cX3_gather 1 = .ok (.iload_n 1, 1) := by decide +kernel
theorem dX3_gather_2 : decode cX3_gather 2 = .ok (.invokevirtual 38, 3) := by decide +kernel
theorem dX3_gather_5 : decode cX3_gather 5 = .ok (.aload_n 0, 1) := by decide +kernel
theorem dX3_gather_6 : decode cX3_gather 6 = .ok (.invokevirtual 42, 3) := by decide +kernel
theorem dX3_gather_9 : decode cX3_gather 9 = .ok (.aload_n 0, 1) := by decide +kernel
theorem dX3_gather_10 : decode cX3_gather 10 = .ok (.invokevirtual 45, 3) := by decide +kernel
theorem dX3_gather_13 : decode cX3_gather 13 = .ok (.aload_n 0, 1) := by decide +kernel
theorem dX3_gather_14 : decode cX3_gather 14 = .ok (.invokevirtual 48, 3) := by decide +kernel
theorem dX3_gather_17 : decode cX3_gather 17 = .ok (.return_, 1) := by decide +kernel
theorem dX3_gatherEnds_0 : decode cX3_gatherEnds 0 = .ok (.iconst 2, 1) := by decide +kernel
theorem dX3_gatherEnds_1 : decode cX3_gatherEnds 1 = .ok (.aload_n 0, 1) := by decide +kernel
theorem dX3_gatherEnds_2 : decode cX3_gatherEnds 2 = .ok (.getfield 34, 3) := by decide +kernel
theorem dX3_gatherEnds_5 : decode cX3_gatherEnds 5 = .ok (.getfield 51, 3) := by decide +kernel
theorem dX3_gatherEnds_8 : decode cX3_gatherEnds 8 = .ok (.imul, 1) := by decide +kernel
theorem dX3_gatherEnds_9 : decode cX3_gatherEnds 9 = .ok (.istore_n 2, 1) := by decide +kernel
theorem dX3_gatherEnds_10 : decode cX3_gatherEnds 10 = .ok (.aload_n 0, 1) := by decide +kernel
theorem dX3_gatherEnds_11 : decode cX3_gatherEnds 11 = .ok (.getfield 12, 3) := by decide +kernel
theorem dX3_gatherEnds_14 : decode cX3_gatherEnds 14 = .ok (.iload_n 2, 1) := by decide +kernel
theorem dX3_gatherEnds_15 : decode cX3_gatherEnds 15 = .ok (.invokevirtual 57, 3) := by decide +kernel
theorem dX3_gatherEnds_18 : decode cX3_gatherEnds 18 = .ok (.iconst 0, 1) := by decide +kernel
theorem dX3_gatherEnds_19 : decode cX3_gatherEnds 19 = .ok (.istore_n 3, 1) := by decide +kernel
theorem dX3_gatherEnds_20 : decode cX3_gatherEnds 20 = .ok (.iload_n 3, 1) := by decide +kernel
theorem dX3_gatherEnds_21 : decode cX3_gatherEnds 21 = .ok (.iload_n 2, 1) := by decide +kernel
theorem dX3_gatherEnds_22 : decode cX3_gatherEnds 22 = .ok (.if_icmp .ge 16, 3) := by decide +kernel
theorem dX3_gatherEnds_25 : decode cX3_gatherEnds 25 = .ok (.aload_n 0, 1) := by decide +kernel
theorem dX3_gatherEnds_26 : decode cX3_gatherEnds 26 = .ok (.iload_n 3, 1) := by decide +kernel
theorem dX3_gatherEnds_27 : decode cX3_gatherEnds 27 = .ok (.iload_n 2, 1) := by decide +kernel
theorem dX3_gatherEnds_28 : decode cX3_gatherEnds 28 = .ok (.iload_n 1, 1) := by decide +kernel
theorem dX3_gatherEnds_29 : decode cX3_gatherEnds 29 = .ok (.invokevirtual 60, 3) := by decide +kernel
theorem dX3_gatherEnds_32 : decode cX3_gatherEnds 32 = .ok (.iinc 3 1, 3) := by decide +kernel
theorem dX3_gatherEnds_35 : decode cX3_gatherEnds 35 = .ok (.goto (-15), 3) := by decide +kernel
theorem dX3_gatherEnds_38 : decode cX3_gatherEnds 38 = .ok (.aload_n 0, 1) := by decide +kernel
theorem dX3_gatherEnds_39 : decode cX3_gatherEnds 39 = .ok (.getfield 12, 3) := by decide +kernel
theorem dX3_gatherEnds_42 : decode cX3_gatherEnds 42 = .ok (.invokevirtual 64, 3) := by decide +kernel
theorem dX3_gatherEnds_45 : decode cX3_gatherEnds 45 = .ok (.iconst 0, 1) := by decide +kernel
theorem dX3_gatherEnds_46 : decode cX3_gatherEnds 46 = .ok (.istore_n 3, 1) := by decide +kernel
theorem dX3_gatherEnds_47 : decode cX3_gatherEnds 47 = .ok (.iload_n 3, 1) := by decide +kernel
theorem dX3_gatherEnds_48 : decode cX3_gatherEnds 48 = .ok (.aload_n 0, 1) := by decide +kernel
theorem dX3_gatherEnds_49 : decode cX3_gatherEnds 49 = .ok (.getfield 12, 3) := by decide +kernel
theorem dX3_gatherEnds_52 : decode cX3_gatherEnds 52 = .ok (.getfield 67, 3) := by decide +kernel
theorem dX3_gatherEnds_55 : decode cX3_gatherEnds 55 = .ok (.if_icmp .ge 55, 3) := by decide +kernel
theorem dX3_gatherEnds_58 : decode cX3_gatherEnds 58 = .ok (.aload_n 0, 1) := by decide +kernel
theorem dX3_gatherEnds_59 : decode cX3_gatherEnds 59 = .ok (.getfield 21, 3) := by decide +kernel
theorem dX3_gatherEnds_62 : decode cX3_gatherEnds 62 = .ok (.iload_n 3, 1) := by decide +kernel
theorem dX3_gatherEnds_63 : decode cX3_gatherEnds 63 = .ok (.aload_n 0, 1) := by decide +kernel
theorem dX3_gatherEnds_64 : decode cX3_gatherEnds 64 = .ok (.getfield 34, 3) := by decide +kernel
theorem dX3_gatherEnds_67 : decode cX3_gatherEnds 67 = .ok (.getfield 70, 3) := by decide +kernel
theorem dX3_gatherEnds_70 : decode cX3_gatherEnds 70 = .ok (.aload_n 0, 1) := by decide +kernel
theorem dX3_gatherEnds_71 : decode cX3_gatherEnds 71 = .ok (.getfield 12, 3) := by decide +kernel
theorem dX3_gatherEnds_74 : decode cX3_gatherEnds 74 = .ok (.getfield 73, 3) := by decide +kernel
theorem dX3_gatherEnds_77 : decode cX3_gatherEnds 77 = .ok (.iload_n 3, 1) := by decide +kernel
theorem dX3_gatherEnds_78 : decode cX3_gatherEnds 78 = .ok (.iaload, 1) := by decide +kernel
theorem dX3_gatherEnds_79 : decode cX3_gatherEnds 79 = .ok (.iaload, 1) := by decide +kernel
theorem dX3_gatherEnds_80 : decode cX3_gatherEnds 80 = .ok (.iastore, 1) := by decide +kernel
theorem dX3_gatherEnds_81 : decode cX3_gatherEnds 81 = .ok (.aload_n 0, 1) := by decide +kernel
theorem dX3_gatherEnds_82 : decode cX3_gatherEnds 82 = .ok (.getfield 25, 3) := by decide +kernel
theorem dX3_gatherEnds_85 : decode cX3_gatherEnds 85 = .ok (.iload_n 3, 1) := by decide +kernel
theorem dX3_gatherEnds_86 : decode cX3_gatherEnds 86 = .ok (.aload_n 0, 1) := by decide +kernel
theorem dX3_gatherEnds_87 : decode cX3_gatherEnds 87 = .ok (.getfield 34, 3) := by decide +kernel
theorem dX3_gatherEnds_90 : decode cX3_gatherEnds 90 = .ok (.getfield 76, 3) := by decide +kernel
theorem dX3_gatherEnds_93 : decode cX3_gatherEnds 93 = .ok (.aload_n 0, 1) := by decide +kernel
theorem dX3_gatherEnds_94 : decode cX3_gatherEnds 94 = .ok (.getfield 12, 3) := by decide +kernel
theorem dX3_gatherEnds_97 : decode cX3_gatherEnds 97 = .ok (.getfield 73, 3) := by decide +kernel
theorem dX3_gatherEnds_100 : decode cX3_gatherEnds 100 = .ok (.iload_n 3, 1) := by decide +kernel
theorem dX3_gatherEnds_101 : decode cX3_gatherEnds 101 = .ok (.iaload, 1) := by decide +kernel
theorem dX3_gatherEnds_102 : decode cX3_gatherEnds 102 = .ok (.iaload, 1) := by decide +kernel
theorem dX3_gatherEnds_103 : decode cX3_gatherEnds 103 = .ok (.iastore, 1) := by decide +kernel
theorem dX3_gatherEnds_104 : decode cX3_gatherEnds 104 = .ok (.iinc 3 1, 3) := by decide +kernel
theorem dX3_gatherEnds_107 : decode cX3_gatherEnds 107 = .ok (.goto (-60), 3) := by decide +kernel
theorem dX3_gatherEnds_110 : decode cX3_gatherEnds 110 = .ok (.return_, 1) := by decide +kernel
theorem dX3_tieNearTo_0 : decode cX3_tieNearTo 0 = .ok (.aload_n 0, 1) := by decide +kernel
theorem dX3_tieNearTo_1 : decode cX3_tieNearTo 1 = .ok (.getfield 34, 3) := by decide +kernel
theorem dX3_tieNearTo_4 : decode cX3_tieNearTo 4 = .ok (.getfield 70, 3) := by decide +kernel
theorem dX3_tieNearTo_7 : decode cX3_tieNearTo 7 = .ok (.iload_n 1, 1) := by decide +kernel
theorem dX3_tieNearTo_8 : decode cX3_tieNearTo 8 = .ok (.iaload, 1) := by decide +kernel
theorem dX3_tieNearTo_9 : decode cX3_tieNearTo 9 = .ok (.istore 4, 2) := by decide +kernel
theorem dX3_tieNearTo_11 : decode cX3_tieNearTo 11 = .ok (.aload_n 0, 1) := by decide +kernel
theorem dX3_tieNearTo_12 : decode cX3_tieNearTo 12 = .ok (.getfield 34, 3) := by decide +kernel
theorem dX3_tieNearTo_15 : decode cX3_tieNearTo 15 = .ok (.getfield 76, 3) := by decide +kernel
theorem dX3_tieNearTo_18 : decode cX3_tieNearTo 18 = .ok (.iload_n 1, 1) := by decide +kernel
theorem dX3_tieNearTo_19 : decode cX3_tieNearTo 19 = .ok (.iaload, 1) := by decide +kernel
theorem dX3_tieNearTo_20 : decode cX3_tieNearTo 20 = .ok (.istore 5, 2) := by decide +kernel
theorem dX3_tieNearTo_22 : decode cX3_tieNearTo 22 = .ok (.iload_n 1, 1) := by decide +kernel
theorem dX3_tieNearTo_23 : decode cX3_tieNearTo 23 = .ok (.iconst 1, 1) := by decide +kernel
theorem dX3_tieNearTo_24 : decode cX3_tieNearTo 24 = .ok (.iadd, 1) := by decide +kernel
theorem dX3_tieNearTo_25 : decode cX3_tieNearTo 25 = .ok (.istore 6, 2) := by decide +kernel
theorem dX3_tieNearTo_27 : decode cX3_tieNearTo 27 = .ok (.iload 6, 2) := by decide +kernel
theorem dX3_tieNearTo_29 : decode cX3_tieNearTo 29 = .ok (.iload_n 2, 1) := by decide +kernel
theorem dX3_tieNearTo_30 : decode cX3_tieNearTo 30 = .ok (.if_icmp .ge 56, 3) := by decide +kernel
theorem dX3_tieNearTo_33 : decode cX3_tieNearTo 33 = .ok (.aload_n 0, 1) := by decide +kernel
theorem dX3_tieNearTo_34 : decode cX3_tieNearTo 34 = .ok (.getfield 34, 3) := by decide +kernel
theorem dX3_tieNearTo_37 : decode cX3_tieNearTo 37 = .ok (.getfield 70, 3) := by decide +kernel
theorem dX3_tieNearTo_40 : decode cX3_tieNearTo 40 = .ok (.iload 6, 2) := by decide +kernel
theorem dX3_tieNearTo_42 : decode cX3_tieNearTo 42 = .ok (.iaload, 1) := by decide +kernel
theorem dX3_tieNearTo_43 : decode cX3_tieNearTo 43 = .ok (.iload 4, 2) := by decide +kernel
theorem dX3_tieNearTo_45 : decode cX3_tieNearTo 45 = .ok (.isub, 1) := by decide +kernel
theorem dX3_tieNearTo_46 : decode cX3_tieNearTo 46 = .ok (.invokestatic 79, 3) := by decide +kernel
theorem dX3_tieNearTo_49 : decode cX3_tieNearTo 49 = .ok (.aload_n 0, 1) := by decide +kernel
theorem dX3_tieNearTo_50 : decode cX3_tieNearTo 50 = .ok (.getfield 34, 3) := by decide +kernel
theorem dX3_tieNearTo_53 : decode cX3_tieNearTo 53 = .ok (.getfield 76, 3) := by decide +kernel
theorem dX3_tieNearTo_56 : decode cX3_tieNearTo 56 = .ok (.iload 6, 2) := by decide +kernel
theorem dX3_tieNearTo_58 : decode cX3_tieNearTo 58 = .ok (.iaload, 1) := by decide +kernel
theorem dX3_tieNearTo_59 : decode cX3_tieNearTo 59 = .ok (.iload 5, 2) := by decide +kernel
theorem dX3_tieNearTo_61 : decode cX3_tieNearTo 61 = .ok (.isub, 1) := by decide +kernel
theorem dX3_tieNearTo_62 : decode cX3_tieNearTo 62 = .ok (.invokestatic 79, 3) := by decide +kernel
theorem dX3_tieNearTo_65 : decode cX3_tieNearTo 65 = .ok (.iadd, 1) := by decide +kernel
theorem dX3_tieNearTo_66 : decode cX3_tieNearTo 66 = .ok (.iload_n 3, 1) := by decide +kernel
theorem dX3_tieNearTo_67 : decode cX3_tieNearTo 67 = .ok (.if_icmp .gt 13, 3) := by decide +kernel
theorem dX3_tieNearTo_70 : decode cX3_tieNearTo 70 = .ok (.aload_n 0, 1) := by decide +kernel
theorem dX3_tieNearTo_71 : decode cX3_tieNearTo 71 = .ok (.getfield 12, 3) := by decide +kernel
theorem dX3_tieNearTo_74 : decode cX3_tieNearTo 74 = .ok (.iload_n 1, 1) := by decide +kernel
theorem dX3_tieNearTo_75 : decode cX3_tieNearTo 75 = .ok (.iload 6, 2) := by decide +kernel
theorem dX3_tieNearTo_77 : decode cX3_tieNearTo 77 = .ok (.invokevirtual 85, 3) := by decide +kernel
theorem dX3_tieNearTo_80 : decode cX3_tieNearTo 80 = .ok (.iinc 6 1, 3) := by decide +kernel
theorem dX3_tieNearTo_83 : decode cX3_tieNearTo 83 = .ok (.goto (-56), 3) := by decide +kernel
theorem dX3_tieNearTo_86 : decode cX3_tieNearTo 86 = .ok (.return_, 1) := by decide +kernel
theorem dX3_gatherParts_0 : decode cX3_gatherParts 0 = .ok (.aload_n 0, 1) := by decide +kernel
theorem dX3_gatherParts_1 : decode cX3_gatherParts 1 = .ok (.getfield 18, 3) := by decide +kernel
theorem dX3_gatherParts_4 : decode cX3_gatherParts 4 = .ok (.aload_n 0, 1) := by decide +kernel
theorem dX3_gatherParts_5 : decode cX3_gatherParts 5 = .ok (.getfield 12, 3) := by decide +kernel
theorem dX3_gatherParts_8 : decode cX3_gatherParts 8 = .ok (.getfield 67, 3) := by decide +kernel
theorem dX3_gatherParts_11 : decode cX3_gatherParts 11 = .ok (.invokevirtual 57, 3) := by decide +kernel
theorem dX3_gatherParts_14 : decode cX3_gatherParts 14 = .ok (.iconst 0, 1) := by decide +kernel
theorem dX3_gatherParts_15 : decode cX3_gatherParts 15 = .ok (.istore_n 1, 1) := by decide +kernel
theorem dX3_gatherParts_16 : decode cX3_gatherParts 16 = .ok (.iload_n 1, 1) := by decide +kernel
theorem dX3_gatherParts_17 : decode cX3_gatherParts 17 = .ok (.aload_n 0, 1) := by decide +kernel
theorem dX3_gatherParts_18 : decode cX3_gatherParts 18 = .ok (.getfield 34, 3) := by decide +kernel
theorem dX3_gatherParts_21 : decode cX3_gatherParts 21 = .ok (.getfield 51, 3) := by decide +kernel
theorem dX3_gatherParts_24 : decode cX3_gatherParts 24 = .ok (.if_icmp .ge 32, 3) := by decide +kernel
theorem dX3_gatherParts_27 : decode cX3_gatherParts 27 = .ok (.aload_n 0, 1) := by decide +kernel
theorem dX3_gatherParts_28 : decode cX3_gatherParts 28 = .ok (.getfield 18, 3) := by decide +kernel
theorem dX3_gatherParts_31 : decode cX3_gatherParts 31 = .ok (.aload_n 0, 1) := by decide +kernel
theorem dX3_gatherParts_32 : decode cX3_gatherParts 32 = .ok (.iconst 2, 1) := by decide +kernel
theorem dX3_gatherParts_33 : decode cX3_gatherParts 33 = .ok (.iload_n 1, 1) := by decide +kernel
theorem dX3_gatherParts_34 : decode cX3_gatherParts 34 = .ok (.imul, 1) := by decide +kernel
theorem dX3_gatherParts_35 : decode cX3_gatherParts 35 = .ok (.invokevirtual 89, 3) := by decide +kernel
theorem dX3_gatherParts_38 : decode cX3_gatherParts 38 = .ok (.aload_n 0, 1) := by decide +kernel
theorem dX3_gatherParts_39 : decode cX3_gatherParts 39 = .ok (.iconst 2, 1) := by decide +kernel
theorem dX3_gatherParts_40 : decode cX3_gatherParts 40 = .ok (.iload_n 1, 1) := by decide +kernel
theorem dX3_gatherParts_41 : decode cX3_gatherParts 41 = .ok (.imul, 1) := by decide +kernel
theorem dX3_gatherParts_42 : decode cX3_gatherParts 42 = .ok (.iconst 1, 1) := by decide +kernel
theorem dX3_gatherParts_43 : decode cX3_gatherParts 43 = .ok (.iadd, 1) := by decide +kernel
theorem dX3_gatherParts_44 : decode cX3_gatherParts 44 = .ok (.invokevirtual 89, 3) := by decide +kernel
theorem dX3_gatherParts_47 : decode cX3_gatherParts 47 = .ok (.invokevirtual 85, 3) := by decide +kernel
theorem dX3_gatherParts_50 : decode cX3_gatherParts 50 = .ok (.iinc 1 1, 3) := by decide +kernel
theorem dX3_gatherParts_53 : decode cX3_gatherParts 53 = .ok (.goto (-37), 3) := by decide +kernel
theorem dX3_gatherParts_56 : decode cX3_gatherParts 56 = .ok (.aload_n 0, 1) := by decide +kernel
theorem dX3_gatherParts_57 : decode cX3_gatherParts 57 = .ok (.getfield 18, 3) := by decide +kernel
theorem dX3_gatherParts_60 : decode cX3_gatherParts 60 = .ok (.invokevirtual 64, 3) := by decide +kernel
theorem dX3_gatherParts_63 : decode cX3_gatherParts 63 = .ok (.return_, 1) := by decide +kernel
theorem dX3_countEnds_0 : decode cX3_countEnds 0 = .ok (.iconst 0, 1) := by decide +kernel
theorem dX3_countEnds_1 : decode cX3_countEnds 1 = .ok (.istore_n 1, 1) := by decide +kernel
theorem dX3_countEnds_2 : decode cX3_countEnds 2 = .ok (.iload_n 1, 1) := by decide +kernel
theorem dX3_countEnds_3 : decode cX3_countEnds 3 = .ok (.aload_n 0, 1) := by decide +kernel
theorem dX3_countEnds_4 : decode cX3_countEnds 4 = .ok (.getfield 12, 3) := by decide +kernel
theorem dX3_countEnds_7 : decode cX3_countEnds 7 = .ok (.getfield 67, 3) := by decide +kernel
theorem dX3_countEnds_10 : decode cX3_countEnds 10 = .ok (.if_icmp .ge 16, 3) := by decide +kernel
theorem dX3_countEnds_13 : decode cX3_countEnds 13 = .ok (.aload_n 0, 1) := by decide +kernel
theorem dX3_countEnds_14 : decode cX3_countEnds 14 = .ok (.getfield 28, 3) := by decide +kernel
theorem dX3_countEnds_17 : decode cX3_countEnds 17 = .ok (.iload_n 1, 1) := by decide +kernel
theorem dX3_countEnds_18 : decode cX3_countEnds 18 = .ok (.iconst 0, 1) := by decide +kernel
theorem dX3_countEnds_19 : decode cX3_countEnds 19 = .ok (.iastore, 1) := by decide +kernel
theorem dX3_countEnds_20 : decode cX3_countEnds 20 = .ok (.iinc 1 1, 3) := by decide +kernel
theorem dX3_countEnds_23 : decode cX3_countEnds 23 = .ok (.goto (-21), 3) := by decide +kernel
theorem dX3_countEnds_26 : decode cX3_countEnds 26 = .ok (.iconst 0, 1) := by decide +kernel
theorem dX3_countEnds_27 : decode cX3_countEnds 27 = .ok (.istore_n 1, 1) := by decide +kernel
theorem dX3_countEnds_28 : decode cX3_countEnds 28 = .ok (.iload_n 1, 1) := by decide +kernel
theorem dX3_countEnds_29 : decode cX3_countEnds 29 = .ok (.iconst 2, 1) := by decide +kernel
theorem dX3_countEnds_30 : decode cX3_countEnds 30 = .ok (.aload_n 0, 1) := by decide +kernel
theorem dX3_countEnds_31 : decode cX3_countEnds 31 = .ok (.getfield 34, 3) := by decide +kernel
theorem dX3_countEnds_34 : decode cX3_countEnds 34 = .ok (.getfield 51, 3) := by decide +kernel
theorem dX3_countEnds_37 : decode cX3_countEnds 37 = .ok (.imul, 1) := by decide +kernel
theorem dX3_countEnds_38 : decode cX3_countEnds 38 = .ok (.if_icmp .ge 23, 3) := by decide +kernel
theorem dX3_countEnds_41 : decode cX3_countEnds 41 = .ok (.aload_n 0, 1) := by decide +kernel
theorem dX3_countEnds_42 : decode cX3_countEnds 42 = .ok (.getfield 28, 3) := by decide +kernel
theorem dX3_countEnds_45 : decode cX3_countEnds 45 = .ok (.aload_n 0, 1) := by decide +kernel
theorem dX3_countEnds_46 : decode cX3_countEnds 46 = .ok (.iload_n 1, 1) := by decide +kernel
theorem dX3_countEnds_47 : decode cX3_countEnds 47 = .ok (.invokevirtual 89, 3) := by decide +kernel
theorem dX3_countEnds_50 : decode cX3_countEnds 50 = .ok (.dup2, 1) := by decide +kernel
theorem dX3_countEnds_51 : decode cX3_countEnds 51 = .ok (.iaload, 1) := by decide +kernel
theorem dX3_countEnds_52 : decode cX3_countEnds 52 = .ok (.iconst 1, 1) := by decide +kernel
theorem dX3_countEnds_53 : decode cX3_countEnds 53 = .ok (.iadd, 1) := by decide +kernel
theorem dX3_countEnds_54 : decode cX3_countEnds 54 = .ok (.iastore, 1) := by decide +kernel
theorem dX3_countEnds_55 : decode cX3_countEnds 55 = .ok (.iinc 1 1, 3) := by decide +kernel
theorem dX3_countEnds_58 : decode cX3_countEnds 58 = .ok (.goto (-30), 3) := by decide +kernel
theorem dX3_countEnds_61 : decode cX3_countEnds 61 = .ok (.return_, 1) := by decide +kernel
theorem dX3_countOdds_0 : decode cX3_countOdds 0 = .ok (.iconst 0, 1) := by decide +kernel
theorem dX3_countOdds_1 : decode cX3_countOdds 1 = .ok (.istore_n 1, 1) := by decide +kernel
theorem dX3_countOdds_2 : decode cX3_countOdds 2 = .ok (.iload_n 1, 1) := by decide +kernel
theorem dX3_countOdds_3 : decode cX3_countOdds 3 = .ok (.aload_n 0, 1) := by decide +kernel
theorem dX3_countOdds_4 : decode cX3_countOdds 4 = .ok (.getfield 18, 3) := by decide +kernel
theorem dX3_countOdds_7 : decode cX3_countOdds 7 = .ok (.getfield 67, 3) := by decide +kernel
theorem dX3_countOdds_10 : decode cX3_countOdds 10 = .ok (.if_icmp .ge 16, 3) := by decide +kernel
theorem dX3_countOdds_13 : decode cX3_countOdds 13 = .ok (.aload_n 0, 1) := by decide +kernel
theorem dX3_countOdds_14 : decode cX3_countOdds 14 = .ok (.getfield 31, 3) := by decide +kernel
theorem dX3_countOdds_17 : decode cX3_countOdds 17 = .ok (.iload_n 1, 1) := by decide +kernel
theorem dX3_countOdds_18 : decode cX3_countOdds 18 = .ok (.iconst 0, 1) := by decide +kernel
theorem dX3_countOdds_19 : decode cX3_countOdds 19 = .ok (.iastore, 1) := by decide +kernel
theorem dX3_countOdds_20 : decode cX3_countOdds 20 = .ok (.iinc 1 1, 3) := by decide +kernel
theorem dX3_countOdds_23 : decode cX3_countOdds 23 = .ok (.goto (-21), 3) := by decide +kernel
theorem dX3_countOdds_26 : decode cX3_countOdds 26 = .ok (.iconst 0, 1) := by decide +kernel
theorem dX3_countOdds_27 : decode cX3_countOdds 27 = .ok (.istore_n 1, 1) := by decide +kernel
theorem dX3_countOdds_28 : decode cX3_countOdds 28 = .ok (.iload_n 1, 1) := by decide +kernel
theorem dX3_countOdds_29 : decode cX3_countOdds 29 = .ok (.aload_n 0, 1) := by decide +kernel
theorem dX3_countOdds_30 : decode cX3_countOdds 30 = .ok (.getfield 12, 3) := by decide +kernel
theorem dX3_countOdds_33 : decode cX3_countOdds 33 = .ok (.getfield 67, 3) := by decide +kernel
theorem dX3_countOdds_36 : decode cX3_countOdds 36 = .ok (.if_icmp .ge 31, 3) := by decide +kernel
theorem dX3_countOdds_39 : decode cX3_countOdds 39 = .ok (.aload_n 0, 1) := by decide +kernel
theorem dX3_countOdds_40 : decode cX3_countOdds 40 = .ok (.iload_n 1, 1) := by decide +kernel
theorem dX3_countOdds_41 : decode cX3_countOdds 41 = .ok (.invokevirtual 92, 3) := by decide +kernel
theorem dX3_countOdds_44 : decode cX3_countOdds 44 = .ok (.ifCond .eq 17, 3) := by decide +kernel
theorem dX3_countOdds_47 : decode cX3_countOdds 47 = .ok (.aload_n 0, 1) := by decide +kernel
theorem dX3_countOdds_48 : decode cX3_countOdds 48 = .ok (.getfield 31, 3) := by decide +kernel
theorem dX3_countOdds_51 : decode cX3_countOdds 51 = .ok (.aload_n 0, 1) := by decide +kernel
theorem dX3_countOdds_52 : decode cX3_countOdds 52 = .ok (.iload_n 1, 1) := by decide +kernel
theorem dX3_countOdds_53 : decode cX3_countOdds 53 = .ok (.invokevirtual 96, 3) := by decide +kernel
theorem dX3_countOdds_56 : decode cX3_countOdds 56 = .ok (.dup2, 1) := by decide +kernel
theorem dX3_countOdds_57 : decode cX3_countOdds 57 = .ok (.iaload, 1) := by decide +kernel
theorem dX3_countOdds_58 : decode cX3_countOdds 58 = .ok (.iconst 1, 1) := by decide +kernel
theorem dX3_countOdds_59 : decode cX3_countOdds 59 = .ok (.iadd, 1) := by decide +kernel
theorem dX3_countOdds_60 : decode cX3_countOdds 60 = .ok (.iastore, 1) := by decide +kernel
theorem dX3_countOdds_61 : decode cX3_countOdds 61 = .ok (.iinc 1 1, 3) := by decide +kernel
theorem dX3_countOdds_64 : decode cX3_countOdds 64 = .ok (.goto (-36), 3) := by decide +kernel
theorem dX3_countOdds_67 : decode cX3_countOdds 67 = .ok (.return_, 1) := by decide +kernel
theorem dX3_count_0 : decode cX3_count 0 = .ok (.aload_n 0, 1) := by decide +kernel
theorem dX3_count_1 : decode cX3_count 1 = .ok (.getfield 12, 3) := by decide +kernel
theorem dX3_count_4 : decode cX3_count 4 = .ok (.getfield 67, 3) := by decide +kernel
theorem dX3_count_7 : decode cX3_count 7 = .ok (.ireturn, 1) := by decide +kernel
theorem dX3_parts_0 : decode cX3_parts 0 = .ok (.aload_n 0, 1) := by decide +kernel
theorem dX3_parts_1 : decode cX3_parts 1 = .ok (.getfield 18, 3) := by decide +kernel
theorem dX3_parts_4 : decode cX3_parts 4 = .ok (.getfield 67, 3) := by decide +kernel
theorem dX3_parts_7 : decode cX3_parts 7 = .ok (.ireturn, 1) := by decide +kernel
theorem dX3_of_0 : decode cX3_of 0 = .ok (.aload_n 0, 1) := by decide +kernel
theorem dX3_of_1 : decode cX3_of 1 = .ok (.getfield 12, 3) := by decide +kernel
theorem dX3_of_4 : decode cX3_of 4 = .ok (.getfield 99, 3) := by decide +kernel
theorem dX3_of_7 : decode cX3_of 7 = .ok (.iload_n 1, 1) := by decide +kernel
theorem dX3_of_8 : decode cX3_of 8 = .ok (.iaload, 1) := by decide +kernel
theorem dX3_of_9 : decode cX3_of 9 = .ok (.ireturn, 1) := by decide +kernel
theorem dX3_firstEnd_0 : decode cX3_firstEnd 0 = .ok (.aload_n 0, 1) := by decide +kernel
theorem dX3_firstEnd_1 : decode cX3_firstEnd 1 = .ok (.getfield 12, 3) := by decide +kernel
theorem dX3_firstEnd_4 : decode cX3_firstEnd 4 = .ok (.getfield 73, 3) := by decide +kernel
theorem dX3_firstEnd_7 : decode cX3_firstEnd 7 = .ok (.iload_n 1, 1) := by decide +kernel
theorem dX3_firstEnd_8 : decode cX3_firstEnd 8 = .ok (.iaload, 1) := by decide +kernel
theorem dX3_firstEnd_9 : decode cX3_firstEnd 9 = .ok (.ireturn, 1) := by decide +kernel
theorem dX3_partOf_0 : decode cX3_partOf 0 = .ok (.aload_n 0, 1) := by decide +kernel
theorem dX3_partOf_1 : decode cX3_partOf 1 = .ok (.getfield 18, 3) := by decide +kernel
theorem dX3_partOf_4 : decode cX3_partOf 4 = .ok (.getfield 99, 3) := by decide +kernel
theorem dX3_partOf_7 : decode cX3_partOf 7 = .ok (.iload_n 1, 1) := by decide +kernel
theorem dX3_partOf_8 : decode cX3_partOf 8 = .ok (.iaload, 1) := by decide +kernel
theorem dX3_partOf_9 : decode cX3_partOf 9 = .ok (.ireturn, 1) := by decide +kernel
theorem dX3_firstMeeting_0 : decode cX3_firstMeeting 0 = .ok (.aload_n 0, 1) := by decide +kernel
theorem dX3_firstMeeting_1 : decode cX3_firstMeeting 1 = .ok (.getfield 18, 3) := by decide +kernel
theorem dX3_firstMeeting_4 : decode cX3_firstMeeting 4 = .ok (.getfield 73, 3) := by decide +kernel
theorem dX3_firstMeeting_7 : decode cX3_firstMeeting 7 = .ok (.iload_n 1, 1) := by decide +kernel
theorem dX3_firstMeeting_8 : decode cX3_firstMeeting 8 = .ok (.iaload, 1) := by decide +kernel
theorem dX3_firstMeeting_9 : decode cX3_firstMeeting 9 = .ok (.ireturn, 1) := by decide +kernel
theorem dX3_isOdd_0 : decode cX3_isOdd 0 = .ok (.aload_n 0, 1) := by decide +kernel
theorem dX3_isOdd_1 : decode cX3_isOdd 1 = .ok (.getfield 28, 3) := by decide +kernel
theorem dX3_isOdd_4 : decode cX3_isOdd 4 = .ok (.iload_n 1, 1) := by decide +kernel
theorem dX3_isOdd_5 : decode cX3_isOdd 5 = .ok (.iaload, 1) := by decide +kernel
theorem dX3_isOdd_6 : decode cX3_isOdd 6 = .ok (.iconst 2, 1) := by decide +kernel
theorem dX3_isOdd_7 : decode cX3_isOdd 7 = .ok (.irem, 1) := by decide +kernel
theorem dX3_isOdd_8 : decode cX3_isOdd 8 = .ok (.iconst 1, 1) := by decide +kernel
theorem dX3_isOdd_9 : decode cX3_isOdd 9 = .ok (.if_icmp .ne 7, 3) := by decide +kernel
theorem dX3_isOdd_12 : decode cX3_isOdd 12 = .ok (.iconst 1, 1) := by decide +kernel
theorem dX3_isOdd_13 : decode cX3_isOdd 13 = .ok (.goto 4, 3) := by decide +kernel
theorem dX3_isOdd_16 : decode cX3_isOdd 16 = .ok (.iconst 0, 1) := by decide +kernel
theorem dX3_isOdd_17 : decode cX3_isOdd 17 = .ok (.ireturn, 1) := by decide +kernel
theorem dX3_xOf_0 : decode cX3_xOf 0 = .ok (.iload_n 1, 1) := by decide +kernel
theorem dX3_xOf_1 : decode cX3_xOf 1 = .ok (.iconst (-1), 1) := by decide +kernel
theorem dX3_xOf_2 : decode cX3_xOf 2 = .ok (.if_icmp .ne 13, 3) := by decide +kernel
theorem dX3_xOf_5 : decode cX3_xOf 5 = .ok (.aload_n 0, 1) := by decide +kernel
theorem dX3_xOf_6 : decode cX3_xOf 6 = .ok (.getfield 34, 3) := by decide +kernel
theorem dX3_xOf_9 : decode cX3_xOf 9 = .ok (.getfield 102, 3) := by decide +kernel
theorem dX3_xOf_12 : decode cX3_xOf 12 = .ok (.goto 9, 3) := by decide +kernel
theorem dX3_xOf_15 : decode cX3_xOf 15 = .ok (.aload_n 0, 1) := by decide +kernel
theorem dX3_xOf_16 : decode cX3_xOf 16 = .ok (.getfield 21, 3) := by decide +kernel
theorem dX3_xOf_19 : decode cX3_xOf 19 = .ok (.iload_n 1, 1) := by decide +kernel
theorem dX3_xOf_20 : decode cX3_xOf 20 = .ok (.iaload, 1) := by decide +kernel
theorem dX3_xOf_21 : decode cX3_xOf 21 = .ok (.ireturn, 1) := by decide +kernel
theorem dX3_yOf_0 : decode cX3_yOf 0 = .ok (.iload_n 1, 1) := by decide +kernel
theorem dX3_yOf_1 : decode cX3_yOf 1 = .ok (.iconst (-1), 1) := by decide +kernel
theorem dX3_yOf_2 : decode cX3_yOf 2 = .ok (.if_icmp .ne 13, 3) := by decide +kernel
theorem dX3_yOf_5 : decode cX3_yOf 5 = .ok (.aload_n 0, 1) := by decide +kernel
theorem dX3_yOf_6 : decode cX3_yOf 6 = .ok (.getfield 34, 3) := by decide +kernel
theorem dX3_yOf_9 : decode cX3_yOf 9 = .ok (.getfield 105, 3) := by decide +kernel
theorem dX3_yOf_12 : decode cX3_yOf 12 = .ok (.goto 9, 3) := by decide +kernel
theorem dX3_yOf_15 : decode cX3_yOf 15 = .ok (.aload_n 0, 1) := by decide +kernel
theorem dX3_yOf_16 : decode cX3_yOf 16 = .ok (.getfield 25, 3) := by decide +kernel
theorem dX3_yOf_19 : decode cX3_yOf 19 = .ok (.iload_n 1, 1) := by decide +kernel
theorem dX3_yOf_20 : decode cX3_yOf 20 = .ok (.iaload, 1) := by decide +kernel
theorem dX3_yOf_21 : decode cX3_yOf 21 = .ok (.ireturn, 1) := by decide +kernel
theorem dX3_apart_0 : decode cX3_apart 0 = .ok (.aload_n 0, 1) := by decide +kernel
theorem dX3_apart_1 : decode cX3_apart 1 = .ok (.iload_n 1, 1) := by decide +kernel
theorem dX3_apart_2 : decode cX3_apart 2 = .ok (.invokevirtual 108, 3) := by decide +kernel
theorem dX3_apart_5 : decode cX3_apart 5 = .ok (.aload_n 0, 1) := by decide +kernel
theorem dX3_apart_6 : decode cX3_apart 6 = .ok (.iload_n 2, 1) := by decide +kernel
theorem dX3_apart_7 : decode cX3_apart 7 = .ok (.invokevirtual 108, 3) := by decide +kernel
theorem dX3_apart_10 : decode cX3_apart 10 = .ok (.isub, 1) := by decide +kernel
theorem dX3_apart_11 : decode cX3_apart 11 = .ok (.invokestatic 79, 3) := by decide +kernel
theorem dX3_apart_14 : decode cX3_apart 14 = .ok (.aload_n 0, 1) := by decide +kernel
theorem dX3_apart_15 : decode cX3_apart 15 = .ok (.iload_n 1, 1) := by decide +kernel
theorem dX3_apart_16 : decode cX3_apart 16 = .ok (.invokevirtual 111, 3) := by decide +kernel
theorem dX3_apart_19 : decode cX3_apart 19 = .ok (.aload_n 0, 1) := by decide +kernel
theorem dX3_apart_20 : decode cX3_apart 20 = .ok (.iload_n 2, 1) := by decide +kernel
theorem dX3_apart_21 : decode cX3_apart 21 = .ok (.invokevirtual 111, 3) := by decide +kernel
theorem dX3_apart_24 : decode cX3_apart 24 = .ok (.isub, 1) := by decide +kernel
theorem dX3_apart_25 : decode cX3_apart 25 = .ok (.invokestatic 79, 3) := by decide +kernel
theorem dX3_apart_28 : decode cX3_apart 28 = .ok (.iadd, 1) := by decide +kernel
theorem dX3_apart_29 : decode cX3_apart 29 = .ok (.ireturn, 1) := by decide +kernel
theorem dX3_meetingsIn_0 : decode cX3_meetingsIn 0 = .ok (.iconst 0, 1) := by decide +kernel
theorem dX3_meetingsIn_1 : decode cX3_meetingsIn 1 = .ok (.istore_n 2, 1) := by decide +kernel
theorem dX3_meetingsIn_2 : decode cX3_meetingsIn 2 = .ok (.iconst 0, 1) := by decide +kernel
theorem dX3_meetingsIn_3 : decode cX3_meetingsIn 3 = .ok (.istore_n 3, 1) := by decide +kernel
theorem dX3_meetingsIn_4 : decode cX3_meetingsIn 4 = .ok (.iload_n 3, 1) := by decide +kernel
theorem dX3_meetingsIn_5 : decode cX3_meetingsIn 5 = .ok (.aload_n 0, 1) := by decide +kernel
theorem dX3_meetingsIn_6 : decode cX3_meetingsIn 6 = .ok (.getfield 12, 3) := by decide +kernel
theorem dX3_meetingsIn_9 : decode cX3_meetingsIn 9 = .ok (.getfield 67, 3) := by decide +kernel
theorem dX3_meetingsIn_12 : decode cX3_meetingsIn 12 = .ok (.if_icmp .ge 21, 3) := by decide +kernel
theorem dX3_meetingsIn_15 : decode cX3_meetingsIn 15 = .ok (.aload_n 0, 1) := by decide +kernel
theorem dX3_meetingsIn_16 : decode cX3_meetingsIn 16 = .ok (.iload_n 3, 1) := by decide +kernel
theorem dX3_meetingsIn_17 : decode cX3_meetingsIn 17 = .ok (.invokevirtual 96, 3) := by decide +kernel
theorem dX3_meetingsIn_20 : decode cX3_meetingsIn 20 = .ok (.iload_n 1, 1) := by decide +kernel
theorem dX3_meetingsIn_21 : decode cX3_meetingsIn 21 = .ok (.if_icmp .ne 6, 3) := by decide +kernel
theorem dX3_meetingsIn_24 : decode cX3_meetingsIn 24 = .ok (.iinc 2 1, 3) := by decide +kernel
theorem dX3_meetingsIn_27 : decode cX3_meetingsIn 27 = .ok (.iinc 3 1, 3) := by decide +kernel
theorem dX3_meetingsIn_30 : decode cX3_meetingsIn 30 = .ok (.goto (-26), 3) := by decide +kernel
theorem dX3_meetingsIn_33 : decode cX3_meetingsIn 33 = .ok (.iload_n 2, 1) := by decide +kernel
theorem dX3_meetingsIn_34 : decode cX3_meetingsIn 34 = .ok (.ireturn, 1) := by decide +kernel
theorem dX3_strokesIn_0 : decode cX3_strokesIn 0 = .ok (.iconst 0, 1) := by decide +kernel
theorem dX3_strokesIn_1 : decode cX3_strokesIn 1 = .ok (.istore_n 2, 1) := by decide +kernel
theorem dX3_strokesIn_2 : decode cX3_strokesIn 2 = .ok (.iconst 0, 1) := by decide +kernel
theorem dX3_strokesIn_3 : decode cX3_strokesIn 3 = .ok (.istore_n 3, 1) := by decide +kernel
theorem dX3_strokesIn_4 : decode cX3_strokesIn 4 = .ok (.iload_n 3, 1) := by decide +kernel
theorem dX3_strokesIn_5 : decode cX3_strokesIn 5 = .ok (.aload_n 0, 1) := by decide +kernel
theorem dX3_strokesIn_6 : decode cX3_strokesIn 6 = .ok (.getfield 34, 3) := by decide +kernel
theorem dX3_strokesIn_9 : decode cX3_strokesIn 9 = .ok (.getfield 51, 3) := by decide +kernel
theorem dX3_strokesIn_12 : decode cX3_strokesIn 12 = .ok (.if_icmp .ge 27, 3) := by decide +kernel
theorem dX3_strokesIn_15 : decode cX3_strokesIn 15 = .ok (.aload_n 0, 1) := by decide +kernel
theorem dX3_strokesIn_16 : decode cX3_strokesIn 16 = .ok (.aload_n 0, 1) := by decide +kernel
theorem dX3_strokesIn_17 : decode cX3_strokesIn 17 = .ok (.iconst 2, 1) := by decide +kernel
theorem dX3_strokesIn_18 : decode cX3_strokesIn 18 = .ok (.iload_n 3, 1) := by decide +kernel
theorem dX3_strokesIn_19 : decode cX3_strokesIn 19 = .ok (.imul, 1) := by decide +kernel
theorem dX3_strokesIn_20 : decode cX3_strokesIn 20 = .ok (.invokevirtual 89, 3) := by decide +kernel
theorem dX3_strokesIn_23 : decode cX3_strokesIn 23 = .ok (.invokevirtual 96, 3) := by decide +kernel
theorem dX3_strokesIn_26 : decode cX3_strokesIn 26 = .ok (.iload_n 1, 1) := by decide +kernel
theorem dX3_strokesIn_27 : decode cX3_strokesIn 27 = .ok (.if_icmp .ne 6, 3) := by decide +kernel
theorem dX3_strokesIn_30 : decode cX3_strokesIn 30 = .ok (.iinc 2 1, 3) := by decide +kernel
theorem dX3_strokesIn_33 : decode cX3_strokesIn 33 = .ok (.iinc 3 1, 3) := by decide +kernel
theorem dX3_strokesIn_36 : decode cX3_strokesIn 36 = .ok (.goto (-32), 3) := by decide +kernel
theorem dX3_strokesIn_39 : decode cX3_strokesIn 39 = .ok (.iload_n 2, 1) := by decide +kernel
theorem dX3_strokesIn_40 : decode cX3_strokesIn 40 = .ok (.ireturn, 1) := by decide +kernel
theorem dX3_odds_0 : decode cX3_odds 0 = .ok (.iconst 0, 1) := by decide +kernel
theorem dX3_odds_1 : decode cX3_odds 1 = .ok (.istore_n 1, 1) := by decide +kernel
theorem dX3_odds_2 : decode cX3_odds 2 = .ok (.iconst 0, 1) := by decide +kernel
theorem dX3_odds_3 : decode cX3_odds 3 = .ok (.istore_n 2, 1) := by decide +kernel
theorem dX3_odds_4 : decode cX3_odds 4 = .ok (.iload_n 2, 1) := by decide +kernel
theorem dX3_odds_5 : decode cX3_odds 5 = .ok (.aload_n 0, 1) := by decide +kernel
theorem dX3_odds_6 : decode cX3_odds 6 = .ok (.getfield 18, 3) := by decide +kernel
theorem dX3_odds_9 : decode cX3_odds 9 = .ok (.getfield 67, 3) := by decide +kernel
theorem dX3_odds_12 : decode cX3_odds 12 = .ok (.if_icmp .ge 18, 3) := by decide +kernel
theorem dX3_odds_15 : decode cX3_odds 15 = .ok (.iload_n 1, 1) := by decide +kernel
theorem dX3_odds_16 : decode cX3_odds 16 = .ok (.aload_n 0, 1) := by decide +kernel
theorem dX3_odds_17 : decode cX3_odds 17 = .ok (.getfield 31, 3) := by decide +kernel
theorem dX3_odds_20 : decode cX3_odds 20 = .ok (.iload_n 2, 1) := by decide +kernel
theorem dX3_odds_21 : decode cX3_odds 21 = .ok (.iaload, 1) := by decide +kernel
theorem dX3_odds_22 : decode cX3_odds 22 = .ok (.iadd, 1) := by decide +kernel
theorem dX3_odds_23 : decode cX3_odds 23 = .ok (.istore_n 1, 1) := by decide +kernel
theorem dX3_odds_24 : decode cX3_odds 24 = .ok (.iinc 2 1, 3) := by decide +kernel
theorem dX3_odds_27 : decode cX3_odds 27 = .ok (.goto (-23), 3) := by decide +kernel
theorem dX3_odds_30 : decode cX3_odds 30 = .ok (.iload_n 1, 1) := by decide +kernel
theorem dX3_odds_31 : decode cX3_odds 31 = .ok (.ireturn, 1) := by decide +kernel
theorem dX3_trailsIn_0 : decode cX3_trailsIn 0 = .ok (.iconst 1, 1) := by decide +kernel
theorem dX3_trailsIn_1 : decode cX3_trailsIn 1 = .ok (.aload_n 0, 1) := by decide +kernel
theorem dX3_trailsIn_2 : decode cX3_trailsIn 2 = .ok (.getfield 31, 3) := by decide +kernel
theorem dX3_trailsIn_5 : decode cX3_trailsIn 5 = .ok (.iload_n 1, 1) := by decide +kernel
theorem dX3_trailsIn_6 : decode cX3_trailsIn 6 = .ok (.iaload, 1) := by decide +kernel
theorem dX3_trailsIn_7 : decode cX3_trailsIn 7 = .ok (.iconst 2, 1) := by decide +kernel
theorem dX3_trailsIn_8 : decode cX3_trailsIn 8 = .ok (.idiv, 1) := by decide +kernel
theorem dX3_trailsIn_9 : decode cX3_trailsIn 9 = .ok (.invokestatic 114, 3) := by decide +kernel
theorem dX3_trailsIn_12 : decode cX3_trailsIn 12 = .ok (.ireturn, 1) := by decide +kernel
theorem dX3_trailsInAll_0 : decode cX3_trailsInAll 0 = .ok (.iconst 0, 1) := by decide +kernel
theorem dX3_trailsInAll_1 : decode cX3_trailsInAll 1 = .ok (.istore_n 1, 1) := by decide +kernel
theorem dX3_trailsInAll_2 : decode cX3_trailsInAll 2 = .ok (.iconst 0, 1) := by decide +kernel
theorem dX3_trailsInAll_3 : decode cX3_trailsInAll 3 = .ok (.istore_n 2, 1) := by decide +kernel
theorem dX3_trailsInAll_4 : decode cX3_trailsInAll 4 = .ok (.iload_n 2, 1) := by decide +kernel
theorem dX3_trailsInAll_5 : decode cX3_trailsInAll 5 = .ok (.aload_n 0, 1) := by decide +kernel
theorem dX3_trailsInAll_6 : decode cX3_trailsInAll 6 = .ok (.getfield 18, 3) := by decide +kernel
theorem dX3_trailsInAll_9 : decode cX3_trailsInAll 9 = .ok (.getfield 67, 3) := by decide +kernel
theorem dX3_trailsInAll_12 : decode cX3_trailsInAll 12 = .ok (.if_icmp .ge 17, 3) := by decide +kernel
theorem dX3_trailsInAll_15 : decode cX3_trailsInAll 15 = .ok (.iload_n 1, 1) := by decide +kernel
theorem dX3_trailsInAll_16 : decode cX3_trailsInAll 16 = .ok (.aload_n 0, 1) := by decide +kernel
theorem dX3_trailsInAll_17 : decode cX3_trailsInAll 17 = .ok (.iload_n 2, 1) := by decide +kernel
theorem dX3_trailsInAll_18 : decode cX3_trailsInAll 18 = .ok (.invokevirtual 118, 3) := by decide +kernel
theorem dX3_trailsInAll_21 : decode cX3_trailsInAll 21 = .ok (.iadd, 1) := by decide +kernel
theorem dX3_trailsInAll_22 : decode cX3_trailsInAll 22 = .ok (.istore_n 1, 1) := by decide +kernel
theorem dX3_trailsInAll_23 : decode cX3_trailsInAll 23 = .ok (.iinc 2 1, 3) := by decide +kernel
theorem dX3_trailsInAll_26 : decode cX3_trailsInAll 26 = .ok (.goto (-22), 3) := by decide +kernel
theorem dX3_trailsInAll_29 : decode cX3_trailsInAll 29 = .ok (.iload_n 1, 1) := by decide +kernel
theorem dX3_trailsInAll_30 : decode cX3_trailsInAll 30 = .ok (.ireturn, 1) := by decide +kernel
theorem dX3_looseOne_0 : decode cX3_looseOne 0 = .ok (.iconst 0, 1) := by decide +kernel
theorem dX3_looseOne_1 : decode cX3_looseOne 1 = .ok (.istore_n 2, 1) := by decide +kernel
theorem dX3_looseOne_2 : decode cX3_looseOne 2 = .ok (.iconst 0, 1) := by decide +kernel
theorem dX3_looseOne_3 : decode cX3_looseOne 3 = .ok (.istore_n 3, 1) := by decide +kernel
theorem dX3_looseOne_4 : decode cX3_looseOne 4 = .ok (.iload_n 3, 1) := by decide +kernel
theorem dX3_looseOne_5 : decode cX3_looseOne 5 = .ok (.aload_n 0, 1) := by decide +kernel
theorem dX3_looseOne_6 : decode cX3_looseOne 6 = .ok (.getfield 12, 3) := by decide +kernel
theorem dX3_looseOne_9 : decode cX3_looseOne 9 = .ok (.getfield 67, 3) := by decide +kernel
theorem dX3_looseOne_12 : decode cX3_looseOne 12 = .ok (.if_icmp .ge 29, 3) := by decide +kernel
theorem dX3_looseOne_15 : decode cX3_looseOne 15 = .ok (.aload_n 0, 1) := by decide +kernel
theorem dX3_looseOne_16 : decode cX3_looseOne 16 = .ok (.getfield 28, 3) := by decide +kernel
theorem dX3_looseOne_19 : decode cX3_looseOne 19 = .ok (.iload_n 3, 1) := by decide +kernel
theorem dX3_looseOne_20 : decode cX3_looseOne 20 = .ok (.iaload, 1) := by decide +kernel
theorem dX3_looseOne_21 : decode cX3_looseOne 21 = .ok (.iconst 1, 1) := by decide +kernel
theorem dX3_looseOne_22 : decode cX3_looseOne 22 = .ok (.if_icmp .ne 13, 3) := by decide +kernel
theorem dX3_looseOne_25 : decode cX3_looseOne 25 = .ok (.iload_n 2, 1) := by decide +kernel
theorem dX3_looseOne_26 : decode cX3_looseOne 26 = .ok (.iload_n 1, 1) := by decide +kernel
theorem dX3_looseOne_27 : decode cX3_looseOne 27 = .ok (.if_icmp .ne 5, 3) := by decide +kernel
theorem dX3_looseOne_30 : decode cX3_looseOne 30 = .ok (.iload_n 3, 1) := by decide +kernel
theorem dX3_looseOne_31 : decode cX3_looseOne 31 = .ok (.ireturn, 1) := by decide +kernel
theorem dX3_looseOne_32 : decode cX3_looseOne 32 = .ok (.iinc 2 1, 3) := by decide +kernel
theorem dX3_looseOne_35 : decode cX3_looseOne 35 = .ok (.iinc 3 1, 3) := by decide +kernel
theorem dX3_looseOne_38 : decode cX3_looseOne 38 = .ok (.goto (-34), 3) := by decide +kernel
theorem dX3_looseOne_41 : decode cX3_looseOne 41 = .ok (.iconst (-1), 1) := by decide +kernel
theorem dX3_looseOne_42 : decode cX3_looseOne 42 = .ok (.ireturn, 1) := by decide +kernel
theorem dX4_init_0 : decode cX4_init 0 = .ok (.aload_n 0, 1) := by decide +kernel
theorem dX4_init_1 : decode cX4_init 1 = .ok (.invokespecial 5, 3) := by decide +kernel
theorem dX4_init_4 : decode cX4_init 4 = .ok (.aload_n 0, 1) := by decide +kernel
theorem dX4_init_5 : decode cX4_init 5 = .ok (.bipush 24, 2) := by decide +kernel
theorem dX4_init_7 : decode cX4_init 7 = .ok (.newarray .int, 2) := by decide +kernel
theorem dX4_init_9 : decode cX4_init 9 = .ok (.putfield 11, 3) := by decide +kernel
theorem dX4_init_12 : decode cX4_init 12 = .ok (.aload_n 0, 1) := by decide +kernel
theorem dX4_init_13 : decode cX4_init 13 = .ok (.bipush 24, 2) := by decide +kernel
theorem dX4_init_15 : decode cX4_init 15 = .ok (.newarray .int, 2) := by decide +kernel
theorem dX4_init_17 : decode cX4_init 17 = .ok (.putfield 15, 3) := by decide +kernel
theorem dX4_init_20 : decode cX4_init 20 = .ok (.aload_n 0, 1) := by decide +kernel
theorem dX4_init_21 : decode cX4_init 21 = .ok (.bipush 24, 2) := by decide +kernel
theorem dX4_init_23 : decode cX4_init 23 = .ok (.newarray .int, 2) := by decide +kernel
theorem dX4_init_25 : decode cX4_init 25 = .ok (.putfield 18, 3) := by decide +kernel
theorem dX4_init_28 : decode cX4_init 28 = .ok (.aload_n 0, 1) := by decide +kernel
theorem dX4_init_29 : decode cX4_init 29 = .ok (.bipush 24, 2) := by decide +kernel
theorem dX4_init_31 : decode cX4_init 31 = .ok (.newarray .boolean, 2) := by decide +kernel
theorem dX4_init_33 : decode cX4_init 33 = .ok (.putfield 21, 3) := by decide +kernel
theorem dX4_init_36 : decode cX4_init 36 = .ok (.aload_n 0, 1) := by decide +kernel
theorem dX4_init_37 : decode cX4_init 37 = .ok (.bipush 25, 2) := by decide +kernel
theorem dX4_init_39 : decode cX4_init 39 = .ok (.newarray .int, 2) := by decide +kernel
theorem dX4_init_41 : decode cX4_init 41 = .ok (.putfield 25, 3) := by decide +kernel
theorem dX4_init_44 : decode cX4_init 44 = .ok (.aload_n 0, 1) := by decide +kernel
theorem dX4_init_45 : decode cX4_init 45 = .ok (.iconst 0, 1) := by decide +kernel
theorem dX4_init_46 : decode cX4_init 46 = .ok (.putfield 28, 3) := by decide +kernel
theorem dX4_init_49 : decode cX4_init 49 = .ok (.aload_n 0, 1) := by decide +kernel
theorem dX4_init_50 : decode cX4_init 50 = .ok (.bipush 48, 2) := by decide +kernel
theorem dX4_init_52 : decode cX4_init 52 = .ok (.newarray .int, 2) := by decide +kernel
theorem dX4_init_54 : decode cX4_init 54 = .ok (.putfield 32, 3) := by decide +kernel
theorem dX4_init_57 : decode cX4_init 57 = .ok (.aload_n 0, 1) := by decide +kernel
theorem dX4_init_58 : decode cX4_init 58 = .ok (.iconst 0, 1) := by decide +kernel
theorem dX4_init_59 : decode cX4_init 59 = .ok (.putfield 35, 3) := by decide +kernel
theorem dX4_init_62 : decode cX4_init 62 = .ok (.aload_n 0, 1) := by decide +kernel
theorem dX4_init_63 : decode cX4_init 63 = .ok (.sipush 196, 3) := by decide +kernel
theorem dX4_init_66 : decode cX4_init 66 = .ok (.newarray .int, 2) := by decide +kernel
theorem dX4_init_68 : decode cX4_init 68 = .ok (.putfield 38, 3) := by decide +kernel
theorem dX4_init_71 : decode cX4_init 71 = .ok (.aload_n 0, 1) := by decide +kernel
theorem dX4_init_72 : decode cX4_init 72 = .ok (.sipush 611, 3) := by decide +kernel
theorem dX4_init_75 : decode cX4_init 75 = .ok (.newarray .int, 2) := by decide +kernel
theorem dX4_init_77 : decode cX4_init 77 = .ok (.putfield 41, 3) := by decide +kernel
theorem dX4_init_80 : decode cX4_init 80 = .ok (.aload_n 0, 1) := by decide +kernel
theorem dX4_init_81 : decode cX4_init 81 = .ok (.iconst 0, 1) := by decide +kernel
theorem dX4_init_82 : decode cX4_init 82 = .ok (.putfield 44, 3) := by decide +kernel
theorem dX4_init_85 : decode cX4_init 85 = .ok (.aload_n 0, 1) := by decide +kernel
theorem dX4_init_86 : decode cX4_init 86 = .ok (.sipush 611, 3) := by decide +kernel
theorem dX4_init_89 : decode cX4_init 89 = .ok (.newarray .int, 2) := by decide +kernel
theorem dX4_init_91 : decode cX4_init 91 = .ok (.putfield 47, 3) := by decide +kernel
theorem dX4_init_94 : decode cX4_init 94 = .ok (.aload_n 0, 1) := by decide +kernel
theorem dX4_init_95 : decode cX4_init 95 = .ok (.sipush 4096, 3) := by decide +kernel
theorem dX4_init_98 : decode cX4_init 98 = .ok (.newarray .int, 2) := by decide +kernel
theorem dX4_init_100 : decode cX4_init 100 = .ok (.putfield 50, 3) := by decide +kernel
theorem dX4_init_103 : decode cX4_init 103 = .ok (.aload_n 0, 1) := by decide +kernel
theorem dX4_init_104 : decode cX4_init 104 = .ok (.iconst 0, 1) := by decide +kernel
theorem dX4_init_105 : decode cX4_init 105 = .ok (.putfield 53, 3) := by decide +kernel
theorem dX4_init_108 : decode cX4_init 108 = .ok (.aload_n 0, 1) := by decide +kernel
theorem dX4_init_109 : decode cX4_init 109 = .ok (.aload_n 1, 1) := by decide +kernel
theorem dX4_init_110 : decode cX4_init 110 = .ok (.putfield 56, 3) := by decide +kernel
theorem dX4_init_113 : decode cX4_init 113 = .ok (.return_, 1) := by decide +kernel
theorem dX4_gather_0 : decode cX4_gather 0 = .ok (.aload_n 0, 1) := by decide +kernel
theorem dX4_gather_1 : decode cX4_gather 1 = .ok (.iconst 0, 1) := by decide +kernel
theorem dX4_gather_2 : decode cX4_gather 2 = .ok (.putfield 28, 3) := by decide +kernel
theorem dX4_gather_5 : decode cX4_gather 5 = .ok (.iconst 0, 1) := by decide +kernel
theorem dX4_gather_6 : decode cX4_gather 6 = .ok (.istore_n 1, 1) := by decide +kernel
theorem dX4_gather_7 : decode cX4_gather 7 = .ok (.iload_n 1, 1) := by decide +kernel
theorem dX4_gather_8 : decode cX4_gather 8 = .ok (.aload_n 0, 1) := by decide +kernel
theorem dX4_gather_9 : decode cX4_gather 9 = .ok (.getfield 56, 3) := by decide +kernel
theorem dX4_gather_12 : decode cX4_gather 12 = .ok (.invokevirtual 60, 3) := by decide +kernel
theorem dX4_gather_15 : decode cX4_gather 15 = .ok (.if_icmp .ge 61, 3) := by decide +kernel
theorem dX4_gather_18 : decode cX4_gather 18 = .ok (.aload_n 0, 1) := by decide +kernel
theorem dX4_gather_19 : decode cX4_gather 19 = .ok (.getfield 25, 3) := by decide +kernel
theorem dX4_gather_22 : decode cX4_gather 22 = .ok (.iload_n 1, 1) := by decide +kernel
theorem dX4_gather_23 : decode cX4_gather 23 = .ok (.aload_n 0, 1) := by decide +kernel
theorem dX4_gather_24 : decode cX4_gather 24 = .ok (.getfield 28, 3) := by decide +kernel
theorem dX4_gather_27 : decode cX4_gather 27 = .ok (.iastore, 1) := by decide +kernel
theorem dX4_gather_28 : decode cX4_gather 28 = .ok (.aload_n 0, 1) := by decide +kernel
theorem dX4_gather_29 : decode cX4_gather 29 = .ok (.iload_n 1, 1) := by decide +kernel
theorem dX4_gather_30 : decode cX4_gather 30 = .ok (.invokevirtual 66, 3) := by decide +kernel
theorem dX4_gather_33 : decode cX4_gather 33 = .ok (.aload_n 0, 1) := by decide +kernel
theorem dX4_gather_34 : decode cX4_gather 34 = .ok (.getfield 35, 3) := by decide +kernel
theorem dX4_gather_37 : decode cX4_gather 37 = .ok (.bipush 14, 2) := by decide +kernel
theorem dX4_gather_39 : decode cX4_gather 39 = .ok (.if_icmp .le 10, 3) := by decide +kernel
theorem dX4_gather_42 : decode cX4_gather 42 = .ok (.aload_n 0, 1) := by decide +kernel
theorem dX4_gather_43 : decode cX4_gather 43 = .ok (.invokevirtual 70, 3) := by decide +kernel
theorem dX4_gather_46 : decode cX4_gather 46 = .ok (.goto 7, 3) := by decide +kernel
theorem dX4_gather_49 : decode cX4_gather 49 = .ok (.aload_n 0, 1) := by decide +kernel
theorem dX4_gather_50 : decode cX4_gather 50 = .ok (.invokevirtual 73, 3) := by decide +kernel
theorem dX4_gather_53 : decode cX4_gather 53 = .ok (.aload_n 0, 1) := by decide +kernel
theorem dX4_gather_54 : decode cX4_gather 54 = .ok (.getfield 25, 3) := by decide +kernel
theorem dX4_gather_57 : decode cX4_gather 57 = .ok (.iload_n 1, 1) := by decide +kernel
theorem dX4_gather_58 : decode cX4_gather 58 = .ok (.iconst 1, 1) := by decide +kernel
theorem dX4_gather_59 : decode cX4_gather 59 = .ok (.iadd, 1) := by decide +kernel
theorem dX4_gather_60 : decode cX4_gather 60 = .ok (.aload_n 0, 1) := by decide +kernel
theorem dX4_gather_61 : decode cX4_gather 61 = .ok (.getfield 28, 3) := by decide +kernel
theorem dX4_gather_64 : decode cX4_gather 64 = .ok (.iastore, 1) := by decide +kernel
theorem dX4_gather_65 : decode cX4_gather 65 = .ok (.aload_n 0, 1) := by decide +kernel
theorem dX4_gather_66 : decode cX4_gather 66 = .ok (.iload_n 1, 1) := by decide +kernel
theorem dX4_gather_67 : decode cX4_gather 67 = .ok (.invokevirtual 76, 3) := by decide +kernel
theorem dX4_gather_70 : decode cX4_gather 70 = .ok (.iinc 1 1, 3) := by decide +kernel
theorem dX4_gather_73 : decode cX4_gather 73 = .ok (.goto (-66), 3) := by decide +kernel
theorem dX4_gather_76 : decode cX4_gather 76 = .ok (.return_, 1) := by decide +kernel
theorem dX4_firstIn_0 : decode cX4_firstIn 0 = .ok (.aload_n 0, 1) := by decide +kernel
theorem dX4_firstIn_1 : decode cX4_firstIn 1 = .ok (.getfield 25, 3) := by decide +kernel
theorem dX4_firstIn_4 : decode cX4_firstIn 4 = .ok (.iload_n 1, 1) := by decide +kernel
theorem dX4_firstIn_5 : decode cX4_firstIn 5 = .ok (.iaload, 1) := by decide +kernel
theorem dX4_firstIn_6 : decode cX4_firstIn 6 = .ok (.ireturn, 1) := by decide +kernel
theorem dX4_behindLastIn_0 : decode cX4_behindLastIn 0 = .ok (.aload_n 0, 1) := by decide +kernel
theorem dX4_behindLastIn_1 : decode cX4_behindLastIn 1 = .ok (.getfield 25, 3) := by decide +kernel
theorem dX4_behindLastIn_4 : decode cX4_behindLastIn 4 = .ok (.iload_n 1, 1) := by decide +kernel
theorem dX4_behindLastIn_5 : decode cX4_behindLastIn 5 = .ok (.iconst 1, 1) := by decide +kernel
theorem dX4_behindLastIn_6 : decode cX4_behindLastIn 6 = .ok (.iadd, 1) := by decide +kernel
theorem dX4_behindLastIn_7 : decode cX4_behindLastIn 7 = .ok (.iaload, 1) := by decide +kernel
theorem dX4_behindLastIn_8 : decode cX4_behindLastIn 8 = .ok (.ireturn, 1) := by decide +kernel
theorem dX4_cutOf_0 : decode cX4_cutOf 0 = .ok (.aload_n 0, 1) := by decide +kernel
theorem dX4_cutOf_1 : decode cX4_cutOf 1 = .ok (.getfield 25, 3) := by decide +kernel
theorem dX4_cutOf_4 : decode cX4_cutOf 4 = .ok (.iload_n 1, 1) := by decide +kernel
theorem dX4_cutOf_5 : decode cX4_cutOf 5 = .ok (.iaload, 1) := by decide +kernel
theorem dX4_cutOf_6 : decode cX4_cutOf 6 = .ok (.istore_n 2, 1) := by decide +kernel
theorem dX4_cutOf_7 : decode cX4_cutOf 7 = .ok (.iload_n 2, 1) := by decide +kernel
theorem dX4_cutOf_8 : decode cX4_cutOf 8 = .ok (.aload_n 0, 1) := by decide +kernel
theorem dX4_cutOf_9 : decode cX4_cutOf 9 = .ok (.getfield 25, 3) := by decide +kernel
theorem dX4_cutOf_12 : decode cX4_cutOf 12 = .ok (.iload_n 1, 1) := by decide +kernel
theorem dX4_cutOf_13 : decode cX4_cutOf 13 = .ok (.iconst 1, 1) := by decide +kernel
theorem dX4_cutOf_14 : decode cX4_cutOf 14 = .ok (.iadd, 1) := by decide +kernel
theorem dX4_cutOf_15 : decode cX4_cutOf 15 = .ok (.iaload, 1) := by decide +kernel
theorem dX4_cutOf_16 : decode cX4_cutOf 16 = .ok (.if_icmp .ge 20, 3) := by decide +kernel
theorem dX4_cutOf_19 : decode cX4_cutOf 19 = .ok (.aload_n 0, 1) := by decide +kernel
theorem dX4_cutOf_20 : decode cX4_cutOf 20 = .ok (.getfield 21, 3) := by decide +kernel
theorem dX4_cutOf_23 : decode cX4_cutOf 23 = .ok (.iload_n 2, 1) := by decide +kernel
theorem dX4_cutOf_24 : decode cX4_cutOf 24 = .ok (.baload, 1) := by decide +kernel
theorem dX4_cutOf_25 : decode cX4_cutOf 25 = .ok (.ifCond .eq 5, 3) := by decide +kernel
theorem dX4_cutOf_28 : decode cX4_cutOf 28 = .ok (.iload_n 2, 1) := by decide +kernel
theorem dX4_cutOf_29 : decode cX4_cutOf 29 = .ok (.ireturn, 1) := by decide +kernel
theorem dX4_cutOf_30 : decode cX4_cutOf 30 = .ok (.iinc 2 1, 3) := by decide +kernel
theorem dX4_cutOf_33 : decode cX4_cutOf 33 = .ok (.goto (-26), 3) := by decide +kernel
theorem dX4_cutOf_36 : decode cX4_cutOf 36 = .ok (.iconst (-1), 1) := by decide +kernel
theorem dX4_cutOf_37 : decode cX4_cutOf 37 = .ok (.ireturn, 1) := by decide +kernel
theorem dX4_gapsIn_0 : decode cX4_gapsIn 0 = .ok (.iconst 0, 1) := by decide +kernel
theorem dX4_gapsIn_1 : decode cX4_gapsIn 1 = .ok (.istore_n 2, 1) := by decide +kernel
theorem dX4_gapsIn_2 : decode cX4_gapsIn 2 = .ok (.aload_n 0, 1) := by decide +kernel
theorem dX4_gapsIn_3 : decode cX4_gapsIn 3 = .ok (.getfield 25, 3) := by decide +kernel
theorem dX4_gapsIn_6 : decode cX4_gapsIn 6 = .ok (.iload_n 1, 1) := by decide +kernel
theorem dX4_gapsIn_7 : decode cX4_gapsIn 7 = .ok (.iaload, 1) := by decide +kernel
theorem dX4_gapsIn_8 : decode cX4_gapsIn 8 = .ok (.istore_n 3, 1) := by decide +kernel
theorem dX4_gapsIn_9 : decode cX4_gapsIn 9 = .ok (.iload_n 3, 1) := by decide +kernel
theorem dX4_gapsIn_10 : decode cX4_gapsIn 10 = .ok (.aload_n 0, 1) := by decide +kernel
theorem dX4_gapsIn_11 : decode cX4_gapsIn 11 = .ok (.getfield 25, 3) := by decide +kernel
theorem dX4_gapsIn_14 : decode cX4_gapsIn 14 = .ok (.iload_n 1, 1) := by decide +kernel
theorem dX4_gapsIn_15 : decode cX4_gapsIn 15 = .ok (.iconst 1, 1) := by decide +kernel
theorem dX4_gapsIn_16 : decode cX4_gapsIn 16 = .ok (.iadd, 1) := by decide +kernel
theorem dX4_gapsIn_17 : decode cX4_gapsIn 17 = .ok (.iaload, 1) := by decide +kernel
theorem dX4_gapsIn_18 : decode cX4_gapsIn 18 = .ok (.if_icmp .ge 18, 3) := by decide +kernel
theorem dX4_gapsIn_21 : decode cX4_gapsIn 21 = .ok (.iload_n 2, 1) := by decide +kernel
theorem dX4_gapsIn_22 : decode cX4_gapsIn 22 = .ok (.aload_n 0, 1) := by decide +kernel
theorem dX4_gapsIn_23 : decode cX4_gapsIn 23 = .ok (.getfield 18, 3) := by decide +kernel
theorem dX4_gapsIn_26 : decode cX4_gapsIn 26 = .ok (.iload_n 3, 1) := by decide +kernel
theorem dX4_gapsIn_27 : decode cX4_gapsIn 27 = .ok (.iaload, 1) := by decide +kernel
theorem dX4_gapsIn_28 : decode cX4_gapsIn 28 = .ok (.iadd, 1) := by decide +kernel
theorem dX4_gapsIn_29 : decode cX4_gapsIn 29 = .ok (.istore_n 2, 1) := by decide +kernel
theorem dX4_gapsIn_30 : decode cX4_gapsIn 30 = .ok (.iinc 3 1, 3) := by decide +kernel
theorem dX4_gapsIn_33 : decode cX4_gapsIn 33 = .ok (.goto (-24), 3) := by decide +kernel
theorem dX4_gapsIn_36 : decode cX4_gapsIn 36 = .ok (.iload_n 2, 1) := by decide +kernel
theorem dX4_gapsIn_37 : decode cX4_gapsIn 37 = .ok (.ireturn, 1) := by decide +kernel
theorem dX4_listOdds_0 : decode cX4_listOdds 0 = .ok (.aload_n 0, 1) := by decide +kernel
theorem dX4_listOdds_1 : decode cX4_listOdds 1 = .ok (.iconst 0, 1) := by decide +kernel
theorem dX4_listOdds_2 : decode cX4_listOdds 2 = .ok (.putfield 35, 3) := by decide +kernel
theorem dX4_listOdds_5 : decode cX4_listOdds 5 = .ok (.iconst 0, 1) := by decide +kernel
theorem dX4_listOdds_6 : decode cX4_listOdds 6 = .ok (.istore_n 2, 1) := by decide +kernel
theorem dX4_listOdds_7 : decode cX4_listOdds 7 = .ok (.iload_n 2, 1) := by decide +kernel
theorem dX4_listOdds_8 : decode cX4_listOdds 8 = .ok (.aload_n 0, 1) := by decide +kernel
theorem dX4_listOdds_9 : decode cX4_listOdds 9 = .ok (.getfield 56, 3) := by decide +kernel
theorem dX4_listOdds_12 : decode cX4_listOdds 12 = .ok (.invokevirtual 79, 3) := by decide +kernel
theorem dX4_listOdds_15 : decode cX4_listOdds 15 = .ok (.if_icmp .ge 52, 3) := by decide +kernel
theorem dX4_listOdds_18 : decode cX4_listOdds 18 = .ok (.aload_n 0, 1) := by decide +kernel
theorem dX4_listOdds_19 : decode cX4_listOdds 19 = .ok (.getfield 56, 3) := by decide +kernel
theorem dX4_listOdds_22 : decode cX4_listOdds 22 = .ok (.iload_n 2, 1) := by decide +kernel
theorem dX4_listOdds_23 : decode cX4_listOdds 23 = .ok (.invokevirtual 81, 3) := by decide +kernel
theorem dX4_listOdds_26 : decode cX4_listOdds 26 = .ok (.iload_n 1, 1) := by decide +kernel
theorem dX4_listOdds_27 : decode cX4_listOdds 27 = .ok (.if_icmp .ne 34, 3) := by decide +kernel
theorem dX4_listOdds_30 : decode cX4_listOdds 30 = .ok (.aload_n 0, 1) := by decide +kernel
theorem dX4_listOdds_31 : decode cX4_listOdds 31 = .ok (.getfield 56, 3) := by decide +kernel
theorem dX4_listOdds_34 : decode cX4_listOdds 34 = .ok (.iload_n 2, 1) := by decide +kernel
theorem dX4_listOdds_35 : decode cX4_listOdds 35 = .ok (.invokevirtual 85, 3) := by decide +kernel
theorem dX4_listOdds_38 : decode cX4_listOdds 38 = .ok (.ifCond .eq 23, 3) := by decide +kernel
theorem dX4_listOdds_41 : decode cX4_listOdds 41 = .ok (.aload_n 0, 1) := by decide +kernel
theorem dX4_listOdds_42 : decode cX4_listOdds 42 = .ok (.getfield 32, 3) := by decide +kernel
theorem dX4_listOdds_45 : decode cX4_listOdds 45 = .ok (.aload_n 0, 1) := by decide +kernel
theorem dX4_listOdds_46 : decode cX4_listOdds 46 = .ok (.getfield 35, 3) := by decide +kernel
theorem dX4_listOdds_49 : decode cX4_listOdds 49 = .ok (.iload_n 2, 1) := by decide +kernel
theorem dX4_listOdds_50 : decode cX4_listOdds 50 = .ok (.iastore, 1) := by decide +kernel
theorem dX4_listOdds_51 : decode cX4_listOdds 51 = .ok (.aload_n 0, 1) := by decide +kernel
theorem dX4_listOdds_52 : decode cX4_listOdds 52 = .ok (.dup, 1) := by decide +kernel
theorem dX4_listOdds_53 : decode cX4_listOdds 53 = .ok (.getfield 35, 3) := by decide +kernel
theorem dX4_listOdds_56 : decode cX4_listOdds 56 = .ok (.iconst 1, 1) := by decide +kernel
theorem dX4_listOdds_57 : decode cX4_listOdds 57 = .ok (.iadd, 1) := by decide +kernel
theorem dX4_listOdds_58 : decode cX4_listOdds 58 = .ok (.putfield 35, 3) := by decide +kernel
theorem dX4_listOdds_61 : decode cX4_listOdds 61 = .ok (.iinc 2 1, 3) := by decide +kernel
theorem dX4_listOdds_64 : decode cX4_listOdds 64 = .ok (.goto (-57), 3) := by decide +kernel
theorem dX4_listOdds_67 : decode cX4_listOdds 67 = .ok (.return_, 1) := by decide +kernel
theorem dX4_markCut_0 : decode cX4_markCut 0 = .ok (.iconst (-1), 1) := by decide +kernel
theorem dX4_markCut_1 : decode cX4_markCut 1 = .ok (.istore_n 2, 1) := by decide +kernel
theorem dX4_markCut_2 : decode cX4_markCut 2 = .ok (.aload_n 0, 1) := by decide +kernel
theorem dX4_markCut_3 : decode cX4_markCut 3 = .ok (.getfield 25, 3) := by decide +kernel
theorem dX4_markCut_6 : decode cX4_markCut 6 = .ok (.iload_n 1, 1) := by decide +kernel
theorem dX4_markCut_7 : decode cX4_markCut 7 = .ok (.iaload, 1) := by decide +kernel
theorem dX4_markCut_8 : decode cX4_markCut 8 = .ok (.istore_n 3, 1) := by decide +kernel
theorem dX4_markCut_9 : decode cX4_markCut 9 = .ok (.iload_n 3, 1) := by decide +kernel
theorem dX4_markCut_10 : decode cX4_markCut 10 = .ok (.aload_n 0, 1) := by decide +kernel
theorem dX4_markCut_11 : decode cX4_markCut 11 = .ok (.getfield 25, 3) := by decide +kernel
theorem dX4_markCut_14 : decode cX4_markCut 14 = .ok (.iload_n 1, 1) := by decide +kernel
theorem dX4_markCut_15 : decode cX4_markCut 15 = .ok (.iconst 1, 1) := by decide +kernel
theorem dX4_markCut_16 : decode cX4_markCut 16 = .ok (.iadd, 1) := by decide +kernel
theorem dX4_markCut_17 : decode cX4_markCut 17 = .ok (.iaload, 1) := by decide +kernel
theorem dX4_markCut_18 : decode cX4_markCut 18 = .ok (.if_icmp .ge 38, 3) := by decide +kernel
theorem dX4_markCut_21 : decode cX4_markCut 21 = .ok (.aload_n 0, 1) := by decide +kernel
theorem dX4_markCut_22 : decode cX4_markCut 22 = .ok (.getfield 21, 3) := by decide +kernel
theorem dX4_markCut_25 : decode cX4_markCut 25 = .ok (.iload_n 3, 1) := by decide +kernel
theorem dX4_markCut_26 : decode cX4_markCut 26 = .ok (.iconst 0, 1) := by decide +kernel
theorem dX4_markCut_27 : decode cX4_markCut 27 = .ok (.bastore, 1) := by decide +kernel
theorem dX4_markCut_28 : decode cX4_markCut 28 = .ok (.iload_n 2, 1) := by decide +kernel
theorem dX4_markCut_29 : decode cX4_markCut 29 = .ok (.iconst (-1), 1) := by decide +kernel
theorem dX4_markCut_30 : decode cX4_markCut 30 = .ok (.if_icmp .eq 18, 3) := by decide +kernel
theorem dX4_markCut_33 : decode cX4_markCut 33 = .ok (.aload_n 0, 1) := by decide +kernel
theorem dX4_markCut_34 : decode cX4_markCut 34 = .ok (.getfield 18, 3) := by decide +kernel
theorem dX4_markCut_37 : decode cX4_markCut 37 = .ok (.iload_n 3, 1) := by decide +kernel
theorem dX4_markCut_38 : decode cX4_markCut 38 = .ok (.iaload, 1) := by decide +kernel
theorem dX4_markCut_39 : decode cX4_markCut 39 = .ok (.aload_n 0, 1) := by decide +kernel
theorem dX4_markCut_40 : decode cX4_markCut 40 = .ok (.getfield 18, 3) := by decide +kernel
theorem dX4_markCut_43 : decode cX4_markCut 43 = .ok (.iload_n 2, 1) := by decide +kernel
theorem dX4_markCut_44 : decode cX4_markCut 44 = .ok (.iaload, 1) := by decide +kernel
theorem dX4_markCut_45 : decode cX4_markCut 45 = .ok (.if_icmp .le 5, 3) := by decide +kernel
theorem dX4_markCut_48 : decode cX4_markCut 48 = .ok (.iload_n 3, 1) := by decide +kernel
theorem dX4_markCut_49 : decode cX4_markCut 49 = .ok (.istore_n 2, 1) := by decide +kernel
theorem dX4_markCut_50 : decode cX4_markCut 50 = .ok (.iinc 3 1, 3) := by decide +kernel
theorem dX4_markCut_53 : decode cX4_markCut 53 = .ok (.goto (-44), 3) := by decide +kernel
theorem dX4_markCut_56 : decode cX4_markCut 56 = .ok (.iload_n 2, 1) := by decide +kernel
theorem dX4_markCut_57 : decode cX4_markCut 57 = .ok (.iconst (-1), 1) := by decide +kernel
theorem dX4_markCut_58 : decode cX4_markCut 58 = .ok (.if_icmp .eq 10, 3) := by decide +kernel
theorem dX4_markCut_61 : decode cX4_markCut 61 = .ok (.aload_n 0, 1) := by decide +kernel
theorem dX4_markCut_62 : decode cX4_markCut 62 = .ok (.getfield 21, 3) := by decide +kernel
theorem dX4_markCut_65 : decode cX4_markCut 65 = .ok (.iload_n 2, 1) := by decide +kernel
theorem dX4_markCut_66 : decode cX4_markCut 66 = .ok (.iconst 1, 1) := by decide +kernel
theorem dX4_markCut_67 : decode cX4_markCut 67 = .ok (.bastore, 1) := by decide +kernel
theorem dX4_markCut_68 : decode cX4_markCut 68 = .ok (.return_, 1) := by decide +kernel
theorem dX4_putPair_0 : decode cX4_putPair 0 = .ok (.aload_n 0, 1) := by decide +kernel
theorem dX4_putPair_1 : decode cX4_putPair 1 = .ok (.getfield 28, 3) := by decide +kernel
theorem dX4_putPair_4 : decode cX4_putPair 4 = .ok (.bipush 24, 2) := by decide +kernel
theorem dX4_putPair_6 : decode cX4_putPair 6 = .ok (.if_icmp .lt 4, 3) := by decide +kernel
theorem dX4_putPair_9 : decode cX4_putPair 9 = .ok (.return_, 1) := by decide +kernel
theorem dX4_putPair_10 : decode cX4_putPair 10 = .ok (.aload_n 0, 1) := by decide +kernel
