theorem dX0_init_0 : decode cX0_init 0 = .ok (.aload_n 0, 1) := by decide +kernel
theorem dX0_init_1 : decode cX0_init 1 = .ok (.invokespecial 3, 3) := by decide +kernel
theorem dX0_init_4 : decode cX0_init 4 = .ok (.aload_n 0, 1) := by decide +kernel
theorem dX0_init_5 : decode cX0_init 5 = .ok (.bipush 60, 2) := by decide +kernel
theorem dX0_init_7 : decode cX0_init 7 = .ok (.newarray .int, 2) := by decide +kernel
theorem dX0_init_9 : decode cX0_init 9 = .ok (.putfield 9, 3) := by decide +kernel
theorem dX0_init_12 : decode cX0_init 12 = .ok (.aload_n 0, 1) := by decide +kernel
theorem dX0_init_13 : decode cX0_init 13 = .ok (.bipush 60, 2) := by decide +kernel
theorem dX0_init_15 : decode cX0_init 15 = .ok (.newarray .int, 2) := by decide +kernel
theorem dX0_init_17 : decode cX0_init 17 = .ok (.putfield 15, 3) := by decide +kernel
theorem dX0_init_20 : decode cX0_init 20 = .ok (.aload_n 0, 1) := by decide +kernel
theorem dX0_init_21 : decode cX0_init 21 = .ok (.bipush 60, 2) := by decide +kernel
theorem dX0_init_23 : decode cX0_init 23 = .ok (.newarray .int, 2) := by decide +kernel
theorem dX0_init_25 : decode cX0_init 25 = .ok (.putfield 18, 3) := by decide +kernel
theorem dX0_init_28 : decode cX0_init 28 = .ok (.aload_n 0, 1) := by decide +kernel
theorem dX0_init_29 : decode cX0_init 29 = .ok (.bipush 60, 2) := by decide +kernel
theorem dX0_init_31 : decode cX0_init 31 = .ok (.newarray .long, 2) := by decide +kernel
theorem dX0_init_33 : decode cX0_init 33 = .ok (.putfield 21, 3) := by decide +kernel
theorem dX0_init_36 : decode cX0_init 36 = .ok (.aload_n 0, 1) := by decide +kernel
theorem dX0_init_37 : decode cX0_init 37 = .ok (.bipush 60, 2) := by decide +kernel
theorem dX0_init_39 : decode cX0_init 39 = .ok (.newarray .long, 2) := by decide +kernel
theorem dX0_init_41 : decode cX0_init 41 = .ok (.putfield 25, 3) := by decide +kernel
theorem dX0_init_44 : decode cX0_init 44 = .ok (.aload_n 0, 1) := by decide +kernel
theorem dX0_init_45 : decode cX0_init 45 = .ok (.iconst 5, 1) := by decide +kernel
theorem dX0_init_46 : decode cX0_init 46 = .ok (.newarray .long, 2) := by decide +kernel
theorem dX0_init_48 : decode cX0_init 48 = .ok (.putfield 28, 3) := by decide +kernel
theorem dX0_init_51 : decode cX0_init 51 = .ok (.aload_n 0, 1) := by decide +kernel
theorem dX0_init_52 : decode cX0_init 52 = .ok (.bipush 60, 2) := by decide +kernel
theorem dX0_init_54 : decode cX0_init 54 = .ok (.newarray .int, 2) := by decide +kernel
theorem dX0_init_56 : decode cX0_init 56 = .ok (.putfield 31, 3) := by decide +kernel
theorem dX0_init_59 : decode cX0_init 59 = .ok (.return_, 1) := by decide +kernel
theorem dX0_has_0 : decode cX0_has 0 = .ok (.iload_n 1, 1) := by decide +kernel
theorem dX0_has_1 : decode cX0_has 1 = .ok (.ifCond .lt 15, 3) := by decide +kernel
theorem dX0_has_4 : decode cX0_has 4 = .ok (.iload_n 1, 1) := by decide +kernel
theorem dX0_has_5 : decode cX0_has 5 = .ok (.aload_n 0, 1) := by decide +kernel
theorem dX0_has_6 : decode cX0_has 6 = .ok (.getfield 34, 3) := by decide +kernel
theorem dX0_has_9 : decode cX0_has 9 = .ok (.if_icmp .ge 7, 3) := by decide +kernel
theorem dX0_has_12 : decode cX0_has 12 = .ok (.iconst 1, 1) := by decide +kernel
theorem dX0_has_13 : decode cX0_has 13 = .ok (.goto 4, 3) := by decide +kernel
theorem dX0_has_16 : decode cX0_has 16 = .ok (.iconst 0, 1) := by decide +kernel
theorem dX0_has_17 : decode cX0_has 17 = .ok (.ireturn, 1) := by decide +kernel
theorem dX0_partSize_0 : decode cX0_partSize 0 = .ok (.aload_n 1, 1) := by decide +kernel
theorem dX0_partSize_1 : decode cX0_partSize 1 = .ok (.getfield 38, 3) := by decide +kernel
theorem dX0_partSize_4 : decode cX0_partSize 4 = .ok (.aload_n 0, 1) := by decide +kernel
theorem dX0_partSize_5 : decode cX0_partSize 5 = .ok (.getfield 9, 3) := by decide +kernel
theorem dX0_partSize_8 : decode cX0_partSize 8 = .ok (.iload_n 2, 1) := by decide +kernel
theorem dX0_partSize_9 : decode cX0_partSize 9 = .ok (.iaload, 1) := by decide +kernel
theorem dX0_partSize_10 : decode cX0_partSize 10 = .ok (.aaload, 1) := by decide +kernel
theorem dX0_partSize_11 : decode cX0_partSize 11 = .ok (.getfield 44, 3) := by decide +kernel
theorem dX0_partSize_14 : decode cX0_partSize 14 = .ok (.aload_n 0, 1) := by decide +kernel
theorem dX0_partSize_15 : decode cX0_partSize 15 = .ok (.getfield 15, 3) := by decide +kernel
theorem dX0_partSize_18 : decode cX0_partSize 18 = .ok (.iload_n 2, 1) := by decide +kernel
theorem dX0_partSize_19 : decode cX0_partSize 19 = .ok (.iaload, 1) := by decide +kernel
theorem dX0_partSize_20 : decode cX0_partSize 20 = .ok (.invokevirtual 50, 3) := by decide +kernel
theorem dX0_partSize_23 : decode cX0_partSize 23 = .ok (.ireturn, 1) := by decide +kernel
theorem dX0_fillFrom_0 : decode cX0_fillFrom 0 = .ok (.aload_n 0, 1) := by decide +kernel
theorem dX0_fillFrom_1 : decode cX0_fillFrom 1 = .ok (.aload_n 1, 1) := by decide +kernel
theorem dX0_fillFrom_2 : decode cX0_fillFrom 2 = .ok (.invokevirtual 56, 3) := by decide +kernel
theorem dX0_fillFrom_5 : decode cX0_fillFrom 5 = .ok (.aload_n 0, 1) := by decide +kernel
theorem dX0_fillFrom_6 : decode cX0_fillFrom 6 = .ok (.aload_n 1, 1) := by decide +kernel
theorem dX0_fillFrom_7 : decode cX0_fillFrom 7 = .ok (.invokevirtual 60, 3) := by decide +kernel
theorem dX0_fillFrom_10 : decode cX0_fillFrom 10 = .ok (.iconst 0, 1) := by decide +kernel
theorem dX0_fillFrom_11 : decode cX0_fillFrom 11 = .ok (.istore_n 2, 1) := by decide +kernel
theorem dX0_fillFrom_12 : decode cX0_fillFrom 12 = .ok (.iload_n 2, 1) := by decide +kernel
theorem dX0_fillFrom_13 : decode cX0_fillFrom 13 = .ok (.aload_n 0, 1) := by decide +kernel
theorem dX0_fillFrom_14 : decode cX0_fillFrom 14 = .ok (.getfield 34, 3) := by decide +kernel
theorem dX0_fillFrom_17 : decode cX0_fillFrom 17 = .ok (.if_icmp .ge 33, 3) := by decide +kernel
theorem dX0_fillFrom_20 : decode cX0_fillFrom 20 = .ok (.aload_n 0, 1) := by decide +kernel
theorem dX0_fillFrom_21 : decode cX0_fillFrom 21 = .ok (.getfield 21, 3) := by decide +kernel
theorem dX0_fillFrom_24 : decode cX0_fillFrom 24 = .ok (.iload_n 2, 1) := by decide +kernel
theorem dX0_fillFrom_25 : decode cX0_fillFrom 25 = .ok (.aload_n 0, 1) := by decide +kernel
theorem dX0_fillFrom_26 : decode cX0_fillFrom 26 = .ok (.aload_n 1, 1) := by decide +kernel
theorem dX0_fillFrom_27 : decode cX0_fillFrom 27 = .ok (.iload_n 2, 1) := by decide +kernel
theorem dX0_fillFrom_28 : decode cX0_fillFrom 28 = .ok (.invokevirtual 63, 3) := by decide +kernel
theorem dX0_fillFrom_31 : decode cX0_fillFrom 31 = .ok (.lastore, 1) := by decide +kernel
theorem dX0_fillFrom_32 : decode cX0_fillFrom 32 = .ok (.aload_n 0, 1) := by decide +kernel
theorem dX0_fillFrom_33 : decode cX0_fillFrom 33 = .ok (.getfield 25, 3) := by decide +kernel
theorem dX0_fillFrom_36 : decode cX0_fillFrom 36 = .ok (.iload_n 2, 1) := by decide +kernel
theorem dX0_fillFrom_37 : decode cX0_fillFrom 37 = .ok (.aload_n 0, 1) := by decide +kernel
theorem dX0_fillFrom_38 : decode cX0_fillFrom 38 = .ok (.getfield 21, 3) := by decide +kernel
theorem dX0_fillFrom_41 : decode cX0_fillFrom 41 = .ok (.iload_n 2, 1) := by decide +kernel
theorem dX0_fillFrom_42 : decode cX0_fillFrom 42 = .ok (.laload, 1) := by decide +kernel
theorem dX0_fillFrom_43 : decode cX0_fillFrom 43 = .ok (.lastore, 1) := by decide +kernel
theorem dX0_fillFrom_44 : decode cX0_fillFrom 44 = .ok (.iinc 2 1, 3) := by decide +kernel
theorem dX0_fillFrom_47 : decode cX0_fillFrom 47 = .ok (.goto (-35), 3) := by decide +kernel
theorem dX0_fillFrom_50 : decode cX0_fillFrom 50 = .ok (.aload_n 0, 1) := by decide +kernel
theorem dX0_fillFrom_51 : decode cX0_fillFrom 51 = .ok (.invokevirtual 67, 3) := by decide +kernel
theorem dX0_fillFrom_54 : decode cX0_fillFrom 54 = .ok (.aload_n 0, 1) := by decide +kernel
theorem dX0_fillFrom_55 : decode cX0_fillFrom 55 = .ok (.invokevirtual 70, 3) := by decide +kernel
theorem dX0_fillFrom_58 : decode cX0_fillFrom 58 = .ok (.return_, 1) := by decide +kernel
theorem dX0_isHead_0 : decode cX0_isHead 0 = .ok (.aload_n 0, 1) := by decide +kernel
theorem dX0_isHead_1 : decode cX0_isHead 1 = .ok (.getfield 73, 3) := by decide +kernel
theorem dX0_isHead_4 : decode cX0_isHead 4 = .ok (.iload_n 1, 1) := by decide +kernel
theorem dX0_isHead_5 : decode cX0_isHead 5 = .ok (.bipush 97, 2) := by decide +kernel
theorem dX0_isHead_7 : decode cX0_isHead 7 = .ok (.isub, 1) := by decide +kernel
theorem dX0_isHead_8 : decode cX0_isHead 8 = .ok (.iushr, 1) := by decide +kernel
theorem dX0_isHead_9 : decode cX0_isHead 9 = .ok (.iconst 1, 1) := by decide +kernel
theorem dX0_isHead_10 : decode cX0_isHead 10 = .ok (.iand, 1) := by decide +kernel
theorem dX0_isHead_11 : decode cX0_isHead 11 = .ok (.ifCond .eq 7, 3) := by decide +kernel
theorem dX0_isHead_14 : decode cX0_isHead 14 = .ok (.iconst 1, 1) := by decide +kernel
theorem dX0_isHead_15 : decode cX0_isHead 15 = .ok (.goto 4, 3) := by decide +kernel
theorem dX0_isHead_18 : decode cX0_isHead 18 = .ok (.iconst 0, 1) := by decide +kernel
theorem dX0_isHead_19 : decode cX0_isHead 19 = .ok (.ireturn, 1) := by decide +kernel
theorem dX0_findHeads_0 : decode cX0_findHeads 0 = .ok (.aload_n 0, 1) := by decide +kernel
theorem dX0_findHeads_1 : decode cX0_findHeads 1 = .ok (.iconst 0, 1) := by decide +kernel
theorem dX0_findHeads_2 : decode cX0_findHeads 2 = .ok (.putfield 73, 3) := by decide +kernel
theorem dX0_findHeads_5 : decode cX0_findHeads 5 = .ok (.iconst 0, 1) := by decide +kernel
theorem dX0_findHeads_6 : decode cX0_findHeads 6 = .ok (.istore_n 2, 1) := by decide +kernel
theorem dX0_findHeads_7 : decode cX0_findHeads 7 = .ok (.iload_n 2, 1) := by decide +kernel
theorem dX0_findHeads_8 : decode cX0_findHeads 8 = .ok (.aload_n 1, 1) := by decide +kernel
theorem dX0_findHeads_9 : decode cX0_findHeads 9 = .ok (.getfield 76, 3) := by decide +kernel
theorem dX0_findHeads_12 : decode cX0_findHeads 12 = .ok (.if_icmp .ge 37, 3) := by decide +kernel
theorem dX0_findHeads_15 : decode cX0_findHeads 15 = .ok (.aload_n 0, 1) := by decide +kernel
theorem dX0_findHeads_16 : decode cX0_findHeads 16 = .ok (.dup, 1) := by decide +kernel
theorem dX0_findHeads_17 : decode cX0_findHeads 17 = .ok (.getfield 73, 3) := by decide +kernel
theorem dX0_findHeads_20 : decode cX0_findHeads 20 = .ok (.iconst 1, 1) := by decide +kernel
theorem dX0_findHeads_21 : decode cX0_findHeads 21 = .ok (.aload_n 1, 1) := by decide +kernel
theorem dX0_findHeads_22 : decode cX0_findHeads 22 = .ok (.getfield 38, 3) := by decide +kernel
theorem dX0_findHeads_25 : decode cX0_findHeads 25 = .ok (.iload_n 2, 1) := by decide +kernel
theorem dX0_findHeads_26 : decode cX0_findHeads 26 = .ok (.aaload, 1) := by decide +kernel
theorem dX0_findHeads_27 : decode cX0_findHeads 27 = .ok (.getfield 77, 3) := by decide +kernel
theorem dX0_findHeads_30 : decode cX0_findHeads 30 = .ok (.getfield 80, 3) := by decide +kernel
theorem dX0_findHeads_33 : decode cX0_findHeads 33 = .ok (.iconst 0, 1) := by decide +kernel
theorem dX0_findHeads_34 : decode cX0_findHeads 34 = .ok (.iaload, 1) := by decide +kernel
theorem dX0_findHeads_35 : decode cX0_findHeads 35 = .ok (.bipush 97, 2) := by decide +kernel
theorem dX0_findHeads_37 : decode cX0_findHeads 37 = .ok (.isub, 1) := by decide +kernel
theorem dX0_findHeads_38 : decode cX0_findHeads 38 = .ok (.ishl, 1) := by decide +kernel
theorem dX0_findHeads_39 : decode cX0_findHeads 39 = .ok (.ior, 1) := by decide +kernel
theorem dX0_findHeads_40 : decode cX0_findHeads 40 = .ok (.putfield 73, 3) := by decide +kernel
theorem dX0_findHeads_43 : decode cX0_findHeads 43 = .ok (.iinc 2 1, 3) := by decide +kernel
theorem dX0_findHeads_46 : decode cX0_findHeads 46 = .ok (.goto (-39), 3) := by decide +kernel
theorem dX0_findHeads_49 : decode cX0_findHeads 49 = .ok (.return_, 1) := by decide +kernel
theorem dX0_collect_0 : decode cX0_collect 0 = .ok (.aload_n 0, 1) := by decide +kernel
theorem dX0_collect_1 : decode cX0_collect 1 = .ok (.iconst 0, 1) := by decide +kernel
theorem dX0_collect_2 : decode cX0_collect 2 = .ok (.putfield 34, 3) := by decide +kernel
theorem dX0_collect_5 : decode cX0_collect 5 = .ok (.iconst 0, 1) := by decide +kernel
theorem dX0_collect_6 : decode cX0_collect 6 = .ok (.istore_n 2, 1) := by decide +kernel
theorem dX0_collect_7 : decode cX0_collect 7 = .ok (.iload_n 2, 1) := by decide +kernel
theorem dX0_collect_8 : decode cX0_collect 8 = .ok (.aload_n 1, 1) := by decide +kernel
theorem dX0_collect_9 : decode cX0_collect 9 = .ok (.getfield 76, 3) := by decide +kernel
theorem dX0_collect_12 : decode cX0_collect 12 = .ok (.if_icmp .ge 113, 3) := by decide +kernel
theorem dX0_collect_15 : decode cX0_collect 15 = .ok (.aload_n 0, 1) := by decide +kernel
theorem dX0_collect_16 : decode cX0_collect 16 = .ok (.getfield 28, 3) := by decide +kernel
theorem dX0_collect_19 : decode cX0_collect 19 = .ok (.iload_n 2, 1) := by decide +kernel
theorem dX0_collect_20 : decode cX0_collect 20 = .ok (.lconst 0, 1) := by decide +kernel
theorem dX0_collect_21 : decode cX0_collect 21 = .ok (.lastore, 1) := by decide +kernel
theorem dX0_collect_22 : decode cX0_collect 22 = .ok (.aload_n 1, 1) := by decide +kernel
theorem dX0_collect_23 : decode cX0_collect 23 = .ok (.getfield 38, 3) := by decide +kernel
theorem dX0_collect_26 : decode cX0_collect 26 = .ok (.iload_n 2, 1) := by decide +kernel
theorem dX0_collect_27 : decode cX0_collect 27 = .ok (.aaload, 1) := by decide +kernel
theorem dX0_collect_28 : decode cX0_collect 28 = .ok (.getfield 44, 3) := by decide +kernel
theorem dX0_collect_31 : decode cX0_collect 31 = .ok (.astore_n 3, 1) := by decide +kernel
theorem dX0_collect_32 : decode cX0_collect 32 = .ok (.iconst 0, 1) := by decide +kernel
theorem dX0_collect_33 : decode cX0_collect 33 = .ok (.istore 4, 2) := by decide +kernel
theorem dX0_collect_35 : decode cX0_collect 35 = .ok (.iload 4, 2) := by decide +kernel
theorem dX0_collect_37 : decode cX0_collect 37 = .ok (.aload_n 3, 1) := by decide +kernel
theorem dX0_collect_38 : decode cX0_collect 38 = .ok (.getfield 83, 3) := by decide +kernel
theorem dX0_collect_41 : decode cX0_collect 41 = .ok (.if_icmp .ge 78, 3) := by decide +kernel
theorem dX0_collect_44 : decode cX0_collect 44 = .ok (.aload_n 0, 1) := by decide +kernel
theorem dX0_collect_45 : decode cX0_collect 45 = .ok (.aload_n 3, 1) := by decide +kernel
theorem dX0_collect_46 : decode cX0_collect 46 = .ok (.getfield 80, 3) := by decide +kernel
theorem dX0_collect_49 : decode cX0_collect 49 = .ok (.iload 4, 2) := by decide +kernel
theorem dX0_collect_51 : decode cX0_collect 51 = .ok (.iaload, 1) := by decide +kernel
theorem dX0_collect_52 : decode cX0_collect 52 = .ok (.invokevirtual 86, 3) := by decide +kernel
theorem dX0_collect_55 : decode cX0_collect 55 = .ok (.ifCond .eq 58, 3) := by decide +kernel
theorem dX0_collect_58 : decode cX0_collect 58 = .ok (.aload_n 0, 1) := by decide +kernel
theorem dX0_collect_59 : decode cX0_collect 59 = .ok (.getfield 34, 3) := by decide +kernel
theorem dX0_collect_62 : decode cX0_collect 62 = .ok (.bipush 60, 2) := by decide +kernel
theorem dX0_collect_64 : decode cX0_collect 64 = .ok (.if_icmp .ge 49, 3) := by decide +kernel
theorem dX0_collect_67 : decode cX0_collect 67 = .ok (.aload_n 0, 1) := by decide +kernel
theorem dX0_collect_68 : decode cX0_collect 68 = .ok (.getfield 9, 3) := by decide +kernel
theorem dX0_collect_71 : decode cX0_collect 71 = .ok (.aload_n 0, 1) := by decide +kernel
theorem dX0_collect_72 : decode cX0_collect 72 = .ok (.getfield 34, 3) := by decide +kernel
theorem dX0_collect_75 : decode cX0_collect 75 = .ok (.iload_n 2, 1) := by decide +kernel
theorem dX0_collect_76 : decode cX0_collect 76 = .ok (.iastore, 1) := by decide +kernel
theorem dX0_collect_77 : decode cX0_collect 77 = .ok (.aload_n 0, 1) := by decide +kernel
theorem dX0_collect_78 : decode cX0_collect 78 = .ok (.getfield 15, 3) := by decide +kernel
theorem dX0_collect_81 : decode cX0_collect 81 = .ok (.aload_n 0, 1) := by decide +kernel
theorem dX0_collect_82 : decode cX0_collect 82 = .ok (.getfield 34, 3) := by decide +kernel
theorem dX0_collect_85 : decode cX0_collect 85 = .ok (.iload 4, 2) := by decide +kernel
theorem dX0_collect_87 : decode cX0_collect 87 = .ok (.iastore, 1) := by decide +kernel
theorem dX0_collect_88 : decode cX0_collect 88 = .ok (.aload_n 0, 1) := by decide +kernel
theorem dX0_collect_89 : decode cX0_collect 89 = .ok (.getfield 28, 3) := by decide +kernel
theorem dX0_collect_92 : decode cX0_collect 92 = .ok (.iload_n 2, 1) := by decide +kernel
theorem dX0_collect_93 : decode cX0_collect 93 = .ok (.dup2, 1) := by decide +kernel
theorem dX0_collect_94 : decode cX0_collect 94 = .ok (.laload, 1) := by decide +kernel
theorem dX0_collect_95 : decode cX0_collect 95 = .ok (.lconst 1, 1) := by decide +kernel
theorem dX0_collect_96 : decode cX0_collect 96 = .ok (.aload_n 0, 1) := by decide +kernel
theorem dX0_collect_97 : decode cX0_collect 97 = .ok (.getfield 34, 3) := by decide +kernel
theorem dX0_collect_100 : decode cX0_collect 100 = .ok (.lshl, 1) := by decide +kernel
theorem dX0_collect_101 : decode cX0_collect 101 = .ok (.lor, 1) := by decide +kernel
theorem dX0_collect_102 : decode cX0_collect 102 = .ok (.lastore, 1) := by decide +kernel
theorem dX0_collect_103 : decode cX0_collect 103 = .ok (.aload_n 0, 1) := by decide +kernel
theorem dX0_collect_104 : decode cX0_collect 104 = .ok (.dup, 1) := by decide +kernel
theorem dX0_collect_105 : decode cX0_collect 105 = .ok (.getfield 34, 3) := by decide +kernel
theorem dX0_collect_108 : decode cX0_collect 108 = .ok (.iconst 1, 1) := by decide +kernel
theorem dX0_collect_109 : decode cX0_collect 109 = .ok (.iadd, 1) := by decide +kernel
theorem dX0_collect_110 : decode cX0_collect 110 = .ok (.putfield 34, 3) := by decide +kernel
theorem dX0_collect_113 : decode cX0_collect 113 = .ok (.iinc 4 1, 3) := by decide +kernel
theorem dX0_collect_116 : decode cX0_collect 116 = .ok (.goto (-81), 3) := by decide +kernel
theorem dX0_collect_119 : decode cX0_collect 119 = .ok (.iinc 2 1, 3) := by decide +kernel
theorem dX0_collect_122 : decode cX0_collect 122 = .ok (.goto (-115), 3) := by decide +kernel
theorem dX0_collect_125 : decode cX0_collect 125 = .ok (.return_, 1) := by decide +kernel
theorem dX0_followersOf_0 : decode cX0_followersOf 0 = .ok (.aload_n 1, 1) := by decide +kernel
theorem dX0_followersOf_1 : decode cX0_followersOf 1 = .ok (.getfield 38, 3) := by decide +kernel
theorem dX0_followersOf_4 : decode cX0_followersOf 4 = .ok (.aload_n 0, 1) := by decide +kernel
theorem dX0_followersOf_5 : decode cX0_followersOf 5 = .ok (.getfield 9, 3) := by decide +kernel
theorem dX0_followersOf_8 : decode cX0_followersOf 8 = .ok (.iload_n 2, 1) := by decide +kernel
theorem dX0_followersOf_9 : decode cX0_followersOf 9 = .ok (.iaload, 1) := by decide +kernel
theorem dX0_followersOf_10 : decode cX0_followersOf 10 = .ok (.aaload, 1) := by decide +kernel
theorem dX0_followersOf_11 : decode cX0_followersOf 11 = .ok (.getfield 44, 3) := by decide +kernel
theorem dX0_followersOf_14 : decode cX0_followersOf 14 = .ok (.astore_n 3, 1) := by decide +kernel
theorem dX0_followersOf_15 : decode cX0_followersOf 15 = .ok (.lconst 0, 1) := by decide +kernel
theorem dX0_followersOf_16 : decode cX0_followersOf 16 = .ok (.lstore 4, 2) := by decide +kernel
theorem dX0_followersOf_18 : decode cX0_followersOf 18 = .ok (.iconst 0, 1) := by decide +kernel
theorem dX0_followersOf_19 : decode cX0_followersOf 19 = .ok (.istore 6, 2) := by decide +kernel
theorem dX0_followersOf_21 : decode cX0_followersOf 21 = .ok (.iload 6, 2) := by decide +kernel
theorem dX0_followersOf_23 : decode cX0_followersOf 23 = .ok (.aload_n 1, 1) := by decide +kernel
theorem dX0_followersOf_24 : decode cX0_followersOf 24 = .ok (.getfield 76, 3) := by decide +kernel
theorem dX0_followersOf_27 : decode cX0_followersOf 27 = .ok (.if_icmp .ge 45, 3) := by decide +kernel
theorem dX0_followersOf_30 : decode cX0_followersOf 30 = .ok (.aload_n 0, 1) := by decide +kernel
theorem dX0_followersOf_31 : decode cX0_followersOf 31 = .ok (.aload_n 3, 1) := by decide +kernel
theorem dX0_followersOf_32 : decode cX0_followersOf 32 = .ok (.aload_n 0, 1) := by decide +kernel
theorem dX0_followersOf_33 : decode cX0_followersOf 33 = .ok (.getfield 15, 3) := by decide +kernel
theorem dX0_followersOf_36 : decode cX0_followersOf 36 = .ok (.iload_n 2, 1) := by decide +kernel
theorem dX0_followersOf_37 : decode cX0_followersOf 37 = .ok (.iaload, 1) := by decide +kernel
theorem dX0_followersOf_38 : decode cX0_followersOf 38 = .ok (.aload_n 1, 1) := by decide +kernel
theorem dX0_followersOf_39 : decode cX0_followersOf 39 = .ok (.getfield 38, 3) := by decide +kernel
theorem dX0_followersOf_42 : decode cX0_followersOf 42 = .ok (.iload 6, 2) := by decide +kernel
theorem dX0_followersOf_44 : decode cX0_followersOf 44 = .ok (.aaload, 1) := by decide +kernel
theorem dX0_followersOf_45 : decode cX0_followersOf 45 = .ok (.getfield 77, 3) := by decide +kernel
theorem dX0_followersOf_48 : decode cX0_followersOf 48 = .ok (.invokevirtual 90, 3) := by decide +kernel
theorem dX0_followersOf_51 : decode cX0_followersOf 51 = .ok (.ifCond .eq 15, 3) := by decide +kernel
theorem dX0_followersOf_54 : decode cX0_followersOf 54 = .ok (.lload 4, 2) := by decide +kernel
theorem dX0_followersOf_56 : decode cX0_followersOf 56 = .ok (.aload_n 0, 1) := by decide +kernel
theorem dX0_followersOf_57 : decode cX0_followersOf 57 = .ok (.getfield 28, 3) := by decide +kernel
theorem dX0_followersOf_60 : decode cX0_followersOf 60 = .ok (.iload 6, 2) := by decide +kernel
theorem dX0_followersOf_62 : decode cX0_followersOf 62 = .ok (.laload, 1) := by decide +kernel
theorem dX0_followersOf_63 : decode cX0_followersOf 63 = .ok (.lor, 1) := by decide +kernel
theorem dX0_followersOf_64 : decode cX0_followersOf 64 = .ok (.lstore 4, 2) := by decide +kernel
theorem dX0_followersOf_66 : decode cX0_followersOf 66 = .ok (.iinc 6 1, 3) := by decide +kernel
theorem dX0_followersOf_69 : decode cX0_followersOf 69 = .ok (.goto (-48), 3) := by decide +kernel
theorem dX0_followersOf_72 : decode cX0_followersOf 72 = .ok (.lload 4, 2) := by decide +kernel
theorem dX0_followersOf_74 : decode cX0_followersOf 74 = .ok (.lreturn, 1) := by decide +kernel
theorem dX0_comesTo_0 : decode cX0_comesTo 0 = .ok (.aload_n 1, 1) := by decide +kernel
theorem dX0_comesTo_1 : decode cX0_comesTo 1 = .ok (.getfield 80, 3) := by decide +kernel
theorem dX0_comesTo_4 : decode cX0_comesTo 4 = .ok (.iload_n 2, 1) := by decide +kernel
theorem dX0_comesTo_5 : decode cX0_comesTo 5 = .ok (.iaload, 1) := by decide +kernel
theorem dX0_comesTo_6 : decode cX0_comesTo 6 = .ok (.aload_n 3, 1) := by decide +kernel
theorem dX0_comesTo_7 : decode cX0_comesTo 7 = .ok (.getfield 80, 3) := by decide +kernel
theorem dX0_comesTo_10 : decode cX0_comesTo 10 = .ok (.iconst 0, 1) := by decide +kernel
theorem dX0_comesTo_11 : decode cX0_comesTo 11 = .ok (.iaload, 1) := by decide +kernel
theorem dX0_comesTo_12 : decode cX0_comesTo 12 = .ok (.if_icmp .eq 5, 3) := by decide +kernel
theorem dX0_comesTo_15 : decode cX0_comesTo 15 = .ok (.iconst 0, 1) := by decide +kernel
theorem dX0_comesTo_16 : decode cX0_comesTo 16 = .ok (.ireturn, 1) := by decide +kernel
theorem dX0_comesTo_17 : decode cX0_comesTo 17 = .ok (.aload_n 1, 1) := by decide +kernel
theorem dX0_comesTo_18 : decode cX0_comesTo 18 = .ok (.getfield 94, 3) := by decide +kernel
theorem dX0_comesTo_21 : decode cX0_comesTo 21 = .ok (.iload_n 2, 1) := by decide +kernel
theorem dX0_comesTo_22 : decode cX0_comesTo 22 = .ok (.iaload, 1) := by decide +kernel
theorem dX0_comesTo_23 : decode cX0_comesTo 23 = .ok (.istore 4, 2) := by decide +kernel
theorem dX0_comesTo_25 : decode cX0_comesTo 25 = .ok (.iload_n 2, 1) := by decide +kernel
theorem dX0_comesTo_26 : decode cX0_comesTo 26 = .ok (.iconst 1, 1) := by decide +kernel
theorem dX0_comesTo_27 : decode cX0_comesTo 27 = .ok (.iadd, 1) := by decide +kernel
theorem dX0_comesTo_28 : decode cX0_comesTo 28 = .ok (.istore 5, 2) := by decide +kernel
theorem dX0_comesTo_30 : decode cX0_comesTo 30 = .ok (.iconst 1, 1) := by decide +kernel
theorem dX0_comesTo_31 : decode cX0_comesTo 31 = .ok (.istore 6, 2) := by decide +kernel
theorem dX0_comesTo_33 : decode cX0_comesTo 33 = .ok (.iconst 0, 1) := by decide +kernel
theorem dX0_comesTo_34 : decode cX0_comesTo 34 = .ok (.istore 7, 2) := by decide +kernel
theorem dX0_comesTo_36 : decode cX0_comesTo 36 = .ok (.iload 7, 2) := by decide +kernel
theorem dX0_comesTo_38 : decode cX0_comesTo 38 = .ok (.bipush 12, 2) := by decide +kernel
theorem dX0_comesTo_40 : decode cX0_comesTo 40 = .ok (.if_icmp .ge 107, 3) := by decide +kernel
theorem dX0_comesTo_43 : decode cX0_comesTo 43 = .ok (.iload 5, 2) := by decide +kernel
theorem dX0_comesTo_45 : decode cX0_comesTo 45 = .ok (.iload 4, 2) := by decide +kernel
theorem dX0_comesTo_47 : decode cX0_comesTo 47 = .ok (.if_icmp .ge 100, 3) := by decide +kernel
theorem dX0_comesTo_50 : decode cX0_comesTo 50 = .ok (.iload 6, 2) := by decide +kernel
theorem dX0_comesTo_52 : decode cX0_comesTo 52 = .ok (.aload_n 3, 1) := by decide +kernel
theorem dX0_comesTo_53 : decode cX0_comesTo 53 = .ok (.getfield 83, 3) := by decide +kernel
theorem dX0_comesTo_56 : decode cX0_comesTo 56 = .ok (.if_icmp .ge 91, 3) := by decide +kernel
theorem dX0_comesTo_59 : decode cX0_comesTo 59 = .ok (.aload_n 1, 1) := by decide +kernel
theorem dX0_comesTo_60 : decode cX0_comesTo 60 = .ok (.getfield 80, 3) := by decide +kernel
theorem dX0_comesTo_63 : decode cX0_comesTo 63 = .ok (.iload 5, 2) := by decide +kernel
theorem dX0_comesTo_65 : decode cX0_comesTo 65 = .ok (.iaload, 1) := by decide +kernel
theorem dX0_comesTo_66 : decode cX0_comesTo 66 = .ok (.istore 8, 2) := by decide +kernel
theorem dX0_comesTo_68 : decode cX0_comesTo 68 = .ok (.aload_n 3, 1) := by decide +kernel
theorem dX0_comesTo_69 : decode cX0_comesTo 69 = .ok (.getfield 80, 3) := by decide +kernel
theorem dX0_comesTo_72 : decode cX0_comesTo 72 = .ok (.iload 6, 2) := by decide +kernel
theorem dX0_comesTo_74 : decode cX0_comesTo 74 = .ok (.iaload, 1) := by decide +kernel
theorem dX0_comesTo_75 : decode cX0_comesTo 75 = .ok (.istore 9, 2) := by decide +kernel
theorem dX0_comesTo_77 : decode cX0_comesTo 77 = .ok (.iload 9, 2) := by decide +kernel
theorem dX0_comesTo_79 : decode cX0_comesTo 79 = .ok (.invokestatic 97, 3) := by decide +kernel
theorem dX0_comesTo_82 : decode cX0_comesTo 82 = .ok (.ifCond .ne 20, 3) := by decide +kernel
theorem dX0_comesTo_85 : decode cX0_comesTo 85 = .ok (.iload 8, 2) := by decide +kernel
theorem dX0_comesTo_87 : decode cX0_comesTo 87 = .ok (.invokestatic 97, 3) := by decide +kernel
theorem dX0_comesTo_90 : decode cX0_comesTo 90 = .ok (.ifCond .ne 12, 3) := by decide +kernel
theorem dX0_comesTo_93 : decode cX0_comesTo 93 = .ok (.aload_n 0, 1) := by decide +kernel
theorem dX0_comesTo_94 : decode cX0_comesTo 94 = .ok (.iload 8, 2) := by decide +kernel
theorem dX0_comesTo_96 : decode cX0_comesTo 96 = .ok (.invokevirtual 86, 3) := by decide +kernel
theorem dX0_comesTo_99 : decode cX0_comesTo 99 = .ok (.ifCond .eq 24, 3) := by decide +kernel
theorem dX0_comesTo_102 : decode cX0_comesTo 102 = .ok (.aload_n 1, 1) := by decide +kernel
theorem dX0_comesTo_103 : decode cX0_comesTo 103 = .ok (.getfield 94, 3) := by decide +kernel
theorem dX0_comesTo_106 : decode cX0_comesTo 106 = .ok (.iload 5, 2) := by decide +kernel
theorem dX0_comesTo_108 : decode cX0_comesTo 108 = .ok (.iaload, 1) := by decide +kernel
theorem dX0_comesTo_109 : decode cX0_comesTo 109 = .ok (.istore 5, 2) := by decide +kernel
theorem dX0_comesTo_111 : decode cX0_comesTo 111 = .ok (.aload_n 3, 1) := by decide +kernel
theorem dX0_comesTo_112 : decode cX0_comesTo 112 = .ok (.getfield 94, 3) := by decide +kernel
theorem dX0_comesTo_115 : decode cX0_comesTo 115 = .ok (.iload 6, 2) := by decide +kernel
theorem dX0_comesTo_117 : decode cX0_comesTo 117 = .ok (.iaload, 1) := by decide +kernel
theorem dX0_comesTo_118 : decode cX0_comesTo 118 = .ok (.istore 6, 2) := by decide +kernel
theorem dX0_comesTo_120 : decode cX0_comesTo 120 = .ok (.goto 21, 3) := by decide +kernel
theorem dX0_comesTo_123 : decode cX0_comesTo 123 = .ok (.iload 8, 2) := by decide +kernel
theorem dX0_comesTo_125 : decode cX0_comesTo 125 = .ok (.iload 9, 2) := by decide +kernel
theorem dX0_comesTo_127 : decode cX0_comesTo 127 = .ok (.if_icmp .ne 12, 3) := by decide +kernel
theorem dX0_comesTo_130 : decode cX0_comesTo 130 = .ok (.iinc 5 1, 3) := by decide +kernel
theorem dX0_comesTo_133 : decode cX0_comesTo 133 = .ok (.iinc 6 1, 3) := by decide +kernel
theorem dX0_comesTo_136 : decode cX0_comesTo 136 = .ok (.goto 5, 3) := by decide +kernel
theorem dX0_comesTo_139 : decode cX0_comesTo 139 = .ok (.iconst 0, 1) := by decide +kernel
theorem dX0_comesTo_140 : decode cX0_comesTo 140 = .ok (.ireturn, 1) := by decide +kernel
theorem dX0_comesTo_141 : decode cX0_comesTo 141 = .ok (.iinc 7 1, 3) := by decide +kernel
theorem dX0_comesTo_144 : decode cX0_comesTo 144 = .ok (.goto (-108), 3) := by decide +kernel
theorem dX0_comesTo_147 : decode cX0_comesTo 147 = .ok (.iconst 1, 1) := by decide +kernel
theorem dX0_comesTo_148 : decode cX0_comesTo 148 = .ok (.ireturn, 1) := by decide +kernel
theorem dX0_reachOn_0 : decode cX0_reachOn 0 = .ok (.iconst 0, 1) := by decide +kernel
theorem dX0_reachOn_1 : decode cX0_reachOn 1 = .ok (.istore_n 1, 1) := by decide +kernel
theorem dX0_reachOn_2 : decode cX0_reachOn 2 = .ok (.iload_n 1, 1) := by decide +kernel
theorem dX0_reachOn_3 : decode cX0_reachOn 3 = .ok (.aload_n 0, 1) := by decide +kernel
theorem dX0_reachOn_4 : decode cX0_reachOn 4 = .ok (.getfield 34, 3) := by decide +kernel
theorem dX0_reachOn_7 : decode cX0_reachOn 7 = .ok (.if_icmp .ge 53, 3) := by decide +kernel
theorem dX0_reachOn_10 : decode cX0_reachOn 10 = .ok (.iconst 0, 1) := by decide +kernel
theorem dX0_reachOn_11 : decode cX0_reachOn 11 = .ok (.istore_n 2, 1) := by decide +kernel
theorem dX0_reachOn_12 : decode cX0_reachOn 12 = .ok (.iload_n 2, 1) := by decide +kernel
theorem dX0_reachOn_13 : decode cX0_reachOn 13 = .ok (.aload_n 0, 1) := by decide +kernel
theorem dX0_reachOn_14 : decode cX0_reachOn 14 = .ok (.getfield 34, 3) := by decide +kernel
theorem dX0_reachOn_17 : decode cX0_reachOn 17 = .ok (.if_icmp .ge 37, 3) := by decide +kernel
theorem dX0_reachOn_20 : decode cX0_reachOn 20 = .ok (.aload_n 0, 1) := by decide +kernel
theorem dX0_reachOn_21 : decode cX0_reachOn 21 = .ok (.getfield 25, 3) := by decide +kernel
theorem dX0_reachOn_24 : decode cX0_reachOn 24 = .ok (.iload_n 2, 1) := by decide +kernel
theorem dX0_reachOn_25 : decode cX0_reachOn 25 = .ok (.laload, 1) := by decide +kernel
theorem dX0_reachOn_26 : decode cX0_reachOn 26 = .ok (.iload_n 1, 1) := by decide +kernel
theorem dX0_reachOn_27 : decode cX0_reachOn 27 = .ok (.invokestatic 100, 3) := by decide +kernel
theorem dX0_reachOn_30 : decode cX0_reachOn 30 = .ok (.ifCond .eq 18, 3) := by decide +kernel
theorem dX0_reachOn_33 : decode cX0_reachOn 33 = .ok (.aload_n 0, 1) := by decide +kernel
theorem dX0_reachOn_34 : decode cX0_reachOn 34 = .ok (.getfield 25, 3) := by decide +kernel
theorem dX0_reachOn_37 : decode cX0_reachOn 37 = .ok (.iload_n 2, 1) := by decide +kernel
theorem dX0_reachOn_38 : decode cX0_reachOn 38 = .ok (.dup2, 1) := by decide +kernel
theorem dX0_reachOn_39 : decode cX0_reachOn 39 = .ok (.laload, 1) := by decide +kernel
theorem dX0_reachOn_40 : decode cX0_reachOn 40 = .ok (.aload_n 0, 1) := by decide +kernel
theorem dX0_reachOn_41 : decode cX0_reachOn 41 = .ok (.getfield 25, 3) := by decide +kernel
theorem dX0_reachOn_44 : decode cX0_reachOn 44 = .ok (.iload_n 1, 1) := by decide +kernel
theorem dX0_reachOn_45 : decode cX0_reachOn 45 = .ok (.laload, 1) := by decide +kernel
theorem dX0_reachOn_46 : decode cX0_reachOn 46 = .ok (.lor, 1) := by decide +kernel
theorem dX0_reachOn_47 : decode cX0_reachOn 47 = .ok (.lastore, 1) := by decide +kernel
theorem dX0_reachOn_48 : decode cX0_reachOn 48 = .ok (.iinc 2 1, 3) := by decide +kernel
theorem dX0_reachOn_51 : decode cX0_reachOn 51 = .ok (.goto (-39), 3) := by decide +kernel
theorem dX0_reachOn_54 : decode cX0_reachOn 54 = .ok (.iinc 1 1, 3) := by decide +kernel
theorem dX0_reachOn_57 : decode cX0_reachOn 57 = .ok (.goto (-55), 3) := by decide +kernel
theorem dX0_reachOn_60 : decode cX0_reachOn 60 = .ok (.return_, 1) := by decide +kernel
theorem dX0_findRings_0 : decode cX0_findRings 0 = .ok (.aload_n 0, 1) := by decide +kernel
theorem dX0_findRings_1 : decode cX0_findRings 1 = .ok (.iconst 0, 1) := by decide +kernel
theorem dX0_findRings_2 : decode cX0_findRings 2 = .ok (.putfield 104, 3) := by decide +kernel
theorem dX0_findRings_5 : decode cX0_findRings 5 = .ok (.iconst 0, 1) := by decide +kernel
theorem dX0_findRings_6 : decode cX0_findRings 6 = .ok (.istore_n 1, 1) := by decide +kernel
theorem dX0_findRings_7 : decode cX0_findRings 7 = .ok (.iload_n 1, 1) := by decide +kernel
theorem dX0_findRings_8 : decode cX0_findRings 8 = .ok (.aload_n 0, 1) := by decide +kernel
theorem dX0_findRings_9 : decode cX0_findRings 9 = .ok (.getfield 34, 3) := by decide +kernel
theorem dX0_findRings_12 : decode cX0_findRings 12 = .ok (.if_icmp .ge 16, 3) := by decide +kernel
theorem dX0_findRings_15 : decode cX0_findRings 15 = .ok (.aload_n 0, 1) := by decide +kernel
theorem dX0_findRings_16 : decode cX0_findRings 16 = .ok (.getfield 18, 3) := by decide +kernel
theorem dX0_findRings_19 : decode cX0_findRings 19 = .ok (.iload_n 1, 1) := by decide +kernel
theorem dX0_findRings_20 : decode cX0_findRings 20 = .ok (.iconst (-1), 1) := by decide +kernel
theorem dX0_findRings_21 : decode cX0_findRings 21 = .ok (.iastore, 1) := by decide +kernel
theorem dX0_findRings_22 : decode cX0_findRings 22 = .ok (.iinc 1 1, 3) := by decide +kernel
theorem dX0_findRings_25 : decode cX0_findRings 25 = .ok (.goto (-18), 3) := by decide +kernel
theorem dX0_findRings_28 : decode cX0_findRings 28 = .ok (.iconst 0, 1) := by decide +kernel
theorem dX0_findRings_29 : decode cX0_findRings 29 = .ok (.istore_n 1, 1) := by decide +kernel
theorem dX0_findRings_30 : decode cX0_findRings 30 = .ok (.iload_n 1, 1) := by decide +kernel
theorem dX0_findRings_31 : decode cX0_findRings 31 = .ok (.aload_n 0, 1) := by decide +kernel
theorem dX0_findRings_32 : decode cX0_findRings 32 = .ok (.getfield 34, 3) := by decide +kernel
theorem dX0_findRings_35 : decode cX0_findRings 35 = .ok (.if_icmp .ge 37, 3) := by decide +kernel
theorem dX0_findRings_38 : decode cX0_findRings 38 = .ok (.aload_n 0, 1) := by decide +kernel
theorem dX0_findRings_39 : decode cX0_findRings 39 = .ok (.getfield 18, 3) := by decide +kernel
theorem dX0_findRings_42 : decode cX0_findRings 42 = .ok (.iload_n 1, 1) := by decide +kernel
theorem dX0_findRings_43 : decode cX0_findRings 43 = .ok (.iaload, 1) := by decide +kernel
theorem dX0_findRings_44 : decode cX0_findRings 44 = .ok (.iconst (-1), 1) := by decide +kernel
theorem dX0_findRings_45 : decode cX0_findRings 45 = .ok (.if_icmp .ne 21, 3) := by decide +kernel
theorem dX0_findRings_48 : decode cX0_findRings 48 = .ok (.aload_n 0, 1) := by decide +kernel
theorem dX0_findRings_49 : decode cX0_findRings 49 = .ok (.getfield 25, 3) := by decide +kernel
theorem dX0_findRings_52 : decode cX0_findRings 52 = .ok (.iload_n 1, 1) := by decide +kernel
theorem dX0_findRings_53 : decode cX0_findRings 53 = .ok (.laload, 1) := by decide +kernel
theorem dX0_findRings_54 : decode cX0_findRings 54 = .ok (.iload_n 1, 1) := by decide +kernel
theorem dX0_findRings_55 : decode cX0_findRings 55 = .ok (.invokestatic 100, 3) := by decide +kernel
theorem dX0_findRings_58 : decode cX0_findRings 58 = .ok (.ifCond .eq 8, 3) := by decide +kernel
theorem dX0_findRings_61 : decode cX0_findRings 61 = .ok (.aload_n 0, 1) := by decide +kernel
theorem dX0_findRings_62 : decode cX0_findRings 62 = .ok (.iload_n 1, 1) := by decide +kernel
theorem dX0_findRings_63 : decode cX0_findRings 63 = .ok (.invokevirtual 107, 3) := by decide +kernel
theorem dX0_findRings_66 : decode cX0_findRings 66 = .ok (.iinc 1 1, 3) := by decide +kernel
theorem dX0_findRings_69 : decode cX0_findRings 69 = .ok (.goto (-39), 3) := by decide +kernel
theorem dX0_findRings_72 : decode cX0_findRings 72 = .ok (.return_, 1) := by decide +kernel
theorem dX0_nameRing_0 : decode cX0_nameRing 0 = .ok (.iload_n 1, 1) := by decide +kernel
theorem dX0_nameRing_1 : decode cX0_nameRing 1 = .ok (.istore_n 2, 1) := by decide +kernel
theorem dX0_nameRing_2 : decode cX0_nameRing 2 = .ok (.iload_n 2, 1) := by decide +kernel
theorem dX0_nameRing_3 : decode cX0_nameRing 3 = .ok (.aload_n 0, 1) := by decide +kernel
theorem dX0_nameRing_4 : decode cX0_nameRing 4 = .ok (.getfield 34, 3) := by decide +kernel
theorem dX0_nameRing_7 : decode cX0_nameRing 7 = .ok (.if_icmp .ge 45, 3) := by decide +kernel
theorem dX0_nameRing_10 : decode cX0_nameRing 10 = .ok (.aload_n 0, 1) := by decide +kernel
theorem dX0_nameRing_11 : decode cX0_nameRing 11 = .ok (.getfield 25, 3) := by decide +kernel
theorem dX0_nameRing_14 : decode cX0_nameRing 14 = .ok (.iload_n 1, 1) := by decide +kernel
theorem dX0_nameRing_15 : decode cX0_nameRing 15 = .ok (.laload, 1) := by decide +kernel
theorem dX0_nameRing_16 : decode cX0_nameRing 16 = .ok (.iload_n 2, 1) := by decide +kernel
theorem dX0_nameRing_17 : decode cX0_nameRing 17 = .ok (.invokestatic 100, 3) := by decide +kernel
theorem dX0_nameRing_20 : decode cX0_nameRing 20 = .ok (.ifCond .eq 26, 3) := by decide +kernel
theorem dX0_nameRing_23 : decode cX0_nameRing 23 = .ok (.aload_n 0, 1) := by decide +kernel
theorem dX0_nameRing_24 : decode cX0_nameRing 24 = .ok (.getfield 25, 3) := by decide +kernel
theorem dX0_nameRing_27 : decode cX0_nameRing 27 = .ok (.iload_n 2, 1) := by decide +kernel
theorem dX0_nameRing_28 : decode cX0_nameRing 28 = .ok (.laload, 1) := by decide +kernel
theorem dX0_nameRing_29 : decode cX0_nameRing 29 = .ok (.iload_n 1, 1) := by decide +kernel
theorem dX0_nameRing_30 : decode cX0_nameRing 30 = .ok (.invokestatic 100, 3) := by decide +kernel
theorem dX0_nameRing_33 : decode cX0_nameRing 33 = .ok (.ifCond .eq 13, 3) := by decide +kernel
theorem dX0_nameRing_36 : decode cX0_nameRing 36 = .ok (.aload_n 0, 1) := by decide +kernel
theorem dX0_nameRing_37 : decode cX0_nameRing 37 = .ok (.getfield 18, 3) := by decide +kernel
theorem dX0_nameRing_40 : decode cX0_nameRing 40 = .ok (.iload_n 2, 1) := by decide +kernel
theorem dX0_nameRing_41 : decode cX0_nameRing 41 = .ok (.aload_n 0, 1) := by decide +kernel
theorem dX0_nameRing_42 : decode cX0_nameRing 42 = .ok (.getfield 104, 3) := by decide +kernel
theorem dX0_nameRing_45 : decode cX0_nameRing 45 = .ok (.iastore, 1) := by decide +kernel
theorem dX0_nameRing_46 : decode cX0_nameRing 46 = .ok (.iinc 2 1, 3) := by decide +kernel
theorem dX0_nameRing_49 : decode cX0_nameRing 49 = .ok (.goto (-47), 3) := by decide +kernel
theorem dX0_nameRing_52 : decode cX0_nameRing 52 = .ok (.aload_n 0, 1) := by decide +kernel
theorem dX0_nameRing_53 : decode cX0_nameRing 53 = .ok (.dup, 1) := by decide +kernel
theorem dX0_nameRing_54 : decode cX0_nameRing 54 = .ok (.getfield 104, 3) := by decide +kernel
theorem dX0_nameRing_57 : decode cX0_nameRing 57 = .ok (.iconst 1, 1) := by decide +kernel
theorem dX0_nameRing_58 : decode cX0_nameRing 58 = .ok (.iadd, 1) := by decide +kernel
theorem dX0_nameRing_59 : decode cX0_nameRing 59 = .ok (.putfield 104, 3) := by decide +kernel
theorem dX0_nameRing_62 : decode cX0_nameRing 62 = .ok (.return_, 1) := by decide +kernel
theorem dX1_init_0 : decode cX1_init 0 = .ok (.aload_n 0, 1) := by decide +kernel
theorem dX1_init_1 : decode cX1_init 1 = .ok (.invokespecial 3, 3) := by decide +kernel
theorem dX1_init_4 : decode cX1_init 4 = .ok (.aload_n 0, 1) := by decide +kernel
theorem dX1_init_5 : decode cX1_init 5 = .ok (.iconst 5, 1) := by decide +kernel
theorem dX1_init_6 : decode cX1_init 6 = .ok (.anewarray 9, 3) := by decide +kernel
theorem dX1_init_9 : decode cX1_init 9 = .ok (.putfield 11, 3) := by decide +kernel
theorem dX1_init_12 : decode cX1_init 12 = .ok (.iconst 0, 1) := by decide +kernel
theorem dX1_init_13 : decode cX1_init 13 = .ok (.istore_n 1, 1) := by decide +kernel
theorem dX1_init_14 : decode cX1_init 14 = .ok (.iload_n 1, 1) := by decide +kernel
theorem dX1_init_15 : decode cX1_init 15 = .ok (.iconst 5, 1) := by decide +kernel
theorem dX1_init_16 : decode cX1_init 16 = .ok (.if_icmp .ge 22, 3) := by decide +kernel
theorem dX1_init_19 : decode cX1_init 19 = .ok (.aload_n 0, 1) := by decide +kernel
theorem dX1_init_20 : decode cX1_init 20 = .ok (.getfield 11, 3) := by decide +kernel
theorem dX1_init_23 : decode cX1_init 23 = .ok (.iload_n 1, 1) := by decide +kernel
theorem dX1_init_24 : decode cX1_init 24 = .ok (.new 9, 3) := by decide +kernel
theorem dX1_init_27 : decode cX1_init 27 = .ok (.dup, 1) := by decide +kernel
theorem dX1_init_28 : decode cX1_init 28 = .ok (.invokespecial 17, 3) := by decide +kernel
theorem dX1_init_31 : decode cX1_init 31 = .ok (.aastore, 1) := by decide +kernel
theorem dX1_init_32 : decode cX1_init 32 = .ok (.iinc 1 1, 3) := by decide +kernel
theorem dX1_init_35 : decode cX1_init 35 = .ok (.goto (-21), 3) := by decide +kernel
theorem dX1_init_38 : decode cX1_init 38 = .ok (.return_, 1) := by decide +kernel
theorem dX1_keep_0 : decode cX1_keep 0 = .ok (.aload_n 0, 1) := by decide +kernel
theorem dX1_keep_1 : decode cX1_keep 1 = .ok (.getfield 18, 3) := by decide +kernel
theorem dX1_keep_4 : decode cX1_keep 4 = .ok (.iconst 5, 1) := by decide +kernel
theorem dX1_keep_5 : decode cX1_keep 5 = .ok (.if_icmp .ne 7, 3) := by decide +kernel
theorem dX1_keep_8 : decode cX1_keep 8 = .ok (.aload_n 0, 1) := by decide +kernel
theorem dX1_keep_9 : decode cX1_keep 9 = .ok (.invokevirtual 22, 3) := by decide +kernel
theorem dX1_keep_12 : decode cX1_keep 12 = .ok (.aload_n 0, 1) := by decide +kernel
theorem dX1_keep_13 : decode cX1_keep 13 = .ok (.getfield 11, 3) := by decide +kernel
theorem dX1_keep_16 : decode cX1_keep 16 = .ok (.aload_n 0, 1) := by decide +kernel
theorem dX1_keep_17 : decode cX1_keep 17 = .ok (.getfield 18, 3) := by decide +kernel
theorem dX1_keep_20 : decode cX1_keep 20 = .ok (.aaload, 1) := by decide +kernel
theorem dX1_keep_21 : decode cX1_keep 21 = .ok (.aload_n 1, 1) := by decide +kernel
theorem dX1_keep_22 : decode cX1_keep 22 = .ok (.invokevirtual 25, 3) := by decide +kernel
theorem dX1_keep_25 : decode cX1_keep 25 = .ok (.aload_n 0, 1) := by decide +kernel
theorem dX1_keep_26 : decode cX1_keep 26 = .ok (.dup, 1) := by decide +kernel
theorem dX1_keep_27 : decode cX1_keep 27 = .ok (.getfield 18, 3) := by decide +kernel
theorem dX1_keep_30 : decode cX1_keep 30 = .ok (.iconst 1, 1) := by decide +kernel
theorem dX1_keep_31 : decode cX1_keep 31 = .ok (.iadd, 1) := by decide +kernel
theorem dX1_keep_32 : decode cX1_keep 32 = .ok (.putfield 18, 3) := by decide +kernel
theorem dX1_keep_35 : decode cX1_keep 35 = .ok (.return_, 1) := by decide +kernel
theorem dX1_giveBack_0 : decode cX1_giveBack 0 = .ok (.aload_n 0, 1) := by decide +kernel
theorem dX1_giveBack_1 : decode cX1_giveBack 1 = .ok (.dup, 1) := by decide +kernel
theorem dX1_giveBack_2 : decode cX1_giveBack 2 = .ok (.getfield 18, 3) := by decide +kernel
theorem dX1_giveBack_5 : decode cX1_giveBack 5 = .ok (.iconst 1, 1) := by decide +kernel
theorem dX1_giveBack_6 : decode cX1_giveBack 6 = .ok (.isub, 1) := by decide +kernel
theorem dX1_giveBack_7 : decode cX1_giveBack 7 = .ok (.putfield 18, 3) := by decide +kernel
theorem dX1_giveBack_10 : decode cX1_giveBack 10 = .ok (.aload_n 1, 1) := by decide +kernel
theorem dX1_giveBack_11 : decode cX1_giveBack 11 = .ok (.aload_n 0, 1) := by decide +kernel
theorem dX1_giveBack_12 : decode cX1_giveBack 12 = .ok (.getfield 11, 3) := by decide +kernel
theorem dX1_giveBack_15 : decode cX1_giveBack 15 = .ok (.aload_n 0, 1) := by decide +kernel
theorem dX1_giveBack_16 : decode cX1_giveBack 16 = .ok (.getfield 18, 3) := by decide +kernel
theorem dX1_giveBack_19 : decode cX1_giveBack 19 = .ok (.aaload, 1) := by decide +kernel
theorem dX1_giveBack_20 : decode cX1_giveBack 20 = .ok (.invokevirtual 25, 3) := by decide +kernel
theorem dX1_giveBack_23 : decode cX1_giveBack 23 = .ok (.return_, 1) := by decide +kernel
theorem dX1_loseOldest_0 : decode cX1_loseOldest 0 = .ok (.aload_n 0, 1) := by decide +kernel
theorem dX1_loseOldest_1 : decode cX1_loseOldest 1 = .ok (.getfield 11, 3) := by decide +kernel
theorem dX1_loseOldest_4 : decode cX1_loseOldest 4 = .ok (.iconst 0, 1) := by decide +kernel
theorem dX1_loseOldest_5 : decode cX1_loseOldest 5 = .ok (.aaload, 1) := by decide +kernel
theorem dX1_loseOldest_6 : decode cX1_loseOldest 6 = .ok (.astore_n 1, 1) := by decide +kernel
theorem dX1_loseOldest_7 : decode cX1_loseOldest 7 = .ok (.iconst 0, 1) := by decide +kernel
theorem dX1_loseOldest_8 : decode cX1_loseOldest 8 = .ok (.istore_n 2, 1) := by decide +kernel
theorem dX1_loseOldest_9 : decode cX1_loseOldest 9 = .ok (.iload_n 2, 1) := by decide +kernel
theorem dX1_loseOldest_10 : decode cX1_loseOldest 10 = .ok (.iconst 1, 1) := by decide +kernel
theorem dX1_loseOldest_11 : decode cX1_loseOldest 11 = .ok (.iadd, 1) := by decide +kernel
theorem dX1_loseOldest_12 : decode cX1_loseOldest 12 = .ok (.iconst 5, 1) := by decide +kernel
theorem dX1_loseOldest_13 : decode cX1_loseOldest 13 = .ok (.if_icmp .ge 23, 3) := by decide +kernel
theorem dX1_loseOldest_16 : decode cX1_loseOldest 16 = .ok (.aload_n 0, 1) := by decide +kernel
theorem dX1_loseOldest_17 : decode cX1_loseOldest 17 = .ok (.getfield 11, 3) := by decide +kernel
theorem dX1_loseOldest_20 : decode cX1_loseOldest 20 = .ok (.iload_n 2, 1) := by decide +kernel
theorem dX1_loseOldest_21 : decode cX1_loseOldest 21 = .ok (.aload_n 0, 1) := by decide +kernel
theorem dX1_loseOldest_22 : decode cX1_loseOldest 22 = .ok (.getfield 11, 3) := by decide +kernel
theorem dX1_loseOldest_25 : decode cX1_loseOldest 25 = .ok (.iload_n 2, 1) := by decide +kernel
theorem dX1_loseOldest_26 : decode cX1_loseOldest 26 = .ok (.iconst 1, 1) := by decide +kernel
theorem dX1_loseOldest_27 : decode cX1_loseOldest 27 = .ok (.iadd, 1) := by decide +kernel
theorem dX1_loseOldest_28 : decode cX1_loseOldest 28 = .ok (.aaload, 1) := by decide +kernel
theorem dX1_loseOldest_29 : decode cX1_loseOldest 29 = .ok (.aastore, 1) := by decide +kernel
theorem dX1_loseOldest_30 : decode cX1_loseOldest 30 = .ok (.iinc 2 1, 3) := by decide +kernel
theorem dX1_loseOldest_33 : decode cX1_loseOldest 33 = .ok (.goto (-24), 3) := by decide +kernel
theorem dX1_loseOldest_36 : decode cX1_loseOldest 36 = .ok (.aload_n 0, 1) := by decide +kernel
theorem dX1_loseOldest_37 : decode cX1_loseOldest 37 = .ok (.getfield 11, 3) := by decide +kernel
theorem dX1_loseOldest_40 : decode cX1_loseOldest 40 = .ok (.iconst 4, 1) := by decide +kernel
theorem dX1_loseOldest_41 : decode cX1_loseOldest 41 = .ok (.aload_n 1, 1) := by decide +kernel
theorem dX1_loseOldest_42 : decode cX1_loseOldest 42 = .ok (.aastore, 1) := by decide +kernel
theorem dX1_loseOldest_43 : decode cX1_loseOldest 43 = .ok (.aload_n 0, 1) := by decide +kernel
theorem dX1_loseOldest_44 : decode cX1_loseOldest 44 = .ok (.dup, 1) := by decide +kernel
theorem dX1_loseOldest_45 : decode cX1_loseOldest 45 = .ok (.getfield 18, 3) := by decide +kernel
theorem dX1_loseOldest_48 : decode cX1_loseOldest 48 = .ok (.iconst 1, 1) := by decide +kernel
theorem dX1_loseOldest_49 : decode cX1_loseOldest 49 = .ok (.isub, 1) := by decide +kernel
theorem dX1_loseOldest_50 : decode cX1_loseOldest 50 = .ok (.putfield 18, 3) := by decide +kernel
theorem dX1_loseOldest_53 : decode cX1_loseOldest 53 = .ok (.return_, 1) := by decide +kernel
theorem dX2_init_0 : decode cX2_init 0 = .ok (.aload_n 0, 1) := by decide +kernel
theorem dX2_init_1 : decode cX2_init 1 = .ok (.invokespecial 3, 3) := by decide +kernel
theorem dX2_init_4 : decode cX2_init 4 = .ok (.aload_n 0, 1) := by decide +kernel
theorem dX2_init_5 : decode cX2_init 5 = .ok (.bipush 120, 2) := by decide +kernel
theorem dX2_init_7 : decode cX2_init 7 = .ok (.newarray .int, 2) := by decide +kernel
theorem dX2_init_9 : decode cX2_init 9 = .ok (.putfield 9, 3) := by decide +kernel
theorem dX2_init_12 : decode cX2_init 12 = .ok (.aload_n 0, 1) := by decide +kernel
theorem dX2_init_13 : decode cX2_init 13 = .ok (.bipush 60, 2) := by decide +kernel
theorem dX2_init_15 : decode cX2_init 15 = .ok (.newarray .int, 2) := by decide +kernel
theorem dX2_init_17 : decode cX2_init 17 = .ok (.putfield 15, 3) := by decide +kernel
theorem dX2_init_20 : decode cX2_init 20 = .ok (.return_, 1) := by decide +kernel
theorem dX2_append_0 : decode cX2_append 0 = .ok (.aload_n 0, 1) := by decide +kernel
theorem dX2_append_1 : decode cX2_append 1 = .ok (.getfield 18, 3) := by decide +kernel
theorem dX2_append_4 : decode cX2_append 4 = .ok (.bipush 120, 2) := by decide +kernel
theorem dX2_append_6 : decode cX2_append 6 = .ok (.if_icmp .ge 23, 3) := by decide +kernel
theorem dX2_append_9 : decode cX2_append 9 = .ok (.aload_n 0, 1) := by decide +kernel
theorem dX2_append_10 : decode cX2_append 10 = .ok (.getfield 9, 3) := by decide +kernel
theorem dX2_append_13 : decode cX2_append 13 = .ok (.aload_n 0, 1) := by decide +kernel
theorem dX2_append_14 : decode cX2_append 14 = .ok (.getfield 18, 3) := by decide +kernel
theorem dX2_append_17 : decode cX2_append 17 = .ok (.iload_n 1, 1) := by decide +kernel
theorem dX2_append_18 : decode cX2_append 18 = .ok (.iastore, 1) := by decide +kernel
theorem dX2_append_19 : decode cX2_append 19 = .ok (.aload_n 0, 1) := by decide +kernel
theorem dX2_append_20 : decode cX2_append 20 = .ok (.dup, 1) := by decide +kernel
theorem dX2_append_21 : decode cX2_append 21 = .ok (.getfield 18, 3) := by decide +kernel
theorem dX2_append_24 : decode cX2_append 24 = .ok (.iconst 1, 1) := by decide +kernel
theorem dX2_append_25 : decode cX2_append 25 = .ok (.iadd, 1) := by decide +kernel
theorem dX2_append_26 : decode cX2_append 26 = .ok (.putfield 18, 3) := by decide +kernel
theorem dX2_append_29 : decode cX2_append 29 = .ok (.return_, 1) := by decide +kernel
theorem dX2_readRules_0 : decode cX2_readRules 0 = .ok (.aload_n 0, 1) := by decide +kernel
theorem dX2_readRules_1 : decode cX2_readRules 1 = .ok (.iconst 0, 1) := by decide +kernel
theorem dX2_readRules_2 : decode cX2_readRules 2 = .ok (.putfield 22, 3) := by decide +kernel
theorem dX2_readRules_5 : decode cX2_readRules 5 = .ok (.aload_n 1, 1) := by decide +kernel
theorem dX2_readRules_6 : decode cX2_readRules 6 = .ok (.getfield 25, 3) := by decide +kernel
theorem dX2_readRules_9 : decode cX2_readRules 9 = .ok (.istore_n 2, 1) := by decide +kernel
theorem dX2_readRules_10 : decode cX2_readRules 10 = .ok (.iload_n 2, 1) := by decide +kernel
theorem dX2_readRules_11 : decode cX2_readRules 11 = .ok (.iconst 5, 1) := by decide +kernel
theorem dX2_readRules_12 : decode cX2_readRules 12 = .ok (.if_icmp .ge 43, 3) := by decide +kernel
theorem dX2_readRules_15 : decode cX2_readRules 15 = .ok (.aload_n 0, 1) := by decide +kernel
theorem dX2_readRules_16 : decode cX2_readRules 16 = .ok (.aload_n 1, 1) := by decide +kernel
theorem dX2_readRules_17 : decode cX2_readRules 17 = .ok (.getfield 30, 3) := by decide +kernel
theorem dX2_readRules_20 : decode cX2_readRules 20 = .ok (.iload_n 2, 1) := by decide +kernel
theorem dX2_readRules_21 : decode cX2_readRules 21 = .ok (.aaload, 1) := by decide +kernel
theorem dX2_readRules_22 : decode cX2_readRules 22 = .ok (.invokevirtual 34, 3) := by decide +kernel
theorem dX2_readRules_25 : decode cX2_readRules 25 = .ok (.ifCond .ne 5, 3) := by decide +kernel
theorem dX2_readRules_28 : decode cX2_readRules 28 = .ok (.iconst (-1), 1) := by decide +kernel
theorem dX2_readRules_29 : decode cX2_readRules 29 = .ok (.ireturn, 1) := by decide +kernel
theorem dX2_readRules_30 : decode cX2_readRules 30 = .ok (.aload_n 0, 1) := by decide +kernel
theorem dX2_readRules_31 : decode cX2_readRules 31 = .ok (.invokevirtual 38, 3) := by decide +kernel
theorem dX2_readRules_34 : decode cX2_readRules 34 = .ok (.aload_n 0, 1) := by decide +kernel
theorem dX2_readRules_35 : decode cX2_readRules 35 = .ok (.getfield 22, 3) := by decide +kernel
theorem dX2_readRules_38 : decode cX2_readRules 38 = .ok (.aload_n 0, 1) := by decide +kernel
theorem dX2_readRules_39 : decode cX2_readRules 39 = .ok (.getfield 18, 3) := by decide +kernel
theorem dX2_readRules_42 : decode cX2_readRules 42 = .ok (.if_icmp .ne 7, 3) := by decide +kernel
theorem dX2_readRules_45 : decode cX2_readRules 45 = .ok (.iload_n 2, 1) := by decide +kernel
theorem dX2_readRules_46 : decode cX2_readRules 46 = .ok (.iconst 1, 1) := by decide +kernel
theorem dX2_readRules_47 : decode cX2_readRules 47 = .ok (.iadd, 1) := by decide +kernel
theorem dX2_readRules_48 : decode cX2_readRules 48 = .ok (.ireturn, 1) := by decide +kernel
theorem dX2_readRules_49 : decode cX2_readRules 49 = .ok (.iinc 2 1, 3) := by decide +kernel
theorem dX2_readRules_52 : decode cX2_readRules 52 = .ok (.goto (-42), 3) := by decide +kernel
theorem dX2_readRules_55 : decode cX2_readRules 55 = .ok (.aload_n 0, 1) := by decide +kernel
theorem dX2_readRules_56 : decode cX2_readRules 56 = .ok (.invokevirtual 38, 3) := by decide +kernel
theorem dX2_readRules_59 : decode cX2_readRules 59 = .ok (.iconst (-1), 1) := by decide +kernel
theorem dX2_readRules_60 : decode cX2_readRules 60 = .ok (.ireturn, 1) := by decide +kernel
theorem dX2_readWhole_0 : decode cX2_readWhole 0 = .ok (.aload_n 0, 1) := by decide +kernel
theorem dX2_readWhole_1 : decode cX2_readWhole 1 = .ok (.iconst 0, 1) := by decide +kernel
theorem dX2_readWhole_2 : decode cX2_readWhole 2 = .ok (.putfield 22, 3) := by decide +kernel
theorem dX2_readWhole_5 : decode cX2_readWhole 5 = .ok (.aload_n 0, 1) := by decide +kernel
theorem dX2_readWhole_6 : decode cX2_readWhole 6 = .ok (.aload_n 1, 1) := by decide +kernel
theorem dX2_readWhole_7 : decode cX2_readWhole 7 = .ok (.bipush 60, 2) := by decide +kernel
theorem dX2_readWhole_9 : decode cX2_readWhole 9 = .ok (.iconst 3, 1) := by decide +kernel
theorem dX2_readWhole_10 : decode cX2_readWhole 10 = .ok (.iconst 3, 1) := by decide +kernel
theorem dX2_readWhole_11 : decode cX2_readWhole 11 = .ok (.invokevirtual 41, 3) := by decide +kernel
theorem dX2_readWhole_14 : decode cX2_readWhole 14 = .ok (.ifCond .ne 5, 3) := by decide +kernel
theorem dX2_readWhole_17 : decode cX2_readWhole 17 = .ok (.iconst 0, 1) := by decide +kernel
theorem dX2_readWhole_18 : decode cX2_readWhole 18 = .ok (.ireturn, 1) := by decide +kernel
theorem dX2_readWhole_19 : decode cX2_readWhole 19 = .ok (.aload_n 0, 1) := by decide +kernel
theorem dX2_readWhole_20 : decode cX2_readWhole 20 = .ok (.invokevirtual 38, 3) := by decide +kernel
theorem dX2_readWhole_23 : decode cX2_readWhole 23 = .ok (.aload_n 0, 1) := by decide +kernel
theorem dX2_readWhole_24 : decode cX2_readWhole 24 = .ok (.getfield 22, 3) := by decide +kernel
theorem dX2_readWhole_27 : decode cX2_readWhole 27 = .ok (.aload_n 0, 1) := by decide +kernel
theorem dX2_readWhole_28 : decode cX2_readWhole 28 = .ok (.getfield 18, 3) := by decide +kernel
theorem dX2_readWhole_31 : decode cX2_readWhole 31 = .ok (.if_icmp .ne 7, 3) := by decide +kernel
theorem dX2_readWhole_34 : decode cX2_readWhole 34 = .ok (.iconst 1, 1) := by decide +kernel
theorem dX2_readWhole_35 : decode cX2_readWhole 35 = .ok (.goto 4, 3) := by decide +kernel
theorem dX2_readWhole_38 : decode cX2_readWhole 38 = .ok (.iconst 0, 1) := by decide +kernel
theorem dX2_readWhole_39 : decode cX2_readWhole 39 = .ok (.ireturn, 1) := by decide +kernel
theorem dX2_readRule_0 : decode cX2_readRule 0 = .ok (.aload_n 0, 1) := by decide +kernel
theorem dX2_readRule_1 : decode cX2_readRule 1 = .ok (.aload_n 1, 1) := by decide +kernel
theorem dX2_readRule_2 : decode cX2_readRule 2 = .ok (.getfield 45, 3) := by decide +kernel
theorem dX2_readRule_5 : decode cX2_readRule 5 = .ok (.bipush 12, 2) := by decide +kernel
theorem dX2_readRule_7 : decode cX2_readRule 7 = .ok (.iconst 0, 1) := by decide +kernel
theorem dX2_readRule_8 : decode cX2_readRule 8 = .ok (.iconst 3, 1) := by decide +kernel
theorem dX2_readRule_9 : decode cX2_readRule 9 = .ok (.invokevirtual 41, 3) := by decide +kernel
theorem dX2_readRule_12 : decode cX2_readRule 12 = .ok (.ifCond .eq 12, 3) := by decide +kernel
theorem dX2_readRule_15 : decode cX2_readRule 15 = .ok (.aload_n 0, 1) := by decide +kernel
theorem dX2_readRule_16 : decode cX2_readRule 16 = .ok (.bipush 62, 2) := by decide +kernel
theorem dX2_readRule_18 : decode cX2_readRule 18 = .ok (.invokevirtual 51, 3) := by decide +kernel
theorem dX2_readRule_21 : decode cX2_readRule 21 = .ok (.ifCond .ne 5, 3) := by decide +kernel
theorem dX2_readRule_24 : decode cX2_readRule 24 = .ok (.iconst 0, 1) := by decide +kernel
theorem dX2_readRule_25 : decode cX2_readRule 25 = .ok (.ireturn, 1) := by decide +kernel
theorem dX2_readRule_26 : decode cX2_readRule 26 = .ok (.aload_n 1, 1) := by decide +kernel
theorem dX2_readRule_27 : decode cX2_readRule 27 = .ok (.getfield 45, 3) := by decide +kernel
theorem dX2_readRule_30 : decode cX2_readRule 30 = .ok (.invokevirtual 55, 3) := by decide +kernel
theorem dX2_readRule_33 : decode cX2_readRule 33 = .ok (.istore_n 2, 1) := by decide +kernel
theorem dX2_readRule_34 : decode cX2_readRule 34 = .ok (.aload_n 0, 1) := by decide +kernel
theorem dX2_readRule_35 : decode cX2_readRule 35 = .ok (.aload_n 1, 1) := by decide +kernel
theorem dX2_readRule_36 : decode cX2_readRule 36 = .ok (.getfield 61, 3) := by decide +kernel
theorem dX2_readRule_39 : decode cX2_readRule 39 = .ok (.bipush 12, 2) := by decide +kernel
theorem dX2_readRule_41 : decode cX2_readRule 41 = .ok (.iload_n 2, 1) := by decide +kernel
theorem dX2_readRule_42 : decode cX2_readRule 42 = .ok (.iload_n 2, 1) := by decide +kernel
theorem dX2_readRule_43 : decode cX2_readRule 43 = .ok (.invokevirtual 41, 3) := by decide +kernel
theorem dX2_readRule_46 : decode cX2_readRule 46 = .ok (.ifCond .eq 16, 3) := by decide +kernel
theorem dX2_readRule_49 : decode cX2_readRule 49 = .ok (.aload_n 0, 1) := by decide +kernel
theorem dX2_readRule_50 : decode cX2_readRule 50 = .ok (.bipush 59, 2) := by decide +kernel
theorem dX2_readRule_52 : decode cX2_readRule 52 = .ok (.invokevirtual 51, 3) := by decide +kernel
theorem dX2_readRule_55 : decode cX2_readRule 55 = .ok (.ifCond .eq 7, 3) := by decide +kernel
theorem dX2_readRule_58 : decode cX2_readRule 58 = .ok (.iconst 1, 1) := by decide +kernel
theorem dX2_readRule_59 : decode cX2_readRule 59 = .ok (.goto 4, 3) := by decide +kernel
theorem dX2_readRule_62 : decode cX2_readRule 62 = .ok (.iconst 0, 1) := by decide +kernel
theorem dX2_readRule_63 : decode cX2_readRule 63 = .ok (.ireturn, 1) := by decide +kernel
theorem dX2_readTerm_0 : decode cX2_readTerm 0 = .ok (.aload_n 1, 1) := by decide +kernel
theorem dX2_readTerm_1 : decode cX2_readTerm 1 = .ok (.iconst 0, 1) := by decide +kernel
theorem dX2_readTerm_2 : decode cX2_readTerm 2 = .ok (.putfield 64, 3) := by decide +kernel
theorem dX2_readTerm_5 : decode cX2_readTerm 5 = .ok (.aload_n 0, 1) := by decide +kernel
theorem dX2_readTerm_6 : decode cX2_readTerm 6 = .ok (.iconst 0, 1) := by decide +kernel
theorem dX2_readTerm_7 : decode cX2_readTerm 7 = .ok (.putfield 67, 3) := by decide +kernel
theorem dX2_readTerm_10 : decode cX2_readTerm 10 = .ok (.iconst 0, 1) := by decide +kernel
theorem dX2_readTerm_11 : decode cX2_readTerm 11 = .ok (.istore 5, 2) := by decide +kernel
theorem dX2_readTerm_13 : decode cX2_readTerm 13 = .ok (.iload 5, 2) := by decide +kernel
theorem dX2_readTerm_15 : decode cX2_readTerm 15 = .ok (.iload_n 2, 1) := by decide +kernel
theorem dX2_readTerm_16 : decode cX2_readTerm 16 = .ok (.if_icmp .ge 81, 3) := by decide +kernel
theorem dX2_readTerm_19 : decode cX2_readTerm 19 = .ok (.aload_n 0, 1) := by decide +kernel
theorem dX2_readTerm_20 : decode cX2_readTerm 20 = .ok (.aload_n 1, 1) := by decide +kernel
theorem dX2_readTerm_21 : decode cX2_readTerm 21 = .ok (.iload 5, 2) := by decide +kernel
theorem dX2_readTerm_23 : decode cX2_readTerm 23 = .ok (.ifCond .ne 7, 3) := by decide +kernel
theorem dX2_readTerm_26 : decode cX2_readTerm 26 = .ok (.iload_n 3, 1) := by decide +kernel
theorem dX2_readTerm_27 : decode cX2_readTerm 27 = .ok (.goto 5, 3) := by decide +kernel
theorem dX2_readTerm_30 : decode cX2_readTerm 30 = .ok (.iload 4, 2) := by decide +kernel
theorem dX2_readTerm_32 : decode cX2_readTerm 32 = .ok (.invokevirtual 70, 3) := by decide +kernel
theorem dX2_readTerm_35 : decode cX2_readTerm 35 = .ok (.ifCond .ne 5, 3) := by decide +kernel
theorem dX2_readTerm_38 : decode cX2_readTerm 38 = .ok (.iconst 0, 1) := by decide +kernel
theorem dX2_readTerm_39 : decode cX2_readTerm 39 = .ok (.ireturn, 1) := by decide +kernel
theorem dX2_readTerm_40 : decode cX2_readTerm 40 = .ok (.aload_n 1, 1) := by decide +kernel
theorem dX2_readTerm_41 : decode cX2_readTerm 41 = .ok (.getfield 74, 3) := by decide +kernel
theorem dX2_readTerm_44 : decode cX2_readTerm 44 = .ok (.iload 5, 2) := by decide +kernel
theorem dX2_readTerm_46 : decode cX2_readTerm 46 = .ok (.iaload, 1) := by decide +kernel
theorem dX2_readTerm_47 : decode cX2_readTerm 47 = .ok (.invokestatic 77, 3) := by decide +kernel
theorem dX2_readTerm_50 : decode cX2_readTerm 50 = .ok (.istore 6, 2) := by decide +kernel
theorem dX2_readTerm_52 : decode cX2_readTerm 52 = .ok (.iload 6, 2) := by decide +kernel
theorem dX2_readTerm_54 : decode cX2_readTerm 54 = .ok (.ifCond .le 15, 3) := by decide +kernel
theorem dX2_readTerm_57 : decode cX2_readTerm 57 = .ok (.aload_n 0, 1) := by decide +kernel
theorem dX2_readTerm_58 : decode cX2_readTerm 58 = .ok (.iload 6, 2) := by decide +kernel
theorem dX2_readTerm_60 : decode cX2_readTerm 60 = .ok (.invokevirtual 81, 3) := by decide +kernel
theorem dX2_readTerm_63 : decode cX2_readTerm 63 = .ok (.ifCond .ne 15, 3) := by decide +kernel
theorem dX2_readTerm_66 : decode cX2_readTerm 66 = .ok (.goto 10, 3) := by decide +kernel
theorem dX2_readTerm_69 : decode cX2_readTerm 69 = .ok (.aload_n 0, 1) := by decide +kernel
theorem dX2_readTerm_70 : decode cX2_readTerm 70 = .ok (.invokevirtual 84, 3) := by decide +kernel
theorem dX2_readTerm_73 : decode cX2_readTerm 73 = .ok (.ifCond .ne 5, 3) := by decide +kernel
theorem dX2_readTerm_76 : decode cX2_readTerm 76 = .ok (.iconst 0, 1) := by decide +kernel
theorem dX2_readTerm_77 : decode cX2_readTerm 77 = .ok (.ireturn, 1) := by decide +kernel
theorem dX2_readTerm_78 : decode cX2_readTerm 78 = .ok (.aload_n 0, 1) := by decide +kernel
theorem dX2_readTerm_79 : decode cX2_readTerm 79 = .ok (.getfield 67, 3) := by decide +kernel
theorem dX2_readTerm_82 : decode cX2_readTerm 82 = .ok (.ifCond .ne 9, 3) := by decide +kernel
theorem dX2_readTerm_85 : decode cX2_readTerm 85 = .ok (.aload_n 1, 1) := by decide +kernel
theorem dX2_readTerm_86 : decode cX2_readTerm 86 = .ok (.invokevirtual 88, 3) := by decide +kernel
theorem dX2_readTerm_89 : decode cX2_readTerm 89 = .ok (.iconst 1, 1) := by decide +kernel
theorem dX2_readTerm_90 : decode cX2_readTerm 90 = .ok (.ireturn, 1) := by decide +kernel
theorem dX2_readTerm_91 : decode cX2_readTerm 91 = .ok (.iinc 5 1, 3) := by decide +kernel
theorem dX2_readTerm_94 : decode cX2_readTerm 94 = .ok (.goto (-81), 3) := by decide +kernel
theorem dX2_readTerm_97 : decode cX2_readTerm 97 = .ok (.aload_n 0, 1) := by decide +kernel
theorem dX2_readTerm_98 : decode cX2_readTerm 98 = .ok (.invokevirtual 38, 3) := by decide +kernel
theorem dX2_readTerm_101 : decode cX2_readTerm 101 = .ok (.iconst 0, 1) := by decide +kernel
theorem dX2_readTerm_102 : decode cX2_readTerm 102 = .ok (.ireturn, 1) := by decide +kernel
theorem dX2_readLetter_0 : decode cX2_readLetter 0 = .ok (.aload_n 0, 1) := by decide +kernel
theorem dX2_readLetter_1 : decode cX2_readLetter 1 = .ok (.invokevirtual 38, 3) := by decide +kernel
theorem dX2_readLetter_4 : decode cX2_readLetter 4 = .ok (.aload_n 0, 1) := by decide +kernel
theorem dX2_readLetter_5 : decode cX2_readLetter 5 = .ok (.getfield 22, 3) := by decide +kernel
theorem dX2_readLetter_8 : decode cX2_readLetter 8 = .ok (.aload_n 0, 1) := by decide +kernel
theorem dX2_readLetter_9 : decode cX2_readLetter 9 = .ok (.getfield 18, 3) := by decide +kernel
theorem dX2_readLetter_12 : decode cX2_readLetter 12 = .ok (.if_icmp .ge 19, 3) := by decide +kernel
theorem dX2_readLetter_15 : decode cX2_readLetter 15 = .ok (.aload_n 0, 1) := by decide +kernel
theorem dX2_readLetter_16 : decode cX2_readLetter 16 = .ok (.getfield 9, 3) := by decide +kernel
theorem dX2_readLetter_19 : decode cX2_readLetter 19 = .ok (.aload_n 0, 1) := by decide +kernel
theorem dX2_readLetter_20 : decode cX2_readLetter 20 = .ok (.getfield 22, 3) := by decide +kernel
theorem dX2_readLetter_23 : decode cX2_readLetter 23 = .ok (.iaload, 1) := by decide +kernel
theorem dX2_readLetter_24 : decode cX2_readLetter 24 = .ok (.invokestatic 91, 3) := by decide +kernel
theorem dX2_readLetter_27 : decode cX2_readLetter 27 = .ok (.iconst (-1), 1) := by decide +kernel
theorem dX2_readLetter_28 : decode cX2_readLetter 28 = .ok (.if_icmp .ne 5, 3) := by decide +kernel
theorem dX2_readLetter_31 : decode cX2_readLetter 31 = .ok (.iconst 0, 1) := by decide +kernel
theorem dX2_readLetter_32 : decode cX2_readLetter 32 = .ok (.ireturn, 1) := by decide +kernel
theorem dX2_readLetter_33 : decode cX2_readLetter 33 = .ok (.aload_n 0, 1) := by decide +kernel
theorem dX2_readLetter_34 : decode cX2_readLetter 34 = .ok (.getfield 9, 3) := by decide +kernel
theorem dX2_readLetter_37 : decode cX2_readLetter 37 = .ok (.aload_n 0, 1) := by decide +kernel
theorem dX2_readLetter_38 : decode cX2_readLetter 38 = .ok (.getfield 22, 3) := by decide +kernel
theorem dX2_readLetter_41 : decode cX2_readLetter 41 = .ok (.iaload, 1) := by decide +kernel
theorem dX2_readLetter_42 : decode cX2_readLetter 42 = .ok (.invokestatic 94, 3) := by decide +kernel
theorem dX2_readLetter_45 : decode cX2_readLetter 45 = .ok (.istore_n 3, 1) := by decide +kernel
theorem dX2_readLetter_46 : decode cX2_readLetter 46 = .ok (.iload_n 3, 1) := by decide +kernel
theorem dX2_readLetter_47 : decode cX2_readLetter 47 = .ok (.iload_n 2, 1) := by decide +kernel
theorem dX2_readLetter_48 : decode cX2_readLetter 48 = .ok (.iand, 1) := by decide +kernel
theorem dX2_readLetter_49 : decode cX2_readLetter 49 = .ok (.iload_n 3, 1) := by decide +kernel
theorem dX2_readLetter_50 : decode cX2_readLetter 50 = .ok (.if_icmp .eq 5, 3) := by decide +kernel
theorem dX2_readLetter_53 : decode cX2_readLetter 53 = .ok (.iconst 0, 1) := by decide +kernel
theorem dX2_readLetter_54 : decode cX2_readLetter 54 = .ok (.ireturn, 1) := by decide +kernel
theorem dX2_readLetter_55 : decode cX2_readLetter 55 = .ok (.aload_n 1, 1) := by decide +kernel
theorem dX2_readLetter_56 : decode cX2_readLetter 56 = .ok (.aload_n 0, 1) := by decide +kernel
theorem dX2_readLetter_57 : decode cX2_readLetter 57 = .ok (.getfield 9, 3) := by decide +kernel
theorem dX2_readLetter_60 : decode cX2_readLetter 60 = .ok (.aload_n 0, 1) := by decide +kernel
theorem dX2_readLetter_61 : decode cX2_readLetter 61 = .ok (.getfield 22, 3) := by decide +kernel
theorem dX2_readLetter_64 : decode cX2_readLetter 64 = .ok (.iaload, 1) := by decide +kernel
theorem dX2_readLetter_65 : decode cX2_readLetter 65 = .ok (.invokevirtual 97, 3) := by decide +kernel
theorem dX2_readLetter_68 : decode cX2_readLetter 68 = .ok (.aload_n 0, 1) := by decide +kernel
theorem dX2_readLetter_69 : decode cX2_readLetter 69 = .ok (.dup, 1) := by decide +kernel
theorem dX2_readLetter_70 : decode cX2_readLetter 70 = .ok (.getfield 22, 3) := by decide +kernel
theorem dX2_readLetter_73 : decode cX2_readLetter 73 = .ok (.iconst 1, 1) := by decide +kernel
theorem dX2_readLetter_74 : decode cX2_readLetter 74 = .ok (.iadd, 1) := by decide +kernel
theorem dX2_readLetter_75 : decode cX2_readLetter 75 = .ok (.putfield 22, 3) := by decide +kernel
theorem dX2_readLetter_78 : decode cX2_readLetter 78 = .ok (.iconst 1, 1) := by decide +kernel
theorem dX2_readLetter_79 : decode cX2_readLetter 79 = .ok (.ireturn, 1) := by decide +kernel
theorem dX2_opens_0 : decode cX2_opens 0 = .ok (.aload_n 0, 1) := by decide +kernel
theorem dX2_opens_1 : decode cX2_opens 1 = .ok (.getfield 67, 3) := by decide +kernel
theorem dX2_opens_4 : decode cX2_opens 4 = .ok (.bipush 60, 2) := by decide +kernel
theorem dX2_opens_6 : decode cX2_opens 6 = .ok (.if_icmp .ge 12, 3) := by decide +kernel
theorem dX2_opens_9 : decode cX2_opens 9 = .ok (.aload_n 0, 1) := by decide +kernel
theorem dX2_opens_10 : decode cX2_opens 10 = .ok (.bipush 40, 2) := by decide +kernel
theorem dX2_opens_12 : decode cX2_opens 12 = .ok (.invokevirtual 51, 3) := by decide +kernel
theorem dX2_opens_15 : decode cX2_opens 15 = .ok (.ifCond .ne 5, 3) := by decide +kernel
theorem dX2_opens_18 : decode cX2_opens 18 = .ok (.iconst 0, 1) := by decide +kernel
theorem dX2_opens_19 : decode cX2_opens 19 = .ok (.ireturn, 1) := by decide +kernel
theorem dX2_opens_20 : decode cX2_opens 20 = .ok (.aload_n 0, 1) := by decide +kernel
theorem dX2_opens_21 : decode cX2_opens 21 = .ok (.getfield 15, 3) := by decide +kernel
theorem dX2_opens_24 : decode cX2_opens 24 = .ok (.aload_n 0, 1) := by decide +kernel
theorem dX2_opens_25 : decode cX2_opens 25 = .ok (.getfield 67, 3) := by decide +kernel
theorem dX2_opens_28 : decode cX2_opens 28 = .ok (.iload_n 1, 1) := by decide +kernel
theorem dX2_opens_29 : decode cX2_opens 29 = .ok (.iastore, 1) := by decide +kernel
theorem dX2_opens_30 : decode cX2_opens 30 = .ok (.aload_n 0, 1) := by decide +kernel
theorem dX2_opens_31 : decode cX2_opens 31 = .ok (.dup, 1) := by decide +kernel
theorem dX2_opens_32 : decode cX2_opens 32 = .ok (.getfield 67, 3) := by decide +kernel
theorem dX2_opens_35 : decode cX2_opens 35 = .ok (.iconst 1, 1) := by decide +kernel
theorem dX2_opens_36 : decode cX2_opens 36 = .ok (.iadd, 1) := by decide +kernel
theorem dX2_opens_37 : decode cX2_opens 37 = .ok (.putfield 67, 3) := by decide +kernel
theorem dX2_opens_40 : decode cX2_opens 40 = .ok (.iconst 1, 1) := by decide +kernel
theorem dX2_opens_41 : decode cX2_opens 41 = .ok (.ireturn, 1) := by decide +kernel
theorem dX2_closes_0 : decode cX2_closes 0 = .ok (.aload_n 0, 1) := by decide +kernel
theorem dX2_closes_1 : decode cX2_closes 1 = .ok (.getfield 67, 3) := by decide +kernel
theorem dX2_closes_4 : decode cX2_closes 4 = .ok (.ifCond .le 63, 3) := by decide +kernel
theorem dX2_closes_7 : decode cX2_closes 7 = .ok (.aload_n 0, 1) := by decide +kernel
theorem dX2_closes_8 : decode cX2_closes 8 = .ok (.getfield 15, 3) := by decide +kernel
theorem dX2_closes_11 : decode cX2_closes 11 = .ok (.aload_n 0, 1) := by decide +kernel
theorem dX2_closes_12 : decode cX2_closes 12 = .ok (.getfield 67, 3) := by decide +kernel
theorem dX2_closes_15 : decode cX2_closes 15 = .ok (.iconst 1, 1) := by decide +kernel
theorem dX2_closes_16 : decode cX2_closes 16 = .ok (.isub, 1) := by decide +kernel
theorem dX2_closes_17 : decode cX2_closes 17 = .ok (.dup2, 1) := by decide +kernel
theorem dX2_closes_18 : decode cX2_closes 18 = .ok (.iaload, 1) := by decide +kernel
theorem dX2_closes_19 : decode cX2_closes 19 = .ok (.iconst 1, 1) := by decide +kernel
theorem dX2_closes_20 : decode cX2_closes 20 = .ok (.isub, 1) := by decide +kernel
theorem dX2_closes_21 : decode cX2_closes 21 = .ok (.iastore, 1) := by decide +kernel
theorem dX2_closes_22 : decode cX2_closes 22 = .ok (.aload_n 0, 1) := by decide +kernel
theorem dX2_closes_23 : decode cX2_closes 23 = .ok (.getfield 15, 3) := by decide +kernel
theorem dX2_closes_26 : decode cX2_closes 26 = .ok (.aload_n 0, 1) := by decide +kernel
theorem dX2_closes_27 : decode cX2_closes 27 = .ok (.getfield 67, 3) := by decide +kernel
theorem dX2_closes_30 : decode cX2_closes 30 = .ok (.iconst 1, 1) := by decide +kernel
theorem dX2_closes_31 : decode cX2_closes 31 = .ok (.isub, 1) := by decide +kernel
theorem dX2_closes_32 : decode cX2_closes 32 = .ok (.iaload, 1) := by decide +kernel
theorem dX2_closes_33 : decode cX2_closes 33 = .ok (.ifCond .le 10, 3) := by decide +kernel
theorem dX2_closes_36 : decode cX2_closes 36 = .ok (.aload_n 0, 1) := by decide +kernel
theorem dX2_closes_37 : decode cX2_closes 37 = .ok (.bipush 44, 2) := by decide +kernel
theorem dX2_closes_39 : decode cX2_closes 39 = .ok (.invokevirtual 51, 3) := by decide +kernel
theorem dX2_closes_42 : decode cX2_closes 42 = .ok (.ireturn, 1) := by decide +kernel
theorem dX2_closes_43 : decode cX2_closes 43 = .ok (.aload_n 0, 1) := by decide +kernel
theorem dX2_closes_44 : decode cX2_closes 44 = .ok (.bipush 41, 2) := by decide +kernel
theorem dX2_closes_46 : decode cX2_closes 46 = .ok (.invokevirtual 51, 3) := by decide +kernel
theorem dX2_closes_49 : decode cX2_closes 49 = .ok (.ifCond .ne 5, 3) := by decide +kernel
theorem dX2_closes_52 : decode cX2_closes 52 = .ok (.iconst 0, 1) := by decide +kernel
theorem dX2_closes_53 : decode cX2_closes 53 = .ok (.ireturn, 1) := by decide +kernel
theorem dX2_closes_54 : decode cX2_closes 54 = .ok (.aload_n 0, 1) := by decide +kernel
theorem dX2_closes_55 : decode cX2_closes 55 = .ok (.dup, 1) := by decide +kernel
theorem dX2_closes_56 : decode cX2_closes 56 = .ok (.getfield 67, 3) := by decide +kernel
theorem dX2_closes_59 : decode cX2_closes 59 = .ok (.iconst 1, 1) := by decide +kernel
theorem dX2_closes_60 : decode cX2_closes 60 = .ok (.isub, 1) := by decide +kernel
theorem dX2_closes_61 : decode cX2_closes 61 = .ok (.putfield 67, 3) := by decide +kernel
theorem dX2_closes_64 : decode cX2_closes 64 = .ok (.goto (-64), 3) := by decide +kernel
theorem dX2_closes_67 : decode cX2_closes 67 = .ok (.iconst 1, 1) := by decide +kernel
theorem dX2_closes_68 : decode cX2_closes 68 = .ok (.ireturn, 1) := by decide +kernel
theorem dX2_takes_0 : decode cX2_takes 0 = .ok (.aload_n 0, 1) := by decide +kernel
theorem dX2_takes_1 : decode cX2_takes 1 = .ok (.invokevirtual 38, 3) := by decide +kernel
theorem dX2_takes_4 : decode cX2_takes 4 = .ok (.aload_n 0, 1) := by decide +kernel
theorem dX2_takes_5 : decode cX2_takes 5 = .ok (.getfield 22, 3) := by decide +kernel
theorem dX2_takes_8 : decode cX2_takes 8 = .ok (.aload_n 0, 1) := by decide +kernel
theorem dX2_takes_9 : decode cX2_takes 9 = .ok (.getfield 18, 3) := by decide +kernel
theorem dX2_takes_12 : decode cX2_takes 12 = .ok (.if_icmp .ge 16, 3) := by decide +kernel
theorem dX2_takes_15 : decode cX2_takes 15 = .ok (.aload_n 0, 1) := by decide +kernel
theorem dX2_takes_16 : decode cX2_takes 16 = .ok (.getfield 9, 3) := by decide +kernel
theorem dX2_takes_19 : decode cX2_takes 19 = .ok (.aload_n 0, 1) := by decide +kernel
theorem dX2_takes_20 : decode cX2_takes 20 = .ok (.getfield 22, 3) := by decide +kernel
theorem dX2_takes_23 : decode cX2_takes 23 = .ok (.iaload, 1) := by decide +kernel
theorem dX2_takes_24 : decode cX2_takes 24 = .ok (.iload_n 1, 1) := by decide +kernel
theorem dX2_takes_25 : decode cX2_takes 25 = .ok (.if_icmp .eq 5, 3) := by decide +kernel
theorem dX2_takes_28 : decode cX2_takes 28 = .ok (.iconst 0, 1) := by decide +kernel
theorem dX2_takes_29 : decode cX2_takes 29 = .ok (.ireturn, 1) := by decide +kernel
theorem dX2_takes_30 : decode cX2_takes 30 = .ok (.aload_n 0, 1) := by decide +kernel
theorem dX2_takes_31 : decode cX2_takes 31 = .ok (.dup, 1) := by decide +kernel
theorem dX2_takes_32 : decode cX2_takes 32 = .ok (.getfield 22, 3) := by decide +kernel
theorem dX2_takes_35 : decode cX2_takes 35 = .ok (.iconst 1, 1) := by decide +kernel
theorem dX2_takes_36 : decode cX2_takes 36 = .ok (.iadd, 1) := by decide +kernel
theorem dX2_takes_37 : decode cX2_takes 37 = .ok (.putfield 22, 3) := by decide +kernel
theorem dX2_takes_40 : decode cX2_takes 40 = .ok (.iconst 1, 1) := by decide +kernel
theorem dX2_takes_41 : decode cX2_takes 41 = .ok (.ireturn, 1) := by decide +kernel
theorem dX2_skipBlanks_0 : decode cX2_skipBlanks 0 = .ok (.aload_n 0, 1) := by decide +kernel
theorem dX2_skipBlanks_1 : decode cX2_skipBlanks 1 = .ok (.getfield 22, 3) := by decide +kernel
theorem dX2_skipBlanks_4 : decode cX2_skipBlanks 4 = .ok (.aload_n 0, 1) := by decide +kernel
theorem dX2_skipBlanks_5 : decode cX2_skipBlanks 5 = .ok (.getfield 18, 3) := by decide +kernel
theorem dX2_skipBlanks_8 : decode cX2_skipBlanks 8 = .ok (.if_icmp .ge 30, 3) := by decide +kernel
theorem dX2_skipBlanks_11 : decode cX2_skipBlanks 11 = .ok (.aload_n 0, 1) := by decide +kernel
theorem dX2_skipBlanks_12 : decode cX2_skipBlanks 12 = .ok (.getfield 9, 3) := by decide +kernel
theorem dX2_skipBlanks_15 : decode cX2_skipBlanks 15 = .ok (.aload_n 0, 1) := by decide +kernel
theorem dX2_skipBlanks_16 : decode cX2_skipBlanks 16 = .ok (.getfield 22, 3) := by decide +kernel
theorem dX2_skipBlanks_19 : decode cX2_skipBlanks 19 = .ok (.iaload, 1) := by decide +kernel
theorem dX2_skipBlanks_20 : decode cX2_skipBlanks 20 = .ok (.bipush 32, 2) := by decide +kernel
theorem dX2_skipBlanks_22 : decode cX2_skipBlanks 22 = .ok (.if_icmp .ne 16, 3) := by decide +kernel
theorem dX2_skipBlanks_25 : decode cX2_skipBlanks 25 = .ok (.aload_n 0, 1) := by decide +kernel
theorem dX2_skipBlanks_26 : decode cX2_skipBlanks 26 = .ok (.dup, 1) := by decide +kernel
theorem dX2_skipBlanks_27 : decode cX2_skipBlanks 27 = .ok (.getfield 22, 3) := by decide +kernel
theorem dX2_skipBlanks_30 : decode cX2_skipBlanks 30 = .ok (.iconst 1, 1) := by decide +kernel
theorem dX2_skipBlanks_31 : decode cX2_skipBlanks 31 = .ok (.iadd, 1) := by decide +kernel
theorem dX2_skipBlanks_32 : decode cX2_skipBlanks 32 = .ok (.putfield 22, 3) := by decide +kernel
theorem dX2_skipBlanks_35 : decode cX2_skipBlanks 35 = .ok (.goto (-35), 3) := by decide +kernel
theorem dX2_skipBlanks_38 : decode cX2_skipBlanks 38 = .ok (.return_, 1) := by decide +kernel
theorem dX3_init_0 : decode cX3_init 0 = .ok (.aload_n 0, 1) := by decide +kernel
theorem dX3_init_1 : decode cX3_init 1 = .ok (.invokespecial 3, 3) := by decide +kernel
theorem dX3_init_4 : decode cX3_init 4 = .ok (.aload_n 0, 1) := by decide +kernel
theorem dX3_init_5 : decode cX3_init 5 = .ok (.new 9, 3) := by decide +kernel
theorem dX3_init_8 : decode cX3_init 8 = .ok (.dup, 1) := by decide +kernel
theorem dX3_init_9 : decode cX3_init 9 = .ok (.bipush 12, 2) := by decide +kernel
theorem dX3_init_11 : decode cX3_init 11 = .ok (.invokespecial 11, 3) := by decide +kernel
theorem dX3_init_14 : decode cX3_init 14 = .ok (.putfield 14, 3) := by decide +kernel
theorem dX3_init_17 : decode cX3_init 17 = .ok (.aload_n 0, 1) := by decide +kernel
theorem dX3_init_18 : decode cX3_init 18 = .ok (.new 9, 3) := by decide +kernel
theorem dX3_init_21 : decode cX3_init 21 = .ok (.dup, 1) := by decide +kernel
theorem dX3_init_22 : decode cX3_init 22 = .ok (.bipush 12, 2) := by decide +kernel
theorem dX3_init_24 : decode cX3_init 24 = .ok (.invokespecial 11, 3) := by decide +kernel
theorem dX3_init_27 : decode cX3_init 27 = .ok (.putfield 20, 3) := by decide +kernel
theorem dX3_init_30 : decode cX3_init 30 = .ok (.return_, 1) := by decide +kernel
theorem dX3_copyFrom_0 : decode cX3_copyFrom 0 = .ok (.aload_n 0, 1) := by decide +kernel
theorem dX3_copyFrom_1 : decode cX3_copyFrom 1 = .ok (.getfield 14, 3) := by decide +kernel
theorem dX3_copyFrom_4 : decode cX3_copyFrom 4 = .ok (.aload_n 1, 1) := by decide +kernel
theorem dX3_copyFrom_5 : decode cX3_copyFrom 5 = .ok (.getfield 14, 3) := by decide +kernel
theorem dX3_copyFrom_8 : decode cX3_copyFrom 8 = .ok (.invokevirtual 23, 3) := by decide +kernel
theorem dX3_copyFrom_11 : decode cX3_copyFrom 11 = .ok (.aload_n 0, 1) := by decide +kernel
theorem dX3_copyFrom_12 : decode cX3_copyFrom 12 = .ok (.getfield 20, 3) := by decide +kernel
theorem dX3_copyFrom_15 : decode cX3_copyFrom 15 = .ok (.aload_n 1, 1) := by decide +kernel
theorem dX3_copyFrom_16 : decode cX3_copyFrom 16 = .ok (.getfield 20, 3) := by decide +kernel
theorem dX3_copyFrom_19 : decode cX3_copyFrom 19 = .ok (.invokevirtual 23, 3) := by decide +kernel
theorem dX3_copyFrom_22 : decode cX3_copyFrom 22 = .ok (.return_, 1) := by decide +kernel
theorem dX4_init_0 : decode cX4_init 0 = .ok (.aload_n 0, 1) := by decide +kernel
theorem dX4_init_1 : decode cX4_init 1 = .ok (.invokespecial 3, 3) := by decide +kernel
theorem dX4_init_4 : decode cX4_init 4 = .ok (.aload_n 0, 1) := by decide +kernel
theorem dX4_init_5 : decode cX4_init 5 = .ok (.new 9, 3) := by decide +kernel
theorem dX4_init_8 : decode cX4_init 8 = .ok (.dup, 1) := by decide +kernel
theorem dX4_init_9 : decode cX4_init 9 = .ok (.invokespecial 11, 3) := by decide +kernel
theorem dX4_init_12 : decode cX4_init 12 = .ok (.putfield 12, 3) := by decide +kernel
theorem dX4_init_15 : decode cX4_init 15 = .ok (.aload_n 0, 1) := by decide +kernel
theorem dX4_init_16 : decode cX4_init 16 = .ok (.new 9, 3) := by decide +kernel
theorem dX4_init_19 : decode cX4_init 19 = .ok (.dup, 1) := by decide +kernel
theorem dX4_init_20 : decode cX4_init 20 = .ok (.invokespecial 11, 3) := by decide +kernel
theorem dX4_init_23 : decode cX4_init 23 = .ok (.putfield 18, 3) := by decide +kernel
theorem dX4_init_26 : decode cX4_init 26 = .ok (.aload_n 0, 1) := by decide +kernel
theorem dX4_init_27 : decode cX4_init 27 = .ok (.sipush 325, 3) := by decide +kernel
theorem dX4_init_30 : decode cX4_init 30 = .ok (.newarray .int, 2) := by decide +kernel
theorem dX4_init_32 : decode cX4_init 32 = .ok (.putfield 21, 3) := by decide +kernel
theorem dX4_init_35 : decode cX4_init 35 = .ok (.aload_n 0, 1) := by decide +kernel
theorem dX4_init_36 : decode cX4_init 36 = .ok (.bipush 60, 2) := by decide +kernel
theorem dX4_init_38 : decode cX4_init 38 = .ok (.newarray .long, 2) := by decide +kernel
theorem dX4_init_40 : decode cX4_init 40 = .ok (.putfield 25, 3) := by decide +kernel
theorem dX4_init_43 : decode cX4_init 43 = .ok (.return_, 1) := by decide +kernel
theorem dX4_compareSides_0 : decode cX4_compareSides 0 = .ok (.aload_n 0, 1) := by decide +kernel
theorem dX4_compareSides_1 : decode cX4_compareSides 1 = .ok (.getfield 12, 3) := by decide +kernel
theorem dX4_compareSides_4 : decode cX4_compareSides 4 = .ok (.aload_n 1, 1) := by decide +kernel
theorem dX4_compareSides_5 : decode cX4_compareSides 5 = .ok (.getfield 29, 3) := by decide +kernel
theorem dX4_compareSides_8 : decode cX4_compareSides 8 = .ok (.aload_n 2, 1) := by decide +kernel
theorem dX4_compareSides_9 : decode cX4_compareSides 9 = .ok (.iconst 4, 1) := by decide +kernel
theorem dX4_compareSides_10 : decode cX4_compareSides 10 = .ok (.iaload, 1) := by decide +kernel
theorem dX4_compareSides_11 : decode cX4_compareSides 11 = .ok (.aload_n 2, 1) := by decide +kernel
theorem dX4_compareSides_12 : decode cX4_compareSides 12 = .ok (.iconst 5, 1) := by decide +kernel
theorem dX4_compareSides_13 : decode cX4_compareSides 13 = .ok (.iaload, 1) := by decide +kernel
theorem dX4_compareSides_14 : decode cX4_compareSides 14 = .ok (.aload_n 2, 1) := by decide +kernel
theorem dX4_compareSides_15 : decode cX4_compareSides 15 = .ok (.bipush 6, 2) := by decide +kernel
theorem dX4_compareSides_17 : decode cX4_compareSides 17 = .ok (.iaload, 1) := by decide +kernel
theorem dX4_compareSides_18 : decode cX4_compareSides 18 = .ok (.invokevirtual 34, 3) := by decide +kernel
theorem dX4_compareSides_21 : decode cX4_compareSides 21 = .ok (.aload_n 0, 1) := by decide +kernel
theorem dX4_compareSides_22 : decode cX4_compareSides 22 = .ok (.getfield 18, 3) := by decide +kernel
theorem dX4_compareSides_25 : decode cX4_compareSides 25 = .ok (.aload_n 1, 1) := by decide +kernel
theorem dX4_compareSides_26 : decode cX4_compareSides 26 = .ok (.getfield 38, 3) := by decide +kernel
theorem dX4_compareSides_29 : decode cX4_compareSides 29 = .ok (.aload_n 2, 1) := by decide +kernel
theorem dX4_compareSides_30 : decode cX4_compareSides 30 = .ok (.iconst 4, 1) := by decide +kernel
theorem dX4_compareSides_31 : decode cX4_compareSides 31 = .ok (.iaload, 1) := by decide +kernel
theorem dX4_compareSides_32 : decode cX4_compareSides 32 = .ok (.aload_n 2, 1) := by decide +kernel
theorem dX4_compareSides_33 : decode cX4_compareSides 33 = .ok (.iconst 5, 1) := by decide +kernel
theorem dX4_compareSides_34 : decode cX4_compareSides 34 = .ok (.iaload, 1) := by decide +kernel
theorem dX4_compareSides_35 : decode cX4_compareSides 35 = .ok (.aload_n 2, 1) := by decide +kernel
theorem dX4_compareSides_36 : decode cX4_compareSides 36 = .ok (.bipush 6, 2) := by decide +kernel
theorem dX4_compareSides_38 : decode cX4_compareSides 38 = .ok (.iaload, 1) := by decide +kernel
theorem dX4_compareSides_39 : decode cX4_compareSides 39 = .ok (.invokevirtual 34, 3) := by decide +kernel
theorem dX4_compareSides_42 : decode cX4_compareSides 42 = .ok (.aload_n 0, 1) := by decide +kernel
theorem dX4_compareSides_43 : decode cX4_compareSides 43 = .ok (.iconst 0, 1) := by decide +kernel
theorem dX4_compareSides_44 : decode cX4_compareSides 44 = .ok (.putfield 40, 3) := by decide +kernel
theorem dX4_compareSides_47 : decode cX4_compareSides 47 = .ok (.aload_n 0, 1) := by decide +kernel
theorem dX4_compareSides_48 : decode cX4_compareSides 48 = .ok (.iconst 0, 1) := by decide +kernel
theorem dX4_compareSides_49 : decode cX4_compareSides 49 = .ok (.iconst 1, 1) := by decide +kernel
theorem dX4_compareSides_50 : decode cX4_compareSides 50 = .ok (.invokevirtual 44, 3) := by decide +kernel
theorem dX4_compareSides_53 : decode cX4_compareSides 53 = .ok (.ifCond .ne 5, 3) := by decide +kernel
theorem dX4_compareSides_56 : decode cX4_compareSides 56 = .ok (.iconst 0, 1) := by decide +kernel
theorem dX4_compareSides_57 : decode cX4_compareSides 57 = .ok (.ireturn, 1) := by decide +kernel
theorem dX4_compareSides_58 : decode cX4_compareSides 58 = .ok (.aload_n 0, 1) := by decide +kernel
theorem dX4_compareSides_59 : decode cX4_compareSides 59 = .ok (.iconst 0, 1) := by decide +kernel
theorem dX4_compareSides_60 : decode cX4_compareSides 60 = .ok (.aload_n 2, 1) := by decide +kernel
theorem dX4_compareSides_61 : decode cX4_compareSides 61 = .ok (.iconst 0, 1) := by decide +kernel
theorem dX4_compareSides_62 : decode cX4_compareSides 62 = .ok (.iaload, 1) := by decide +kernel
theorem dX4_compareSides_63 : decode cX4_compareSides 63 = .ok (.aload_n 2, 1) := by decide +kernel
theorem dX4_compareSides_64 : decode cX4_compareSides 64 = .ok (.iconst 1, 1) := by decide +kernel
theorem dX4_compareSides_65 : decode cX4_compareSides 65 = .ok (.iaload, 1) := by decide +kernel
theorem dX4_compareSides_66 : decode cX4_compareSides 66 = .ok (.aload_n 2, 1) := by decide +kernel
theorem dX4_compareSides_67 : decode cX4_compareSides 67 = .ok (.iconst 2, 1) := by decide +kernel
theorem dX4_compareSides_68 : decode cX4_compareSides 68 = .ok (.iaload, 1) := by decide +kernel
theorem dX4_compareSides_69 : decode cX4_compareSides 69 = .ok (.aload_n 2, 1) := by decide +kernel
theorem dX4_compareSides_70 : decode cX4_compareSides 70 = .ok (.iconst 3, 1) := by decide +kernel
theorem dX4_compareSides_71 : decode cX4_compareSides 71 = .ok (.iaload, 1) := by decide +kernel
theorem dX4_compareSides_72 : decode cX4_compareSides 72 = .ok (.invokevirtual 48, 3) := by decide +kernel
theorem dX4_compareSides_75 : decode cX4_compareSides 75 = .ok (.istore_n 3, 1) := by decide +kernel
theorem dX4_compareSides_76 : decode cX4_compareSides 76 = .ok (.iload_n 3, 1) := by decide +kernel
theorem dX4_compareSides_77 : decode cX4_compareSides 77 = .ok (.ifCond .le 5, 3) := by decide +kernel
theorem dX4_compareSides_80 : decode cX4_compareSides 80 = .ok (.iconst 2, 1) := by decide +kernel
theorem dX4_compareSides_81 : decode cX4_compareSides 81 = .ok (.ireturn, 1) := by decide +kernel
theorem dX4_compareSides_82 : decode cX4_compareSides 82 = .ok (.iload_n 3, 1) := by decide +kernel
theorem dX4_compareSides_83 : decode cX4_compareSides 83 = .ok (.ifCond .ne 7, 3) := by decide +kernel
theorem dX4_compareSides_86 : decode cX4_compareSides 86 = .ok (.iconst 1, 1) := by decide +kernel
theorem dX4_compareSides_87 : decode cX4_compareSides 87 = .ok (.goto 4, 3) := by decide +kernel
theorem dX4_compareSides_90 : decode cX4_compareSides 90 = .ok (.iconst 0, 1) := by decide +kernel
theorem dX4_compareSides_91 : decode cX4_compareSides 91 = .ok (.ireturn, 1) := by decide +kernel
theorem dX4_weightLeftOver_0 : decode cX4_weightLeftOver 0 = .ok (.aload_n 1, 1) := by decide +kernel
theorem dX4_weightLeftOver_1 : decode cX4_weightLeftOver 1 = .ok (.getfield 52, 3) := by decide +kernel
theorem dX4_weightLeftOver_4 : decode cX4_weightLeftOver 4 = .ok (.iconst 1, 1) := by decide +kernel
theorem dX4_weightLeftOver_5 : decode cX4_weightLeftOver 5 = .ok (.isub, 1) := by decide +kernel
theorem dX4_weightLeftOver_6 : decode cX4_weightLeftOver 6 = .ok (.istore_n 3, 1) := by decide +kernel
theorem dX4_weightLeftOver_7 : decode cX4_weightLeftOver 7 = .ok (.iload_n 3, 1) := by decide +kernel
theorem dX4_weightLeftOver_8 : decode cX4_weightLeftOver 8 = .ok (.ifCond .lt 149, 3) := by decide +kernel
theorem dX4_weightLeftOver_11 : decode cX4_weightLeftOver 11 = .ok (.aload_n 1, 1) := by decide +kernel
theorem dX4_weightLeftOver_12 : decode cX4_weightLeftOver 12 = .ok (.getfield 57, 3) := by decide +kernel
theorem dX4_weightLeftOver_15 : decode cX4_weightLeftOver 15 = .ok (.iload_n 3, 1) := by decide +kernel
theorem dX4_weightLeftOver_16 : decode cX4_weightLeftOver 16 = .ok (.iaload, 1) := by decide +kernel
theorem dX4_weightLeftOver_17 : decode cX4_weightLeftOver 17 = .ok (.invokestatic 60, 3) := by decide +kernel
theorem dX4_weightLeftOver_20 : decode cX4_weightLeftOver 20 = .ok (.istore 4, 2) := by decide +kernel
theorem dX4_weightLeftOver_22 : decode cX4_weightLeftOver 22 = .ok (.iload 4, 2) := by decide +kernel
theorem dX4_weightLeftOver_24 : decode cX4_weightLeftOver 24 = .ok (.ifCond .lt 17, 3) := by decide +kernel
theorem dX4_weightLeftOver_27 : decode cX4_weightLeftOver 27 = .ok (.iload 4, 2) := by decide +kernel
theorem dX4_weightLeftOver_29 : decode cX4_weightLeftOver 29 = .ok (.iconst 4, 1) := by decide +kernel
theorem dX4_weightLeftOver_30 : decode cX4_weightLeftOver 30 = .ok (.if_icmp .ge 11, 3) := by decide +kernel
theorem dX4_weightLeftOver_33 : decode cX4_weightLeftOver 33 = .ok (.aload_n 2, 1) := by decide +kernel
theorem dX4_weightLeftOver_34 : decode cX4_weightLeftOver 34 = .ok (.iload 4, 2) := by decide +kernel
theorem dX4_weightLeftOver_36 : decode cX4_weightLeftOver 36 = .ok (.iaload, 1) := by decide +kernel
theorem dX4_weightLeftOver_37 : decode cX4_weightLeftOver 37 = .ok (.i2l, 1) := by decide +kernel
theorem dX4_weightLeftOver_38 : decode cX4_weightLeftOver 38 = .ok (.goto 4, 3) := by decide +kernel
theorem dX4_weightLeftOver_41 : decode cX4_weightLeftOver 41 = .ok (.lconst 0, 1) := by decide +kernel
theorem dX4_weightLeftOver_42 : decode cX4_weightLeftOver 42 = .ok (.lstore 5, 2) := by decide +kernel
theorem dX4_weightLeftOver_44 : decode cX4_weightLeftOver 44 = .ok (.aload_n 1, 1) := by decide +kernel
theorem dX4_weightLeftOver_45 : decode cX4_weightLeftOver 45 = .ok (.getfield 57, 3) := by decide +kernel
theorem dX4_weightLeftOver_48 : decode cX4_weightLeftOver 48 = .ok (.iload_n 3, 1) := by decide +kernel
theorem dX4_weightLeftOver_49 : decode cX4_weightLeftOver 49 = .ok (.iaload, 1) := by decide +kernel
theorem dX4_weightLeftOver_50 : decode cX4_weightLeftOver 50 = .ok (.bipush 102, 2) := by decide +kernel
theorem dX4_weightLeftOver_52 : decode cX4_weightLeftOver 52 = .ok (.if_icmp .ne 24, 3) := by decide +kernel
theorem dX4_weightLeftOver_55 : decode cX4_weightLeftOver 55 = .ok (.lload 5, 2) := by decide +kernel
theorem dX4_weightLeftOver_57 : decode cX4_weightLeftOver 57 = .ok (.aload_n 2, 1) := by decide +kernel
theorem dX4_weightLeftOver_58 : decode cX4_weightLeftOver 58 = .ok (.iconst 4, 1) := by decide +kernel
theorem dX4_weightLeftOver_59 : decode cX4_weightLeftOver 59 = .ok (.iaload, 1) := by decide +kernel
theorem dX4_weightLeftOver_60 : decode cX4_weightLeftOver 60 = .ok (.i2l, 1) := by decide +kernel
theorem dX4_weightLeftOver_61 : decode cX4_weightLeftOver 61 = .ok (.aload_n 0, 1) := by decide +kernel
theorem dX4_weightLeftOver_62 : decode cX4_weightLeftOver 62 = .ok (.aload_n 1, 1) := by decide +kernel
theorem dX4_weightLeftOver_63 : decode cX4_weightLeftOver 63 = .ok (.iload_n 3, 1) := by decide +kernel
theorem dX4_weightLeftOver_64 : decode cX4_weightLeftOver 64 = .ok (.iconst 1, 1) := by decide +kernel
theorem dX4_weightLeftOver_65 : decode cX4_weightLeftOver 65 = .ok (.iadd, 1) := by decide +kernel
theorem dX4_weightLeftOver_66 : decode cX4_weightLeftOver 66 = .ok (.invokevirtual 64, 3) := by decide +kernel
theorem dX4_weightLeftOver_69 : decode cX4_weightLeftOver 69 = .ok (.lmul, 1) := by decide +kernel
theorem dX4_weightLeftOver_70 : decode cX4_weightLeftOver 70 = .ok (.ladd, 1) := by decide +kernel
theorem dX4_weightLeftOver_71 : decode cX4_weightLeftOver 71 = .ok (.lstore 5, 2) := by decide +kernel
theorem dX4_weightLeftOver_73 : decode cX4_weightLeftOver 73 = .ok (.goto 66, 3) := by decide +kernel
theorem dX4_weightLeftOver_76 : decode cX4_weightLeftOver 76 = .ok (.aload_n 1, 1) := by decide +kernel
theorem dX4_weightLeftOver_77 : decode cX4_weightLeftOver 77 = .ok (.getfield 57, 3) := by decide +kernel
theorem dX4_weightLeftOver_80 : decode cX4_weightLeftOver 80 = .ok (.iload_n 3, 1) := by decide +kernel
theorem dX4_weightLeftOver_81 : decode cX4_weightLeftOver 81 = .ok (.iaload, 1) := by decide +kernel
theorem dX4_weightLeftOver_82 : decode cX4_weightLeftOver 82 = .ok (.bipush 103, 2) := by decide +kernel
theorem dX4_weightLeftOver_84 : decode cX4_weightLeftOver 84 = .ok (.if_icmp .ne 55, 3) := by decide +kernel
theorem dX4_weightLeftOver_87 : decode cX4_weightLeftOver 87 = .ok (.iload_n 3, 1) := by decide +kernel
theorem dX4_weightLeftOver_88 : decode cX4_weightLeftOver 88 = .ok (.iconst 1, 1) := by decide +kernel
theorem dX4_weightLeftOver_89 : decode cX4_weightLeftOver 89 = .ok (.iadd, 1) := by decide +kernel
theorem dX4_weightLeftOver_90 : decode cX4_weightLeftOver 90 = .ok (.aload_n 1, 1) := by decide +kernel
theorem dX4_weightLeftOver_91 : decode cX4_weightLeftOver 91 = .ok (.getfield 52, 3) := by decide +kernel
theorem dX4_weightLeftOver_94 : decode cX4_weightLeftOver 94 = .ok (.if_icmp .ge 45, 3) := by decide +kernel
theorem dX4_weightLeftOver_97 : decode cX4_weightLeftOver 97 = .ok (.lload 5, 2) := by decide +kernel
theorem dX4_weightLeftOver_99 : decode cX4_weightLeftOver 99 = .ok (.aload_n 2, 1) := by decide +kernel
theorem dX4_weightLeftOver_100 : decode cX4_weightLeftOver 100 = .ok (.iconst 5, 1) := by decide +kernel
theorem dX4_weightLeftOver_101 : decode cX4_weightLeftOver 101 = .ok (.iaload, 1) := by decide +kernel
theorem dX4_weightLeftOver_102 : decode cX4_weightLeftOver 102 = .ok (.i2l, 1) := by decide +kernel
theorem dX4_weightLeftOver_103 : decode cX4_weightLeftOver 103 = .ok (.aload_n 0, 1) := by decide +kernel
theorem dX4_weightLeftOver_104 : decode cX4_weightLeftOver 104 = .ok (.aload_n 1, 1) := by decide +kernel
theorem dX4_weightLeftOver_105 : decode cX4_weightLeftOver 105 = .ok (.iload_n 3, 1) := by decide +kernel
theorem dX4_weightLeftOver_106 : decode cX4_weightLeftOver 106 = .ok (.iconst 1, 1) := by decide +kernel
theorem dX4_weightLeftOver_107 : decode cX4_weightLeftOver 107 = .ok (.iadd, 1) := by decide +kernel
theorem dX4_weightLeftOver_108 : decode cX4_weightLeftOver 108 = .ok (.invokevirtual 64, 3) := by decide +kernel
theorem dX4_weightLeftOver_111 : decode cX4_weightLeftOver 111 = .ok (.lmul, 1) := by decide +kernel
theorem dX4_weightLeftOver_112 : decode cX4_weightLeftOver 112 = .ok (.ladd, 1) := by decide +kernel
theorem dX4_weightLeftOver_113 : decode cX4_weightLeftOver 113 = .ok (.lstore 5, 2) := by decide +kernel
theorem dX4_weightLeftOver_115 : decode cX4_weightLeftOver 115 = .ok (.lload 5, 2) := by decide +kernel
theorem dX4_weightLeftOver_117 : decode cX4_weightLeftOver 117 = .ok (.aload_n 2, 1) := by decide +kernel
theorem dX4_weightLeftOver_118 : decode cX4_weightLeftOver 118 = .ok (.bipush 6, 2) := by decide +kernel
theorem dX4_weightLeftOver_120 : decode cX4_weightLeftOver 120 = .ok (.iaload, 1) := by decide +kernel
theorem dX4_weightLeftOver_121 : decode cX4_weightLeftOver 121 = .ok (.i2l, 1) := by decide +kernel
theorem dX4_weightLeftOver_122 : decode cX4_weightLeftOver 122 = .ok (.aload_n 0, 1) := by decide +kernel
theorem dX4_weightLeftOver_123 : decode cX4_weightLeftOver 123 = .ok (.aload_n 1, 1) := by decide +kernel
theorem dX4_weightLeftOver_124 : decode cX4_weightLeftOver 124 = .ok (.aload_n 1, 1) := by decide +kernel
theorem dX4_weightLeftOver_125 : decode cX4_weightLeftOver 125 = .ok (.getfield 68, 3) := by decide +kernel
theorem dX4_weightLeftOver_128 : decode cX4_weightLeftOver 128 = .ok (.iload_n 3, 1) := by decide +kernel
theorem dX4_weightLeftOver_129 : decode cX4_weightLeftOver 129 = .ok (.iconst 1, 1) := by decide +kernel
theorem dX4_weightLeftOver_130 : decode cX4_weightLeftOver 130 = .ok (.iadd, 1) := by decide +kernel
theorem dX4_weightLeftOver_131 : decode cX4_weightLeftOver 131 = .ok (.iaload, 1) := by decide +kernel
theorem dX4_weightLeftOver_132 : decode cX4_weightLeftOver 132 = .ok (.invokevirtual 64, 3) := by decide +kernel
theorem dX4_weightLeftOver_135 : decode cX4_weightLeftOver 135 = .ok (.lmul, 1) := by decide +kernel
theorem dX4_weightLeftOver_136 : decode cX4_weightLeftOver 136 = .ok (.ladd, 1) := by decide +kernel
theorem dX4_weightLeftOver_137 : decode cX4_weightLeftOver 137 = .ok (.lstore 5, 2) := by decide +kernel
theorem dX4_weightLeftOver_139 : decode cX4_weightLeftOver 139 = .ok (.aload_n 0, 1) := by decide +kernel
theorem dX4_weightLeftOver_140 : decode cX4_weightLeftOver 140 = .ok (.getfield 25, 3) := by decide +kernel
theorem dX4_weightLeftOver_143 : decode cX4_weightLeftOver 143 = .ok (.iload_n 3, 1) := by decide +kernel
theorem dX4_weightLeftOver_144 : decode cX4_weightLeftOver 144 = .ok (.lload 5, 2) := by decide +kernel
theorem dX4_weightLeftOver_146 : decode cX4_weightLeftOver 146 = .ok (.ldc2_w 71, 3) := by decide +kernel
theorem dX4_weightLeftOver_149 : decode cX4_weightLeftOver 149 = .ok (.lrem, 1) := by decide +kernel
theorem dX4_weightLeftOver_150 : decode cX4_weightLeftOver 150 = .ok (.lastore, 1) := by decide +kernel
theorem dX4_weightLeftOver_151 : decode cX4_weightLeftOver 151 = .ok (.iinc 3 (-1), 3) := by decide +kernel
theorem dX4_weightLeftOver_154 : decode cX4_weightLeftOver 154 = .ok (.goto (-147), 3) := by decide +kernel
theorem dX4_weightLeftOver_157 : decode cX4_weightLeftOver 157 = .ok (.aload_n 0, 1) := by decide +kernel
theorem dX4_weightLeftOver_158 : decode cX4_weightLeftOver 158 = .ok (.getfield 25, 3) := by decide +kernel
theorem dX4_weightLeftOver_161 : decode cX4_weightLeftOver 161 = .ok (.iconst 0, 1) := by decide +kernel
theorem dX4_weightLeftOver_162 : decode cX4_weightLeftOver 162 = .ok (.laload, 1) := by decide +kernel
theorem dX4_weightLeftOver_163 : decode cX4_weightLeftOver 163 = .ok (.l2i, 1) := by decide +kernel
theorem dX4_weightLeftOver_164 : decode cX4_weightLeftOver 164 = .ok (.ireturn, 1) := by decide +kernel
theorem dX4_totalAt_0 : decode cX4_totalAt 0 = .ok (.iload_n 2, 1) := by decide +kernel
theorem dX4_totalAt_1 : decode cX4_totalAt 1 = .ok (.ifCond .lt 20, 3) := by decide +kernel
theorem dX4_totalAt_4 : decode cX4_totalAt 4 = .ok (.iload_n 2, 1) := by decide +kernel
theorem dX4_totalAt_5 : decode cX4_totalAt 5 = .ok (.aload_n 1, 1) := by decide +kernel
theorem dX4_totalAt_6 : decode cX4_totalAt 6 = .ok (.getfield 52, 3) := by decide +kernel
theorem dX4_totalAt_9 : decode cX4_totalAt 9 = .ok (.if_icmp .ge 12, 3) := by decide +kernel
theorem dX4_totalAt_12 : decode cX4_totalAt 12 = .ok (.aload_n 0, 1) := by decide +kernel
theorem dX4_totalAt_13 : decode cX4_totalAt 13 = .ok (.getfield 25, 3) := by decide +kernel
theorem dX4_totalAt_16 : decode cX4_totalAt 16 = .ok (.iload_n 2, 1) := by decide +kernel
theorem dX4_totalAt_17 : decode cX4_totalAt 17 = .ok (.laload, 1) := by decide +kernel
theorem dX4_totalAt_18 : decode cX4_totalAt 18 = .ok (.goto 4, 3) := by decide +kernel
theorem dX4_totalAt_21 : decode cX4_totalAt 21 = .ok (.lconst 0, 1) := by decide +kernel
theorem dX4_totalAt_22 : decode cX4_totalAt 22 = .ok (.lreturn, 1) := by decide +kernel
theorem dX4_leastWeights_0 : decode cX4_leastWeights 0 = .ok (.iload_n 3, 1) := by decide +kernel
theorem dX4_leastWeights_1 : decode cX4_leastWeights 1 = .ok (.iconst (-1), 1) := by decide +kernel
theorem dX4_leastWeights_2 : decode cX4_leastWeights 2 = .ok (.if_icmp .ne 7, 3) := by decide +kernel
theorem dX4_leastWeights_5 : decode cX4_leastWeights 5 = .ok (.iconst 1, 1) := by decide +kernel
theorem dX4_leastWeights_6 : decode cX4_leastWeights 6 = .ok (.goto 4, 3) := by decide +kernel
theorem dX4_leastWeights_9 : decode cX4_leastWeights 9 = .ok (.iconst 0, 1) := by decide +kernel
theorem dX4_leastWeights_10 : decode cX4_leastWeights 10 = .ok (.istore 4, 2) := by decide +kernel
theorem dX4_leastWeights_12 : decode cX4_leastWeights 12 = .ok (.iload_n 3, 1) := by decide +kernel
theorem dX4_leastWeights_13 : decode cX4_leastWeights 13 = .ok (.iconst (-1), 1) := by decide +kernel
theorem dX4_leastWeights_14 : decode cX4_leastWeights 14 = .ok (.if_icmp .ne 7, 3) := by decide +kernel
theorem dX4_leastWeights_17 : decode cX4_leastWeights 17 = .ok (.iconst 3, 1) := by decide +kernel
theorem dX4_leastWeights_18 : decode cX4_leastWeights 18 = .ok (.goto 4, 3) := by decide +kernel
theorem dX4_leastWeights_21 : decode cX4_leastWeights 21 = .ok (.iconst 2, 1) := by decide +kernel
theorem dX4_leastWeights_22 : decode cX4_leastWeights 22 = .ok (.istore 5, 2) := by decide +kernel
theorem dX4_leastWeights_24 : decode cX4_leastWeights 24 = .ok (.iconst (-1), 1) := by decide +kernel
theorem dX4_leastWeights_25 : decode cX4_leastWeights 25 = .ok (.istore 6, 2) := by decide +kernel
theorem dX4_leastWeights_27 : decode cX4_leastWeights 27 = .ok (.iload 4, 2) := by decide +kernel
theorem dX4_leastWeights_29 : decode cX4_leastWeights 29 = .ok (.istore 7, 2) := by decide +kernel
theorem dX4_leastWeights_31 : decode cX4_leastWeights 31 = .ok (.iload 7, 2) := by decide +kernel
theorem dX4_leastWeights_33 : decode cX4_leastWeights 33 = .ok (.iload 4, 2) := by decide +kernel
theorem dX4_leastWeights_35 : decode cX4_leastWeights 35 = .ok (.iconst 2, 1) := by decide +kernel
theorem dX4_leastWeights_36 : decode cX4_leastWeights 36 = .ok (.iadd, 1) := by decide +kernel
theorem dX4_leastWeights_37 : decode cX4_leastWeights 37 = .ok (.if_icmp .gt 87, 3) := by decide +kernel
theorem dX4_leastWeights_40 : decode cX4_leastWeights 40 = .ok (.iload 4, 2) := by decide +kernel
theorem dX4_leastWeights_42 : decode cX4_leastWeights 42 = .ok (.istore 8, 2) := by decide +kernel
theorem dX4_leastWeights_44 : decode cX4_leastWeights 44 = .ok (.iload 8, 2) := by decide +kernel
theorem dX4_leastWeights_46 : decode cX4_leastWeights 46 = .ok (.iload 4, 2) := by decide +kernel
theorem dX4_leastWeights_48 : decode cX4_leastWeights 48 = .ok (.iconst 2, 1) := by decide +kernel
theorem dX4_leastWeights_49 : decode cX4_leastWeights 49 = .ok (.iadd, 1) := by decide +kernel
theorem dX4_leastWeights_50 : decode cX4_leastWeights 50 = .ok (.if_icmp .gt 68, 3) := by decide +kernel
theorem dX4_leastWeights_53 : decode cX4_leastWeights 53 = .ok (.iload 4, 2) := by decide +kernel
theorem dX4_leastWeights_55 : decode cX4_leastWeights 55 = .ok (.istore 9, 2) := by decide +kernel
theorem dX4_leastWeights_57 : decode cX4_leastWeights 57 = .ok (.iload 9, 2) := by decide +kernel
theorem dX4_leastWeights_59 : decode cX4_leastWeights 59 = .ok (.iload 4, 2) := by decide +kernel
theorem dX4_leastWeights_61 : decode cX4_leastWeights 61 = .ok (.iconst 2, 1) := by decide +kernel
theorem dX4_leastWeights_62 : decode cX4_leastWeights 62 = .ok (.iadd, 1) := by decide +kernel
theorem dX4_leastWeights_63 : decode cX4_leastWeights 63 = .ok (.if_icmp .gt 49, 3) := by decide +kernel
theorem dX4_leastWeights_66 : decode cX4_leastWeights 66 = .ok (.aload_n 0, 1) := by decide +kernel
theorem dX4_leastWeights_67 : decode cX4_leastWeights 67 = .ok (.aload_n 1, 1) := by decide +kernel
theorem dX4_leastWeights_68 : decode cX4_leastWeights 68 = .ok (.aload_n 2, 1) := by decide +kernel
theorem dX4_leastWeights_69 : decode cX4_leastWeights 69 = .ok (.iload_n 3, 1) := by decide +kernel
theorem dX4_leastWeights_70 : decode cX4_leastWeights 70 = .ok (.iload 7, 2) := by decide +kernel
theorem dX4_leastWeights_72 : decode cX4_leastWeights 72 = .ok (.iload 8, 2) := by decide +kernel
theorem dX4_leastWeights_74 : decode cX4_leastWeights 74 = .ok (.iload 9, 2) := by decide +kernel
theorem dX4_leastWeights_76 : decode cX4_leastWeights 76 = .ok (.invokevirtual 73, 3) := by decide +kernel
theorem dX4_leastWeights_79 : decode cX4_leastWeights 79 = .ok (.ifCond .eq 27, 3) := by decide +kernel
theorem dX4_leastWeights_82 : decode cX4_leastWeights 82 = .ok (.aload_n 0, 1) := by decide +kernel
theorem dX4_leastWeights_83 : decode cX4_leastWeights 83 = .ok (.bipush 100, 2) := by decide +kernel
theorem dX4_leastWeights_85 : decode cX4_leastWeights 85 = .ok (.iload 7, 2) := by decide +kernel
theorem dX4_leastWeights_87 : decode cX4_leastWeights 87 = .ok (.imul, 1) := by decide +kernel
theorem dX4_leastWeights_88 : decode cX4_leastWeights 88 = .ok (.bipush 10, 2) := by decide +kernel
theorem dX4_leastWeights_90 : decode cX4_leastWeights 90 = .ok (.iload 8, 2) := by decide +kernel
theorem dX4_leastWeights_92 : decode cX4_leastWeights 92 = .ok (.imul, 1) := by decide +kernel
theorem dX4_leastWeights_93 : decode cX4_leastWeights 93 = .ok (.iadd, 1) := by decide +kernel
theorem dX4_leastWeights_94 : decode cX4_leastWeights 94 = .ok (.iload 9, 2) := by decide +kernel
theorem dX4_leastWeights_96 : decode cX4_leastWeights 96 = .ok (.iadd, 1) := by decide +kernel
theorem dX4_leastWeights_97 : decode cX4_leastWeights 97 = .ok (.iload 5, 2) := by decide +kernel
theorem dX4_leastWeights_99 : decode cX4_leastWeights 99 = .ok (.iload 6, 2) := by decide +kernel
theorem dX4_leastWeights_101 : decode cX4_leastWeights 101 = .ok (.invokevirtual 77, 3) := by decide +kernel
theorem dX4_leastWeights_104 : decode cX4_leastWeights 104 = .ok (.istore 6, 2) := by decide +kernel
theorem dX4_leastWeights_106 : decode cX4_leastWeights 106 = .ok (.iinc 9 1, 3) := by decide +kernel
theorem dX4_leastWeights_109 : decode cX4_leastWeights 109 = .ok (.goto (-52), 3) := by decide +kernel
theorem dX4_leastWeights_112 : decode cX4_leastWeights 112 = .ok (.iinc 8 1, 3) := by decide +kernel
theorem dX4_leastWeights_115 : decode cX4_leastWeights 115 = .ok (.goto (-71), 3) := by decide +kernel
theorem dX4_leastWeights_118 : decode cX4_leastWeights 118 = .ok (.iinc 7 1, 3) := by decide +kernel
theorem dX4_leastWeights_121 : decode cX4_leastWeights 121 = .ok (.goto (-90), 3) := by decide +kernel
theorem dX4_leastWeights_124 : decode cX4_leastWeights 124 = .ok (.iload 6, 2) := by decide +kernel
theorem dX4_leastWeights_126 : decode cX4_leastWeights 126 = .ok (.ireturn, 1) := by decide +kernel
theorem dX4_fillRows_0 : decode cX4_fillRows 0 = .ok (.aload_n 0, 1) := by decide +kernel
theorem dX4_fillRows_1 : decode cX4_fillRows 1 = .ok (.iconst 0, 1) := by decide +kernel
theorem dX4_fillRows_2 : decode cX4_fillRows 2 = .ok (.putfield 40, 3) := by decide +kernel
theorem dX4_fillRows_5 : decode cX4_fillRows 5 = .ok (.iconst 0, 1) := by decide +kernel
theorem dX4_fillRows_6 : decode cX4_fillRows 6 = .ok (.istore 7, 2) := by decide +kernel
theorem dX4_fillRows_8 : decode cX4_fillRows 8 = .ok (.iload 7, 2) := by decide +kernel
theorem dX4_fillRows_10 : decode cX4_fillRows 10 = .ok (.aload_n 1, 1) := by decide +kernel
theorem dX4_fillRows_11 : decode cX4_fillRows 11 = .ok (.getfield 81, 3) := by decide +kernel
theorem dX4_fillRows_14 : decode cX4_fillRows 14 = .ok (.if_icmp .ge 93, 3) := by decide +kernel
theorem dX4_fillRows_17 : decode cX4_fillRows 17 = .ok (.aload_n 0, 1) := by decide +kernel
theorem dX4_fillRows_18 : decode cX4_fillRows 18 = .ok (.getfield 12, 3) := by decide +kernel
theorem dX4_fillRows_21 : decode cX4_fillRows 21 = .ok (.aload_n 1, 1) := by decide +kernel
theorem dX4_fillRows_22 : decode cX4_fillRows 22 = .ok (.getfield 86, 3) := by decide +kernel
theorem dX4_fillRows_25 : decode cX4_fillRows 25 = .ok (.iload 7, 2) := by decide +kernel
theorem dX4_fillRows_27 : decode cX4_fillRows 27 = .ok (.aaload, 1) := by decide +kernel
theorem dX4_fillRows_28 : decode cX4_fillRows 28 = .ok (.getfield 29, 3) := by decide +kernel
theorem dX4_fillRows_31 : decode cX4_fillRows 31 = .ok (.iload 4, 2) := by decide +kernel
theorem dX4_fillRows_33 : decode cX4_fillRows 33 = .ok (.iload 5, 2) := by decide +kernel
theorem dX4_fillRows_35 : decode cX4_fillRows 35 = .ok (.iload 6, 2) := by decide +kernel
theorem dX4_fillRows_37 : decode cX4_fillRows 37 = .ok (.invokevirtual 34, 3) := by decide +kernel
theorem dX4_fillRows_40 : decode cX4_fillRows 40 = .ok (.aload_n 0, 1) := by decide +kernel
theorem dX4_fillRows_41 : decode cX4_fillRows 41 = .ok (.getfield 18, 3) := by decide +kernel
theorem dX4_fillRows_44 : decode cX4_fillRows 44 = .ok (.aload_n 1, 1) := by decide +kernel
theorem dX4_fillRows_45 : decode cX4_fillRows 45 = .ok (.getfield 86, 3) := by decide +kernel
theorem dX4_fillRows_48 : decode cX4_fillRows 48 = .ok (.iload 7, 2) := by decide +kernel
theorem dX4_fillRows_50 : decode cX4_fillRows 50 = .ok (.aaload, 1) := by decide +kernel
theorem dX4_fillRows_51 : decode cX4_fillRows 51 = .ok (.getfield 38, 3) := by decide +kernel
theorem dX4_fillRows_54 : decode cX4_fillRows 54 = .ok (.iload 4, 2) := by decide +kernel
theorem dX4_fillRows_56 : decode cX4_fillRows 56 = .ok (.iload 5, 2) := by decide +kernel
theorem dX4_fillRows_58 : decode cX4_fillRows 58 = .ok (.iload 6, 2) := by decide +kernel
theorem dX4_fillRows_60 : decode cX4_fillRows 60 = .ok (.invokevirtual 34, 3) := by decide +kernel
theorem dX4_fillRows_63 : decode cX4_fillRows 63 = .ok (.aload_n 0, 1) := by decide +kernel
theorem dX4_fillRows_64 : decode cX4_fillRows 64 = .ok (.iconst 0, 1) := by decide +kernel
theorem dX4_fillRows_65 : decode cX4_fillRows 65 = .ok (.iload_n 3, 1) := by decide +kernel
theorem dX4_fillRows_66 : decode cX4_fillRows 66 = .ok (.iconst (-1), 1) := by decide +kernel
theorem dX4_fillRows_67 : decode cX4_fillRows 67 = .ok (.if_icmp .ne 7, 3) := by decide +kernel
theorem dX4_fillRows_70 : decode cX4_fillRows 70 = .ok (.iconst 1, 1) := by decide +kernel
theorem dX4_fillRows_71 : decode cX4_fillRows 71 = .ok (.goto 4, 3) := by decide +kernel
theorem dX4_fillRows_74 : decode cX4_fillRows 74 = .ok (.iconst 0, 1) := by decide +kernel
theorem dX4_fillRows_75 : decode cX4_fillRows 75 = .ok (.invokevirtual 44, 3) := by decide +kernel
theorem dX4_fillRows_78 : decode cX4_fillRows 78 = .ok (.ifCond .ne 5, 3) := by decide +kernel
theorem dX4_fillRows_81 : decode cX4_fillRows 81 = .ok (.iconst 0, 1) := by decide +kernel
theorem dX4_fillRows_82 : decode cX4_fillRows 82 = .ok (.ireturn, 1) := by decide +kernel
theorem dX4_fillRows_83 : decode cX4_fillRows 83 = .ok (.iload_n 3, 1) := by decide +kernel
theorem dX4_fillRows_84 : decode cX4_fillRows 84 = .ok (.iconst (-1), 1) := by decide +kernel
theorem dX4_fillRows_85 : decode cX4_fillRows 85 = .ok (.if_icmp .eq 16, 3) := by decide +kernel
theorem dX4_fillRows_88 : decode cX4_fillRows 88 = .ok (.aload_n 0, 1) := by decide +kernel
theorem dX4_fillRows_89 : decode cX4_fillRows 89 = .ok (.aload_n 2, 1) := by decide +kernel
theorem dX4_fillRows_90 : decode cX4_fillRows 90 = .ok (.iload_n 3, 1) := by decide +kernel
theorem dX4_fillRows_91 : decode cX4_fillRows 91 = .ok (.iload 7, 2) := by decide +kernel
theorem dX4_fillRows_93 : decode cX4_fillRows 93 = .ok (.invokevirtual 90, 3) := by decide +kernel
theorem dX4_fillRows_96 : decode cX4_fillRows 96 = .ok (.ifCond .ne 5, 3) := by decide +kernel
theorem dX4_fillRows_99 : decode cX4_fillRows 99 = .ok (.iconst 0, 1) := by decide +kernel
theorem dX4_fillRows_100 : decode cX4_fillRows 100 = .ok (.ireturn, 1) := by decide +kernel
theorem dX4_fillRows_101 : decode cX4_fillRows 101 = .ok (.iinc 7 1, 3) := by decide +kernel
theorem dX4_fillRows_104 : decode cX4_fillRows 104 = .ok (.goto (-96), 3) := by decide +kernel
theorem dX4_fillRows_107 : decode cX4_fillRows 107 = .ok (.iconst 1, 1) := by decide +kernel
theorem dX4_fillRows_108 : decode cX4_fillRows 108 = .ok (.ireturn, 1) := by decide +kernel
theorem dX4_addCallRows_0 : decode cX4_addCallRows 0 = .ok (.iconst 0, 1) := by decide +kernel
theorem dX4_addCallRows_1 : decode cX4_addCallRows 1 = .ok (.istore 4, 2) := by decide +kernel
theorem dX4_addCallRows_3 : decode cX4_addCallRows 3 = .ok (.iload 4, 2) := by decide +kernel
theorem dX4_addCallRows_5 : decode cX4_addCallRows 5 = .ok (.aload_n 1, 1) := by decide +kernel
theorem dX4_addCallRows_6 : decode cX4_addCallRows 6 = .ok (.getfield 94, 3) := by decide +kernel
theorem dX4_addCallRows_9 : decode cX4_addCallRows 9 = .ok (.if_icmp .ge 48, 3) := by decide +kernel
theorem dX4_addCallRows_12 : decode cX4_addCallRows 12 = .ok (.aload_n 1, 1) := by decide +kernel
theorem dX4_addCallRows_13 : decode cX4_addCallRows 13 = .ok (.getfield 97, 3) := by decide +kernel
theorem dX4_addCallRows_16 : decode cX4_addCallRows 16 = .ok (.iload 4, 2) := by decide +kernel
theorem dX4_addCallRows_18 : decode cX4_addCallRows 18 = .ok (.iaload, 1) := by decide +kernel
theorem dX4_addCallRows_19 : decode cX4_addCallRows 19 = .ok (.iload_n 3, 1) := by decide +kernel
theorem dX4_addCallRows_20 : decode cX4_addCallRows 20 = .ok (.if_icmp .ne 31, 3) := by decide +kernel
theorem dX4_addCallRows_23 : decode cX4_addCallRows 23 = .ok (.aload_n 1, 1) := by decide +kernel
theorem dX4_addCallRows_24 : decode cX4_addCallRows 24 = .ok (.getfield 100, 3) := by decide +kernel
theorem dX4_addCallRows_27 : decode cX4_addCallRows 27 = .ok (.iload 4, 2) := by decide +kernel
theorem dX4_addCallRows_29 : decode cX4_addCallRows 29 = .ok (.iaload, 1) := by decide +kernel
theorem dX4_addCallRows_30 : decode cX4_addCallRows 30 = .ok (.iload_n 2, 1) := by decide +kernel
theorem dX4_addCallRows_31 : decode cX4_addCallRows 31 = .ok (.if_icmp .ne 20, 3) := by decide +kernel
theorem dX4_addCallRows_34 : decode cX4_addCallRows 34 = .ok (.aload_n 0, 1) := by decide +kernel
theorem dX4_addCallRows_35 : decode cX4_addCallRows 35 = .ok (.aload_n 1, 1) := by decide +kernel
theorem dX4_addCallRows_36 : decode cX4_addCallRows 36 = .ok (.getfield 103, 3) := by decide +kernel
theorem dX4_addCallRows_39 : decode cX4_addCallRows 39 = .ok (.iload 4, 2) := by decide +kernel
theorem dX4_addCallRows_41 : decode cX4_addCallRows 41 = .ok (.iaload, 1) := by decide +kernel
theorem dX4_addCallRows_42 : decode cX4_addCallRows 42 = .ok (.iconst 1, 1) := by decide +kernel
theorem dX4_addCallRows_43 : decode cX4_addCallRows 43 = .ok (.invokevirtual 44, 3) := by decide +kernel
theorem dX4_addCallRows_46 : decode cX4_addCallRows 46 = .ok (.ifCond .ne 5, 3) := by decide +kernel
theorem dX4_addCallRows_49 : decode cX4_addCallRows 49 = .ok (.iconst 0, 1) := by decide +kernel
theorem dX4_addCallRows_50 : decode cX4_addCallRows 50 = .ok (.ireturn, 1) := by decide +kernel
theorem dX4_addCallRows_51 : decode cX4_addCallRows 51 = .ok (.iinc 4 1, 3) := by decide +kernel
theorem dX4_addCallRows_54 : decode cX4_addCallRows 54 = .ok (.goto (-51), 3) := by decide +kernel
theorem dX4_addCallRows_57 : decode cX4_addCallRows 57 = .ok (.iconst 1, 1) := by decide +kernel
theorem dX4_addCallRows_58 : decode cX4_addCallRows 58 = .ok (.ireturn, 1) := by decide +kernel
theorem dX4_addRow_0 : decode cX4_addRow 0 = .ok (.iload_n 1, 1) := by decide +kernel
theorem dX4_addRow_1 : decode cX4_addRow 1 = .ok (.bipush 6, 2) := by decide +kernel
theorem dX4_addRow_3 : decode cX4_addRow 3 = .ok (.imul, 1) := by decide +kernel
theorem dX4_addRow_4 : decode cX4_addRow 4 = .ok (.istore_n 3, 1) := by decide +kernel
theorem dX4_addRow_5 : decode cX4_addRow 5 = .ok (.iload_n 3, 1) := by decide +kernel
theorem dX4_addRow_6 : decode cX4_addRow 6 = .ok (.ifCond .lt 18, 3) := by decide +kernel
theorem dX4_addRow_9 : decode cX4_addRow 9 = .ok (.iload_n 3, 1) := by decide +kernel
theorem dX4_addRow_10 : decode cX4_addRow 10 = .ok (.bipush 6, 2) := by decide +kernel
theorem dX4_addRow_12 : decode cX4_addRow 12 = .ok (.iadd, 1) := by decide +kernel
theorem dX4_addRow_13 : decode cX4_addRow 13 = .ok (.aload_n 0, 1) := by decide +kernel
theorem dX4_addRow_14 : decode cX4_addRow 14 = .ok (.getfield 18, 3) := by decide +kernel
theorem dX4_addRow_17 : decode cX4_addRow 17 = .ok (.getfield 106, 3) := by decide +kernel
theorem dX4_addRow_20 : decode cX4_addRow 20 = .ok (.arraylength, 1) := by decide +kernel
theorem dX4_addRow_21 : decode cX4_addRow 21 = .ok (.if_icmp .le 5, 3) := by decide +kernel
theorem dX4_addRow_24 : decode cX4_addRow 24 = .ok (.iconst 0, 1) := by decide +kernel
theorem dX4_addRow_25 : decode cX4_addRow 25 = .ok (.ireturn, 1) := by decide +kernel
theorem dX4_addRow_26 : decode cX4_addRow 26 = .ok (.aload_n 0, 1) := by decide +kernel
theorem dX4_addRow_27 : decode cX4_addRow 27 = .ok (.getfield 12, 3) := by decide +kernel
theorem dX4_addRow_30 : decode cX4_addRow 30 = .ok (.getfield 106, 3) := by decide +kernel
theorem dX4_addRow_33 : decode cX4_addRow 33 = .ok (.iconst 4, 1) := by decide +kernel
theorem dX4_addRow_34 : decode cX4_addRow 34 = .ok (.iaload, 1) := by decide +kernel
theorem dX4_addRow_35 : decode cX4_addRow 35 = .ok (.aload_n 0, 1) := by decide +kernel
theorem dX4_addRow_36 : decode cX4_addRow 36 = .ok (.getfield 18, 3) := by decide +kernel
theorem dX4_addRow_39 : decode cX4_addRow 39 = .ok (.getfield 106, 3) := by decide +kernel
theorem dX4_addRow_42 : decode cX4_addRow 42 = .ok (.iload_n 3, 1) := by decide +kernel
theorem dX4_addRow_43 : decode cX4_addRow 43 = .ok (.iconst 4, 1) := by decide +kernel
theorem dX4_addRow_44 : decode cX4_addRow 44 = .ok (.iadd, 1) := by decide +kernel
theorem dX4_addRow_45 : decode cX4_addRow 45 = .ok (.iaload, 1) := by decide +kernel
theorem dX4_addRow_46 : decode cX4_addRow 46 = .ok (.if_icmp .lt 26, 3) := by decide +kernel
theorem dX4_addRow_49 : decode cX4_addRow 49 = .ok (.aload_n 0, 1) := by decide +kernel
theorem dX4_addRow_50 : decode cX4_addRow 50 = .ok (.getfield 12, 3) := by decide +kernel
theorem dX4_addRow_53 : decode cX4_addRow 53 = .ok (.getfield 106, 3) := by decide +kernel
theorem dX4_addRow_56 : decode cX4_addRow 56 = .ok (.iconst 5, 1) := by decide +kernel
theorem dX4_addRow_57 : decode cX4_addRow 57 = .ok (.iaload, 1) := by decide +kernel
theorem dX4_addRow_58 : decode cX4_addRow 58 = .ok (.aload_n 0, 1) := by decide +kernel
theorem dX4_addRow_59 : decode cX4_addRow 59 = .ok (.getfield 18, 3) := by decide +kernel
theorem dX4_addRow_62 : decode cX4_addRow 62 = .ok (.getfield 106, 3) := by decide +kernel
theorem dX4_addRow_65 : decode cX4_addRow 65 = .ok (.iload_n 3, 1) := by decide +kernel
theorem dX4_addRow_66 : decode cX4_addRow 66 = .ok (.iconst 5, 1) := by decide +kernel
theorem dX4_addRow_67 : decode cX4_addRow 67 = .ok (.iadd, 1) := by decide +kernel
theorem dX4_addRow_68 : decode cX4_addRow 68 = .ok (.iaload, 1) := by decide +kernel
theorem dX4_addRow_69 : decode cX4_addRow 69 = .ok (.if_icmp .ge 5, 3) := by decide +kernel
theorem dX4_addRow_72 : decode cX4_addRow 72 = .ok (.iconst 0, 1) := by decide +kernel
theorem dX4_addRow_73 : decode cX4_addRow 73 = .ok (.ireturn, 1) := by decide +kernel
theorem dX4_addRow_74 : decode cX4_addRow 74 = .ok (.aload_n 0, 1) := by decide +kernel
theorem dX4_addRow_75 : decode cX4_addRow 75 = .ok (.getfield 40, 3) := by decide +kernel
theorem dX4_addRow_78 : decode cX4_addRow 78 = .ok (.iconst 5, 1) := by decide +kernel
theorem dX4_addRow_79 : decode cX4_addRow 79 = .ok (.imul, 1) := by decide +kernel
theorem dX4_addRow_80 : decode cX4_addRow 80 = .ok (.istore 4, 2) := by decide +kernel
theorem dX4_addRow_82 : decode cX4_addRow 82 = .ok (.iload 4, 2) := by decide +kernel
theorem dX4_addRow_84 : decode cX4_addRow 84 = .ok (.iconst 5, 1) := by decide +kernel
theorem dX4_addRow_85 : decode cX4_addRow 85 = .ok (.iadd, 1) := by decide +kernel
theorem dX4_addRow_86 : decode cX4_addRow 86 = .ok (.aload_n 0, 1) := by decide +kernel
theorem dX4_addRow_87 : decode cX4_addRow 87 = .ok (.getfield 21, 3) := by decide +kernel
theorem dX4_addRow_90 : decode cX4_addRow 90 = .ok (.arraylength, 1) := by decide +kernel
theorem dX4_addRow_91 : decode cX4_addRow 91 = .ok (.if_icmp .le 5, 3) := by decide +kernel
theorem dX4_addRow_94 : decode cX4_addRow 94 = .ok (.iconst 0, 1) := by decide +kernel
theorem dX4_addRow_95 : decode cX4_addRow 95 = .ok (.ireturn, 1) := by decide +kernel
theorem dX4_addRow_96 : decode cX4_addRow 96 = .ok (.iconst 0, 1) := by decide +kernel
theorem dX4_addRow_97 : decode cX4_addRow 97 = .ok (.istore 5, 2) := by decide +kernel
theorem dX4_addRow_99 : decode cX4_addRow 99 = .ok (.iload 5, 2) := by decide +kernel
theorem dX4_addRow_101 : decode cX4_addRow 101 = .ok (.iconst 4, 1) := by decide +kernel
theorem dX4_addRow_102 : decode cX4_addRow 102 = .ok (.if_icmp .ge 42, 3) := by decide +kernel
theorem dX4_addRow_105 : decode cX4_addRow 105 = .ok (.aload_n 0, 1) := by decide +kernel
theorem dX4_addRow_106 : decode cX4_addRow 106 = .ok (.getfield 21, 3) := by decide +kernel
theorem dX4_addRow_109 : decode cX4_addRow 109 = .ok (.iload 4, 2) := by decide +kernel
theorem dX4_addRow_111 : decode cX4_addRow 111 = .ok (.iload 5, 2) := by decide +kernel
theorem dX4_addRow_113 : decode cX4_addRow 113 = .ok (.iadd, 1) := by decide +kernel
theorem dX4_addRow_114 : decode cX4_addRow 114 = .ok (.aload_n 0, 1) := by decide +kernel
theorem dX4_addRow_115 : decode cX4_addRow 115 = .ok (.getfield 12, 3) := by decide +kernel
theorem dX4_addRow_118 : decode cX4_addRow 118 = .ok (.getfield 106, 3) := by decide +kernel
theorem dX4_addRow_121 : decode cX4_addRow 121 = .ok (.iload 5, 2) := by decide +kernel
theorem dX4_addRow_123 : decode cX4_addRow 123 = .ok (.iaload, 1) := by decide +kernel
theorem dX4_addRow_124 : decode cX4_addRow 124 = .ok (.aload_n 0, 1) := by decide +kernel
theorem dX4_addRow_125 : decode cX4_addRow 125 = .ok (.getfield 18, 3) := by decide +kernel
theorem dX4_addRow_128 : decode cX4_addRow 128 = .ok (.getfield 106, 3) := by decide +kernel
theorem dX4_addRow_131 : decode cX4_addRow 131 = .ok (.iload_n 3, 1) := by decide +kernel
theorem dX4_addRow_132 : decode cX4_addRow 132 = .ok (.iload 5, 2) := by decide +kernel
theorem dX4_addRow_134 : decode cX4_addRow 134 = .ok (.iadd, 1) := by decide +kernel
theorem dX4_addRow_135 : decode cX4_addRow 135 = .ok (.iaload, 1) := by decide +kernel
theorem dX4_addRow_136 : decode cX4_addRow 136 = .ok (.isub, 1) := by decide +kernel
theorem dX4_addRow_137 : decode cX4_addRow 137 = .ok (.iastore, 1) := by decide +kernel
theorem dX4_addRow_138 : decode cX4_addRow 138 = .ok (.iinc 5 1, 3) := by decide +kernel
theorem dX4_addRow_141 : decode cX4_addRow 141 = .ok (.goto (-42), 3) := by decide +kernel
theorem dX4_addRow_144 : decode cX4_addRow 144 = .ok (.aload_n 0, 1) := by decide +kernel
theorem dX4_addRow_145 : decode cX4_addRow 145 = .ok (.getfield 21, 3) := by decide +kernel
theorem dX4_addRow_148 : decode cX4_addRow 148 = .ok (.iload 4, 2) := by decide +kernel
theorem dX4_addRow_150 : decode cX4_addRow 150 = .ok (.iconst 4, 1) := by decide +kernel
theorem dX4_addRow_151 : decode cX4_addRow 151 = .ok (.iadd, 1) := by decide +kernel
theorem dX4_addRow_152 : decode cX4_addRow 152 = .ok (.iload_n 2, 1) := by decide +kernel
theorem dX4_addRow_153 : decode cX4_addRow 153 = .ok (.iastore, 1) := by decide +kernel
theorem dX4_addRow_154 : decode cX4_addRow 154 = .ok (.aload_n 0, 1) := by decide +kernel
theorem dX4_addRow_155 : decode cX4_addRow 155 = .ok (.dup, 1) := by decide +kernel
theorem dX4_addRow_156 : decode cX4_addRow 156 = .ok (.getfield 40, 3) := by decide +kernel
theorem dX4_addRow_159 : decode cX4_addRow 159 = .ok (.iconst 1, 1) := by decide +kernel
theorem dX4_addRow_160 : decode cX4_addRow 160 = .ok (.iadd, 1) := by decide +kernel
theorem dX4_addRow_161 : decode cX4_addRow 161 = .ok (.putfield 40, 3) := by decide +kernel
theorem dX4_addRow_164 : decode cX4_addRow 164 = .ok (.iconst 1, 1) := by decide +kernel
theorem dX4_addRow_165 : decode cX4_addRow 165 = .ok (.ireturn, 1) := by decide +kernel
theorem dX4_leastByRows_0 : decode cX4_leastByRows 0 = .ok (.iconst 0, 1) := by decide +kernel
theorem dX4_leastByRows_1 : decode cX4_leastByRows 1 = .ok (.istore 4, 2) := by decide +kernel
theorem dX4_leastByRows_3 : decode cX4_leastByRows 3 = .ok (.iload 4, 2) := by decide +kernel
theorem dX4_leastByRows_5 : decode cX4_leastByRows 5 = .ok (.iload_n 2, 1) := by decide +kernel
theorem dX4_leastByRows_6 : decode cX4_leastByRows 6 = .ok (.if_icmp .gt 114, 3) := by decide +kernel
theorem dX4_leastByRows_9 : decode cX4_leastByRows 9 = .ok (.iconst 0, 1) := by decide +kernel
theorem dX4_leastByRows_10 : decode cX4_leastByRows 10 = .ok (.istore 5, 2) := by decide +kernel
theorem dX4_leastByRows_12 : decode cX4_leastByRows 12 = .ok (.iload 5, 2) := by decide +kernel
theorem dX4_leastByRows_14 : decode cX4_leastByRows 14 = .ok (.iload_n 2, 1) := by decide +kernel
theorem dX4_leastByRows_15 : decode cX4_leastByRows 15 = .ok (.if_icmp .gt 99, 3) := by decide +kernel
theorem dX4_leastByRows_18 : decode cX4_leastByRows 18 = .ok (.iconst 0, 1) := by decide +kernel
theorem dX4_leastByRows_19 : decode cX4_leastByRows 19 = .ok (.istore 6, 2) := by decide +kernel
theorem dX4_leastByRows_21 : decode cX4_leastByRows 21 = .ok (.iload 6, 2) := by decide +kernel
theorem dX4_leastByRows_23 : decode cX4_leastByRows 23 = .ok (.iload_n 2, 1) := by decide +kernel
theorem dX4_leastByRows_24 : decode cX4_leastByRows 24 = .ok (.if_icmp .gt 84, 3) := by decide +kernel
theorem dX4_leastByRows_27 : decode cX4_leastByRows 27 = .ok (.iconst 0, 1) := by decide +kernel
theorem dX4_leastByRows_28 : decode cX4_leastByRows 28 = .ok (.istore 7, 2) := by decide +kernel
theorem dX4_leastByRows_30 : decode cX4_leastByRows 30 = .ok (.iload 7, 2) := by decide +kernel
theorem dX4_leastByRows_32 : decode cX4_leastByRows 32 = .ok (.iload_n 2, 1) := by decide +kernel
theorem dX4_leastByRows_33 : decode cX4_leastByRows 33 = .ok (.if_icmp .gt 69, 3) := by decide +kernel
theorem dX4_leastByRows_36 : decode cX4_leastByRows 36 = .ok (.sipush 1000, 3) := by decide +kernel
theorem dX4_leastByRows_39 : decode cX4_leastByRows 39 = .ok (.sipush 1000, 3) := by decide +kernel
theorem dX4_leastByRows_42 : decode cX4_leastByRows 42 = .ok (.iload 4, 2) := by decide +kernel
theorem dX4_leastByRows_44 : decode cX4_leastByRows 44 = .ok (.imul, 1) := by decide +kernel
theorem dX4_leastByRows_45 : decode cX4_leastByRows 45 = .ok (.bipush 100, 2) := by decide +kernel
theorem dX4_leastByRows_47 : decode cX4_leastByRows 47 = .ok (.iload 5, 2) := by decide +kernel
theorem dX4_leastByRows_49 : decode cX4_leastByRows 49 = .ok (.imul, 1) := by decide +kernel
theorem dX4_leastByRows_50 : decode cX4_leastByRows 50 = .ok (.iadd, 1) := by decide +kernel
theorem dX4_leastByRows_51 : decode cX4_leastByRows 51 = .ok (.bipush 10, 2) := by decide +kernel
theorem dX4_leastByRows_53 : decode cX4_leastByRows 53 = .ok (.iload 6, 2) := by decide +kernel
theorem dX4_leastByRows_55 : decode cX4_leastByRows 55 = .ok (.imul, 1) := by decide +kernel
theorem dX4_leastByRows_56 : decode cX4_leastByRows 56 = .ok (.iadd, 1) := by decide +kernel
theorem dX4_leastByRows_57 : decode cX4_leastByRows 57 = .ok (.iload 7, 2) := by decide +kernel
theorem dX4_leastByRows_59 : decode cX4_leastByRows 59 = .ok (.iadd, 1) := by decide +kernel
theorem dX4_leastByRows_60 : decode cX4_leastByRows 60 = .ok (.imul, 1) := by decide +kernel
theorem dX4_leastByRows_61 : decode cX4_leastByRows 61 = .ok (.iload_n 1, 1) := by decide +kernel
theorem dX4_leastByRows_62 : decode cX4_leastByRows 62 = .ok (.iadd, 1) := by decide +kernel
theorem dX4_leastByRows_63 : decode cX4_leastByRows 63 = .ok (.istore 8, 2) := by decide +kernel
theorem dX4_leastByRows_65 : decode cX4_leastByRows 65 = .ok (.iload_n 3, 1) := by decide +kernel
theorem dX4_leastByRows_66 : decode cX4_leastByRows 66 = .ok (.iconst (-1), 1) := by decide +kernel
theorem dX4_leastByRows_67 : decode cX4_leastByRows 67 = .ok (.if_icmp .eq 11, 3) := by decide +kernel
theorem dX4_leastByRows_70 : decode cX4_leastByRows 70 = .ok (.iload 8, 2) := by decide +kernel
theorem dX4_leastByRows_72 : decode cX4_leastByRows 72 = .ok (.iload_n 3, 1) := by decide +kernel
theorem dX4_leastByRows_73 : decode cX4_leastByRows 73 = .ok (.if_icmp .le 5, 3) := by decide +kernel
theorem dX4_leastByRows_76 : decode cX4_leastByRows 76 = .ok (.iload_n 3, 1) := by decide +kernel
theorem dX4_leastByRows_77 : decode cX4_leastByRows 77 = .ok (.ireturn, 1) := by decide +kernel
theorem dX4_leastByRows_78 : decode cX4_leastByRows 78 = .ok (.aload_n 0, 1) := by decide +kernel
theorem dX4_leastByRows_79 : decode cX4_leastByRows 79 = .ok (.iload 4, 2) := by decide +kernel
theorem dX4_leastByRows_81 : decode cX4_leastByRows 81 = .ok (.iload 5, 2) := by decide +kernel
theorem dX4_leastByRows_83 : decode cX4_leastByRows 83 = .ok (.iload 6, 2) := by decide +kernel
theorem dX4_leastByRows_85 : decode cX4_leastByRows 85 = .ok (.iload 7, 2) := by decide +kernel
theorem dX4_leastByRows_87 : decode cX4_leastByRows 87 = .ok (.invokevirtual 109, 3) := by decide +kernel
theorem dX4_leastByRows_90 : decode cX4_leastByRows 90 = .ok (.ifCond .eq 6, 3) := by decide +kernel
theorem dX4_leastByRows_93 : decode cX4_leastByRows 93 = .ok (.iload 8, 2) := by decide +kernel
theorem dX4_leastByRows_95 : decode cX4_leastByRows 95 = .ok (.ireturn, 1) := by decide +kernel
theorem dX4_leastByRows_96 : decode cX4_leastByRows 96 = .ok (.iinc 7 1, 3) := by decide +kernel
theorem dX4_leastByRows_99 : decode cX4_leastByRows 99 = .ok (.goto (-69), 3) := by decide +kernel
theorem dX4_leastByRows_102 : decode cX4_leastByRows 102 = .ok (.iinc 6 1, 3) := by decide +kernel
theorem dX4_leastByRows_105 : decode cX4_leastByRows 105 = .ok (.goto (-84), 3) := by decide +kernel
theorem dX4_leastByRows_108 : decode cX4_leastByRows 108 = .ok (.iinc 5 1, 3) := by decide +kernel
theorem dX4_leastByRows_111 : decode cX4_leastByRows 111 = .ok (.goto (-99), 3) := by decide +kernel
theorem dX4_leastByRows_114 : decode cX4_leastByRows 114 = .ok (.iinc 4 1, 3) := by decide +kernel
theorem dX4_leastByRows_117 : decode cX4_leastByRows 117 = .ok (.goto (-114), 3) := by decide +kernel
theorem dX4_leastByRows_120 : decode cX4_leastByRows 120 = .ok (.iload_n 3, 1) := by decide +kernel
theorem dX4_leastByRows_121 : decode cX4_leastByRows 121 = .ok (.ireturn, 1) := by decide +kernel
theorem dX4_meetsRows_0 : decode cX4_meetsRows 0 = .ok (.iconst 0, 1) := by decide +kernel
theorem dX4_meetsRows_1 : decode cX4_meetsRows 1 = .ok (.istore 5, 2) := by decide +kernel
theorem dX4_meetsRows_3 : decode cX4_meetsRows 3 = .ok (.iload 5, 2) := by decide +kernel
theorem dX4_meetsRows_5 : decode cX4_meetsRows 5 = .ok (.aload_n 0, 1) := by decide +kernel
theorem dX4_meetsRows_6 : decode cX4_meetsRows 6 = .ok (.getfield 40, 3) := by decide +kernel
theorem dX4_meetsRows_9 : decode cX4_meetsRows 9 = .ok (.if_icmp .ge 36, 3) := by decide +kernel
theorem dX4_meetsRows_12 : decode cX4_meetsRows 12 = .ok (.aload_n 0, 1) := by decide +kernel
theorem dX4_meetsRows_13 : decode cX4_meetsRows 13 = .ok (.iload 5, 2) := by decide +kernel
theorem dX4_meetsRows_15 : decode cX4_meetsRows 15 = .ok (.iload_n 1, 1) := by decide +kernel
theorem dX4_meetsRows_16 : decode cX4_meetsRows 16 = .ok (.iload_n 2, 1) := by decide +kernel
theorem dX4_meetsRows_17 : decode cX4_meetsRows 17 = .ok (.iload_n 3, 1) := by decide +kernel
theorem dX4_meetsRows_18 : decode cX4_meetsRows 18 = .ok (.iload 4, 2) := by decide +kernel
theorem dX4_meetsRows_20 : decode cX4_meetsRows 20 = .ok (.invokevirtual 48, 3) := by decide +kernel
theorem dX4_meetsRows_23 : decode cX4_meetsRows 23 = .ok (.aload_n 0, 1) := by decide +kernel
theorem dX4_meetsRows_24 : decode cX4_meetsRows 24 = .ok (.getfield 21, 3) := by decide +kernel
theorem dX4_meetsRows_27 : decode cX4_meetsRows 27 = .ok (.iload 5, 2) := by decide +kernel
theorem dX4_meetsRows_29 : decode cX4_meetsRows 29 = .ok (.iconst 5, 1) := by decide +kernel
theorem dX4_meetsRows_30 : decode cX4_meetsRows 30 = .ok (.imul, 1) := by decide +kernel
theorem dX4_meetsRows_31 : decode cX4_meetsRows 31 = .ok (.iconst 4, 1) := by decide +kernel
theorem dX4_meetsRows_32 : decode cX4_meetsRows 32 = .ok (.iadd, 1) := by decide +kernel
theorem dX4_meetsRows_33 : decode cX4_meetsRows 33 = .ok (.iaload, 1) := by decide +kernel
theorem dX4_meetsRows_34 : decode cX4_meetsRows 34 = .ok (.if_icmp .ge 5, 3) := by decide +kernel
theorem dX4_meetsRows_37 : decode cX4_meetsRows 37 = .ok (.iconst 0, 1) := by decide +kernel
theorem dX4_meetsRows_38 : decode cX4_meetsRows 38 = .ok (.ireturn, 1) := by decide +kernel
theorem dX4_meetsRows_39 : decode cX4_meetsRows 39 = .ok (.iinc 5 1, 3) := by decide +kernel
theorem dX4_meetsRows_42 : decode cX4_meetsRows 42 = .ok (.goto (-39), 3) := by decide +kernel
theorem dX4_meetsRows_45 : decode cX4_meetsRows 45 = .ok (.iconst 1, 1) := by decide +kernel
theorem dX4_meetsRows_46 : decode cX4_meetsRows 46 = .ok (.ireturn, 1) := by decide +kernel
theorem dX4_sumOfRow_0 : decode cX4_sumOfRow 0 = .ok (.iload_n 1, 1) := by decide +kernel
theorem dX4_sumOfRow_1 : decode cX4_sumOfRow 1 = .ok (.iconst 5, 1) := by decide +kernel
theorem dX4_sumOfRow_2 : decode cX4_sumOfRow 2 = .ok (.imul, 1) := by decide +kernel
theorem dX4_sumOfRow_3 : decode cX4_sumOfRow 3 = .ok (.istore 6, 2) := by decide +kernel
theorem dX4_sumOfRow_5 : decode cX4_sumOfRow 5 = .ok (.iload_n 2, 1) := by decide +kernel
theorem dX4_sumOfRow_6 : decode cX4_sumOfRow 6 = .ok (.aload_n 0, 1) := by decide +kernel
theorem dX4_sumOfRow_7 : decode cX4_sumOfRow 7 = .ok (.getfield 21, 3) := by decide +kernel
theorem dX4_sumOfRow_10 : decode cX4_sumOfRow 10 = .ok (.iload 6, 2) := by decide +kernel
theorem dX4_sumOfRow_12 : decode cX4_sumOfRow 12 = .ok (.iaload, 1) := by decide +kernel
theorem dX4_sumOfRow_13 : decode cX4_sumOfRow 13 = .ok (.imul, 1) := by decide +kernel
theorem dX4_sumOfRow_14 : decode cX4_sumOfRow 14 = .ok (.iload_n 3, 1) := by decide +kernel
theorem dX4_sumOfRow_15 : decode cX4_sumOfRow 15 = .ok (.aload_n 0, 1) := by decide +kernel
theorem dX4_sumOfRow_16 : decode cX4_sumOfRow 16 = .ok (.getfield 21, 3) := by decide +kernel
theorem dX4_sumOfRow_19 : decode cX4_sumOfRow 19 = .ok (.iload 6, 2) := by decide +kernel
theorem dX4_sumOfRow_21 : decode cX4_sumOfRow 21 = .ok (.iconst 1, 1) := by decide +kernel
theorem dX4_sumOfRow_22 : decode cX4_sumOfRow 22 = .ok (.iadd, 1) := by decide +kernel
theorem dX4_sumOfRow_23 : decode cX4_sumOfRow 23 = .ok (.iaload, 1) := by decide +kernel
theorem dX4_sumOfRow_24 : decode cX4_sumOfRow 24 = .ok (.imul, 1) := by decide +kernel
theorem dX4_sumOfRow_25 : decode cX4_sumOfRow 25 = .ok (.iadd, 1) := by decide +kernel
theorem dX4_sumOfRow_26 : decode cX4_sumOfRow 26 = .ok (.iload 4, 2) := by decide +kernel
theorem dX4_sumOfRow_28 : decode cX4_sumOfRow 28 = .ok (.aload_n 0, 1) := by decide +kernel
theorem dX4_sumOfRow_29 : decode cX4_sumOfRow 29 = .ok (.getfield 21, 3) := by decide +kernel
theorem dX4_sumOfRow_32 : decode cX4_sumOfRow 32 = .ok (.iload 6, 2) := by decide +kernel
theorem dX4_sumOfRow_34 : decode cX4_sumOfRow 34 = .ok (.iconst 2, 1) := by decide +kernel
theorem dX4_sumOfRow_35 : decode cX4_sumOfRow 35 = .ok (.iadd, 1) := by decide +kernel
theorem dX4_sumOfRow_36 : decode cX4_sumOfRow 36 = .ok (.iaload, 1) := by decide +kernel
theorem dX4_sumOfRow_37 : decode cX4_sumOfRow 37 = .ok (.imul, 1) := by decide +kernel
theorem dX4_sumOfRow_38 : decode cX4_sumOfRow 38 = .ok (.iadd, 1) := by decide +kernel
theorem dX4_sumOfRow_39 : decode cX4_sumOfRow 39 = .ok (.iload 5, 2) := by decide +kernel
theorem dX4_sumOfRow_41 : decode cX4_sumOfRow 41 = .ok (.aload_n 0, 1) := by decide +kernel
theorem dX4_sumOfRow_42 : decode cX4_sumOfRow 42 = .ok (.getfield 21, 3) := by decide +kernel
theorem dX4_sumOfRow_45 : decode cX4_sumOfRow 45 = .ok (.iload 6, 2) := by decide +kernel
theorem dX4_sumOfRow_47 : decode cX4_sumOfRow 47 = .ok (.iconst 3, 1) := by decide +kernel
theorem dX4_sumOfRow_48 : decode cX4_sumOfRow 48 = .ok (.iadd, 1) := by decide +kernel
theorem dX4_sumOfRow_49 : decode cX4_sumOfRow 49 = .ok (.iaload, 1) := by decide +kernel
theorem dX4_sumOfRow_50 : decode cX4_sumOfRow 50 = .ok (.imul, 1) := by decide +kernel
theorem dX4_sumOfRow_51 : decode cX4_sumOfRow 51 = .ok (.iadd, 1) := by decide +kernel
theorem dX4_sumOfRow_52 : decode cX4_sumOfRow 52 = .ok (.ireturn, 1) := by decide +kernel
theorem dX5_init_0 : decode cX5_init 0 = .ok (.aload_n 0, 1) := by decide +kernel
theorem dX5_init_1 : decode cX5_init 1 = .ok (.invokespecial 3, 3) := by decide +kernel
theorem dX5_init_4 : decode cX5_init 4 = .ok (.aload_n 0, 1) := by decide +kernel
theorem dX5_init_5 : decode cX5_init 5 = .ok (.bipush 97, 2) := by decide +kernel
theorem dX5_init_7 : decode cX5_init 7 = .ok (.newarray .int, 2) := by decide +kernel
theorem dX5_init_9 : decode cX5_init 9 = .ok (.putfield 9, 3) := by decide +kernel
theorem dX5_init_12 : decode cX5_init 12 = .ok (.return_, 1) := by decide +kernel
theorem dX5_writeRule_0 : decode cX5_writeRule 0 = .ok (.aload_n 0, 1) := by decide +kernel
theorem dX5_writeRule_1 : decode cX5_writeRule 1 = .ok (.iconst 0, 1) := by decide +kernel
theorem dX5_writeRule_2 : decode cX5_writeRule 2 = .ok (.putfield 15, 3) := by decide +kernel
theorem dX5_writeRule_5 : decode cX5_writeRule 5 = .ok (.aload_n 0, 1) := by decide +kernel
theorem dX5_writeRule_6 : decode cX5_writeRule 6 = .ok (.aload_n 1, 1) := by decide +kernel
theorem dX5_writeRule_7 : decode cX5_writeRule 7 = .ok (.getfield 19, 3) := by decide +kernel
theorem dX5_writeRule_10 : decode cX5_writeRule 10 = .ok (.invokevirtual 25, 3) := by decide +kernel
theorem dX5_writeRule_13 : decode cX5_writeRule 13 = .ok (.aload_n 0, 1) := by decide +kernel
theorem dX5_writeRule_14 : decode cX5_writeRule 14 = .ok (.bipush 62, 2) := by decide +kernel
theorem dX5_writeRule_16 : decode cX5_writeRule 16 = .ok (.invokevirtual 29, 3) := by decide +kernel
theorem dX5_writeRule_19 : decode cX5_writeRule 19 = .ok (.aload_n 0, 1) := by decide +kernel
theorem dX5_writeRule_20 : decode cX5_writeRule 20 = .ok (.aload_n 1, 1) := by decide +kernel
theorem dX5_writeRule_21 : decode cX5_writeRule 21 = .ok (.getfield 33, 3) := by decide +kernel
theorem dX5_writeRule_24 : decode cX5_writeRule 24 = .ok (.invokevirtual 25, 3) := by decide +kernel
theorem dX5_writeRule_27 : decode cX5_writeRule 27 = .ok (.return_, 1) := by decide +kernel
theorem dX5_writeSide_0 : decode cX5_writeSide 0 = .ok (.iconst 0, 1) := by decide +kernel
theorem dX5_writeSide_1 : decode cX5_writeSide 1 = .ok (.istore_n 2, 1) := by decide +kernel
theorem dX5_writeSide_2 : decode cX5_writeSide 2 = .ok (.iload_n 2, 1) := by decide +kernel
theorem dX5_writeSide_3 : decode cX5_writeSide 3 = .ok (.aload_n 1, 1) := by decide +kernel
theorem dX5_writeSide_4 : decode cX5_writeSide 4 = .ok (.getfield 36, 3) := by decide +kernel
theorem dX5_writeSide_7 : decode cX5_writeSide 7 = .ok (.if_icmp .ge 48, 3) := by decide +kernel
theorem dX5_writeSide_10 : decode cX5_writeSide 10 = .ok (.aload_n 0, 1) := by decide +kernel
theorem dX5_writeSide_11 : decode cX5_writeSide 11 = .ok (.aload_n 1, 1) := by decide +kernel
theorem dX5_writeSide_12 : decode cX5_writeSide 12 = .ok (.getfield 39, 3) := by decide +kernel
theorem dX5_writeSide_15 : decode cX5_writeSide 15 = .ok (.iload_n 2, 1) := by decide +kernel
theorem dX5_writeSide_16 : decode cX5_writeSide 16 = .ok (.iaload, 1) := by decide +kernel
theorem dX5_writeSide_17 : decode cX5_writeSide 17 = .ok (.invokevirtual 29, 3) := by decide +kernel
theorem dX5_writeSide_20 : decode cX5_writeSide 20 = .ok (.aload_n 1, 1) := by decide +kernel
theorem dX5_writeSide_21 : decode cX5_writeSide 21 = .ok (.getfield 39, 3) := by decide +kernel
theorem dX5_writeSide_24 : decode cX5_writeSide 24 = .ok (.iload_n 2, 1) := by decide +kernel
theorem dX5_writeSide_25 : decode cX5_writeSide 25 = .ok (.iaload, 1) := by decide +kernel
theorem dX5_writeSide_26 : decode cX5_writeSide 26 = .ok (.invokestatic 42, 3) := by decide +kernel
theorem dX5_writeSide_29 : decode cX5_writeSide 29 = .ok (.ifCond .le 12, 3) := by decide +kernel
theorem dX5_writeSide_32 : decode cX5_writeSide 32 = .ok (.aload_n 0, 1) := by decide +kernel
theorem dX5_writeSide_33 : decode cX5_writeSide 33 = .ok (.bipush 40, 2) := by decide +kernel
theorem dX5_writeSide_35 : decode cX5_writeSide 35 = .ok (.invokevirtual 29, 3) := by decide +kernel
theorem dX5_writeSide_38 : decode cX5_writeSide 38 = .ok (.goto 11, 3) := by decide +kernel
theorem dX5_writeSide_41 : decode cX5_writeSide 41 = .ok (.aload_n 0, 1) := by decide +kernel
theorem dX5_writeSide_42 : decode cX5_writeSide 42 = .ok (.aload_n 1, 1) := by decide +kernel
theorem dX5_writeSide_43 : decode cX5_writeSide 43 = .ok (.iload_n 2, 1) := by decide +kernel
theorem dX5_writeSide_44 : decode cX5_writeSide 44 = .ok (.iconst 1, 1) := by decide +kernel
theorem dX5_writeSide_45 : decode cX5_writeSide 45 = .ok (.iadd, 1) := by decide +kernel
theorem dX5_writeSide_46 : decode cX5_writeSide 46 = .ok (.invokevirtual 46, 3) := by decide +kernel
theorem dX5_writeSide_49 : decode cX5_writeSide 49 = .ok (.iinc 2 1, 3) := by decide +kernel
theorem dX5_writeSide_52 : decode cX5_writeSide 52 = .ok (.goto (-50), 3) := by decide +kernel
theorem dX5_writeSide_55 : decode cX5_writeSide 55 = .ok (.return_, 1) := by decide +kernel
theorem dX5_writeBehind_0 : decode cX5_writeBehind 0 = .ok (.iload_n 2, 1) := by decide +kernel
theorem dX5_writeBehind_1 : decode cX5_writeBehind 1 = .ok (.iconst 2, 1) := by decide +kernel
theorem dX5_writeBehind_2 : decode cX5_writeBehind 2 = .ok (.isub, 1) := by decide +kernel
theorem dX5_writeBehind_3 : decode cX5_writeBehind 3 = .ok (.istore_n 3, 1) := by decide +kernel
theorem dX5_writeBehind_4 : decode cX5_writeBehind 4 = .ok (.iload_n 3, 1) := by decide +kernel
theorem dX5_writeBehind_5 : decode cX5_writeBehind 5 = .ok (.ifCond .lt 25, 3) := by decide +kernel
theorem dX5_writeBehind_8 : decode cX5_writeBehind 8 = .ok (.aload_n 1, 1) := by decide +kernel
theorem dX5_writeBehind_9 : decode cX5_writeBehind 9 = .ok (.getfield 50, 3) := by decide +kernel
theorem dX5_writeBehind_12 : decode cX5_writeBehind 12 = .ok (.iload_n 3, 1) := by decide +kernel
theorem dX5_writeBehind_13 : decode cX5_writeBehind 13 = .ok (.iaload, 1) := by decide +kernel
theorem dX5_writeBehind_14 : decode cX5_writeBehind 14 = .ok (.iload_n 2, 1) := by decide +kernel
theorem dX5_writeBehind_15 : decode cX5_writeBehind 15 = .ok (.if_icmp .ne 9, 3) := by decide +kernel
theorem dX5_writeBehind_18 : decode cX5_writeBehind 18 = .ok (.aload_n 0, 1) := by decide +kernel
theorem dX5_writeBehind_19 : decode cX5_writeBehind 19 = .ok (.bipush 41, 2) := by decide +kernel
theorem dX5_writeBehind_21 : decode cX5_writeBehind 21 = .ok (.invokevirtual 29, 3) := by decide +kernel
theorem dX5_writeBehind_24 : decode cX5_writeBehind 24 = .ok (.iinc 3 (-1), 3) := by decide +kernel
theorem dX5_writeBehind_27 : decode cX5_writeBehind 27 = .ok (.goto (-23), 3) := by decide +kernel
theorem dX5_writeBehind_30 : decode cX5_writeBehind 30 = .ok (.iload_n 2, 1) := by decide +kernel
theorem dX5_writeBehind_31 : decode cX5_writeBehind 31 = .ok (.iconst 2, 1) := by decide +kernel
theorem dX5_writeBehind_32 : decode cX5_writeBehind 32 = .ok (.isub, 1) := by decide +kernel
theorem dX5_writeBehind_33 : decode cX5_writeBehind 33 = .ok (.istore_n 3, 1) := by decide +kernel
theorem dX5_writeBehind_34 : decode cX5_writeBehind 34 = .ok (.iload_n 3, 1) := by decide +kernel
theorem dX5_writeBehind_35 : decode cX5_writeBehind 35 = .ok (.ifCond .lt 38, 3) := by decide +kernel
theorem dX5_writeBehind_38 : decode cX5_writeBehind 38 = .ok (.aload_n 1, 1) := by decide +kernel
theorem dX5_writeBehind_39 : decode cX5_writeBehind 39 = .ok (.getfield 39, 3) := by decide +kernel
theorem dX5_writeBehind_42 : decode cX5_writeBehind 42 = .ok (.iload_n 3, 1) := by decide +kernel
theorem dX5_writeBehind_43 : decode cX5_writeBehind 43 = .ok (.iaload, 1) := by decide +kernel
theorem dX5_writeBehind_44 : decode cX5_writeBehind 44 = .ok (.bipush 103, 2) := by decide +kernel
theorem dX5_writeBehind_46 : decode cX5_writeBehind 46 = .ok (.if_icmp .ne 21, 3) := by decide +kernel
theorem dX5_writeBehind_49 : decode cX5_writeBehind 49 = .ok (.aload_n 1, 1) := by decide +kernel
theorem dX5_writeBehind_50 : decode cX5_writeBehind 50 = .ok (.getfield 50, 3) := by decide +kernel
theorem dX5_writeBehind_53 : decode cX5_writeBehind 53 = .ok (.iload_n 3, 1) := by decide +kernel
theorem dX5_writeBehind_54 : decode cX5_writeBehind 54 = .ok (.iconst 1, 1) := by decide +kernel
theorem dX5_writeBehind_55 : decode cX5_writeBehind 55 = .ok (.iadd, 1) := by decide +kernel
theorem dX5_writeBehind_56 : decode cX5_writeBehind 56 = .ok (.iaload, 1) := by decide +kernel
theorem dX5_writeBehind_57 : decode cX5_writeBehind 57 = .ok (.iload_n 2, 1) := by decide +kernel
theorem dX5_writeBehind_58 : decode cX5_writeBehind 58 = .ok (.if_icmp .ne 9, 3) := by decide +kernel
theorem dX5_writeBehind_61 : decode cX5_writeBehind 61 = .ok (.aload_n 0, 1) := by decide +kernel
theorem dX5_writeBehind_62 : decode cX5_writeBehind 62 = .ok (.bipush 44, 2) := by decide +kernel
theorem dX5_writeBehind_64 : decode cX5_writeBehind 64 = .ok (.invokevirtual 29, 3) := by decide +kernel
theorem dX5_writeBehind_67 : decode cX5_writeBehind 67 = .ok (.iinc 3 (-1), 3) := by decide +kernel
theorem dX5_writeBehind_70 : decode cX5_writeBehind 70 = .ok (.goto (-36), 3) := by decide +kernel
theorem dX5_writeBehind_73 : decode cX5_writeBehind 73 = .ok (.return_, 1) := by decide +kernel
theorem dX5_put_0 : decode cX5_put 0 = .ok (.aload_n 0, 1) := by decide +kernel
theorem dX5_put_1 : decode cX5_put 1 = .ok (.getfield 15, 3) := by decide +kernel
theorem dX5_put_4 : decode cX5_put 4 = .ok (.aload_n 0, 1) := by decide +kernel
theorem dX5_put_5 : decode cX5_put 5 = .ok (.getfield 9, 3) := by decide +kernel
theorem dX5_put_8 : decode cX5_put 8 = .ok (.arraylength, 1) := by decide +kernel
theorem dX5_put_9 : decode cX5_put 9 = .ok (.if_icmp .ge 23, 3) := by decide +kernel
theorem dX5_put_12 : decode cX5_put 12 = .ok (.aload_n 0, 1) := by decide +kernel
theorem dX5_put_13 : decode cX5_put 13 = .ok (.getfield 9, 3) := by decide +kernel
theorem dX5_put_16 : decode cX5_put 16 = .ok (.aload_n 0, 1) := by decide +kernel
theorem dX5_put_17 : decode cX5_put 17 = .ok (.getfield 15, 3) := by decide +kernel
theorem dX5_put_20 : decode cX5_put 20 = .ok (.iload_n 1, 1) := by decide +kernel
theorem dX5_put_21 : decode cX5_put 21 = .ok (.iastore, 1) := by decide +kernel
theorem dX5_put_22 : decode cX5_put 22 = .ok (.aload_n 0, 1) := by decide +kernel
theorem dX5_put_23 : decode cX5_put 23 = .ok (.dup, 1) := by decide +kernel
theorem dX5_put_24 : decode cX5_put 24 = .ok (.getfield 15, 3) := by decide +kernel
theorem dX5_put_27 : decode cX5_put 27 = .ok (.iconst 1, 1) := by decide +kernel
theorem dX5_put_28 : decode cX5_put 28 = .ok (.iadd, 1) := by decide +kernel
theorem dX5_put_29 : decode cX5_put 29 = .ok (.putfield 15, 3) := by decide +kernel
theorem dX5_put_32 : decode cX5_put 32 = .ok (.return_, 1) := by decide +kernel
theorem dX6_init_0 : decode cX6_init 0 = .ok (.aload_n 0, 1) := by decide +kernel
theorem dX6_init_1 : decode cX6_init 1 = .ok (.invokespecial 3, 3) := by decide +kernel
theorem dX6_init_4 : decode cX6_init 4 = .ok (.aload_n 0, 1) := by decide +kernel
theorem dX6_init_5 : decode cX6_init 5 = .ok (.bipush 72, 2) := by decide +kernel
theorem dX6_init_7 : decode cX6_init 7 = .ok (.newarray .int, 2) := by decide +kernel
theorem dX6_init_9 : decode cX6_init 9 = .ok (.putfield 11, 3) := by decide +kernel
theorem dX6_init_12 : decode cX6_init 12 = .ok (.return_, 1) := by decide +kernel
theorem dX6_countIn_0 : decode cX6_countIn 0 = .ok (.aload_n 1, 1) := by decide +kernel
theorem dX6_countIn_1 : decode cX6_countIn 1 = .ok (.getfield 15, 3) := by decide +kernel
theorem dX6_countIn_4 : decode cX6_countIn 4 = .ok (.iconst 1, 1) := by decide +kernel
theorem dX6_countIn_5 : decode cX6_countIn 5 = .ok (.isub, 1) := by decide +kernel
theorem dX6_countIn_6 : decode cX6_countIn 6 = .ok (.istore 5, 2) := by decide +kernel
theorem dX6_countIn_8 : decode cX6_countIn 8 = .ok (.iload 5, 2) := by decide +kernel
theorem dX6_countIn_10 : decode cX6_countIn 10 = .ok (.ifCond .lt 152, 3) := by decide +kernel
theorem dX6_countIn_13 : decode cX6_countIn 13 = .ok (.iconst 0, 1) := by decide +kernel
theorem dX6_countIn_14 : decode cX6_countIn 14 = .ok (.istore 6, 2) := by decide +kernel
theorem dX6_countIn_16 : decode cX6_countIn 16 = .ok (.iload 6, 2) := by decide +kernel
theorem dX6_countIn_18 : decode cX6_countIn 18 = .ok (.bipush 6, 2) := by decide +kernel
theorem dX6_countIn_20 : decode cX6_countIn 20 = .ok (.if_icmp .ge 23, 3) := by decide +kernel
theorem dX6_countIn_23 : decode cX6_countIn 23 = .ok (.aload_n 0, 1) := by decide +kernel
theorem dX6_countIn_24 : decode cX6_countIn 24 = .ok (.getfield 11, 3) := by decide +kernel
theorem dX6_countIn_27 : decode cX6_countIn 27 = .ok (.iload 5, 2) := by decide +kernel
theorem dX6_countIn_29 : decode cX6_countIn 29 = .ok (.bipush 6, 2) := by decide +kernel
theorem dX6_countIn_31 : decode cX6_countIn 31 = .ok (.imul, 1) := by decide +kernel
theorem dX6_countIn_32 : decode cX6_countIn 32 = .ok (.iload 6, 2) := by decide +kernel
theorem dX6_countIn_34 : decode cX6_countIn 34 = .ok (.iadd, 1) := by decide +kernel
theorem dX6_countIn_35 : decode cX6_countIn 35 = .ok (.iconst 0, 1) := by decide +kernel
theorem dX6_countIn_36 : decode cX6_countIn 36 = .ok (.iastore, 1) := by decide +kernel
theorem dX6_countIn_37 : decode cX6_countIn 37 = .ok (.iinc 6 1, 3) := by decide +kernel
theorem dX6_countIn_40 : decode cX6_countIn 40 = .ok (.goto (-24), 3) := by decide +kernel
theorem dX6_countIn_43 : decode cX6_countIn 43 = .ok (.aload_n 1, 1) := by decide +kernel
theorem dX6_countIn_44 : decode cX6_countIn 44 = .ok (.getfield 21, 3) := by decide +kernel
theorem dX6_countIn_47 : decode cX6_countIn 47 = .ok (.iload 5, 2) := by decide +kernel
theorem dX6_countIn_49 : decode cX6_countIn 49 = .ok (.iaload, 1) := by decide +kernel
theorem dX6_countIn_50 : decode cX6_countIn 50 = .ok (.invokestatic 24, 3) := by decide +kernel
theorem dX6_countIn_53 : decode cX6_countIn 53 = .ok (.istore 6, 2) := by decide +kernel
theorem dX6_countIn_55 : decode cX6_countIn 55 = .ok (.iload 6, 2) := by decide +kernel
theorem dX6_countIn_57 : decode cX6_countIn 57 = .ok (.iconst (-1), 1) := by decide +kernel
theorem dX6_countIn_58 : decode cX6_countIn 58 = .ok (.if_icmp .eq 17, 3) := by decide +kernel
theorem dX6_countIn_61 : decode cX6_countIn 61 = .ok (.aload_n 0, 1) := by decide +kernel
theorem dX6_countIn_62 : decode cX6_countIn 62 = .ok (.getfield 11, 3) := by decide +kernel
theorem dX6_countIn_65 : decode cX6_countIn 65 = .ok (.iload 5, 2) := by decide +kernel
theorem dX6_countIn_67 : decode cX6_countIn 67 = .ok (.bipush 6, 2) := by decide +kernel
theorem dX6_countIn_69 : decode cX6_countIn 69 = .ok (.imul, 1) := by decide +kernel
theorem dX6_countIn_70 : decode cX6_countIn 70 = .ok (.iload 6, 2) := by decide +kernel
theorem dX6_countIn_72 : decode cX6_countIn 72 = .ok (.iadd, 1) := by decide +kernel
theorem dX6_countIn_73 : decode cX6_countIn 73 = .ok (.iconst 1, 1) := by decide +kernel
theorem dX6_countIn_74 : decode cX6_countIn 74 = .ok (.iastore, 1) := by decide +kernel
theorem dX6_countIn_75 : decode cX6_countIn 75 = .ok (.aload_n 1, 1) := by decide +kernel
theorem dX6_countIn_76 : decode cX6_countIn 76 = .ok (.getfield 21, 3) := by decide +kernel
theorem dX6_countIn_79 : decode cX6_countIn 79 = .ok (.iload 5, 2) := by decide +kernel
theorem dX6_countIn_81 : decode cX6_countIn 81 = .ok (.iaload, 1) := by decide +kernel
theorem dX6_countIn_82 : decode cX6_countIn 82 = .ok (.bipush 102, 2) := by decide +kernel
theorem dX6_countIn_84 : decode cX6_countIn 84 = .ok (.if_icmp .ne 17, 3) := by decide +kernel
theorem dX6_countIn_87 : decode cX6_countIn 87 = .ok (.aload_n 0, 1) := by decide +kernel
theorem dX6_countIn_88 : decode cX6_countIn 88 = .ok (.iload 5, 2) := by decide +kernel
theorem dX6_countIn_90 : decode cX6_countIn 90 = .ok (.iload 5, 2) := by decide +kernel
theorem dX6_countIn_92 : decode cX6_countIn 92 = .ok (.iconst 1, 1) := by decide +kernel
theorem dX6_countIn_93 : decode cX6_countIn 93 = .ok (.iadd, 1) := by decide +kernel
theorem dX6_countIn_94 : decode cX6_countIn 94 = .ok (.iload_n 2, 1) := by decide +kernel
theorem dX6_countIn_95 : decode cX6_countIn 95 = .ok (.invokevirtual 28, 3) := by decide +kernel
theorem dX6_countIn_98 : decode cX6_countIn 98 = .ok (.goto 58, 3) := by decide +kernel
theorem dX6_countIn_101 : decode cX6_countIn 101 = .ok (.aload_n 1, 1) := by decide +kernel
theorem dX6_countIn_102 : decode cX6_countIn 102 = .ok (.getfield 21, 3) := by decide +kernel
theorem dX6_countIn_105 : decode cX6_countIn 105 = .ok (.iload 5, 2) := by decide +kernel
theorem dX6_countIn_107 : decode cX6_countIn 107 = .ok (.iaload, 1) := by decide +kernel
theorem dX6_countIn_108 : decode cX6_countIn 108 = .ok (.bipush 103, 2) := by decide +kernel
theorem dX6_countIn_110 : decode cX6_countIn 110 = .ok (.if_icmp .ne 46, 3) := by decide +kernel
theorem dX6_countIn_113 : decode cX6_countIn 113 = .ok (.aload_n 0, 1) := by decide +kernel
theorem dX6_countIn_114 : decode cX6_countIn 114 = .ok (.iload 5, 2) := by decide +kernel
theorem dX6_countIn_116 : decode cX6_countIn 116 = .ok (.iload 5, 2) := by decide +kernel
theorem dX6_countIn_118 : decode cX6_countIn 118 = .ok (.iconst 1, 1) := by decide +kernel
theorem dX6_countIn_119 : decode cX6_countIn 119 = .ok (.iadd, 1) := by decide +kernel
theorem dX6_countIn_120 : decode cX6_countIn 120 = .ok (.iload_n 3, 1) := by decide +kernel
theorem dX6_countIn_121 : decode cX6_countIn 121 = .ok (.invokevirtual 28, 3) := by decide +kernel
theorem dX6_countIn_124 : decode cX6_countIn 124 = .ok (.aload_n 0, 1) := by decide +kernel
theorem dX6_countIn_125 : decode cX6_countIn 125 = .ok (.iload 5, 2) := by decide +kernel
theorem dX6_countIn_127 : decode cX6_countIn 127 = .ok (.iload 5, 2) := by decide +kernel
theorem dX6_countIn_129 : decode cX6_countIn 129 = .ok (.iconst 1, 1) := by decide +kernel
theorem dX6_countIn_130 : decode cX6_countIn 130 = .ok (.iadd, 1) := by decide +kernel
theorem dX6_countIn_131 : decode cX6_countIn 131 = .ok (.aload_n 1, 1) := by decide +kernel
theorem dX6_countIn_132 : decode cX6_countIn 132 = .ok (.getfield 15, 3) := by decide +kernel
theorem dX6_countIn_135 : decode cX6_countIn 135 = .ok (.if_icmp .ge 15, 3) := by decide +kernel
theorem dX6_countIn_138 : decode cX6_countIn 138 = .ok (.aload_n 1, 1) := by decide +kernel
theorem dX6_countIn_139 : decode cX6_countIn 139 = .ok (.getfield 32, 3) := by decide +kernel
theorem dX6_countIn_142 : decode cX6_countIn 142 = .ok (.iload 5, 2) := by decide +kernel
theorem dX6_countIn_144 : decode cX6_countIn 144 = .ok (.iconst 1, 1) := by decide +kernel
theorem dX6_countIn_145 : decode cX6_countIn 145 = .ok (.iadd, 1) := by decide +kernel
theorem dX6_countIn_146 : decode cX6_countIn 146 = .ok (.iaload, 1) := by decide +kernel
theorem dX6_countIn_147 : decode cX6_countIn 147 = .ok (.goto 4, 3) := by decide +kernel
theorem dX6_countIn_150 : decode cX6_countIn 150 = .ok (.iconst (-1), 1) := by decide +kernel
theorem dX6_countIn_151 : decode cX6_countIn 151 = .ok (.iload 4, 2) := by decide +kernel
theorem dX6_countIn_153 : decode cX6_countIn 153 = .ok (.invokevirtual 28, 3) := by decide +kernel
theorem dX6_countIn_156 : decode cX6_countIn 156 = .ok (.iinc 5 (-1), 3) := by decide +kernel
theorem dX6_countIn_159 : decode cX6_countIn 159 = .ok (.goto (-151), 3) := by decide +kernel
theorem dX6_countIn_162 : decode cX6_countIn 162 = .ok (.return_, 1) := by decide +kernel
theorem dX6_addPart_0 : decode cX6_addPart 0 = .ok (.iload_n 2, 1) := by decide +kernel
theorem dX6_addPart_1 : decode cX6_addPart 1 = .ok (.ifCond .lt 9, 3) := by decide +kernel
theorem dX6_addPart_4 : decode cX6_addPart 4 = .ok (.iload_n 2, 1) := by decide +kernel
theorem dX6_addPart_5 : decode cX6_addPart 5 = .ok (.bipush 12, 2) := by decide +kernel
theorem dX6_addPart_7 : decode cX6_addPart 7 = .ok (.if_icmp .lt 4, 3) := by decide +kernel
theorem dX6_addPart_10 : decode cX6_addPart 10 = .ok (.return_, 1) := by decide +kernel
theorem dX6_addPart_11 : decode cX6_addPart 11 = .ok (.iconst 0, 1) := by decide +kernel
theorem dX6_addPart_12 : decode cX6_addPart 12 = .ok (.istore 4, 2) := by decide +kernel
theorem dX6_addPart_14 : decode cX6_addPart 14 = .ok (.iload 4, 2) := by decide +kernel
theorem dX6_addPart_16 : decode cX6_addPart 16 = .ok (.bipush 6, 2) := by decide +kernel
theorem dX6_addPart_18 : decode cX6_addPart 18 = .ok (.if_icmp .ge 38, 3) := by decide +kernel
theorem dX6_addPart_21 : decode cX6_addPart 21 = .ok (.aload_n 0, 1) := by decide +kernel
theorem dX6_addPart_22 : decode cX6_addPart 22 = .ok (.getfield 11, 3) := by decide +kernel
theorem dX6_addPart_25 : decode cX6_addPart 25 = .ok (.iload_n 1, 1) := by decide +kernel
theorem dX6_addPart_26 : decode cX6_addPart 26 = .ok (.bipush 6, 2) := by decide +kernel
theorem dX6_addPart_28 : decode cX6_addPart 28 = .ok (.imul, 1) := by decide +kernel
theorem dX6_addPart_29 : decode cX6_addPart 29 = .ok (.iload 4, 2) := by decide +kernel
theorem dX6_addPart_31 : decode cX6_addPart 31 = .ok (.iadd, 1) := by decide +kernel
theorem dX6_addPart_32 : decode cX6_addPart 32 = .ok (.dup2, 1) := by decide +kernel
theorem dX6_addPart_33 : decode cX6_addPart 33 = .ok (.iaload, 1) := by decide +kernel
theorem dX6_addPart_34 : decode cX6_addPart 34 = .ok (.iload_n 3, 1) := by decide +kernel
theorem dX6_addPart_35 : decode cX6_addPart 35 = .ok (.aload_n 0, 1) := by decide +kernel
theorem dX6_addPart_36 : decode cX6_addPart 36 = .ok (.getfield 11, 3) := by decide +kernel
theorem dX6_addPart_39 : decode cX6_addPart 39 = .ok (.iload_n 2, 1) := by decide +kernel
theorem dX6_addPart_40 : decode cX6_addPart 40 = .ok (.bipush 6, 2) := by decide +kernel
theorem dX6_addPart_42 : decode cX6_addPart 42 = .ok (.imul, 1) := by decide +kernel
theorem dX6_addPart_43 : decode cX6_addPart 43 = .ok (.iload 4, 2) := by decide +kernel
theorem dX6_addPart_45 : decode cX6_addPart 45 = .ok (.iadd, 1) := by decide +kernel
theorem dX6_addPart_46 : decode cX6_addPart 46 = .ok (.iaload, 1) := by decide +kernel
theorem dX6_addPart_47 : decode cX6_addPart 47 = .ok (.imul, 1) := by decide +kernel
theorem dX6_addPart_48 : decode cX6_addPart 48 = .ok (.iadd, 1) := by decide +kernel
theorem dX6_addPart_49 : decode cX6_addPart 49 = .ok (.iastore, 1) := by decide +kernel
theorem dX6_addPart_50 : decode cX6_addPart 50 = .ok (.iinc 4 1, 3) := by decide +kernel
theorem dX6_addPart_53 : decode cX6_addPart 53 = .ok (.goto (-39), 3) := by decide +kernel
theorem dX6_addPart_56 : decode cX6_addPart 56 = .ok (.return_, 1) := by decide +kernel
theorem dX7_init_0 : decode cX7_init 0 = .ok (.aload_n 0, 1) := by decide +kernel
theorem dX7_init_1 : decode cX7_init 1 = .ok (.invokespecial 3, 3) := by decide +kernel
theorem dX7_init_4 : decode cX7_init 4 = .ok (.aload_n 0, 1) := by decide +kernel
theorem dX7_init_5 : decode cX7_init 5 = .ok (.iconst 5, 1) := by decide +kernel
theorem dX7_init_6 : decode cX7_init 6 = .ok (.anewarray 9, 3) := by decide +kernel
theorem dX7_init_9 : decode cX7_init 9 = .ok (.putfield 11, 3) := by decide +kernel
theorem dX7_init_12 : decode cX7_init 12 = .ok (.aload_n 0, 1) := by decide +kernel
theorem dX7_init_13 : decode cX7_init 13 = .ok (.new 17, 3) := by decide +kernel
theorem dX7_init_16 : decode cX7_init 16 = .ok (.dup, 1) := by decide +kernel
theorem dX7_init_17 : decode cX7_init 17 = .ok (.bipush 60, 2) := by decide +kernel
theorem dX7_init_19 : decode cX7_init 19 = .ok (.invokespecial 19, 3) := by decide +kernel
theorem dX7_init_22 : decode cX7_init 22 = .ok (.putfield 22, 3) := by decide +kernel
theorem dX7_init_25 : decode cX7_init 25 = .ok (.iconst 0, 1) := by decide +kernel
theorem dX7_init_26 : decode cX7_init 26 = .ok (.istore_n 1, 1) := by decide +kernel
theorem dX7_init_27 : decode cX7_init 27 = .ok (.iload_n 1, 1) := by decide +kernel
theorem dX7_init_28 : decode cX7_init 28 = .ok (.iconst 5, 1) := by decide +kernel
theorem dX7_init_29 : decode cX7_init 29 = .ok (.if_icmp .ge 22, 3) := by decide +kernel
theorem dX7_init_32 : decode cX7_init 32 = .ok (.aload_n 0, 1) := by decide +kernel
theorem dX7_init_33 : decode cX7_init 33 = .ok (.getfield 11, 3) := by decide +kernel
theorem dX7_init_36 : decode cX7_init 36 = .ok (.iload_n 1, 1) := by decide +kernel
theorem dX7_init_37 : decode cX7_init 37 = .ok (.new 9, 3) := by decide +kernel
theorem dX7_init_40 : decode cX7_init 40 = .ok (.dup, 1) := by decide +kernel
theorem dX7_init_41 : decode cX7_init 41 = .ok (.invokespecial 26, 3) := by decide +kernel
theorem dX7_init_44 : decode cX7_init 44 = .ok (.aastore, 1) := by decide +kernel
theorem dX7_init_45 : decode cX7_init 45 = .ok (.iinc 1 1, 3) := by decide +kernel
theorem dX7_init_48 : decode cX7_init 48 = .ok (.goto (-21), 3) := by decide +kernel
theorem dX7_init_51 : decode cX7_init 51 = .ok (.return_, 1) := by decide +kernel
theorem dX7_copyFrom_0 : decode cX7_copyFrom 0 = .ok (.aload_n 0, 1) := by decide +kernel
theorem dX7_copyFrom_1 : decode cX7_copyFrom 1 = .ok (.aload_n 1, 1) := by decide +kernel
theorem dX7_copyFrom_2 : decode cX7_copyFrom 2 = .ok (.getfield 27, 3) := by decide +kernel
theorem dX7_copyFrom_5 : decode cX7_copyFrom 5 = .ok (.putfield 27, 3) := by decide +kernel
theorem dX7_copyFrom_8 : decode cX7_copyFrom 8 = .ok (.iconst 0, 1) := by decide +kernel
theorem dX7_copyFrom_9 : decode cX7_copyFrom 9 = .ok (.istore_n 2, 1) := by decide +kernel
theorem dX7_copyFrom_10 : decode cX7_copyFrom 10 = .ok (.iload_n 2, 1) := by decide +kernel
theorem dX7_copyFrom_11 : decode cX7_copyFrom 11 = .ok (.aload_n 0, 1) := by decide +kernel
theorem dX7_copyFrom_12 : decode cX7_copyFrom 12 = .ok (.getfield 27, 3) := by decide +kernel
theorem dX7_copyFrom_15 : decode cX7_copyFrom 15 = .ok (.if_icmp .ge 24, 3) := by decide +kernel
theorem dX7_copyFrom_18 : decode cX7_copyFrom 18 = .ok (.aload_n 0, 1) := by decide +kernel
theorem dX7_copyFrom_19 : decode cX7_copyFrom 19 = .ok (.getfield 11, 3) := by decide +kernel
theorem dX7_copyFrom_22 : decode cX7_copyFrom 22 = .ok (.iload_n 2, 1) := by decide +kernel
theorem dX7_copyFrom_23 : decode cX7_copyFrom 23 = .ok (.aaload, 1) := by decide +kernel
theorem dX7_copyFrom_24 : decode cX7_copyFrom 24 = .ok (.aload_n 1, 1) := by decide +kernel
theorem dX7_copyFrom_25 : decode cX7_copyFrom 25 = .ok (.getfield 11, 3) := by decide +kernel
theorem dX7_copyFrom_28 : decode cX7_copyFrom 28 = .ok (.iload_n 2, 1) := by decide +kernel
theorem dX7_copyFrom_29 : decode cX7_copyFrom 29 = .ok (.aaload, 1) := by decide +kernel
theorem dX7_copyFrom_30 : decode cX7_copyFrom 30 = .ok (.invokevirtual 31, 3) := by decide +kernel
theorem dX7_copyFrom_33 : decode cX7_copyFrom 33 = .ok (.iinc 2 1, 3) := by decide +kernel
theorem dX7_copyFrom_36 : decode cX7_copyFrom 36 = .ok (.goto (-26), 3) := by decide +kernel
theorem dX7_copyFrom_39 : decode cX7_copyFrom 39 = .ok (.aload_n 0, 1) := by decide +kernel
theorem dX7_copyFrom_40 : decode cX7_copyFrom 40 = .ok (.getfield 22, 3) := by decide +kernel
theorem dX7_copyFrom_43 : decode cX7_copyFrom 43 = .ok (.aload_n 1, 1) := by decide +kernel
theorem dX7_copyFrom_44 : decode cX7_copyFrom 44 = .ok (.getfield 22, 3) := by decide +kernel
theorem dX7_copyFrom_47 : decode cX7_copyFrom 47 = .ok (.invokevirtual 35, 3) := by decide +kernel
theorem dX7_copyFrom_50 : decode cX7_copyFrom 50 = .ok (.return_, 1) := by decide +kernel
theorem dX7_removeRule_0 : decode cX7_removeRule 0 = .ok (.aload_n 0, 1) := by decide +kernel
theorem dX7_removeRule_1 : decode cX7_removeRule 1 = .ok (.getfield 11, 3) := by decide +kernel
theorem dX7_removeRule_4 : decode cX7_removeRule 4 = .ok (.iload_n 1, 1) := by decide +kernel
theorem dX7_removeRule_5 : decode cX7_removeRule 5 = .ok (.aaload, 1) := by decide +kernel
theorem dX7_removeRule_6 : decode cX7_removeRule 6 = .ok (.astore_n 2, 1) := by decide +kernel
theorem dX7_removeRule_7 : decode cX7_removeRule 7 = .ok (.iload_n 1, 1) := by decide +kernel
theorem dX7_removeRule_8 : decode cX7_removeRule 8 = .ok (.istore_n 3, 1) := by decide +kernel
theorem dX7_removeRule_9 : decode cX7_removeRule 9 = .ok (.iload_n 3, 1) := by decide +kernel
theorem dX7_removeRule_10 : decode cX7_removeRule 10 = .ok (.iconst 1, 1) := by decide +kernel
theorem dX7_removeRule_11 : decode cX7_removeRule 11 = .ok (.iadd, 1) := by decide +kernel
theorem dX7_removeRule_12 : decode cX7_removeRule 12 = .ok (.aload_n 0, 1) := by decide +kernel
theorem dX7_removeRule_13 : decode cX7_removeRule 13 = .ok (.getfield 27, 3) := by decide +kernel
theorem dX7_removeRule_16 : decode cX7_removeRule 16 = .ok (.if_icmp .ge 23, 3) := by decide +kernel
theorem dX7_removeRule_19 : decode cX7_removeRule 19 = .ok (.aload_n 0, 1) := by decide +kernel
theorem dX7_removeRule_20 : decode cX7_removeRule 20 = .ok (.getfield 11, 3) := by decide +kernel
theorem dX7_removeRule_23 : decode cX7_removeRule 23 = .ok (.iload_n 3, 1) := by decide +kernel
theorem dX7_removeRule_24 : decode cX7_removeRule 24 = .ok (.aload_n 0, 1) := by decide +kernel
theorem dX7_removeRule_25 : decode cX7_removeRule 25 = .ok (.getfield 11, 3) := by decide +kernel
theorem dX7_removeRule_28 : decode cX7_removeRule 28 = .ok (.iload_n 3, 1) := by decide +kernel
theorem dX7_removeRule_29 : decode cX7_removeRule 29 = .ok (.iconst 1, 1) := by decide +kernel
theorem dX7_removeRule_30 : decode cX7_removeRule 30 = .ok (.iadd, 1) := by decide +kernel
theorem dX7_removeRule_31 : decode cX7_removeRule 31 = .ok (.aaload, 1) := by decide +kernel
theorem dX7_removeRule_32 : decode cX7_removeRule 32 = .ok (.aastore, 1) := by decide +kernel
theorem dX7_removeRule_33 : decode cX7_removeRule 33 = .ok (.iinc 3 1, 3) := by decide +kernel
theorem dX7_removeRule_36 : decode cX7_removeRule 36 = .ok (.goto (-27), 3) := by decide +kernel
theorem dX7_removeRule_39 : decode cX7_removeRule 39 = .ok (.aload_n 0, 1) := by decide +kernel
theorem dX7_removeRule_40 : decode cX7_removeRule 40 = .ok (.getfield 11, 3) := by decide +kernel
theorem dX7_removeRule_43 : decode cX7_removeRule 43 = .ok (.aload_n 0, 1) := by decide +kernel
theorem dX7_removeRule_44 : decode cX7_removeRule 44 = .ok (.getfield 27, 3) := by decide +kernel
theorem dX7_removeRule_47 : decode cX7_removeRule 47 = .ok (.iconst 1, 1) := by decide +kernel
theorem dX7_removeRule_48 : decode cX7_removeRule 48 = .ok (.isub, 1) := by decide +kernel
theorem dX7_removeRule_49 : decode cX7_removeRule 49 = .ok (.aload_n 2, 1) := by decide +kernel
theorem dX7_removeRule_50 : decode cX7_removeRule 50 = .ok (.aastore, 1) := by decide +kernel
theorem dX7_removeRule_51 : decode cX7_removeRule 51 = .ok (.aload_n 0, 1) := by decide +kernel
theorem dX7_removeRule_52 : decode cX7_removeRule 52 = .ok (.dup, 1) := by decide +kernel
theorem dX7_removeRule_53 : decode cX7_removeRule 53 = .ok (.getfield 27, 3) := by decide +kernel
theorem dX7_removeRule_56 : decode cX7_removeRule 56 = .ok (.iconst 1, 1) := by decide +kernel
theorem dX7_removeRule_57 : decode cX7_removeRule 57 = .ok (.isub, 1) := by decide +kernel
theorem dX7_removeRule_58 : decode cX7_removeRule 58 = .ok (.putfield 27, 3) := by decide +kernel
theorem dX7_removeRule_61 : decode cX7_removeRule 61 = .ok (.return_, 1) := by decide +kernel
theorem dX7_moveToFront_0 : decode cX7_moveToFront 0 = .ok (.aload_n 0, 1) := by decide +kernel
theorem dX7_moveToFront_1 : decode cX7_moveToFront 1 = .ok (.getfield 11, 3) := by decide +kernel
theorem dX7_moveToFront_4 : decode cX7_moveToFront 4 = .ok (.iload_n 1, 1) := by decide +kernel
theorem dX7_moveToFront_5 : decode cX7_moveToFront 5 = .ok (.aaload, 1) := by decide +kernel
theorem dX7_moveToFront_6 : decode cX7_moveToFront 6 = .ok (.astore_n 2, 1) := by decide +kernel
theorem dX7_moveToFront_7 : decode cX7_moveToFront 7 = .ok (.iload_n 1, 1) := by decide +kernel
theorem dX7_moveToFront_8 : decode cX7_moveToFront 8 = .ok (.istore_n 3, 1) := by decide +kernel
theorem dX7_moveToFront_9 : decode cX7_moveToFront 9 = .ok (.iload_n 3, 1) := by decide +kernel
theorem dX7_moveToFront_10 : decode cX7_moveToFront 10 = .ok (.ifCond .le 23, 3) := by decide +kernel
theorem dX7_moveToFront_13 : decode cX7_moveToFront 13 = .ok (.aload_n 0, 1) := by decide +kernel
theorem dX7_moveToFront_14 : decode cX7_moveToFront 14 = .ok (.getfield 11, 3) := by decide +kernel
theorem dX7_moveToFront_17 : decode cX7_moveToFront 17 = .ok (.iload_n 3, 1) := by decide +kernel
theorem dX7_moveToFront_18 : decode cX7_moveToFront 18 = .ok (.aload_n 0, 1) := by decide +kernel
theorem dX7_moveToFront_19 : decode cX7_moveToFront 19 = .ok (.getfield 11, 3) := by decide +kernel
theorem dX7_moveToFront_22 : decode cX7_moveToFront 22 = .ok (.iload_n 3, 1) := by decide +kernel
theorem dX7_moveToFront_23 : decode cX7_moveToFront 23 = .ok (.iconst 1, 1) := by decide +kernel
theorem dX7_moveToFront_24 : decode cX7_moveToFront 24 = .ok (.isub, 1) := by decide +kernel
theorem dX7_moveToFront_25 : decode cX7_moveToFront 25 = .ok (.aaload, 1) := by decide +kernel
theorem dX7_moveToFront_26 : decode cX7_moveToFront 26 = .ok (.aastore, 1) := by decide +kernel
theorem dX7_moveToFront_27 : decode cX7_moveToFront 27 = .ok (.iinc 3 (-1), 3) := by decide +kernel
theorem dX7_moveToFront_30 : decode cX7_moveToFront 30 = .ok (.goto (-21), 3) := by decide +kernel
theorem dX7_moveToFront_33 : decode cX7_moveToFront 33 = .ok (.aload_n 0, 1) := by decide +kernel
theorem dX7_moveToFront_34 : decode cX7_moveToFront 34 = .ok (.getfield 11, 3) := by decide +kernel
theorem dX7_moveToFront_37 : decode cX7_moveToFront 37 = .ok (.iconst 0, 1) := by decide +kernel
theorem dX7_moveToFront_38 : decode cX7_moveToFront 38 = .ok (.aload_n 2, 1) := by decide +kernel
theorem dX7_moveToFront_39 : decode cX7_moveToFront 39 = .ok (.aastore, 1) := by decide +kernel
theorem dX7_moveToFront_40 : decode cX7_moveToFront 40 = .ok (.return_, 1) := by decide +kernel
theorem dX8_init_0 : decode cX8_init 0 = .ok (.aload_n 0, 1) := by decide +kernel
theorem dX8_init_1 : decode cX8_init 1 = .ok (.invokespecial 1, 3) := by decide +kernel
theorem dX8_init_4 : decode cX8_init 4 = .ok (.iconst 1, 1) := by decide +kernel
theorem dX8_init_5 : decode cX8_init 5 = .ok (.iload_n 1, 1) := by decide +kernel
theorem dX8_init_6 : decode cX8_init 6 = .ok (.invokestatic 7, 3) := by decide +kernel
theorem dX8_init_9 : decode cX8_init 9 = .ok (.istore_n 2, 1) := by decide +kernel
theorem dX8_init_10 : decode cX8_init 10 = .ok (.aload_n 0, 1) := by decide +kernel
theorem dX8_init_11 : decode cX8_init 11 = .ok (.iload_n 2, 1) := by decide +kernel
theorem dX8_init_12 : decode cX8_init 12 = .ok (.newarray .int, 2) := by decide +kernel
theorem dX8_init_14 : decode cX8_init 14 = .ok (.putfield 13, 3) := by decide +kernel
theorem dX8_init_17 : decode cX8_init 17 = .ok (.aload_n 0, 1) := by decide +kernel
theorem dX8_init_18 : decode cX8_init 18 = .ok (.iload_n 2, 1) := by decide +kernel
theorem dX8_init_19 : decode cX8_init 19 = .ok (.newarray .int, 2) := by decide +kernel
theorem dX8_init_21 : decode cX8_init 21 = .ok (.putfield 19, 3) := by decide +kernel
theorem dX8_init_24 : decode cX8_init 24 = .ok (.return_, 1) := by decide +kernel
theorem dX8_startAs_0 : decode cX8_startAs 0 = .ok (.aload_n 0, 1) := by decide +kernel
theorem dX8_startAs_1 : decode cX8_startAs 1 = .ok (.iconst 0, 1) := by decide +kernel
theorem dX8_startAs_2 : decode cX8_startAs 2 = .ok (.putfield 22, 3) := by decide +kernel
theorem dX8_startAs_5 : decode cX8_startAs 5 = .ok (.aload_n 0, 1) := by decide +kernel
theorem dX8_startAs_6 : decode cX8_startAs 6 = .ok (.iload_n 1, 1) := by decide +kernel
theorem dX8_startAs_7 : decode cX8_startAs 7 = .ok (.invokevirtual 26, 3) := by decide +kernel
theorem dX8_startAs_10 : decode cX8_startAs 10 = .ok (.aload_n 0, 1) := by decide +kernel
theorem dX8_startAs_11 : decode cX8_startAs 11 = .ok (.invokevirtual 30, 3) := by decide +kernel
theorem dX8_startAs_14 : decode cX8_startAs 14 = .ok (.return_, 1) := by decide +kernel
theorem dX8_addLetter_0 : decode cX8_addLetter 0 = .ok (.aload_n 0, 1) := by decide +kernel
theorem dX8_addLetter_1 : decode cX8_addLetter 1 = .ok (.getfield 22, 3) := by decide +kernel
theorem dX8_addLetter_4 : decode cX8_addLetter 4 = .ok (.aload_n 0, 1) := by decide +kernel
theorem dX8_addLetter_5 : decode cX8_addLetter 5 = .ok (.getfield 13, 3) := by decide +kernel
theorem dX8_addLetter_8 : decode cX8_addLetter 8 = .ok (.arraylength, 1) := by decide +kernel
theorem dX8_addLetter_9 : decode cX8_addLetter 9 = .ok (.if_icmp .ge 23, 3) := by decide +kernel
theorem dX8_addLetter_12 : decode cX8_addLetter 12 = .ok (.aload_n 0, 1) := by decide +kernel
theorem dX8_addLetter_13 : decode cX8_addLetter 13 = .ok (.getfield 13, 3) := by decide +kernel
theorem dX8_addLetter_16 : decode cX8_addLetter 16 = .ok (.aload_n 0, 1) := by decide +kernel
theorem dX8_addLetter_17 : decode cX8_addLetter 17 = .ok (.getfield 22, 3) := by decide +kernel
theorem dX8_addLetter_20 : decode cX8_addLetter 20 = .ok (.iload_n 1, 1) := by decide +kernel
theorem dX8_addLetter_21 : decode cX8_addLetter 21 = .ok (.iastore, 1) := by decide +kernel
theorem dX8_addLetter_22 : decode cX8_addLetter 22 = .ok (.aload_n 0, 1) := by decide +kernel
theorem dX8_addLetter_23 : decode cX8_addLetter 23 = .ok (.dup, 1) := by decide +kernel
theorem dX8_addLetter_24 : decode cX8_addLetter 24 = .ok (.getfield 22, 3) := by decide +kernel
theorem dX8_addLetter_27 : decode cX8_addLetter 27 = .ok (.iconst 1, 1) := by decide +kernel
theorem dX8_addLetter_28 : decode cX8_addLetter 28 = .ok (.iadd, 1) := by decide +kernel
theorem dX8_addLetter_29 : decode cX8_addLetter 29 = .ok (.putfield 22, 3) := by decide +kernel
theorem dX8_addLetter_32 : decode cX8_addLetter 32 = .ok (.return_, 1) := by decide +kernel
theorem dX8_addPart_0 : decode cX8_addPart 0 = .ok (.iload_n 2, 1) := by decide +kernel
theorem dX8_addPart_1 : decode cX8_addPart 1 = .ok (.ifCond .lt 11, 3) := by decide +kernel
theorem dX8_addPart_4 : decode cX8_addPart 4 = .ok (.iload_n 2, 1) := by decide +kernel
theorem dX8_addPart_5 : decode cX8_addPart 5 = .ok (.aload_n 1, 1) := by decide +kernel
theorem dX8_addPart_6 : decode cX8_addPart 6 = .ok (.getfield 22, 3) := by decide +kernel
theorem dX8_addPart_9 : decode cX8_addPart 9 = .ok (.if_icmp .lt 4, 3) := by decide +kernel
theorem dX8_addPart_12 : decode cX8_addPart 12 = .ok (.return_, 1) := by decide +kernel
theorem dX8_addPart_13 : decode cX8_addPart 13 = .ok (.aload_n 1, 1) := by decide +kernel
theorem dX8_addPart_14 : decode cX8_addPart 14 = .ok (.getfield 19, 3) := by decide +kernel
theorem dX8_addPart_17 : decode cX8_addPart 17 = .ok (.iload_n 2, 1) := by decide +kernel
theorem dX8_addPart_18 : decode cX8_addPart 18 = .ok (.iaload, 1) := by decide +kernel
theorem dX8_addPart_19 : decode cX8_addPart 19 = .ok (.istore_n 3, 1) := by decide +kernel
theorem dX8_addPart_20 : decode cX8_addPart 20 = .ok (.iload_n 2, 1) := by decide +kernel
theorem dX8_addPart_21 : decode cX8_addPart 21 = .ok (.istore 4, 2) := by decide +kernel
theorem dX8_addPart_23 : decode cX8_addPart 23 = .ok (.iload 4, 2) := by decide +kernel
theorem dX8_addPart_25 : decode cX8_addPart 25 = .ok (.iload_n 3, 1) := by decide +kernel
theorem dX8_addPart_26 : decode cX8_addPart 26 = .ok (.if_icmp .ge 20, 3) := by decide +kernel
theorem dX8_addPart_29 : decode cX8_addPart 29 = .ok (.aload_n 0, 1) := by decide +kernel
theorem dX8_addPart_30 : decode cX8_addPart 30 = .ok (.aload_n 1, 1) := by decide +kernel
theorem dX8_addPart_31 : decode cX8_addPart 31 = .ok (.getfield 13, 3) := by decide +kernel
theorem dX8_addPart_34 : decode cX8_addPart 34 = .ok (.iload 4, 2) := by decide +kernel
theorem dX8_addPart_36 : decode cX8_addPart 36 = .ok (.iaload, 1) := by decide +kernel
theorem dX8_addPart_37 : decode cX8_addPart 37 = .ok (.invokevirtual 26, 3) := by decide +kernel
theorem dX8_addPart_40 : decode cX8_addPart 40 = .ok (.iinc 4 1, 3) := by decide +kernel
theorem dX8_addPart_43 : decode cX8_addPart 43 = .ok (.goto (-20), 3) := by decide +kernel
theorem dX8_addPart_46 : decode cX8_addPart 46 = .ok (.return_, 1) := by decide +kernel
theorem dX8_findEnds_0 : decode cX8_findEnds 0 = .ok (.aload_n 0, 1) := by decide +kernel
theorem dX8_findEnds_1 : decode cX8_findEnds 1 = .ok (.getfield 22, 3) := by decide +kernel
theorem dX8_findEnds_4 : decode cX8_findEnds 4 = .ok (.iconst 1, 1) := by decide +kernel
theorem dX8_findEnds_5 : decode cX8_findEnds 5 = .ok (.isub, 1) := by decide +kernel
theorem dX8_findEnds_6 : decode cX8_findEnds 6 = .ok (.istore_n 1, 1) := by decide +kernel
theorem dX8_findEnds_7 : decode cX8_findEnds 7 = .ok (.iload_n 1, 1) := by decide +kernel
theorem dX8_findEnds_8 : decode cX8_findEnds 8 = .ok (.ifCond .lt 55, 3) := by decide +kernel
theorem dX8_findEnds_11 : decode cX8_findEnds 11 = .ok (.iload_n 1, 1) := by decide +kernel
theorem dX8_findEnds_12 : decode cX8_findEnds 12 = .ok (.iconst 1, 1) := by decide +kernel
theorem dX8_findEnds_13 : decode cX8_findEnds 13 = .ok (.iadd, 1) := by decide +kernel
theorem dX8_findEnds_14 : decode cX8_findEnds 14 = .ok (.istore_n 2, 1) := by decide +kernel
theorem dX8_findEnds_15 : decode cX8_findEnds 15 = .ok (.aload_n 0, 1) := by decide +kernel
theorem dX8_findEnds_16 : decode cX8_findEnds 16 = .ok (.getfield 13, 3) := by decide +kernel
theorem dX8_findEnds_19 : decode cX8_findEnds 19 = .ok (.iload_n 1, 1) := by decide +kernel
theorem dX8_findEnds_20 : decode cX8_findEnds 20 = .ok (.iaload, 1) := by decide +kernel
theorem dX8_findEnds_21 : decode cX8_findEnds 21 = .ok (.invokestatic 33, 3) := by decide +kernel
theorem dX8_findEnds_24 : decode cX8_findEnds 24 = .ok (.istore_n 3, 1) := by decide +kernel
theorem dX8_findEnds_25 : decode cX8_findEnds 25 = .ok (.iload_n 3, 1) := by decide +kernel
theorem dX8_findEnds_26 : decode cX8_findEnds 26 = .ok (.ifCond .le 24, 3) := by decide +kernel
theorem dX8_findEnds_29 : decode cX8_findEnds 29 = .ok (.iload_n 2, 1) := by decide +kernel
theorem dX8_findEnds_30 : decode cX8_findEnds 30 = .ok (.aload_n 0, 1) := by decide +kernel
theorem dX8_findEnds_31 : decode cX8_findEnds 31 = .ok (.getfield 22, 3) := by decide +kernel
theorem dX8_findEnds_34 : decode cX8_findEnds 34 = .ok (.if_icmp .ge 16, 3) := by decide +kernel
theorem dX8_findEnds_37 : decode cX8_findEnds 37 = .ok (.aload_n 0, 1) := by decide +kernel
theorem dX8_findEnds_38 : decode cX8_findEnds 38 = .ok (.getfield 19, 3) := by decide +kernel
theorem dX8_findEnds_41 : decode cX8_findEnds 41 = .ok (.iload_n 2, 1) := by decide +kernel
theorem dX8_findEnds_42 : decode cX8_findEnds 42 = .ok (.iaload, 1) := by decide +kernel
theorem dX8_findEnds_43 : decode cX8_findEnds 43 = .ok (.istore_n 2, 1) := by decide +kernel
theorem dX8_findEnds_44 : decode cX8_findEnds 44 = .ok (.iinc 3 (-1), 3) := by decide +kernel
theorem dX8_findEnds_47 : decode cX8_findEnds 47 = .ok (.goto (-22), 3) := by decide +kernel
theorem dX8_findEnds_50 : decode cX8_findEnds 50 = .ok (.aload_n 0, 1) := by decide +kernel
theorem dX8_findEnds_51 : decode cX8_findEnds 51 = .ok (.getfield 19, 3) := by decide +kernel
theorem dX8_findEnds_54 : decode cX8_findEnds 54 = .ok (.iload_n 1, 1) := by decide +kernel
theorem dX8_findEnds_55 : decode cX8_findEnds 55 = .ok (.iload_n 2, 1) := by decide +kernel
theorem dX8_findEnds_56 : decode cX8_findEnds 56 = .ok (.iastore, 1) := by decide +kernel
theorem dX8_findEnds_57 : decode cX8_findEnds 57 = .ok (.iinc 1 (-1), 3) := by decide +kernel
theorem dX8_findEnds_60 : decode cX8_findEnds 60 = .ok (.goto (-53), 3) := by decide +kernel
theorem dX8_findEnds_63 : decode cX8_findEnds 63 = .ok (.return_, 1) := by decide +kernel
theorem dX8_copyFrom_0 : decode cX8_copyFrom 0 = .ok (.aload_n 0, 1) := by decide +kernel
theorem dX8_copyFrom_1 : decode cX8_copyFrom 1 = .ok (.aload_n 1, 1) := by decide +kernel
theorem dX8_copyFrom_2 : decode cX8_copyFrom 2 = .ok (.getfield 22, 3) := by decide +kernel
theorem dX8_copyFrom_5 : decode cX8_copyFrom 5 = .ok (.aload_n 0, 1) := by decide +kernel
theorem dX8_copyFrom_6 : decode cX8_copyFrom 6 = .ok (.getfield 13, 3) := by decide +kernel
theorem dX8_copyFrom_9 : decode cX8_copyFrom 9 = .ok (.arraylength, 1) := by decide +kernel
theorem dX8_copyFrom_10 : decode cX8_copyFrom 10 = .ok (.invokestatic 39, 3) := by decide +kernel
theorem dX8_copyFrom_13 : decode cX8_copyFrom 13 = .ok (.putfield 22, 3) := by decide +kernel
theorem dX8_copyFrom_16 : decode cX8_copyFrom 16 = .ok (.aload_n 1, 1) := by decide +kernel
theorem dX8_copyFrom_17 : decode cX8_copyFrom 17 = .ok (.getfield 13, 3) := by decide +kernel
theorem dX8_copyFrom_20 : decode cX8_copyFrom 20 = .ok (.iconst 0, 1) := by decide +kernel
theorem dX8_copyFrom_21 : decode cX8_copyFrom 21 = .ok (.aload_n 0, 1) := by decide +kernel
theorem dX8_copyFrom_22 : decode cX8_copyFrom 22 = .ok (.getfield 13, 3) := by decide +kernel
theorem dX8_copyFrom_25 : decode cX8_copyFrom 25 = .ok (.iconst 0, 1) := by decide +kernel
theorem dX8_copyFrom_26 : decode cX8_copyFrom 26 = .ok (.aload_n 0, 1) := by decide +kernel
theorem dX8_copyFrom_27 : decode cX8_copyFrom 27 = .ok (.getfield 22, 3) := by decide +kernel
theorem dX8_copyFrom_30 : decode cX8_copyFrom 30 = .ok (.invokestatic 42, 3) := by decide +kernel
theorem dX8_copyFrom_33 : decode cX8_copyFrom 33 = .ok (.aload_n 1, 1) := by decide +kernel
theorem dX8_copyFrom_34 : decode cX8_copyFrom 34 = .ok (.getfield 19, 3) := by decide +kernel
theorem dX8_copyFrom_37 : decode cX8_copyFrom 37 = .ok (.iconst 0, 1) := by decide +kernel
theorem dX8_copyFrom_38 : decode cX8_copyFrom 38 = .ok (.aload_n 0, 1) := by decide +kernel
theorem dX8_copyFrom_39 : decode cX8_copyFrom 39 = .ok (.getfield 19, 3) := by decide +kernel
theorem dX8_copyFrom_42 : decode cX8_copyFrom 42 = .ok (.iconst 0, 1) := by decide +kernel
theorem dX8_copyFrom_43 : decode cX8_copyFrom 43 = .ok (.aload_n 0, 1) := by decide +kernel
theorem dX8_copyFrom_44 : decode cX8_copyFrom 44 = .ok (.getfield 22, 3) := by decide +kernel
theorem dX8_copyFrom_47 : decode cX8_copyFrom 47 = .ok (.invokestatic 42, 3) := by decide +kernel
theorem dX8_copyFrom_50 : decode cX8_copyFrom 50 = .ok (.return_, 1) := by decide +kernel
theorem dX8_partSize_0 : decode cX8_partSize 0 = .ok (.iload_n 1, 1) := by decide +kernel
theorem dX8_partSize_1 : decode cX8_partSize 1 = .ok (.ifCond .lt 22, 3) := by decide +kernel
theorem dX8_partSize_4 : decode cX8_partSize 4 = .ok (.iload_n 1, 1) := by decide +kernel
theorem dX8_partSize_5 : decode cX8_partSize 5 = .ok (.aload_n 0, 1) := by decide +kernel
theorem dX8_partSize_6 : decode cX8_partSize 6 = .ok (.getfield 22, 3) := by decide +kernel
theorem dX8_partSize_9 : decode cX8_partSize 9 = .ok (.if_icmp .ge 14, 3) := by decide +kernel
theorem dX8_partSize_12 : decode cX8_partSize 12 = .ok (.aload_n 0, 1) := by decide +kernel
theorem dX8_partSize_13 : decode cX8_partSize 13 = .ok (.getfield 19, 3) := by decide +kernel
theorem dX8_partSize_16 : decode cX8_partSize 16 = .ok (.iload_n 1, 1) := by decide +kernel
theorem dX8_partSize_17 : decode cX8_partSize 17 = .ok (.iaload, 1) := by decide +kernel
theorem dX8_partSize_18 : decode cX8_partSize 18 = .ok (.iload_n 1, 1) := by decide +kernel
theorem dX8_partSize_19 : decode cX8_partSize 19 = .ok (.isub, 1) := by decide +kernel
theorem dX8_partSize_20 : decode cX8_partSize 20 = .ok (.goto 4, 3) := by decide +kernel
theorem dX8_partSize_23 : decode cX8_partSize 23 = .ok (.iconst 0, 1) := by decide +kernel
theorem dX8_partSize_24 : decode cX8_partSize 24 = .ok (.ireturn, 1) := by decide +kernel
theorem dX8_sameParts_0 : decode cX8_sameParts 0 = .ok (.iload_n 1, 1) := by decide +kernel
theorem dX8_sameParts_1 : decode cX8_sameParts 1 = .ok (.ifCond .lt 42, 3) := by decide +kernel
theorem dX8_sameParts_4 : decode cX8_sameParts 4 = .ok (.iload_n 1, 1) := by decide +kernel
theorem dX8_sameParts_5 : decode cX8_sameParts 5 = .ok (.aload_n 0, 1) := by decide +kernel
theorem dX8_sameParts_6 : decode cX8_sameParts 6 = .ok (.getfield 22, 3) := by decide +kernel
theorem dX8_sameParts_9 : decode cX8_sameParts 9 = .ok (.if_icmp .ge 34, 3) := by decide +kernel
theorem dX8_sameParts_12 : decode cX8_sameParts 12 = .ok (.iload_n 2, 1) := by decide +kernel
theorem dX8_sameParts_13 : decode cX8_sameParts 13 = .ok (.ifCond .lt 30, 3) := by decide +kernel
theorem dX8_sameParts_16 : decode cX8_sameParts 16 = .ok (.iload_n 2, 1) := by decide +kernel
theorem dX8_sameParts_17 : decode cX8_sameParts 17 = .ok (.aload_n 0, 1) := by decide +kernel
theorem dX8_sameParts_18 : decode cX8_sameParts 18 = .ok (.getfield 22, 3) := by decide +kernel
theorem dX8_sameParts_21 : decode cX8_sameParts 21 = .ok (.if_icmp .ge 22, 3) := by decide +kernel
theorem dX8_sameParts_24 : decode cX8_sameParts 24 = .ok (.aload_n 0, 1) := by decide +kernel
theorem dX8_sameParts_25 : decode cX8_sameParts 25 = .ok (.getfield 19, 3) := by decide +kernel
theorem dX8_sameParts_28 : decode cX8_sameParts 28 = .ok (.iload_n 1, 1) := by decide +kernel
theorem dX8_sameParts_29 : decode cX8_sameParts 29 = .ok (.iaload, 1) := by decide +kernel
theorem dX8_sameParts_30 : decode cX8_sameParts 30 = .ok (.iload_n 1, 1) := by decide +kernel
theorem dX8_sameParts_31 : decode cX8_sameParts 31 = .ok (.isub, 1) := by decide +kernel
theorem dX8_sameParts_32 : decode cX8_sameParts 32 = .ok (.aload_n 0, 1) := by decide +kernel
theorem dX8_sameParts_33 : decode cX8_sameParts 33 = .ok (.getfield 19, 3) := by decide +kernel
theorem dX8_sameParts_36 : decode cX8_sameParts 36 = .ok (.iload_n 2, 1) := by decide +kernel
theorem dX8_sameParts_37 : decode cX8_sameParts 37 = .ok (.iaload, 1) := by decide +kernel
theorem dX8_sameParts_38 : decode cX8_sameParts 38 = .ok (.iload_n 2, 1) := by decide +kernel
theorem dX8_sameParts_39 : decode cX8_sameParts 39 = .ok (.isub, 1) := by decide +kernel
theorem dX8_sameParts_40 : decode cX8_sameParts 40 = .ok (.if_icmp .eq 5, 3) := by decide +kernel
theorem dX8_sameParts_43 : decode cX8_sameParts 43 = .ok (.iconst 0, 1) := by decide +kernel
theorem dX8_sameParts_44 : decode cX8_sameParts 44 = .ok (.ireturn, 1) := by decide +kernel
theorem dX8_sameParts_45 : decode cX8_sameParts 45 = .ok (.aload_n 0, 1) := by decide +kernel
theorem dX8_sameParts_46 : decode cX8_sameParts 46 = .ok (.getfield 19, 3) := by decide +kernel
theorem dX8_sameParts_49 : decode cX8_sameParts 49 = .ok (.iload_n 1, 1) := by decide +kernel
theorem dX8_sameParts_50 : decode cX8_sameParts 50 = .ok (.iaload, 1) := by decide +kernel
theorem dX8_sameParts_51 : decode cX8_sameParts 51 = .ok (.iload_n 1, 1) := by decide +kernel
theorem dX8_sameParts_52 : decode cX8_sameParts 52 = .ok (.isub, 1) := by decide +kernel
theorem dX8_sameParts_53 : decode cX8_sameParts 53 = .ok (.istore_n 3, 1) := by decide +kernel
theorem dX8_sameParts_54 : decode cX8_sameParts 54 = .ok (.iconst 0, 1) := by decide +kernel
theorem dX8_sameParts_55 : decode cX8_sameParts 55 = .ok (.istore 4, 2) := by decide +kernel
theorem dX8_sameParts_57 : decode cX8_sameParts 57 = .ok (.iload 4, 2) := by decide +kernel
theorem dX8_sameParts_59 : decode cX8_sameParts 59 = .ok (.iload_n 3, 1) := by decide +kernel
theorem dX8_sameParts_60 : decode cX8_sameParts 60 = .ok (.if_icmp .ge 32, 3) := by decide +kernel
theorem dX8_sameParts_63 : decode cX8_sameParts 63 = .ok (.aload_n 0, 1) := by decide +kernel
theorem dX8_sameParts_64 : decode cX8_sameParts 64 = .ok (.getfield 13, 3) := by decide +kernel
theorem dX8_sameParts_67 : decode cX8_sameParts 67 = .ok (.iload_n 1, 1) := by decide +kernel
theorem dX8_sameParts_68 : decode cX8_sameParts 68 = .ok (.iload 4, 2) := by decide +kernel
theorem dX8_sameParts_70 : decode cX8_sameParts 70 = .ok (.iadd, 1) := by decide +kernel
theorem dX8_sameParts_71 : decode cX8_sameParts 71 = .ok (.iaload, 1) := by decide +kernel
theorem dX8_sameParts_72 : decode cX8_sameParts 72 = .ok (.aload_n 0, 1) := by decide +kernel
theorem dX8_sameParts_73 : decode cX8_sameParts 73 = .ok (.getfield 13, 3) := by decide +kernel
theorem dX8_sameParts_76 : decode cX8_sameParts 76 = .ok (.iload_n 2, 1) := by decide +kernel
theorem dX8_sameParts_77 : decode cX8_sameParts 77 = .ok (.iload 4, 2) := by decide +kernel
theorem dX8_sameParts_79 : decode cX8_sameParts 79 = .ok (.iadd, 1) := by decide +kernel
theorem dX8_sameParts_80 : decode cX8_sameParts 80 = .ok (.iaload, 1) := by decide +kernel
theorem dX8_sameParts_81 : decode cX8_sameParts 81 = .ok (.if_icmp .eq 5, 3) := by decide +kernel
theorem dX8_sameParts_84 : decode cX8_sameParts 84 = .ok (.iconst 0, 1) := by decide +kernel
theorem dX8_sameParts_85 : decode cX8_sameParts 85 = .ok (.ireturn, 1) := by decide +kernel
theorem dX8_sameParts_86 : decode cX8_sameParts 86 = .ok (.iinc 4 1, 3) := by decide +kernel
theorem dX8_sameParts_89 : decode cX8_sameParts 89 = .ok (.goto (-32), 3) := by decide +kernel
theorem dX8_sameParts_92 : decode cX8_sameParts 92 = .ok (.iconst 1, 1) := by decide +kernel
theorem dX8_sameParts_93 : decode cX8_sameParts 93 = .ok (.ireturn, 1) := by decide +kernel
theorem dX8_unknowns_0 : decode cX8_unknowns 0 = .ok (.iconst 0, 1) := by decide +kernel
theorem dX8_unknowns_1 : decode cX8_unknowns 1 = .ok (.istore_n 1, 1) := by decide +kernel
theorem dX8_unknowns_2 : decode cX8_unknowns 2 = .ok (.iconst 0, 1) := by decide +kernel
theorem dX8_unknowns_3 : decode cX8_unknowns 3 = .ok (.istore_n 2, 1) := by decide +kernel
theorem dX8_unknowns_4 : decode cX8_unknowns 4 = .ok (.iload_n 2, 1) := by decide +kernel
theorem dX8_unknowns_5 : decode cX8_unknowns 5 = .ok (.aload_n 0, 1) := by decide +kernel
theorem dX8_unknowns_6 : decode cX8_unknowns 6 = .ok (.getfield 22, 3) := by decide +kernel
theorem dX8_unknowns_9 : decode cX8_unknowns 9 = .ok (.if_icmp .ge 21, 3) := by decide +kernel
theorem dX8_unknowns_12 : decode cX8_unknowns 12 = .ok (.iload_n 1, 1) := by decide +kernel
theorem dX8_unknowns_13 : decode cX8_unknowns 13 = .ok (.aload_n 0, 1) := by decide +kernel
theorem dX8_unknowns_14 : decode cX8_unknowns 14 = .ok (.getfield 13, 3) := by decide +kernel
theorem dX8_unknowns_17 : decode cX8_unknowns 17 = .ok (.iload_n 2, 1) := by decide +kernel
theorem dX8_unknowns_18 : decode cX8_unknowns 18 = .ok (.iaload, 1) := by decide +kernel
theorem dX8_unknowns_19 : decode cX8_unknowns 19 = .ok (.invokestatic 48, 3) := by decide +kernel
theorem dX8_unknowns_22 : decode cX8_unknowns 22 = .ok (.ior, 1) := by decide +kernel
theorem dX8_unknowns_23 : decode cX8_unknowns 23 = .ok (.istore_n 1, 1) := by decide +kernel
theorem dX8_unknowns_24 : decode cX8_unknowns 24 = .ok (.iinc 2 1, 3) := by decide +kernel
theorem dX8_unknowns_27 : decode cX8_unknowns 27 = .ok (.goto (-23), 3) := by decide +kernel
theorem dX8_unknowns_30 : decode cX8_unknowns 30 = .ok (.iload_n 1, 1) := by decide +kernel
theorem dX8_unknowns_31 : decode cX8_unknowns 31 = .ok (.ireturn, 1) := by decide +kernel
theorem dX9_init_0 : decode cX9_init 0 = .ok (.aload_n 0, 1) := by decide +kernel
theorem dX9_init_1 : decode cX9_init 1 = .ok (.invokespecial 3, 3) := by decide +kernel
theorem dX9_init_4 : decode cX9_init 4 = .ok (.aload_n 0, 1) := by decide +kernel
theorem dX9_init_5 : decode cX9_init 5 = .ok (.new 9, 3) := by decide +kernel
theorem dX9_init_8 : decode cX9_init 8 = .ok (.dup, 1) := by decide +kernel
theorem dX9_init_9 : decode cX9_init 9 = .ok (.bipush 60, 2) := by decide +kernel
theorem dX9_init_11 : decode cX9_init 11 = .ok (.invokespecial 11, 3) := by decide +kernel
theorem dX9_init_14 : decode cX9_init 14 = .ok (.putfield 14, 3) := by decide +kernel
theorem dX9_init_17 : decode cX9_init 17 = .ok (.aload_n 0, 1) := by decide +kernel
theorem dX9_init_18 : decode cX9_init 18 = .ok (.iconst 3, 1) := by decide +kernel
theorem dX9_init_19 : decode cX9_init 19 = .ok (.newarray .int, 2) := by decide +kernel
theorem dX9_init_21 : decode cX9_init 21 = .ok (.putfield 20, 3) := by decide +kernel
theorem dX9_init_24 : decode cX9_init 24 = .ok (.return_, 1) := by decide +kernel
theorem dX9_turnMany_0 : decode cX9_turnMany 0 = .ok (.iconst 0, 1) := by decide +kernel
theorem dX9_turnMany_1 : decode cX9_turnMany 1 = .ok (.istore 4, 2) := by decide +kernel
theorem dX9_turnMany_3 : decode cX9_turnMany 3 = .ok (.iload 4, 2) := by decide +kernel
theorem dX9_turnMany_5 : decode cX9_turnMany 5 = .ok (.iload_n 3, 1) := by decide +kernel
theorem dX9_turnMany_6 : decode cX9_turnMany 6 = .ok (.if_icmp .ge 46, 3) := by decide +kernel
theorem dX9_turnMany_9 : decode cX9_turnMany 9 = .ok (.aload_n 0, 1) := by decide +kernel
theorem dX9_turnMany_10 : decode cX9_turnMany 10 = .ok (.aload_n 1, 1) := by decide +kernel
theorem dX9_turnMany_11 : decode cX9_turnMany 11 = .ok (.aload_n 2, 1) := by decide +kernel
theorem dX9_turnMany_12 : decode cX9_turnMany 12 = .ok (.invokevirtual 24, 3) := by decide +kernel
theorem dX9_turnMany_15 : decode cX9_turnMany 15 = .ok (.ifCond .eq 20, 3) := by decide +kernel
theorem dX9_turnMany_18 : decode cX9_turnMany 18 = .ok (.aload_n 0, 1) := by decide +kernel
theorem dX9_turnMany_19 : decode cX9_turnMany 19 = .ok (.aload_n 1, 1) := by decide +kernel
theorem dX9_turnMany_20 : decode cX9_turnMany 20 = .ok (.getfield 28, 3) := by decide +kernel
theorem dX9_turnMany_23 : decode cX9_turnMany 23 = .ok (.aload_n 0, 1) := by decide +kernel
theorem dX9_turnMany_24 : decode cX9_turnMany 24 = .ok (.getfield 34, 3) := by decide +kernel
theorem dX9_turnMany_27 : decode cX9_turnMany 27 = .ok (.aaload, 1) := by decide +kernel
theorem dX9_turnMany_28 : decode cX9_turnMany 28 = .ok (.aload_n 2, 1) := by decide +kernel
theorem dX9_turnMany_29 : decode cX9_turnMany 29 = .ok (.invokevirtual 38, 3) := by decide +kernel
theorem dX9_turnMany_32 : decode cX9_turnMany 32 = .ok (.ifCond .ne 6, 3) := by decide +kernel
theorem dX9_turnMany_35 : decode cX9_turnMany 35 = .ok (.iload 4, 2) := by decide +kernel
theorem dX9_turnMany_37 : decode cX9_turnMany 37 = .ok (.ireturn, 1) := by decide +kernel
theorem dX9_turnMany_38 : decode cX9_turnMany 38 = .ok (.aload_n 2, 1) := by decide +kernel
theorem dX9_turnMany_39 : decode cX9_turnMany 39 = .ok (.aload_n 0, 1) := by decide +kernel
theorem dX9_turnMany_40 : decode cX9_turnMany 40 = .ok (.getfield 14, 3) := by decide +kernel
theorem dX9_turnMany_43 : decode cX9_turnMany 43 = .ok (.invokevirtual 42, 3) := by decide +kernel
theorem dX9_turnMany_46 : decode cX9_turnMany 46 = .ok (.iinc 4 1, 3) := by decide +kernel
theorem dX9_turnMany_49 : decode cX9_turnMany 49 = .ok (.goto (-46), 3) := by decide +kernel
theorem dX9_turnMany_52 : decode cX9_turnMany 52 = .ok (.iload_n 3, 1) := by decide +kernel
theorem dX9_turnMany_53 : decode cX9_turnMany 53 = .ok (.ireturn, 1) := by decide +kernel
theorem dX9_seek_0 : decode cX9_seek 0 = .ok (.aload_n 0, 1) := by decide +kernel
theorem dX9_seek_1 : decode cX9_seek 1 = .ok (.iconst (-1), 1) := by decide +kernel
theorem dX9_seek_2 : decode cX9_seek 2 = .ok (.putfield 46, 3) := by decide +kernel
theorem dX9_seek_5 : decode cX9_seek 5 = .ok (.iconst 0, 1) := by decide +kernel
theorem dX9_seek_6 : decode cX9_seek 6 = .ok (.istore_n 3, 1) := by decide +kernel
theorem dX9_seek_7 : decode cX9_seek 7 = .ok (.iload_n 3, 1) := by decide +kernel
theorem dX9_seek_8 : decode cX9_seek 8 = .ok (.aload_n 2, 1) := by decide +kernel
theorem dX9_seek_9 : decode cX9_seek 9 = .ok (.getfield 49, 3) := by decide +kernel
theorem dX9_seek_12 : decode cX9_seek 12 = .ok (.if_icmp .ge 59, 3) := by decide +kernel
theorem dX9_seek_15 : decode cX9_seek 15 = .ok (.aload_n 0, 1) := by decide +kernel
theorem dX9_seek_16 : decode cX9_seek 16 = .ok (.getfield 46, 3) := by decide +kernel
theorem dX9_seek_19 : decode cX9_seek 19 = .ok (.iconst (-1), 1) := by decide +kernel
theorem dX9_seek_20 : decode cX9_seek 20 = .ok (.if_icmp .eq 19, 3) := by decide +kernel
theorem dX9_seek_23 : decode cX9_seek 23 = .ok (.iload_n 3, 1) := by decide +kernel
theorem dX9_seek_24 : decode cX9_seek 24 = .ok (.aload_n 2, 1) := by decide +kernel
theorem dX9_seek_25 : decode cX9_seek 25 = .ok (.getfield 52, 3) := by decide +kernel
theorem dX9_seek_28 : decode cX9_seek 28 = .ok (.aload_n 0, 1) := by decide +kernel
theorem dX9_seek_29 : decode cX9_seek 29 = .ok (.getfield 46, 3) := by decide +kernel
theorem dX9_seek_32 : decode cX9_seek 32 = .ok (.iaload, 1) := by decide +kernel
theorem dX9_seek_33 : decode cX9_seek 33 = .ok (.if_icmp .lt 6, 3) := by decide +kernel
theorem dX9_seek_36 : decode cX9_seek 36 = .ok (.goto 35, 3) := by decide +kernel
theorem dX9_seek_39 : decode cX9_seek 39 = .ok (.aload_n 0, 1) := by decide +kernel
theorem dX9_seek_40 : decode cX9_seek 40 = .ok (.aload_n 1, 1) := by decide +kernel
theorem dX9_seek_41 : decode cX9_seek 41 = .ok (.aload_n 2, 1) := by decide +kernel
theorem dX9_seek_42 : decode cX9_seek 42 = .ok (.iload_n 3, 1) := by decide +kernel
theorem dX9_seek_43 : decode cX9_seek 43 = .ok (.invokevirtual 55, 3) := by decide +kernel
theorem dX9_seek_46 : decode cX9_seek 46 = .ok (.istore 4, 2) := by decide +kernel
theorem dX9_seek_48 : decode cX9_seek 48 = .ok (.iload 4, 2) := by decide +kernel
theorem dX9_seek_50 : decode cX9_seek 50 = .ok (.iconst (-1), 1) := by decide +kernel
theorem dX9_seek_51 : decode cX9_seek 51 = .ok (.if_icmp .eq 14, 3) := by decide +kernel
theorem dX9_seek_54 : decode cX9_seek 54 = .ok (.aload_n 0, 1) := by decide +kernel
theorem dX9_seek_55 : decode cX9_seek 55 = .ok (.iload_n 3, 1) := by decide +kernel
theorem dX9_seek_56 : decode cX9_seek 56 = .ok (.putfield 46, 3) := by decide +kernel
theorem dX9_seek_59 : decode cX9_seek 59 = .ok (.aload_n 0, 1) := by decide +kernel
theorem dX9_seek_60 : decode cX9_seek 60 = .ok (.iload 4, 2) := by decide +kernel
theorem dX9_seek_62 : decode cX9_seek 62 = .ok (.putfield 34, 3) := by decide +kernel
theorem dX9_seek_65 : decode cX9_seek 65 = .ok (.iinc 3 1, 3) := by decide +kernel
theorem dX9_seek_68 : decode cX9_seek 68 = .ok (.goto (-61), 3) := by decide +kernel
theorem dX9_seek_71 : decode cX9_seek 71 = .ok (.aload_n 0, 1) := by decide +kernel
theorem dX9_seek_72 : decode cX9_seek 72 = .ok (.getfield 46, 3) := by decide +kernel
theorem dX9_seek_75 : decode cX9_seek 75 = .ok (.iconst (-1), 1) := by decide +kernel
theorem dX9_seek_76 : decode cX9_seek 76 = .ok (.if_icmp .eq 7, 3) := by decide +kernel
theorem dX9_seek_79 : decode cX9_seek 79 = .ok (.iconst 1, 1) := by decide +kernel
theorem dX9_seek_80 : decode cX9_seek 80 = .ok (.goto 4, 3) := by decide +kernel
theorem dX9_seek_83 : decode cX9_seek 83 = .ok (.iconst 0, 1) := by decide +kernel
theorem dX9_seek_84 : decode cX9_seek 84 = .ok (.ireturn, 1) := by decide +kernel
theorem dX9_leastRuleAt_0 : decode cX9_leastRuleAt 0 = .ok (.iconst 0, 1) := by decide +kernel
theorem dX9_leastRuleAt_1 : decode cX9_leastRuleAt 1 = .ok (.istore 4, 2) := by decide +kernel
theorem dX9_leastRuleAt_3 : decode cX9_leastRuleAt 3 = .ok (.iload 4, 2) := by decide +kernel
theorem dX9_leastRuleAt_5 : decode cX9_leastRuleAt 5 = .ok (.aload_n 1, 1) := by decide +kernel
theorem dX9_leastRuleAt_6 : decode cX9_leastRuleAt 6 = .ok (.getfield 59, 3) := by decide +kernel
theorem dX9_leastRuleAt_9 : decode cX9_leastRuleAt 9 = .ok (.if_icmp .ge 31, 3) := by decide +kernel
theorem dX9_leastRuleAt_12 : decode cX9_leastRuleAt 12 = .ok (.aload_n 0, 1) := by decide +kernel
theorem dX9_leastRuleAt_13 : decode cX9_leastRuleAt 13 = .ok (.aload_n 1, 1) := by decide +kernel
theorem dX9_leastRuleAt_14 : decode cX9_leastRuleAt 14 = .ok (.getfield 28, 3) := by decide +kernel
theorem dX9_leastRuleAt_17 : decode cX9_leastRuleAt 17 = .ok (.iload 4, 2) := by decide +kernel
theorem dX9_leastRuleAt_19 : decode cX9_leastRuleAt 19 = .ok (.aaload, 1) := by decide +kernel
theorem dX9_leastRuleAt_20 : decode cX9_leastRuleAt 20 = .ok (.getfield 62, 3) := by decide +kernel
theorem dX9_leastRuleAt_23 : decode cX9_leastRuleAt 23 = .ok (.aload_n 2, 1) := by decide +kernel
theorem dX9_leastRuleAt_24 : decode cX9_leastRuleAt 24 = .ok (.iload_n 3, 1) := by decide +kernel
theorem dX9_leastRuleAt_25 : decode cX9_leastRuleAt 25 = .ok (.invokevirtual 67, 3) := by decide +kernel
theorem dX9_leastRuleAt_28 : decode cX9_leastRuleAt 28 = .ok (.ifCond .eq 6, 3) := by decide +kernel
theorem dX9_leastRuleAt_31 : decode cX9_leastRuleAt 31 = .ok (.iload 4, 2) := by decide +kernel
theorem dX9_leastRuleAt_33 : decode cX9_leastRuleAt 33 = .ok (.ireturn, 1) := by decide +kernel
theorem dX9_leastRuleAt_34 : decode cX9_leastRuleAt 34 = .ok (.iinc 4 1, 3) := by decide +kernel
theorem dX9_leastRuleAt_37 : decode cX9_leastRuleAt 37 = .ok (.goto (-34), 3) := by decide +kernel
theorem dX9_leastRuleAt_40 : decode cX9_leastRuleAt 40 = .ok (.iconst (-1), 1) := by decide +kernel
theorem dX9_leastRuleAt_41 : decode cX9_leastRuleAt 41 = .ok (.ireturn, 1) := by decide +kernel
theorem dX9_fits_0 : decode cX9_fits 0 = .ok (.aload_n 0, 1) := by decide +kernel
theorem dX9_fits_1 : decode cX9_fits 1 = .ok (.getfield 20, 3) := by decide +kernel
theorem dX9_fits_4 : decode cX9_fits 4 = .ok (.iconst 1, 1) := by decide +kernel
theorem dX9_fits_5 : decode cX9_fits 5 = .ok (.iconst (-1), 1) := by decide +kernel
theorem dX9_fits_6 : decode cX9_fits 6 = .ok (.iastore, 1) := by decide +kernel
theorem dX9_fits_7 : decode cX9_fits 7 = .ok (.aload_n 0, 1) := by decide +kernel
theorem dX9_fits_8 : decode cX9_fits 8 = .ok (.getfield 20, 3) := by decide +kernel
theorem dX9_fits_11 : decode cX9_fits 11 = .ok (.iconst 2, 1) := by decide +kernel
theorem dX9_fits_12 : decode cX9_fits 12 = .ok (.iconst (-1), 1) := by decide +kernel
theorem dX9_fits_13 : decode cX9_fits 13 = .ok (.iastore, 1) := by decide +kernel
theorem dX9_fits_14 : decode cX9_fits 14 = .ok (.iload_n 3, 1) := by decide +kernel
theorem dX9_fits_15 : decode cX9_fits 15 = .ok (.istore 4, 2) := by decide +kernel
theorem dX9_fits_17 : decode cX9_fits 17 = .ok (.iconst 0, 1) := by decide +kernel
theorem dX9_fits_18 : decode cX9_fits 18 = .ok (.istore 5, 2) := by decide +kernel
theorem dX9_fits_20 : decode cX9_fits 20 = .ok (.iload 5, 2) := by decide +kernel
theorem dX9_fits_22 : decode cX9_fits 22 = .ok (.aload_n 1, 1) := by decide +kernel
theorem dX9_fits_23 : decode cX9_fits 23 = .ok (.getfield 49, 3) := by decide +kernel
theorem dX9_fits_26 : decode cX9_fits 26 = .ok (.if_icmp .ge 129, 3) := by decide +kernel
theorem dX9_fits_29 : decode cX9_fits 29 = .ok (.iload 4, 2) := by decide +kernel
theorem dX9_fits_31 : decode cX9_fits 31 = .ok (.ifCond .lt 12, 3) := by decide +kernel
theorem dX9_fits_34 : decode cX9_fits 34 = .ok (.iload 4, 2) := by decide +kernel
theorem dX9_fits_36 : decode cX9_fits 36 = .ok (.aload_n 2, 1) := by decide +kernel
theorem dX9_fits_37 : decode cX9_fits 37 = .ok (.getfield 49, 3) := by decide +kernel
theorem dX9_fits_40 : decode cX9_fits 40 = .ok (.if_icmp .lt 5, 3) := by decide +kernel
theorem dX9_fits_43 : decode cX9_fits 43 = .ok (.iconst 0, 1) := by decide +kernel
theorem dX9_fits_44 : decode cX9_fits 44 = .ok (.ireturn, 1) := by decide +kernel
theorem dX9_fits_45 : decode cX9_fits 45 = .ok (.aload_n 1, 1) := by decide +kernel
theorem dX9_fits_46 : decode cX9_fits 46 = .ok (.getfield 71, 3) := by decide +kernel
theorem dX9_fits_49 : decode cX9_fits 49 = .ok (.iload 5, 2) := by decide +kernel
theorem dX9_fits_51 : decode cX9_fits 51 = .ok (.iaload, 1) := by decide +kernel
theorem dX9_fits_52 : decode cX9_fits 52 = .ok (.istore 6, 2) := by decide +kernel
theorem dX9_fits_54 : decode cX9_fits 54 = .ok (.iload 6, 2) := by decide +kernel
theorem dX9_fits_56 : decode cX9_fits 56 = .ok (.invokestatic 74, 3) := by decide +kernel
theorem dX9_fits_59 : decode cX9_fits 59 = .ok (.istore 7, 2) := by decide +kernel
theorem dX9_fits_61 : decode cX9_fits 61 = .ok (.iload 7, 2) := by decide +kernel
theorem dX9_fits_63 : decode cX9_fits 63 = .ok (.ifCond .ne 17, 3) := by decide +kernel
theorem dX9_fits_66 : decode cX9_fits 66 = .ok (.aload_n 2, 1) := by decide +kernel
theorem dX9_fits_67 : decode cX9_fits 67 = .ok (.getfield 71, 3) := by decide +kernel
theorem dX9_fits_70 : decode cX9_fits 70 = .ok (.iload 4, 2) := by decide +kernel
theorem dX9_fits_72 : decode cX9_fits 72 = .ok (.iaload, 1) := by decide +kernel
theorem dX9_fits_73 : decode cX9_fits 73 = .ok (.iload 6, 2) := by decide +kernel
theorem dX9_fits_75 : decode cX9_fits 75 = .ok (.if_icmp .eq 5, 3) := by decide +kernel
theorem dX9_fits_78 : decode cX9_fits 78 = .ok (.iconst 0, 1) := by decide +kernel
theorem dX9_fits_79 : decode cX9_fits 79 = .ok (.ireturn, 1) := by decide +kernel
theorem dX9_fits_80 : decode cX9_fits 80 = .ok (.iload 7, 2) := by decide +kernel
theorem dX9_fits_82 : decode cX9_fits 82 = .ok (.ifCond .eq 23, 3) := by decide +kernel
theorem dX9_fits_85 : decode cX9_fits 85 = .ok (.aload_n 0, 1) := by decide +kernel
theorem dX9_fits_86 : decode cX9_fits 86 = .ok (.getfield 20, 3) := by decide +kernel
theorem dX9_fits_89 : decode cX9_fits 89 = .ok (.iload 7, 2) := by decide +kernel
theorem dX9_fits_91 : decode cX9_fits 91 = .ok (.iaload, 1) := by decide +kernel
theorem dX9_fits_92 : decode cX9_fits 92 = .ok (.iconst (-1), 1) := by decide +kernel
theorem dX9_fits_93 : decode cX9_fits 93 = .ok (.if_icmp .ne 12, 3) := by decide +kernel
theorem dX9_fits_96 : decode cX9_fits 96 = .ok (.aload_n 0, 1) := by decide +kernel
theorem dX9_fits_97 : decode cX9_fits 97 = .ok (.getfield 20, 3) := by decide +kernel
theorem dX9_fits_100 : decode cX9_fits 100 = .ok (.iload 7, 2) := by decide +kernel
theorem dX9_fits_102 : decode cX9_fits 102 = .ok (.iload 4, 2) := by decide +kernel
theorem dX9_fits_104 : decode cX9_fits 104 = .ok (.iastore, 1) := by decide +kernel
theorem dX9_fits_105 : decode cX9_fits 105 = .ok (.iload 7, 2) := by decide +kernel
theorem dX9_fits_107 : decode cX9_fits 107 = .ok (.ifCond .eq 21, 3) := by decide +kernel
theorem dX9_fits_110 : decode cX9_fits 110 = .ok (.aload_n 2, 1) := by decide +kernel
theorem dX9_fits_111 : decode cX9_fits 111 = .ok (.aload_n 0, 1) := by decide +kernel
theorem dX9_fits_112 : decode cX9_fits 112 = .ok (.getfield 20, 3) := by decide +kernel
theorem dX9_fits_115 : decode cX9_fits 115 = .ok (.iload 7, 2) := by decide +kernel
theorem dX9_fits_117 : decode cX9_fits 117 = .ok (.iaload, 1) := by decide +kernel
theorem dX9_fits_118 : decode cX9_fits 118 = .ok (.iload 4, 2) := by decide +kernel
theorem dX9_fits_120 : decode cX9_fits 120 = .ok (.invokevirtual 78, 3) := by decide +kernel
theorem dX9_fits_123 : decode cX9_fits 123 = .ok (.ifCond .ne 5, 3) := by decide +kernel
theorem dX9_fits_126 : decode cX9_fits 126 = .ok (.iconst 0, 1) := by decide +kernel
theorem dX9_fits_127 : decode cX9_fits 127 = .ok (.ireturn, 1) := by decide +kernel
theorem dX9_fits_128 : decode cX9_fits 128 = .ok (.iload 7, 2) := by decide +kernel
theorem dX9_fits_130 : decode cX9_fits 130 = .ok (.ifCond .ne 10, 3) := by decide +kernel
theorem dX9_fits_133 : decode cX9_fits 133 = .ok (.iload 4, 2) := by decide +kernel
theorem dX9_fits_135 : decode cX9_fits 135 = .ok (.iconst 1, 1) := by decide +kernel
theorem dX9_fits_136 : decode cX9_fits 136 = .ok (.iadd, 1) := by decide +kernel
theorem dX9_fits_137 : decode cX9_fits 137 = .ok (.goto 10, 3) := by decide +kernel
